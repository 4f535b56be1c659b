/-! ===== the law's loop, and its start ===== -/
theorem law_go {L i : Nat} (hL : L ≤ 2560) (hi : i ≤ L) (h : ¬ (Int32.ofNat L - (5 : Int32)) < nI i) : i + 5 ≤ L := by
  rcases Nat.lt_or_ge L (i + 5) with g | g
  · refine absurd ?_ h
    show nI L - nI 5 < nI i
    have e1 := nI_toInt (n := L) (by omega)
    have e2 := nI_toInt (n := 5) (by omega)
    have e3 := nI_toInt (n := i) (by omega)
    rw [fa_lt, fb_subI (by rw [e1, e2]; omega) (by rw [e1, e2]; omega), e1, e2, e3]
    omega
  · exact g
theorem xin_nI {L i : Nat} (hL : L ≤ 2560) (h : i + 5 ≤ L) : xin L (nI i) := by
  refine ⟨?_, ?_, ?_, ?_⟩
  · rw [show nI i + 1 = nI (i + 1) from nI_add i 1]; exact vp_nI (by omega) (by omega)
  · rw [show nI i + 2 = nI (i + 2) from nI_add i 2]; exact vp_nI (by omega) (by omega)
  · rw [show nI i + 3 = nI (i + 3) from nI_add i 3]; exact vp_nI (by omega) (by omega)
  · rw [show nI i + 4 = nI (i + 4) from nI_add i 4]; exact vp_nI (by omega) (by omega)
set_option maxRecDepth 100000 in
theorem law_step {L : Nat} {xs : Nat → Int32} {rec : RecT} {i B : Nat} {tr : Int64} {rl : Int32} {rp : Int32} {rt : Int32} {rb : Nat → Int32} {tsT : Int32} {tbT : Int32} {tlT : Int32} {tbo : Int32} {tlo : Int32} {tth : Int32} {tw : Int32} {th : Int32} {tall : Int32} {ttop : Int32} {tleft : Int32} {tright : Int32} {tparts : Nat → Int32} {tyl : Nat → Int32} {twl : Nat → Int32} {tfl : Nat → Int32} {tol : Nat → Int32} {dsT : Int32} {dbT : Int32} {dlT : Int32} {dbo : Int32} {dlo : Int32} {dth : Int32} {dw : Int32} {dh : Int32} {dall : Int32} {dtop : Int32} {dleft : Int32} {dright : Int32} {dparts : Nat → Int32} {dyl : Nat → Int32} {dwl : Nat → Int32} {dfl : Nat → Int32} {dol : Nat → Int32} {known : Int32} {rows : Nat → Int32} {k1 : Int32} {f1 : Nat → Int32} {k2 : Int32} {f2 : Nat → Int32} {ik : Nat → Int32} {blf : Int32} {sets : Nat → Int32} {sums : Nat → Int32} {lows : Nat → Int32} {highs : Nat → Int32} {hl : Int32} {found : Int32} {each : Int32} {hlf : Int32} {hp : Nat → Int32} {path : Nat → Int32} {fr : Nat → Int32} {ysz : Int32} {yat : Int32} {ybg : Int32} {ytk : Int32} {ytd : Int32} {und : Int32} {cam : Int32} {yea : Int32} {tr7 : Int64} {ytx : Nat → Int32} {yrd : Nat → Int32} {hill : Nat → Int32} {now : Nat → Int32} {undn : Nat → Int32} {need : Nat → Int32} {cmo : Nat → Int32} {plc : Nat → Int32} {fr7 : Nat → Int32} {kept : Nat → Int32} (hL : L ≤ 2560) (hi : i ≤ L) (hB : B ≤ 600000) (J : Inv B tr rl rb tbo tlo tth tw th tall ttop tleft tright tparts tfl tol known rows k1 f1 k2 f2 ik blf sets sums hl found each hlf hp fr ysz und cam tr7 ytx hill now undn cmo kept) (R : i + 5 ≤ L → hRec (B + 1000) rec (nI i + 5)) : F_law L xs rec (nI i) tr rl rp rt rb tsT tbT tlT tbo tlo tth tw th tall ttop tleft tright tparts tyl twl tfl tol dsT dbT dlT dbo dlo dth dw dh dall dtop dleft dright dparts dyl dwl dfl dol known rows k1 f1 k2 f2 ik blf sets sums lows highs hl found each hlf hp path fr ysz yat ybg ytk ytd und cam yea tr7 ytx yrd hill now undn need cmo plc fr7 kept := by
  unfold F_law
  intro hc
  have hg := law_go hL hi hc
  have hx := xin_nI hL hg
  have R := R hg
  refine ⟨vp_nI (by omega) (by omega), fun sw hsw => ?_⟩
  exact ⟨fun _ => fl_0 hB hx J R, fun _ => fl_1 hB hx J R, fun _ => fl_2 hB hx J R, fun _ => fl_3 hB hx J R, fun _ => fl_4 hB hx J R, fun _ => fl_5 hB hx J R, fun _ => fl_6 hB hx J R, fun _ => fl_7 hB hx J R, fun _ => fl_8 hB hx J R, fun _ => fl_9 hB hx J R, fun _ => fl_10 hB hx J R, fun _ => fl_11 hB hx J R, fun _ => fl_12 hB hx J R, fun _ => fl_13 hB hx J R, fun _ => fl_14 hB hx J R, fun _ => fl_15 hB hx J R, fun _ => fl_16 hB hx J R, fun _ => fl_17 hB hx J R, fun _ => fl_18 hB hx J R, fun _ => fl_19 hB hx J R, fun _ => fl_20 hB hx J R, fun _ => fl_21 hB hx J R, fun _ => fl_22 hB hx J R, fun _ => fl_23 hB hx J R, fun _ => fl_24 hB hx J R, fun _ => fl_25 hB hx J R, fun _ => fl_26 hB hx J R, fun _ => fl_27 hB hx J R, fun _ => fl_28 hB hx J R, fun _ => fl_29 hB hx J R, fun _ => fl_d hB hx J R⟩
set_option maxRecDepth 100000 in
theorem law_loop {L : Nat} {xs : Nat → Int32} (hL : L ≤ 2560) : ∀ (m i B : Nat) (tr : Int64) (rl : Int32) (rp : Int32) (rt : Int32) (rb : Nat → Int32) (tsT : Int32) (tbT : Int32) (tlT : Int32) (tbo : Int32) (tlo : Int32) (tth : Int32) (tw : Int32) (th : Int32) (tall : Int32) (ttop : Int32) (tleft : Int32) (tright : Int32) (tparts : Nat → Int32) (tyl : Nat → Int32) (twl : Nat → Int32) (tfl : Nat → Int32) (tol : Nat → Int32) (dsT : Int32) (dbT : Int32) (dlT : Int32) (dbo : Int32) (dlo : Int32) (dth : Int32) (dw : Int32) (dh : Int32) (dall : Int32) (dtop : Int32) (dleft : Int32) (dright : Int32) (dparts : Nat → Int32) (dyl : Nat → Int32) (dwl : Nat → Int32) (dfl : Nat → Int32) (dol : Nat → Int32) (known : Int32) (rows : Nat → Int32) (k1 : Int32) (f1 : Nat → Int32) (k2 : Int32) (f2 : Nat → Int32) (ik : Nat → Int32) (blf : Int32) (sets : Nat → Int32) (sums : Nat → Int32) (lows : Nat → Int32) (highs : Nat → Int32) (hl : Int32) (found : Int32) (each : Int32) (hlf : Int32) (hp : Nat → Int32) (path : Nat → Int32) (fr : Nat → Int32) (ysz : Int32) (yat : Int32) (ybg : Int32) (ytk : Int32) (ytd : Int32) (und : Int32) (cam : Int32) (yea : Int32) (tr7 : Int64) (ytx : Nat → Int32) (yrd : Nat → Int32) (hill : Nat → Int32) (now : Nat → Int32) (undn : Nat → Int32) (need : Nat → Int32) (cmo : Nat → Int32) (plc : Nat → Int32) (fr7 : Nat → Int32) (kept : Nat → Int32), L < i + 5 * m + 5 → i ≤ L → B + 1000 * m ≤ 600000 → Inv B tr rl rb tbo tlo tth tw th tall ttop tleft tright tparts tfl tol known rows k1 f1 k2 f2 ik blf sets sums hl found each hlf hp fr ysz und cam tr7 ytx hill now undn cmo kept → wp_law L xs (m + 1) (nI i) tr rl rp rt rb tsT tbT tlT tbo tlo tth tw th tall ttop tleft tright tparts tyl twl tfl tol dsT dbT dlT dbo dlo dth dw dh dall dtop dleft dright dparts dyl dwl dfl dol known rows k1 f1 k2 f2 ik blf sets sums lows highs hl found each hlf hp path fr ysz yat ybg ytk ytd und cam yea tr7 ytx yrd hill now undn need cmo plc fr7 kept := by
  intro m
  induction m with
  | zero =>
    intro i B tr rl rp rt rb tsT tbT tlT tbo tlo tth tw th tall ttop tleft tright tparts tyl twl tfl tol dsT dbT dlT dbo dlo dth dw dh dall dtop dleft dright dparts dyl dwl dfl dol known rows k1 f1 k2 f2 ik blf sets sums lows highs hl found each hlf hp path fr ysz yat ybg ytk ytd und cam yea tr7 ytx yrd hill now undn need cmo plc fr7 kept h1 h2 h3 J
    show F_law L xs (wp_law L xs 0) (nI i) tr rl rp rt rb tsT tbT tlT tbo tlo tth tw th tall ttop tleft tright tparts tyl twl tfl tol dsT dbT dlT dbo dlo dth dw dh dall dtop dleft dright dparts dyl dwl dfl dol known rows k1 f1 k2 f2 ik blf sets sums lows highs hl found each hlf hp path fr ysz yat ybg ytk ytd und cam yea tr7 ytx yrd hill now undn need cmo plc fr7 kept
    exact law_step hL h2 (by omega) J (fun g => by omega)
  | succ m ih =>
    intro i B tr rl rp rt rb tsT tbT tlT tbo tlo tth tw th tall ttop tleft tright tparts tyl twl tfl tol dsT dbT dlT dbo dlo dth dw dh dall dtop dleft dright dparts dyl dwl dfl dol known rows k1 f1 k2 f2 ik blf sets sums lows highs hl found each hlf hp path fr ysz yat ybg ytk ytd und cam yea tr7 ytx yrd hill now undn need cmo plc fr7 kept h1 h2 h3 J
    show F_law L xs (wp_law L xs (m + 1)) (nI i) tr rl rp rt rb tsT tbT tlT tbo tlo tth tw th tall ttop tleft tright tparts tyl twl tfl tol dsT dbT dlT dbo dlo dth dw dh dall dtop dleft dright dparts dyl dwl dfl dol known rows k1 f1 k2 f2 ik blf sets sums lows highs hl found each hlf hp path fr ysz yat ybg ytk ytd und cam yea tr7 ytx yrd hill now undn need cmo plc fr7 kept
    refine law_step hL h2 (by omega) J (fun g => ?_)
    intro tr2 rl2 rp2 rt2 rb2 tsT2 tbT2 tlT2 tbo2 tlo2 tth2 tw2 th2 tall2 ttop2 tleft2 tright2 tparts2 tyl2 twl2 tfl2 tol2 dsT2 dbT2 dlT2 dbo2 dlo2 dth2 dw2 dh2 dall2 dtop2 dleft2 dright2 dparts2 dyl2 dwl2 dfl2 dol2 known2 rows2 k12 f12 k22 f22 ik2 blf2 sets2 sums2 lows2 highs2 hl2 found2 each2 hlf2 hp2 path2 fr2 ysz2 yat2 ybg2 ytk2 ytd2 und2 cam2 yea2 tr72 ytx2 yrd2 hill2 now2 undn2 need2 cmo2 plc2 fr72 kept2 J2
    rw [show nI i + 5 = nI (i + 5) from nI_add i 5]
    exact ih (i + 5) (B + 1000) tr2 rl2 rp2 rt2 rb2 tsT2 tbT2 tlT2 tbo2 tlo2 tth2 tw2 th2 tall2 ttop2 tleft2 tright2 tparts2 tyl2 twl2 tfl2 tol2 dsT2 dbT2 dlT2 dbo2 dlo2 dth2 dw2 dh2 dall2 dtop2 dleft2 dright2 dparts2 dyl2 dwl2 dfl2 dol2 known2 rows2 k12 f12 k22 f22 ik2 blf2 sets2 sums2 lows2 highs2 hl2 found2 each2 hlf2 hp2 path2 fr2 ysz2 yat2 ybg2 ytk2 ytd2 und2 cam2 yea2 tr72 ytx2 yrd2 hill2 now2 undn2 need2 cmo2 plc2 fr72 kept2 (by omega) (by omega) (by omega) J2
set_option maxHeartbeats 4000000 in
set_option maxRecDepth 100000 in
theorem law_ok {L : Nat} {xs : Nat → Int32} (hL : L ≤ 2560) : law_init L xs := by
  obtain ⟨read0, hr0, hP⟩ := s_plain (fun _ => 0)
  obtain ⟨hill2, now2, kept2, k0, k1, k2, k3, k4, hN⟩ := s_takes (th := 0) (by omega) (read := read0) (by rw [hr0 2 (by omega), pln_z (by omega) (by omega)]) 0 0 (fun _ => 0) (fun _ => 0) (fun _ => 0)
  have hr : ∀ k, k < 46 → hill2 k = pln k := fun k hk => (k0 k hk).trans (hr0 k hk)
  unfold law_init q_X7_init
  refine hP _ (hN _ ⟨512 + 1, law_loop hL 512 0 0 _ _ _ _ _ _ _ _ _ _ _ _ _ _ _ _ _ _ _ _ _ _ _ _ _ _ _ _ _ _ _ _ _ _ _ _ _ _ _ _ _ _ _ _ _ _ _ _ _ _ _ _ _ _ _ _ _ _ _ _ _ _ _ _ _ _ _ _ _ _ _ _ _ _ _ _ _ (by omega) (by omega) (by omega) ?_⟩)
  refine ⟨0, 0, 0, 5, 3, fun _ => 0, fun _ => 0, fun _ => 0, ⟨0, by omega, rfl, rfl, fun k hk => by omega⟩, ⟨0, by omega, rfl, rfl, fun k hk => by omega⟩, iA_0 hr _ _, iS_0 (fun _ _ => rfl) hr, ⟨0, by omega, rfl, rfl, rR0.mpr ⟨0, 0, 0, fun _ => 0, fun _ => 0, by decide, by omega, by omega, rfl, rfl, rfl, k1.1, k1.2.1, k1.2.2, fun t ht => by omega⟩, fun j g1 g2 => by omega⟩, .inl ⟨rfl, k3⟩, .inl ⟨rfl, k4⟩, .inl rfl, .inl rfl, rfl⟩

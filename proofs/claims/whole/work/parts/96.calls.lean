/-! ===== the law, call by call ===== -/
abbrev RecT := Int32 → Int64 → Int32 → Int32 → Int32 → (Nat → Int32) → Int32 → Int32 → Int32 → Int32 → Int32 → Int32 → Int32 → Int32 → Int32 → Int32 → Int32 → Int32 → (Nat → Int32) → (Nat → Int32) → (Nat → Int32) → (Nat → Int32) → (Nat → Int32) → Int32 → Int32 → Int32 → Int32 → Int32 → Int32 → Int32 → Int32 → Int32 → Int32 → Int32 → Int32 → (Nat → Int32) → (Nat → Int32) → (Nat → Int32) → (Nat → Int32) → (Nat → Int32) → Int32 → (Nat → Int32) → Int32 → (Nat → Int32) → Int32 → (Nat → Int32) → (Nat → Int32) → Int32 → (Nat → Int32) → (Nat → Int32) → (Nat → Int32) → (Nat → Int32) → Int32 → Int32 → Int32 → Int32 → (Nat → Int32) → (Nat → Int32) → (Nat → Int32) → Int32 → Int32 → Int32 → Int32 → Int32 → Int32 → Int32 → Int32 → Int64 → (Nat → Int32) → (Nat → Int32) → (Nat → Int32) → (Nat → Int32) → (Nat → Int32) → (Nat → Int32) → (Nat → Int32) → (Nat → Int32) → (Nat → Int32) → (Nat → Int32) → Prop
def Inv (B : Nat) (tr : Int64) (rl : Int32) (rb : Nat → Int32) (tbo : Int32) (tlo : Int32) (tth : Int32) (tw : Int32) (th : Int32) (tall : Int32) (ttop : Int32) (tleft : Int32) (tright : Int32) (tparts : Nat → Int32) (tfl : Nat → Int32) (tol : Nat → Int32) (known : Int32) (rows : Nat → Int32) (k1 : Int32) (f1 : Nat → Int32) (k2 : Int32) (f2 : Nat → Int32) (ik : Nat → Int32) (blf : Int32) (sets : Nat → Int32) (sums : Nat → Int32) (hl : Int32) (found : Int32) (each : Int32) (hlf : Int32) (hp : Nat → Int32) (fr : Nat → Int32) (ysz : Int32) (und : Int32) (cam : Int32) (tr7 : Int64) (ytx : Nat → Int32) (hill : Nat → Int32) (now : Nat → Int32) (undn : Nat → Int32) (cmo : Nat → Int32) (kept : Nat → Int32) : Prop := ∃ (W H thN boN loN : Nat) (pa fa wo : Nat → Nat), iT rl rb ysz ytx ∧ iK hl hp cam cmo ∧ iA thN boN loN fa wo tbo tlo tth tfl tol hill ∧ iS W H pa tw th tall ttop tleft tright tparts hill ∧ iC thN (W * H) B rows known now undn und ∧ iM thN (W * H) B (ik 0) f1 k1 kept 0 ∧ iM thN (W * H) B (ik 1) f2 k2 kept 167 ∧ caB W H pa blf sums sets ∧ caF W H pa hl hp hlf found each fr ∧ tr = tr7
def hRec (B : Nat) (rec : RecT) (x : Int32) : Prop := ∀ (tr : Int64) (rl : Int32) (rp : Int32) (rt : Int32) (rb : Nat → Int32) (tsT : Int32) (tbT : Int32) (tlT : Int32) (tbo : Int32) (tlo : Int32) (tth : Int32) (tw : Int32) (th : Int32) (tall : Int32) (ttop : Int32) (tleft : Int32) (tright : Int32) (tparts : Nat → Int32) (tyl : Nat → Int32) (twl : Nat → Int32) (tfl : Nat → Int32) (tol : Nat → Int32) (dsT : Int32) (dbT : Int32) (dlT : Int32) (dbo : Int32) (dlo : Int32) (dth : Int32) (dw : Int32) (dh : Int32) (dall : Int32) (dtop : Int32) (dleft : Int32) (dright : Int32) (dparts : Nat → Int32) (dyl : Nat → Int32) (dwl : Nat → Int32) (dfl : Nat → Int32) (dol : Nat → Int32) (known : Int32) (rows : Nat → Int32) (k1 : Int32) (f1 : Nat → Int32) (k2 : Int32) (f2 : Nat → Int32) (ik : Nat → Int32) (blf : Int32) (sets : Nat → Int32) (sums : Nat → Int32) (lows : Nat → Int32) (highs : Nat → Int32) (hl : Int32) (found : Int32) (each : Int32) (hlf : Int32) (hp : Nat → Int32) (path : Nat → Int32) (fr : Nat → Int32) (ysz : Int32) (yat : Int32) (ybg : Int32) (ytk : Int32) (ytd : Int32) (und : Int32) (cam : Int32) (yea : Int32) (tr7 : Int64) (ytx : Nat → Int32) (yrd : Nat → Int32) (hill : Nat → Int32) (now : Nat → Int32) (undn : Nat → Int32) (need : Nat → Int32) (cmo : Nat → Int32) (plc : Nat → Int32) (fr7 : Nat → Int32) (kept : Nat → Int32), Inv B tr rl rb tbo tlo tth tw th tall ttop tleft tright tparts tfl tol known rows k1 f1 k2 f2 ik blf sets sums hl found each hlf hp fr ysz und cam tr7 ytx hill now undn cmo kept → rec x tr rl rp rt rb tsT tbT tlT tbo tlo tth tw th tall ttop tleft tright tparts tyl twl tfl tol dsT dbT dlT dbo dlo dth dw dh dall dtop dleft dright dparts dyl dwl dfl dol known rows k1 f1 k2 f2 ik blf sets sums lows highs hl found each hlf hp path fr ysz yat ybg ytk ytd und cam yea tr7 ytx yrd hill now undn need cmo plc fr7 kept
def xin (L : Nat) (x : Int32) : Prop := vp_in (x + 1) L ∧ vp_in (x + 2) L ∧ vp_in (x + 3) L ∧ vp_in (x + 4) L
theorem fl_0 {L : Nat} {xs : Nat → Int32} {rec : RecT} {x3 : Int32} {B : Nat} {tr : Int64} {rl : Int32} {rp : Int32} {rt : Int32} {rb : Nat → Int32} {tsT : Int32} {tbT : Int32} {tlT : Int32} {tbo : Int32} {tlo : Int32} {tth : Int32} {tw : Int32} {th : Int32} {tall : Int32} {ttop : Int32} {tleft : Int32} {tright : Int32} {tparts : Nat → Int32} {tyl : Nat → Int32} {twl : Nat → Int32} {tfl : Nat → Int32} {tol : Nat → Int32} {dsT : Int32} {dbT : Int32} {dlT : Int32} {dbo : Int32} {dlo : Int32} {dth : Int32} {dw : Int32} {dh : Int32} {dall : Int32} {dtop : Int32} {dleft : Int32} {dright : Int32} {dparts : Nat → Int32} {dyl : Nat → Int32} {dwl : Nat → Int32} {dfl : Nat → Int32} {dol : Nat → Int32} {known : Int32} {rows : Nat → Int32} {k1 : Int32} {f1 : Nat → Int32} {k2 : Int32} {f2 : Nat → Int32} {ik : Nat → Int32} {blf : Int32} {sets : Nat → Int32} {sums : Nat → Int32} {lows : Nat → Int32} {highs : Nat → Int32} {hl : Int32} {found : Int32} {each : Int32} {hlf : Int32} {hp : Nat → Int32} {path : Nat → Int32} {fr : Nat → Int32} {ysz : Int32} {yat : Int32} {ybg : Int32} {ytk : Int32} {ytd : Int32} {und : Int32} {cam : Int32} {yea : Int32} {tr7 : Int64} {ytx : Nat → Int32} {yrd : Nat → Int32} {hill : Nat → Int32} {now : Nat → Int32} {undn : Nat → Int32} {need : Nat → Int32} {cmo : Nat → Int32} {plc : Nat → Int32} {fr7 : Nat → Int32} {kept : Nat → Int32} (hB : B ≤ 600000) (hx : xin L x3) (J : Inv B tr rl rb tbo tlo tth tw th tall ttop tleft tright tparts tfl tol known rows k1 f1 k2 f2 ik blf sets sums hl found each hlf hp fr ysz und cam tr7 ytx hill now undn cmo kept) (R : hRec (B + 1000) rec (x3 + 5)) : FL_0 L xs rec x3 tr rl rp rt rb tsT tbT tlT tbo tlo tth tw th tall ttop tleft tright tparts tyl twl tfl tol dsT dbT dlT dbo dlo dth dw dh dall dtop dleft dright dparts dyl dwl dfl dol known rows k1 f1 k2 f2 ik blf sets sums lows highs hl found each hlf hp path fr ysz yat ybg ytk ytd und cam yea tr7 ytx yrd hill now undn need cmo plc fr7 kept := by
  obtain ⟨W, H, thN, boN, loN, pa, fa, wo, T, K, A, S, C, M1, M2, cb, cf, et⟩ := J
  have C1 := iC_mono A.1 (show B ≤ B + 1000 by omega) C
  have N1 := iM_mono A.1 (show B ≤ B + 1000 by omega) M1
  have N2 := iM_mono A.1 (show B ≤ B + 1000 by omega) M2
  obtain ⟨r, u, v, u2, v2, h6, h7, T2⟩ := pr_type (p := xs (x3 + 1).toNatClampNeg) T
  unfold FL_0
  refine ⟨hx.1, ?_⟩
  rintro s rfl
  refine h6 _ ?_
  refine ⟨hx.1, ?_⟩
  rintro s rfl
  refine h7 _ (br_t rfl ?_)
  rintro x rfl
  exact R _ _ _ _ _ _ _ _ _ _ _ _ _ _ _ _ _ _ _ _ _ _ _ _ _ _ _ _ _ _ _ _ _ _ _ _ _ _ _ _ _ _ _ _ _ _ _ _ _ _ _ _ _ _ _ _ _ _ _ _ _ _ _ _ _ _ _ _ _ _ _ _ _ _ _ _ _ ⟨W, H, thN, boN, loN, pa, fa, wo, T2, K, A, S, C1, N1, N2, cb, cf, et⟩
theorem fl_1 {L : Nat} {xs : Nat → Int32} {rec : RecT} {x3 : Int32} {B : Nat} {tr : Int64} {rl : Int32} {rp : Int32} {rt : Int32} {rb : Nat → Int32} {tsT : Int32} {tbT : Int32} {tlT : Int32} {tbo : Int32} {tlo : Int32} {tth : Int32} {tw : Int32} {th : Int32} {tall : Int32} {ttop : Int32} {tleft : Int32} {tright : Int32} {tparts : Nat → Int32} {tyl : Nat → Int32} {twl : Nat → Int32} {tfl : Nat → Int32} {tol : Nat → Int32} {dsT : Int32} {dbT : Int32} {dlT : Int32} {dbo : Int32} {dlo : Int32} {dth : Int32} {dw : Int32} {dh : Int32} {dall : Int32} {dtop : Int32} {dleft : Int32} {dright : Int32} {dparts : Nat → Int32} {dyl : Nat → Int32} {dwl : Nat → Int32} {dfl : Nat → Int32} {dol : Nat → Int32} {known : Int32} {rows : Nat → Int32} {k1 : Int32} {f1 : Nat → Int32} {k2 : Int32} {f2 : Nat → Int32} {ik : Nat → Int32} {blf : Int32} {sets : Nat → Int32} {sums : Nat → Int32} {lows : Nat → Int32} {highs : Nat → Int32} {hl : Int32} {found : Int32} {each : Int32} {hlf : Int32} {hp : Nat → Int32} {path : Nat → Int32} {fr : Nat → Int32} {ysz : Int32} {yat : Int32} {ybg : Int32} {ytk : Int32} {ytd : Int32} {und : Int32} {cam : Int32} {yea : Int32} {tr7 : Int64} {ytx : Nat → Int32} {yrd : Nat → Int32} {hill : Nat → Int32} {now : Nat → Int32} {undn : Nat → Int32} {need : Nat → Int32} {cmo : Nat → Int32} {plc : Nat → Int32} {fr7 : Nat → Int32} {kept : Nat → Int32} (hB : B ≤ 600000) (hx : xin L x3) (J : Inv B tr rl rb tbo tlo tth tw th tall ttop tleft tright tparts tfl tol known rows k1 f1 k2 f2 ik blf sets sums hl found each hlf hp fr ysz und cam tr7 ytx hill now undn cmo kept) (R : hRec (B + 1000) rec (x3 + 5)) : FL_1 L xs rec x3 tr rl rp rt rb tsT tbT tlT tbo tlo tth tw th tall ttop tleft tright tparts tyl twl tfl tol dsT dbT dlT dbo dlo dth dw dh dall dtop dleft dright dparts dyl dwl dfl dol known rows k1 f1 k2 f2 ik blf sets sums lows highs hl found each hlf hp path fr ysz yat ybg ytk ytd und cam yea tr7 ytx yrd hill now undn need cmo plc fr7 kept := by
  obtain ⟨W, H, thN, boN, loN, pa, fa, wo, T, K, A, S, C, M1, M2, cb, cf, et⟩ := J
  have C1 := iC_mono A.1 (show B ≤ B + 1000 by omega) C
  have N1 := iM_mono A.1 (show B ≤ B + 1000 by omega) M1
  have N2 := iM_mono A.1 (show B ≤ B + 1000 by omega) M2
  obtain ⟨r, u, u2, h6, h7, T2⟩ := pr_clear T
  unfold FL_1
  refine h6 _ ?_
  refine h7 _ (br_t rfl ?_)
  rintro x rfl
  exact R _ _ _ _ _ _ _ _ _ _ _ _ _ _ _ _ _ _ _ _ _ _ _ _ _ _ _ _ _ _ _ _ _ _ _ _ _ _ _ _ _ _ _ _ _ _ _ _ _ _ _ _ _ _ _ _ _ _ _ _ _ _ _ _ _ _ _ _ _ _ _ _ _ _ _ _ _ ⟨W, H, thN, boN, loN, pa, fa, wo, T2, K, A, S, C1, N1, N2, cb, cf, et⟩
theorem fl_2 {L : Nat} {xs : Nat → Int32} {rec : RecT} {x3 : Int32} {B : Nat} {tr : Int64} {rl : Int32} {rp : Int32} {rt : Int32} {rb : Nat → Int32} {tsT : Int32} {tbT : Int32} {tlT : Int32} {tbo : Int32} {tlo : Int32} {tth : Int32} {tw : Int32} {th : Int32} {tall : Int32} {ttop : Int32} {tleft : Int32} {tright : Int32} {tparts : Nat → Int32} {tyl : Nat → Int32} {twl : Nat → Int32} {tfl : Nat → Int32} {tol : Nat → Int32} {dsT : Int32} {dbT : Int32} {dlT : Int32} {dbo : Int32} {dlo : Int32} {dth : Int32} {dw : Int32} {dh : Int32} {dall : Int32} {dtop : Int32} {dleft : Int32} {dright : Int32} {dparts : Nat → Int32} {dyl : Nat → Int32} {dwl : Nat → Int32} {dfl : Nat → Int32} {dol : Nat → Int32} {known : Int32} {rows : Nat → Int32} {k1 : Int32} {f1 : Nat → Int32} {k2 : Int32} {f2 : Nat → Int32} {ik : Nat → Int32} {blf : Int32} {sets : Nat → Int32} {sums : Nat → Int32} {lows : Nat → Int32} {highs : Nat → Int32} {hl : Int32} {found : Int32} {each : Int32} {hlf : Int32} {hp : Nat → Int32} {path : Nat → Int32} {fr : Nat → Int32} {ysz : Int32} {yat : Int32} {ybg : Int32} {ytk : Int32} {ytd : Int32} {und : Int32} {cam : Int32} {yea : Int32} {tr7 : Int64} {ytx : Nat → Int32} {yrd : Nat → Int32} {hill : Nat → Int32} {now : Nat → Int32} {undn : Nat → Int32} {need : Nat → Int32} {cmo : Nat → Int32} {plc : Nat → Int32} {fr7 : Nat → Int32} {kept : Nat → Int32} (hB : B ≤ 600000) (hx : xin L x3) (J : Inv B tr rl rb tbo tlo tth tw th tall ttop tleft tright tparts tfl tol known rows k1 f1 k2 f2 ik blf sets sums hl found each hlf hp fr ysz und cam tr7 ytx hill now undn cmo kept) (R : hRec (B + 1000) rec (x3 + 5)) : FL_2 L xs rec x3 tr rl rp rt rb tsT tbT tlT tbo tlo tth tw th tall ttop tleft tright tparts tyl twl tfl tol dsT dbT dlT dbo dlo dth dw dh dall dtop dleft dright dparts dyl dwl dfl dol known rows k1 f1 k2 f2 ik blf sets sums lows highs hl found each hlf hp path fr ysz yat ybg ytk ytd und cam yea tr7 ytx yrd hill now undn need cmo plc fr7 kept := by
  obtain ⟨W, H, thN, boN, loN, pa, fa, wo, T, K, A, S, C, M1, M2, cb, cf, et⟩ := J
  have C1 := iC_mono A.1 (show B ≤ B + 1000 by omega) C
  have N1 := iM_mono A.1 (show B ≤ B + 1000 by omega) M1
  have N2 := iM_mono A.1 (show B ≤ B + 1000 by omega) M2
  rcases pr_hill T dsT dbT dlT dbo dlo dth dw dh dall dtop dleft dright rp rt known hl hlf blf yat ybg ytk ytd und cam dparts dyl dwl dfl dol rows ik yrd hill now kept with ⟨r, sT, bT, lT, bo, lo, th1, w, h, all, top, left, right, pl2, ts2, parts, yl, wl, fl, ol, rows2, ik2, a2, bg2, td2, read2, hill2, now2, kept2, h6, h7, ⟨W2, H2, thM, boM, loM, pa2, fa2, wo2, S2, A2, R2⟩, i0, i1, z0, z1⟩ | ⟨r, sT, bT, lT, bo, lo, th1, w, h, all, top, left, right, pl2, ts2, parts, yl, wl, fl, ol, a2, bg2, tk2, td2, read2, h6, h7⟩
  · unfold FL_2
    refine h6 _ ⟨fun _ => h7 _ (br_t rfl ?_), fun g => nomatch g⟩
    rintro x rfl
    exact R _ _ _ _ _ _ _ _ _ _ _ _ _ _ _ _ _ _ _ _ _ _ _ _ _ _ _ _ _ _ _ _ _ _ _ _ _ _ _ _ _ _ _ _ _ _ _ _ _ _ _ _ _ _ _ _ _ _ _ _ _ _ _ _ _ _ _ _ _ _ _ _ _ _ _ _ _ ⟨W2, H2, thM, boM, loM, pa2, fa2, wo2, ⟨0, by omega, rfl, rfl, fun k hk => by omega⟩, ⟨0, by omega, rfl, rfl, fun k hk => by omega⟩, A2, S2, ⟨0, by omega, rfl, rfl, rR_cong A2.1 (Nat.zero_le _) (fun _ _ => rfl) (fun _ _ => rfl) R2, fun j g1 g2 => by omega⟩, .inl ⟨i0, z0⟩, .inl ⟨i1, z1⟩, .inl rfl, .inl rfl, et⟩
  · unfold FL_2
    refine h6 _ ⟨(fun g => nomatch g), fun _ => h7 _ (br_t rfl ?_)⟩
    rintro x rfl
    exact R _ _ _ _ _ _ _ _ _ _ _ _ _ _ _ _ _ _ _ _ _ _ _ _ _ _ _ _ _ _ _ _ _ _ _ _ _ _ _ _ _ _ _ _ _ _ _ _ _ _ _ _ _ _ _ _ _ _ _ _ _ _ _ _ _ _ _ _ _ _ _ _ _ _ _ _ _ ⟨W, H, thN, boN, loN, pa, fa, wo, T, K, A, S, C1, N1, N2, cb, cf, et⟩
theorem fl_3 {L : Nat} {xs : Nat → Int32} {rec : RecT} {x3 : Int32} {B : Nat} {tr : Int64} {rl : Int32} {rp : Int32} {rt : Int32} {rb : Nat → Int32} {tsT : Int32} {tbT : Int32} {tlT : Int32} {tbo : Int32} {tlo : Int32} {tth : Int32} {tw : Int32} {th : Int32} {tall : Int32} {ttop : Int32} {tleft : Int32} {tright : Int32} {tparts : Nat → Int32} {tyl : Nat → Int32} {twl : Nat → Int32} {tfl : Nat → Int32} {tol : Nat → Int32} {dsT : Int32} {dbT : Int32} {dlT : Int32} {dbo : Int32} {dlo : Int32} {dth : Int32} {dw : Int32} {dh : Int32} {dall : Int32} {dtop : Int32} {dleft : Int32} {dright : Int32} {dparts : Nat → Int32} {dyl : Nat → Int32} {dwl : Nat → Int32} {dfl : Nat → Int32} {dol : Nat → Int32} {known : Int32} {rows : Nat → Int32} {k1 : Int32} {f1 : Nat → Int32} {k2 : Int32} {f2 : Nat → Int32} {ik : Nat → Int32} {blf : Int32} {sets : Nat → Int32} {sums : Nat → Int32} {lows : Nat → Int32} {highs : Nat → Int32} {hl : Int32} {found : Int32} {each : Int32} {hlf : Int32} {hp : Nat → Int32} {path : Nat → Int32} {fr : Nat → Int32} {ysz : Int32} {yat : Int32} {ybg : Int32} {ytk : Int32} {ytd : Int32} {und : Int32} {cam : Int32} {yea : Int32} {tr7 : Int64} {ytx : Nat → Int32} {yrd : Nat → Int32} {hill : Nat → Int32} {now : Nat → Int32} {undn : Nat → Int32} {need : Nat → Int32} {cmo : Nat → Int32} {plc : Nat → Int32} {fr7 : Nat → Int32} {kept : Nat → Int32} (hB : B ≤ 600000) (hx : xin L x3) (J : Inv B tr rl rb tbo tlo tth tw th tall ttop tleft tright tparts tfl tol known rows k1 f1 k2 f2 ik blf sets sums hl found each hlf hp fr ysz und cam tr7 ytx hill now undn cmo kept) (R : hRec (B + 1000) rec (x3 + 5)) : FL_3 L xs rec x3 tr rl rp rt rb tsT tbT tlT tbo tlo tth tw th tall ttop tleft tright tparts tyl twl tfl tol dsT dbT dlT dbo dlo dth dw dh dall dtop dleft dright dparts dyl dwl dfl dol known rows k1 f1 k2 f2 ik blf sets sums lows highs hl found each hlf hp path fr ysz yat ybg ytk ytd und cam yea tr7 ytx yrd hill now undn need cmo plc fr7 kept := by
  obtain ⟨W, H, thN, boN, loN, pa, fa, wo, T, K, A, S, C, M1, M2, cb, cf, et⟩ := J
  have C1 := iC_mono A.1 (show B ≤ B + 1000 by omega) C
  have N1 := iM_mono A.1 (show B ≤ B + 1000 by omega) M1
  have N2 := iM_mono A.1 (show B ≤ B + 1000 by omega) M2
  obtain ⟨kk, hkk, ek1, ek2, R0, Rj⟩ := id C
  obtain ⟨dg, st, yr, ye, wh, R1⟩ := rR0.mp R0
  have X := mk_cXY A R1
  have hw := fun (t : Nat) (ht : t < thN) => (⟨(A.2.2.2.2.2.2.2.2.2.2 t ht).2.1, (A.2.2.2.2.2.2.2.2.2.2 t ht).2.2.2.1, (A.2.2.2.2.2.2.2.2.2.2 t ht).2.2.2.2.2⟩ : wo t ≤ 99 ∧ tol t = nI (wo t) ∧ hill (25 + 4 * t) = nI (wo t))
  obtain ⟨r, h6, h7⟩ := pr_cell (cellsB := 0) S R1 (p := xs (x3 + 1).toNatClampNeg) (p1 := xs (x3 + 2).toNatClampNeg) (p2 := xs (x3 + 3).toNatClampNeg)
  unfold FL_3
  refine ⟨hx.1, ?_⟩
  rintro s rfl
  refine ⟨hx.2.1, ?_⟩
  rintro s rfl
  refine ⟨hx.2.2.1, ?_⟩
  rintro s rfl
  refine h6 _ ?_
  refine ⟨hx.1, ?_⟩
  rintro s rfl
  refine ⟨hx.2.1, ?_⟩
  rintro s rfl
  refine ⟨hx.2.2.1, ?_⟩
  rintro s rfl
  refine h7 _ (br_t rfl ?_)
  rintro x rfl
  exact R _ _ _ _ _ _ _ _ _ _ _ _ _ _ _ _ _ _ _ _ _ _ _ _ _ _ _ _ _ _ _ _ _ _ _ _ _ _ _ _ _ _ _ _ _ _ _ _ _ _ _ _ _ _ _ _ _ _ _ _ _ _ _ _ _ _ _ _ _ _ _ _ _ _ _ _ _ ⟨W, H, thN, boN, loN, pa, fa, wo, T, K, A, S, C1, N1, N2, cb, cf, et⟩
theorem fl_4 {L : Nat} {xs : Nat → Int32} {rec : RecT} {x3 : Int32} {B : Nat} {tr : Int64} {rl : Int32} {rp : Int32} {rt : Int32} {rb : Nat → Int32} {tsT : Int32} {tbT : Int32} {tlT : Int32} {tbo : Int32} {tlo : Int32} {tth : Int32} {tw : Int32} {th : Int32} {tall : Int32} {ttop : Int32} {tleft : Int32} {tright : Int32} {tparts : Nat → Int32} {tyl : Nat → Int32} {twl : Nat → Int32} {tfl : Nat → Int32} {tol : Nat → Int32} {dsT : Int32} {dbT : Int32} {dlT : Int32} {dbo : Int32} {dlo : Int32} {dth : Int32} {dw : Int32} {dh : Int32} {dall : Int32} {dtop : Int32} {dleft : Int32} {dright : Int32} {dparts : Nat → Int32} {dyl : Nat → Int32} {dwl : Nat → Int32} {dfl : Nat → Int32} {dol : Nat → Int32} {known : Int32} {rows : Nat → Int32} {k1 : Int32} {f1 : Nat → Int32} {k2 : Int32} {f2 : Nat → Int32} {ik : Nat → Int32} {blf : Int32} {sets : Nat → Int32} {sums : Nat → Int32} {lows : Nat → Int32} {highs : Nat → Int32} {hl : Int32} {found : Int32} {each : Int32} {hlf : Int32} {hp : Nat → Int32} {path : Nat → Int32} {fr : Nat → Int32} {ysz : Int32} {yat : Int32} {ybg : Int32} {ytk : Int32} {ytd : Int32} {und : Int32} {cam : Int32} {yea : Int32} {tr7 : Int64} {ytx : Nat → Int32} {yrd : Nat → Int32} {hill : Nat → Int32} {now : Nat → Int32} {undn : Nat → Int32} {need : Nat → Int32} {cmo : Nat → Int32} {plc : Nat → Int32} {fr7 : Nat → Int32} {kept : Nat → Int32} (hB : B ≤ 600000) (hx : xin L x3) (J : Inv B tr rl rb tbo tlo tth tw th tall ttop tleft tright tparts tfl tol known rows k1 f1 k2 f2 ik blf sets sums hl found each hlf hp fr ysz und cam tr7 ytx hill now undn cmo kept) (R : hRec (B + 1000) rec (x3 + 5)) : FL_4 L xs rec x3 tr rl rp rt rb tsT tbT tlT tbo tlo tth tw th tall ttop tleft tright tparts tyl twl tfl tol dsT dbT dlT dbo dlo dth dw dh dall dtop dleft dright dparts dyl dwl dfl dol known rows k1 f1 k2 f2 ik blf sets sums lows highs hl found each hlf hp path fr ysz yat ybg ytk ytd und cam yea tr7 ytx yrd hill now undn need cmo plc fr7 kept := by
  obtain ⟨W, H, thN, boN, loN, pa, fa, wo, T, K, A, S, C, M1, M2, cb, cf, et⟩ := J
  have C1 := iC_mono A.1 (show B ≤ B + 1000 by omega) C
  have N1 := iM_mono A.1 (show B ≤ B + 1000 by omega) M1
  have N2 := iM_mono A.1 (show B ≤ B + 1000 by omega) M2
  obtain ⟨kk, hkk, ek1, ek2, R0, Rj⟩ := id C
  obtain ⟨dg, st, yr, ye, wh, R1⟩ := rR0.mp R0
  have X := mk_cXY A R1
  have hw := fun (t : Nat) (ht : t < thN) => (⟨(A.2.2.2.2.2.2.2.2.2.2 t ht).2.1, (A.2.2.2.2.2.2.2.2.2.2 t ht).2.2.2.1, (A.2.2.2.2.2.2.2.2.2.2 t ht).2.2.2.2.2⟩ : wo t ≤ 99 ∧ tol t = nI (wo t) ∧ hill (25 + 4 * t) = nI (wo t))
  obtain ⟨r, h6, h7⟩ := pr_thing X hw (p := xs (x3 + 1).toNatClampNeg) (p1 := xs (x3 + 2).toNatClampNeg)
  unfold FL_4
  refine ⟨hx.1, ?_⟩
  rintro s rfl
  refine ⟨hx.2.1, ?_⟩
  rintro s rfl
  refine h6 _ ?_
  refine ⟨hx.1, ?_⟩
  rintro s rfl
  refine ⟨hx.2.1, ?_⟩
  rintro s rfl
  refine h7 _ (br_t rfl ?_)
  rintro x rfl
  exact R _ _ _ _ _ _ _ _ _ _ _ _ _ _ _ _ _ _ _ _ _ _ _ _ _ _ _ _ _ _ _ _ _ _ _ _ _ _ _ _ _ _ _ _ _ _ _ _ _ _ _ _ _ _ _ _ _ _ _ _ _ _ _ _ _ _ _ _ _ _ _ _ _ _ _ _ _ ⟨W, H, thN, boN, loN, pa, fa, wo, T, K, A, S, C1, N1, N2, cb, cf, et⟩
theorem fl_5 {L : Nat} {xs : Nat → Int32} {rec : RecT} {x3 : Int32} {B : Nat} {tr : Int64} {rl : Int32} {rp : Int32} {rt : Int32} {rb : Nat → Int32} {tsT : Int32} {tbT : Int32} {tlT : Int32} {tbo : Int32} {tlo : Int32} {tth : Int32} {tw : Int32} {th : Int32} {tall : Int32} {ttop : Int32} {tleft : Int32} {tright : Int32} {tparts : Nat → Int32} {tyl : Nat → Int32} {twl : Nat → Int32} {tfl : Nat → Int32} {tol : Nat → Int32} {dsT : Int32} {dbT : Int32} {dlT : Int32} {dbo : Int32} {dlo : Int32} {dth : Int32} {dw : Int32} {dh : Int32} {dall : Int32} {dtop : Int32} {dleft : Int32} {dright : Int32} {dparts : Nat → Int32} {dyl : Nat → Int32} {dwl : Nat → Int32} {dfl : Nat → Int32} {dol : Nat → Int32} {known : Int32} {rows : Nat → Int32} {k1 : Int32} {f1 : Nat → Int32} {k2 : Int32} {f2 : Nat → Int32} {ik : Nat → Int32} {blf : Int32} {sets : Nat → Int32} {sums : Nat → Int32} {lows : Nat → Int32} {highs : Nat → Int32} {hl : Int32} {found : Int32} {each : Int32} {hlf : Int32} {hp : Nat → Int32} {path : Nat → Int32} {fr : Nat → Int32} {ysz : Int32} {yat : Int32} {ybg : Int32} {ytk : Int32} {ytd : Int32} {und : Int32} {cam : Int32} {yea : Int32} {tr7 : Int64} {ytx : Nat → Int32} {yrd : Nat → Int32} {hill : Nat → Int32} {now : Nat → Int32} {undn : Nat → Int32} {need : Nat → Int32} {cmo : Nat → Int32} {plc : Nat → Int32} {fr7 : Nat → Int32} {kept : Nat → Int32} (hB : B ≤ 600000) (hx : xin L x3) (J : Inv B tr rl rb tbo tlo tth tw th tall ttop tleft tright tparts tfl tol known rows k1 f1 k2 f2 ik blf sets sums hl found each hlf hp fr ysz und cam tr7 ytx hill now undn cmo kept) (R : hRec (B + 1000) rec (x3 + 5)) : FL_5 L xs rec x3 tr rl rp rt rb tsT tbT tlT tbo tlo tth tw th tall ttop tleft tright tparts tyl twl tfl tol dsT dbT dlT dbo dlo dth dw dh dall dtop dleft dright dparts dyl dwl dfl dol known rows k1 f1 k2 f2 ik blf sets sums lows highs hl found each hlf hp path fr ysz yat ybg ytk ytd und cam yea tr7 ytx yrd hill now undn need cmo plc fr7 kept := by
  obtain ⟨W, H, thN, boN, loN, pa, fa, wo, T, K, A, S, C, M1, M2, cb, cf, et⟩ := J
  have C1 := iC_mono A.1 (show B ≤ B + 1000 by omega) C
  have N1 := iM_mono A.1 (show B ≤ B + 1000 by omega) M1
  have N2 := iM_mono A.1 (show B ≤ B + 1000 by omega) M2
  obtain ⟨r, u, v, u2, v2, w2, h6, h7, C2⟩ := pr_digs (p := xs (x3 + 1).toNatClampNeg) (p1 := xs (x3 + 2).toNatClampNeg) A.1 S C
  unfold FL_5
  refine ⟨hx.1, ?_⟩
  rintro s rfl
  refine ⟨hx.2.1, ?_⟩
  rintro s rfl
  refine h6 _ ?_
  refine ⟨hx.1, ?_⟩
  rintro s rfl
  refine ⟨hx.2.1, ?_⟩
  rintro s rfl
  refine h7 _ (br_t rfl ?_)
  rintro x rfl
  exact R _ _ _ _ _ _ _ _ _ _ _ _ _ _ _ _ _ _ _ _ _ _ _ _ _ _ _ _ _ _ _ _ _ _ _ _ _ _ _ _ _ _ _ _ _ _ _ _ _ _ _ _ _ _ _ _ _ _ _ _ _ _ _ _ _ _ _ _ _ _ _ _ _ _ _ _ _ ⟨W, H, thN, boN, loN, pa, fa, wo, T, K, A, S, C2, N1, N2, cb, cf, et⟩
theorem fl_6 {L : Nat} {xs : Nat → Int32} {rec : RecT} {x3 : Int32} {B : Nat} {tr : Int64} {rl : Int32} {rp : Int32} {rt : Int32} {rb : Nat → Int32} {tsT : Int32} {tbT : Int32} {tlT : Int32} {tbo : Int32} {tlo : Int32} {tth : Int32} {tw : Int32} {th : Int32} {tall : Int32} {ttop : Int32} {tleft : Int32} {tright : Int32} {tparts : Nat → Int32} {tyl : Nat → Int32} {twl : Nat → Int32} {tfl : Nat → Int32} {tol : Nat → Int32} {dsT : Int32} {dbT : Int32} {dlT : Int32} {dbo : Int32} {dlo : Int32} {dth : Int32} {dw : Int32} {dh : Int32} {dall : Int32} {dtop : Int32} {dleft : Int32} {dright : Int32} {dparts : Nat → Int32} {dyl : Nat → Int32} {dwl : Nat → Int32} {dfl : Nat → Int32} {dol : Nat → Int32} {known : Int32} {rows : Nat → Int32} {k1 : Int32} {f1 : Nat → Int32} {k2 : Int32} {f2 : Nat → Int32} {ik : Nat → Int32} {blf : Int32} {sets : Nat → Int32} {sums : Nat → Int32} {lows : Nat → Int32} {highs : Nat → Int32} {hl : Int32} {found : Int32} {each : Int32} {hlf : Int32} {hp : Nat → Int32} {path : Nat → Int32} {fr : Nat → Int32} {ysz : Int32} {yat : Int32} {ybg : Int32} {ytk : Int32} {ytd : Int32} {und : Int32} {cam : Int32} {yea : Int32} {tr7 : Int64} {ytx : Nat → Int32} {yrd : Nat → Int32} {hill : Nat → Int32} {now : Nat → Int32} {undn : Nat → Int32} {need : Nat → Int32} {cmo : Nat → Int32} {plc : Nat → Int32} {fr7 : Nat → Int32} {kept : Nat → Int32} (hB : B ≤ 600000) (hx : xin L x3) (J : Inv B tr rl rb tbo tlo tth tw th tall ttop tleft tright tparts tfl tol known rows k1 f1 k2 f2 ik blf sets sums hl found each hlf hp fr ysz und cam tr7 ytx hill now undn cmo kept) (R : hRec (B + 1000) rec (x3 + 5)) : FL_6 L xs rec x3 tr rl rp rt rb tsT tbT tlT tbo tlo tth tw th tall ttop tleft tright tparts tyl twl tfl tol dsT dbT dlT dbo dlo dth dw dh dall dtop dleft dright dparts dyl dwl dfl dol known rows k1 f1 k2 f2 ik blf sets sums lows highs hl found each hlf hp path fr ysz yat ybg ytk ytd und cam yea tr7 ytx yrd hill now undn need cmo plc fr7 kept := by
  obtain ⟨W, H, thN, boN, loN, pa, fa, wo, T, K, A, S, C, M1, M2, cb, cf, et⟩ := J
  have C1 := iC_mono A.1 (show B ≤ B + 1000 by omega) C
  have N1 := iM_mono A.1 (show B ≤ B + 1000 by omega) M1
  have N2 := iM_mono A.1 (show B ≤ B + 1000 by omega) M2
  obtain ⟨r, u, v, u2, v2, w2, h6, h7, C2⟩ := pr_scrapes (p := xs (x3 + 1).toNatClampNeg) A C
  unfold FL_6
  refine ⟨hx.1, ?_⟩
  rintro s rfl
  refine h6 _ ?_
  refine ⟨hx.1, ?_⟩
  rintro s rfl
  refine h7 _ (br_t rfl ?_)
  rintro x rfl
  exact R _ _ _ _ _ _ _ _ _ _ _ _ _ _ _ _ _ _ _ _ _ _ _ _ _ _ _ _ _ _ _ _ _ _ _ _ _ _ _ _ _ _ _ _ _ _ _ _ _ _ _ _ _ _ _ _ _ _ _ _ _ _ _ _ _ _ _ _ _ _ _ _ _ _ _ _ _ ⟨W, H, thN, boN, loN, pa, fa, wo, T, K, A, S, C2, N1, N2, cb, cf, et⟩
theorem fl_7 {L : Nat} {xs : Nat → Int32} {rec : RecT} {x3 : Int32} {B : Nat} {tr : Int64} {rl : Int32} {rp : Int32} {rt : Int32} {rb : Nat → Int32} {tsT : Int32} {tbT : Int32} {tlT : Int32} {tbo : Int32} {tlo : Int32} {tth : Int32} {tw : Int32} {th : Int32} {tall : Int32} {ttop : Int32} {tleft : Int32} {tright : Int32} {tparts : Nat → Int32} {tyl : Nat → Int32} {twl : Nat → Int32} {tfl : Nat → Int32} {tol : Nat → Int32} {dsT : Int32} {dbT : Int32} {dlT : Int32} {dbo : Int32} {dlo : Int32} {dth : Int32} {dw : Int32} {dh : Int32} {dall : Int32} {dtop : Int32} {dleft : Int32} {dright : Int32} {dparts : Nat → Int32} {dyl : Nat → Int32} {dwl : Nat → Int32} {dfl : Nat → Int32} {dol : Nat → Int32} {known : Int32} {rows : Nat → Int32} {k1 : Int32} {f1 : Nat → Int32} {k2 : Int32} {f2 : Nat → Int32} {ik : Nat → Int32} {blf : Int32} {sets : Nat → Int32} {sums : Nat → Int32} {lows : Nat → Int32} {highs : Nat → Int32} {hl : Int32} {found : Int32} {each : Int32} {hlf : Int32} {hp : Nat → Int32} {path : Nat → Int32} {fr : Nat → Int32} {ysz : Int32} {yat : Int32} {ybg : Int32} {ytk : Int32} {ytd : Int32} {und : Int32} {cam : Int32} {yea : Int32} {tr7 : Int64} {ytx : Nat → Int32} {yrd : Nat → Int32} {hill : Nat → Int32} {now : Nat → Int32} {undn : Nat → Int32} {need : Nat → Int32} {cmo : Nat → Int32} {plc : Nat → Int32} {fr7 : Nat → Int32} {kept : Nat → Int32} (hB : B ≤ 600000) (hx : xin L x3) (J : Inv B tr rl rb tbo tlo tth tw th tall ttop tleft tright tparts tfl tol known rows k1 f1 k2 f2 ik blf sets sums hl found each hlf hp fr ysz und cam tr7 ytx hill now undn cmo kept) (R : hRec (B + 1000) rec (x3 + 5)) : FL_7 L xs rec x3 tr rl rp rt rb tsT tbT tlT tbo tlo tth tw th tall ttop tleft tright tparts tyl twl tfl tol dsT dbT dlT dbo dlo dth dw dh dall dtop dleft dright dparts dyl dwl dfl dol known rows k1 f1 k2 f2 ik blf sets sums lows highs hl found each hlf hp path fr ysz yat ybg ytk ytd und cam yea tr7 ytx yrd hill now undn need cmo plc fr7 kept := by
  obtain ⟨W, H, thN, boN, loN, pa, fa, wo, T, K, A, S, C, M1, M2, cb, cf, et⟩ := J
  have C1 := iC_mono A.1 (show B ≤ B + 1000 by omega) C
  have N1 := iM_mono A.1 (show B ≤ B + 1000 by omega) M1
  have N2 := iM_mono A.1 (show B ≤ B + 1000 by omega) M2
  obtain ⟨r, u, v, u2, v2, w2, h6, h7, C2⟩ := pr_paints (p := xs (x3 + 1).toNatClampNeg) (p1 := xs (x3 + 2).toNatClampNeg) A C
  unfold FL_7
  refine ⟨hx.1, ?_⟩
  rintro s rfl
  refine ⟨hx.2.1, ?_⟩
  rintro s rfl
  refine h6 _ ?_
  refine ⟨hx.1, ?_⟩
  rintro s rfl
  refine ⟨hx.2.1, ?_⟩
  rintro s rfl
  refine h7 _ (br_t rfl ?_)
  rintro x rfl
  exact R _ _ _ _ _ _ _ _ _ _ _ _ _ _ _ _ _ _ _ _ _ _ _ _ _ _ _ _ _ _ _ _ _ _ _ _ _ _ _ _ _ _ _ _ _ _ _ _ _ _ _ _ _ _ _ _ _ _ _ _ _ _ _ _ _ _ _ _ _ _ _ _ _ _ _ _ _ ⟨W, H, thN, boN, loN, pa, fa, wo, T, K, A, S, (C2 hB), N1, N2, cb, cf, et⟩
theorem fl_8 {L : Nat} {xs : Nat → Int32} {rec : RecT} {x3 : Int32} {B : Nat} {tr : Int64} {rl : Int32} {rp : Int32} {rt : Int32} {rb : Nat → Int32} {tsT : Int32} {tbT : Int32} {tlT : Int32} {tbo : Int32} {tlo : Int32} {tth : Int32} {tw : Int32} {th : Int32} {tall : Int32} {ttop : Int32} {tleft : Int32} {tright : Int32} {tparts : Nat → Int32} {tyl : Nat → Int32} {twl : Nat → Int32} {tfl : Nat → Int32} {tol : Nat → Int32} {dsT : Int32} {dbT : Int32} {dlT : Int32} {dbo : Int32} {dlo : Int32} {dth : Int32} {dw : Int32} {dh : Int32} {dall : Int32} {dtop : Int32} {dleft : Int32} {dright : Int32} {dparts : Nat → Int32} {dyl : Nat → Int32} {dwl : Nat → Int32} {dfl : Nat → Int32} {dol : Nat → Int32} {known : Int32} {rows : Nat → Int32} {k1 : Int32} {f1 : Nat → Int32} {k2 : Int32} {f2 : Nat → Int32} {ik : Nat → Int32} {blf : Int32} {sets : Nat → Int32} {sums : Nat → Int32} {lows : Nat → Int32} {highs : Nat → Int32} {hl : Int32} {found : Int32} {each : Int32} {hlf : Int32} {hp : Nat → Int32} {path : Nat → Int32} {fr : Nat → Int32} {ysz : Int32} {yat : Int32} {ybg : Int32} {ytk : Int32} {ytd : Int32} {und : Int32} {cam : Int32} {yea : Int32} {tr7 : Int64} {ytx : Nat → Int32} {yrd : Nat → Int32} {hill : Nat → Int32} {now : Nat → Int32} {undn : Nat → Int32} {need : Nat → Int32} {cmo : Nat → Int32} {plc : Nat → Int32} {fr7 : Nat → Int32} {kept : Nat → Int32} (hB : B ≤ 600000) (hx : xin L x3) (J : Inv B tr rl rb tbo tlo tth tw th tall ttop tleft tright tparts tfl tol known rows k1 f1 k2 f2 ik blf sets sums hl found each hlf hp fr ysz und cam tr7 ytx hill now undn cmo kept) (R : hRec (B + 1000) rec (x3 + 5)) : FL_8 L xs rec x3 tr rl rp rt rb tsT tbT tlT tbo tlo tth tw th tall ttop tleft tright tparts tyl twl tfl tol dsT dbT dlT dbo dlo dth dw dh dall dtop dleft dright dparts dyl dwl dfl dol known rows k1 f1 k2 f2 ik blf sets sums lows highs hl found each hlf hp path fr ysz yat ybg ytk ytd und cam yea tr7 ytx yrd hill now undn need cmo plc fr7 kept := by
  obtain ⟨W, H, thN, boN, loN, pa, fa, wo, T, K, A, S, C, M1, M2, cb, cf, et⟩ := J
  have C1 := iC_mono A.1 (show B ≤ B + 1000 by omega) C
  have N1 := iM_mono A.1 (show B ≤ B + 1000 by omega) M1
  have N2 := iM_mono A.1 (show B ≤ B + 1000 by omega) M2
  obtain ⟨r, u, v, u2, v2, w2, h6, h7, C2⟩ := pr_stretches (p := xs (x3 + 1).toNatClampNeg) (p1 := xs (x3 + 2).toNatClampNeg) A C
  unfold FL_8
  refine ⟨hx.1, ?_⟩
  rintro s rfl
  refine ⟨hx.2.1, ?_⟩
  rintro s rfl
  refine h6 _ ?_
  refine ⟨hx.1, ?_⟩
  rintro s rfl
  refine ⟨hx.2.1, ?_⟩
  rintro s rfl
  refine h7 _ (br_t rfl ?_)
  rintro x rfl
  exact R _ _ _ _ _ _ _ _ _ _ _ _ _ _ _ _ _ _ _ _ _ _ _ _ _ _ _ _ _ _ _ _ _ _ _ _ _ _ _ _ _ _ _ _ _ _ _ _ _ _ _ _ _ _ _ _ _ _ _ _ _ _ _ _ _ _ _ _ _ _ _ _ _ _ _ _ _ ⟨W, H, thN, boN, loN, pa, fa, wo, T, K, A, S, C2, N1, N2, cb, cf, et⟩
theorem fl_9 {L : Nat} {xs : Nat → Int32} {rec : RecT} {x3 : Int32} {B : Nat} {tr : Int64} {rl : Int32} {rp : Int32} {rt : Int32} {rb : Nat → Int32} {tsT : Int32} {tbT : Int32} {tlT : Int32} {tbo : Int32} {tlo : Int32} {tth : Int32} {tw : Int32} {th : Int32} {tall : Int32} {ttop : Int32} {tleft : Int32} {tright : Int32} {tparts : Nat → Int32} {tyl : Nat → Int32} {twl : Nat → Int32} {tfl : Nat → Int32} {tol : Nat → Int32} {dsT : Int32} {dbT : Int32} {dlT : Int32} {dbo : Int32} {dlo : Int32} {dth : Int32} {dw : Int32} {dh : Int32} {dall : Int32} {dtop : Int32} {dleft : Int32} {dright : Int32} {dparts : Nat → Int32} {dyl : Nat → Int32} {dwl : Nat → Int32} {dfl : Nat → Int32} {dol : Nat → Int32} {known : Int32} {rows : Nat → Int32} {k1 : Int32} {f1 : Nat → Int32} {k2 : Int32} {f2 : Nat → Int32} {ik : Nat → Int32} {blf : Int32} {sets : Nat → Int32} {sums : Nat → Int32} {lows : Nat → Int32} {highs : Nat → Int32} {hl : Int32} {found : Int32} {each : Int32} {hlf : Int32} {hp : Nat → Int32} {path : Nat → Int32} {fr : Nat → Int32} {ysz : Int32} {yat : Int32} {ybg : Int32} {ytk : Int32} {ytd : Int32} {und : Int32} {cam : Int32} {yea : Int32} {tr7 : Int64} {ytx : Nat → Int32} {yrd : Nat → Int32} {hill : Nat → Int32} {now : Nat → Int32} {undn : Nat → Int32} {need : Nat → Int32} {cmo : Nat → Int32} {plc : Nat → Int32} {fr7 : Nat → Int32} {kept : Nat → Int32} (hB : B ≤ 600000) (hx : xin L x3) (J : Inv B tr rl rb tbo tlo tth tw th tall ttop tleft tright tparts tfl tol known rows k1 f1 k2 f2 ik blf sets sums hl found each hlf hp fr ysz und cam tr7 ytx hill now undn cmo kept) (R : hRec (B + 1000) rec (x3 + 5)) : FL_9 L xs rec x3 tr rl rp rt rb tsT tbT tlT tbo tlo tth tw th tall ttop tleft tright tparts tyl twl tfl tol dsT dbT dlT dbo dlo dth dw dh dall dtop dleft dright dparts dyl dwl dfl dol known rows k1 f1 k2 f2 ik blf sets sums lows highs hl found each hlf hp path fr ysz yat ybg ytk ytd und cam yea tr7 ytx yrd hill now undn need cmo plc fr7 kept := by
  obtain ⟨W, H, thN, boN, loN, pa, fa, wo, T, K, A, S, C, M1, M2, cb, cf, et⟩ := J
  have C1 := iC_mono A.1 (show B ≤ B + 1000 by omega) C
  have N1 := iM_mono A.1 (show B ≤ B + 1000 by omega) M1
  have N2 := iM_mono A.1 (show B ≤ B + 1000 by omega) M2
  obtain ⟨r, u, v, u2, v2, w2, h6, h7, C2⟩ := pr_years (p := xs (x3 + 1).toNatClampNeg) A C
  unfold FL_9
  refine ⟨hx.1, ?_⟩
  rintro s rfl
  refine h6 _ ?_
  refine ⟨hx.1, ?_⟩
  rintro s rfl
  refine h7 _ (br_t rfl ?_)
  rintro x rfl
  exact R _ _ _ _ _ _ _ _ _ _ _ _ _ _ _ _ _ _ _ _ _ _ _ _ _ _ _ _ _ _ _ _ _ _ _ _ _ _ _ _ _ _ _ _ _ _ _ _ _ _ _ _ _ _ _ _ _ _ _ _ _ _ _ _ _ _ _ _ _ _ _ _ _ _ _ _ _ ⟨W, H, thN, boN, loN, pa, fa, wo, T, K, A, S, C2, N1, N2, cb, cf, et⟩
theorem fl_10 {L : Nat} {xs : Nat → Int32} {rec : RecT} {x3 : Int32} {B : Nat} {tr : Int64} {rl : Int32} {rp : Int32} {rt : Int32} {rb : Nat → Int32} {tsT : Int32} {tbT : Int32} {tlT : Int32} {tbo : Int32} {tlo : Int32} {tth : Int32} {tw : Int32} {th : Int32} {tall : Int32} {ttop : Int32} {tleft : Int32} {tright : Int32} {tparts : Nat → Int32} {tyl : Nat → Int32} {twl : Nat → Int32} {tfl : Nat → Int32} {tol : Nat → Int32} {dsT : Int32} {dbT : Int32} {dlT : Int32} {dbo : Int32} {dlo : Int32} {dth : Int32} {dw : Int32} {dh : Int32} {dall : Int32} {dtop : Int32} {dleft : Int32} {dright : Int32} {dparts : Nat → Int32} {dyl : Nat → Int32} {dwl : Nat → Int32} {dfl : Nat → Int32} {dol : Nat → Int32} {known : Int32} {rows : Nat → Int32} {k1 : Int32} {f1 : Nat → Int32} {k2 : Int32} {f2 : Nat → Int32} {ik : Nat → Int32} {blf : Int32} {sets : Nat → Int32} {sums : Nat → Int32} {lows : Nat → Int32} {highs : Nat → Int32} {hl : Int32} {found : Int32} {each : Int32} {hlf : Int32} {hp : Nat → Int32} {path : Nat → Int32} {fr : Nat → Int32} {ysz : Int32} {yat : Int32} {ybg : Int32} {ytk : Int32} {ytd : Int32} {und : Int32} {cam : Int32} {yea : Int32} {tr7 : Int64} {ytx : Nat → Int32} {yrd : Nat → Int32} {hill : Nat → Int32} {now : Nat → Int32} {undn : Nat → Int32} {need : Nat → Int32} {cmo : Nat → Int32} {plc : Nat → Int32} {fr7 : Nat → Int32} {kept : Nat → Int32} (hB : B ≤ 600000) (hx : xin L x3) (J : Inv B tr rl rb tbo tlo tth tw th tall ttop tleft tright tparts tfl tol known rows k1 f1 k2 f2 ik blf sets sums hl found each hlf hp fr ysz und cam tr7 ytx hill now undn cmo kept) (R : hRec (B + 1000) rec (x3 + 5)) : FL_10 L xs rec x3 tr rl rp rt rb tsT tbT tlT tbo tlo tth tw th tall ttop tleft tright tparts tyl twl tfl tol dsT dbT dlT dbo dlo dth dw dh dall dtop dleft dright dparts dyl dwl dfl dol known rows k1 f1 k2 f2 ik blf sets sums lows highs hl found each hlf hp path fr ysz yat ybg ytk ytd und cam yea tr7 ytx yrd hill now undn need cmo plc fr7 kept := by
  obtain ⟨W, H, thN, boN, loN, pa, fa, wo, T, K, A, S, C, M1, M2, cb, cf, et⟩ := J
  have C1 := iC_mono A.1 (show B ≤ B + 1000 by omega) C
  have N1 := iM_mono A.1 (show B ≤ B + 1000 by omega) M1
  have N2 := iM_mono A.1 (show B ≤ B + 1000 by omega) M2
  obtain ⟨r, u, v, u2, v2, h6, h7, C2⟩ := pr_undo A.1 C
  unfold FL_10
  refine h6 _ ?_
  refine h7 _ (br_t rfl ?_)
  rintro x rfl
  exact R _ _ _ _ _ _ _ _ _ _ _ _ _ _ _ _ _ _ _ _ _ _ _ _ _ _ _ _ _ _ _ _ _ _ _ _ _ _ _ _ _ _ _ _ _ _ _ _ _ _ _ _ _ _ _ _ _ _ _ _ _ _ _ _ _ _ _ _ _ _ _ _ _ _ _ _ _ ⟨W, H, thN, boN, loN, pa, fa, wo, T, K, A, S, (iC_mono A.1 (show B ≤ B + 1000 by omega) C2), N1, N2, cb, cf, et⟩
theorem fl_11 {L : Nat} {xs : Nat → Int32} {rec : RecT} {x3 : Int32} {B : Nat} {tr : Int64} {rl : Int32} {rp : Int32} {rt : Int32} {rb : Nat → Int32} {tsT : Int32} {tbT : Int32} {tlT : Int32} {tbo : Int32} {tlo : Int32} {tth : Int32} {tw : Int32} {th : Int32} {tall : Int32} {ttop : Int32} {tleft : Int32} {tright : Int32} {tparts : Nat → Int32} {tyl : Nat → Int32} {twl : Nat → Int32} {tfl : Nat → Int32} {tol : Nat → Int32} {dsT : Int32} {dbT : Int32} {dlT : Int32} {dbo : Int32} {dlo : Int32} {dth : Int32} {dw : Int32} {dh : Int32} {dall : Int32} {dtop : Int32} {dleft : Int32} {dright : Int32} {dparts : Nat → Int32} {dyl : Nat → Int32} {dwl : Nat → Int32} {dfl : Nat → Int32} {dol : Nat → Int32} {known : Int32} {rows : Nat → Int32} {k1 : Int32} {f1 : Nat → Int32} {k2 : Int32} {f2 : Nat → Int32} {ik : Nat → Int32} {blf : Int32} {sets : Nat → Int32} {sums : Nat → Int32} {lows : Nat → Int32} {highs : Nat → Int32} {hl : Int32} {found : Int32} {each : Int32} {hlf : Int32} {hp : Nat → Int32} {path : Nat → Int32} {fr : Nat → Int32} {ysz : Int32} {yat : Int32} {ybg : Int32} {ytk : Int32} {ytd : Int32} {und : Int32} {cam : Int32} {yea : Int32} {tr7 : Int64} {ytx : Nat → Int32} {yrd : Nat → Int32} {hill : Nat → Int32} {now : Nat → Int32} {undn : Nat → Int32} {need : Nat → Int32} {cmo : Nat → Int32} {plc : Nat → Int32} {fr7 : Nat → Int32} {kept : Nat → Int32} (hB : B ≤ 600000) (hx : xin L x3) (J : Inv B tr rl rb tbo tlo tth tw th tall ttop tleft tright tparts tfl tol known rows k1 f1 k2 f2 ik blf sets sums hl found each hlf hp fr ysz und cam tr7 ytx hill now undn cmo kept) (R : hRec (B + 1000) rec (x3 + 5)) : FL_11 L xs rec x3 tr rl rp rt rb tsT tbT tlT tbo tlo tth tw th tall ttop tleft tright tparts tyl twl tfl tol dsT dbT dlT dbo dlo dth dw dh dall dtop dleft dright dparts dyl dwl dfl dol known rows k1 f1 k2 f2 ik blf sets sums lows highs hl found each hlf hp path fr ysz yat ybg ytk ytd und cam yea tr7 ytx yrd hill now undn need cmo plc fr7 kept := by
  obtain ⟨W, H, thN, boN, loN, pa, fa, wo, T, K, A, S, C, M1, M2, cb, cf, et⟩ := J
  have C1 := iC_mono A.1 (show B ≤ B + 1000 by omega) C
  have N1 := iM_mono A.1 (show B ≤ B + 1000 by omega) M1
  have N2 := iM_mono A.1 (show B ≤ B + 1000 by omega) M2
  obtain ⟨kk, hkk, ek1, ek2, R0, Rj⟩ := id C
  obtain ⟨dg, st, yr, ye, wh, R1⟩ := rR0.mp R0
  have X := mk_cXY A R1
  have hw := fun (t : Nat) (ht : t < thN) => (⟨(A.2.2.2.2.2.2.2.2.2.2 t ht).2.1, (A.2.2.2.2.2.2.2.2.2.2 t ht).2.2.2.1, (A.2.2.2.2.2.2.2.2.2.2 t ht).2.2.2.2.2⟩ : wo t ≤ 99 ∧ tol t = nI (wo t) ∧ hill (25 + 4 * t) = nI (wo t))
  obtain ⟨r, h6, h7⟩ := pr_now A S R1 (p := xs (x3 + 1).toNatClampNeg)
  unfold FL_11
  refine ⟨hx.1, ?_⟩
  rintro s rfl
  refine h6 _ ?_
  refine ⟨hx.1, ?_⟩
  rintro s rfl
  refine h7 _ (br_t rfl ?_)
  rintro x rfl
  exact R _ _ _ _ _ _ _ _ _ _ _ _ _ _ _ _ _ _ _ _ _ _ _ _ _ _ _ _ _ _ _ _ _ _ _ _ _ _ _ _ _ _ _ _ _ _ _ _ _ _ _ _ _ _ _ _ _ _ _ _ _ _ _ _ _ _ _ _ _ _ _ _ _ _ _ _ _ ⟨W, H, thN, boN, loN, pa, fa, wo, T, K, A, S, C1, N1, N2, cb, cf, et⟩
theorem fl_12 {L : Nat} {xs : Nat → Int32} {rec : RecT} {x3 : Int32} {B : Nat} {tr : Int64} {rl : Int32} {rp : Int32} {rt : Int32} {rb : Nat → Int32} {tsT : Int32} {tbT : Int32} {tlT : Int32} {tbo : Int32} {tlo : Int32} {tth : Int32} {tw : Int32} {th : Int32} {tall : Int32} {ttop : Int32} {tleft : Int32} {tright : Int32} {tparts : Nat → Int32} {tyl : Nat → Int32} {twl : Nat → Int32} {tfl : Nat → Int32} {tol : Nat → Int32} {dsT : Int32} {dbT : Int32} {dlT : Int32} {dbo : Int32} {dlo : Int32} {dth : Int32} {dw : Int32} {dh : Int32} {dall : Int32} {dtop : Int32} {dleft : Int32} {dright : Int32} {dparts : Nat → Int32} {dyl : Nat → Int32} {dwl : Nat → Int32} {dfl : Nat → Int32} {dol : Nat → Int32} {known : Int32} {rows : Nat → Int32} {k1 : Int32} {f1 : Nat → Int32} {k2 : Int32} {f2 : Nat → Int32} {ik : Nat → Int32} {blf : Int32} {sets : Nat → Int32} {sums : Nat → Int32} {lows : Nat → Int32} {highs : Nat → Int32} {hl : Int32} {found : Int32} {each : Int32} {hlf : Int32} {hp : Nat → Int32} {path : Nat → Int32} {fr : Nat → Int32} {ysz : Int32} {yat : Int32} {ybg : Int32} {ytk : Int32} {ytd : Int32} {und : Int32} {cam : Int32} {yea : Int32} {tr7 : Int64} {ytx : Nat → Int32} {yrd : Nat → Int32} {hill : Nat → Int32} {now : Nat → Int32} {undn : Nat → Int32} {need : Nat → Int32} {cmo : Nat → Int32} {plc : Nat → Int32} {fr7 : Nat → Int32} {kept : Nat → Int32} (hB : B ≤ 600000) (hx : xin L x3) (J : Inv B tr rl rb tbo tlo tth tw th tall ttop tleft tright tparts tfl tol known rows k1 f1 k2 f2 ik blf sets sums hl found each hlf hp fr ysz und cam tr7 ytx hill now undn cmo kept) (R : hRec (B + 1000) rec (x3 + 5)) : FL_12 L xs rec x3 tr rl rp rt rb tsT tbT tlT tbo tlo tth tw th tall ttop tleft tright tparts tyl twl tfl tol dsT dbT dlT dbo dlo dth dw dh dall dtop dleft dright dparts dyl dwl dfl dol known rows k1 f1 k2 f2 ik blf sets sums lows highs hl found each hlf hp path fr ysz yat ybg ytk ytd und cam yea tr7 ytx yrd hill now undn need cmo plc fr7 kept := by
  obtain ⟨W, H, thN, boN, loN, pa, fa, wo, T, K, A, S, C, M1, M2, cb, cf, et⟩ := J
  have C1 := iC_mono A.1 (show B ≤ B + 1000 by omega) C
  have N1 := iM_mono A.1 (show B ≤ B + 1000 by omega) M1
  have N2 := iM_mono A.1 (show B ≤ B + 1000 by omega) M2
  obtain ⟨kk, hkk, ek1, ek2, R0, Rj⟩ := id C
  obtain ⟨dg, st, yr, ye, wh, R1⟩ := rR0.mp R0
  have X := mk_cXY A R1
  have hw := fun (t : Nat) (ht : t < thN) => (⟨(A.2.2.2.2.2.2.2.2.2.2 t ht).2.1, (A.2.2.2.2.2.2.2.2.2.2 t ht).2.2.2.1, (A.2.2.2.2.2.2.2.2.2.2 t ht).2.2.2.2.2⟩ : wo t ≤ 99 ∧ tol t = nI (wo t) ∧ hill (25 + 4 * t) = nI (wo t))
  obtain ⟨r, h6, h7⟩ := pr_lasts X (p := xs (x3 + 1).toNatClampNeg)
  unfold FL_12
  refine ⟨hx.1, ?_⟩
  rintro s rfl
  refine h6 _ ?_
  refine ⟨hx.1, ?_⟩
  rintro s rfl
  refine h7 _ (br_t rfl ?_)
  rintro x rfl
  exact R _ _ _ _ _ _ _ _ _ _ _ _ _ _ _ _ _ _ _ _ _ _ _ _ _ _ _ _ _ _ _ _ _ _ _ _ _ _ _ _ _ _ _ _ _ _ _ _ _ _ _ _ _ _ _ _ _ _ _ _ _ _ _ _ _ _ _ _ _ _ _ _ _ _ _ _ _ ⟨W, H, thN, boN, loN, pa, fa, wo, T, K, A, S, C1, N1, N2, cb, cf, et⟩
theorem fl_13 {L : Nat} {xs : Nat → Int32} {rec : RecT} {x3 : Int32} {B : Nat} {tr : Int64} {rl : Int32} {rp : Int32} {rt : Int32} {rb : Nat → Int32} {tsT : Int32} {tbT : Int32} {tlT : Int32} {tbo : Int32} {tlo : Int32} {tth : Int32} {tw : Int32} {th : Int32} {tall : Int32} {ttop : Int32} {tleft : Int32} {tright : Int32} {tparts : Nat → Int32} {tyl : Nat → Int32} {twl : Nat → Int32} {tfl : Nat → Int32} {tol : Nat → Int32} {dsT : Int32} {dbT : Int32} {dlT : Int32} {dbo : Int32} {dlo : Int32} {dth : Int32} {dw : Int32} {dh : Int32} {dall : Int32} {dtop : Int32} {dleft : Int32} {dright : Int32} {dparts : Nat → Int32} {dyl : Nat → Int32} {dwl : Nat → Int32} {dfl : Nat → Int32} {dol : Nat → Int32} {known : Int32} {rows : Nat → Int32} {k1 : Int32} {f1 : Nat → Int32} {k2 : Int32} {f2 : Nat → Int32} {ik : Nat → Int32} {blf : Int32} {sets : Nat → Int32} {sums : Nat → Int32} {lows : Nat → Int32} {highs : Nat → Int32} {hl : Int32} {found : Int32} {each : Int32} {hlf : Int32} {hp : Nat → Int32} {path : Nat → Int32} {fr : Nat → Int32} {ysz : Int32} {yat : Int32} {ybg : Int32} {ytk : Int32} {ytd : Int32} {und : Int32} {cam : Int32} {yea : Int32} {tr7 : Int64} {ytx : Nat → Int32} {yrd : Nat → Int32} {hill : Nat → Int32} {now : Nat → Int32} {undn : Nat → Int32} {need : Nat → Int32} {cmo : Nat → Int32} {plc : Nat → Int32} {fr7 : Nat → Int32} {kept : Nat → Int32} (hB : B ≤ 600000) (hx : xin L x3) (J : Inv B tr rl rb tbo tlo tth tw th tall ttop tleft tright tparts tfl tol known rows k1 f1 k2 f2 ik blf sets sums hl found each hlf hp fr ysz und cam tr7 ytx hill now undn cmo kept) (R : hRec (B + 1000) rec (x3 + 5)) : FL_13 L xs rec x3 tr rl rp rt rb tsT tbT tlT tbo tlo tth tw th tall ttop tleft tright tparts tyl twl tfl tol dsT dbT dlT dbo dlo dth dw dh dall dtop dleft dright dparts dyl dwl dfl dol known rows k1 f1 k2 f2 ik blf sets sums lows highs hl found each hlf hp path fr ysz yat ybg ytk ytd und cam yea tr7 ytx yrd hill now undn need cmo plc fr7 kept := by
  obtain ⟨W, H, thN, boN, loN, pa, fa, wo, T, K, A, S, C, M1, M2, cb, cf, et⟩ := J
  have C1 := iC_mono A.1 (show B ≤ B + 1000 by omega) C
  have N1 := iM_mono A.1 (show B ≤ B + 1000 by omega) M1
  have N2 := iM_mono A.1 (show B ≤ B + 1000 by omega) M2
  obtain ⟨kk, hkk, ek1, ek2, R0, Rj⟩ := id C
  obtain ⟨dg, st, yr, ye, wh, R1⟩ := rR0.mp R0
  have X := mk_cXY A R1
  have hw := fun (t : Nat) (ht : t < thN) => (⟨(A.2.2.2.2.2.2.2.2.2.2 t ht).2.1, (A.2.2.2.2.2.2.2.2.2.2 t ht).2.2.2.1, (A.2.2.2.2.2.2.2.2.2.2 t ht).2.2.2.2.2⟩ : wo t ≤ 99 ∧ tol t = nI (wo t) ∧ hill (25 + 4 * t) = nI (wo t))
  obtain ⟨r, h6, h7⟩ := pr_first X 
  unfold FL_13
  refine h6 _ ?_
  refine h7 _ (br_t rfl ?_)
  rintro x rfl
  exact R _ _ _ _ _ _ _ _ _ _ _ _ _ _ _ _ _ _ _ _ _ _ _ _ _ _ _ _ _ _ _ _ _ _ _ _ _ _ _ _ _ _ _ _ _ _ _ _ _ _ _ _ _ _ _ _ _ _ _ _ _ _ _ _ _ _ _ _ _ _ _ _ _ _ _ _ _ ⟨W, H, thN, boN, loN, pa, fa, wo, T, K, A, S, C1, N1, N2, cb, cf, et⟩
theorem fl_14 {L : Nat} {xs : Nat → Int32} {rec : RecT} {x3 : Int32} {B : Nat} {tr : Int64} {rl : Int32} {rp : Int32} {rt : Int32} {rb : Nat → Int32} {tsT : Int32} {tbT : Int32} {tlT : Int32} {tbo : Int32} {tlo : Int32} {tth : Int32} {tw : Int32} {th : Int32} {tall : Int32} {ttop : Int32} {tleft : Int32} {tright : Int32} {tparts : Nat → Int32} {tyl : Nat → Int32} {twl : Nat → Int32} {tfl : Nat → Int32} {tol : Nat → Int32} {dsT : Int32} {dbT : Int32} {dlT : Int32} {dbo : Int32} {dlo : Int32} {dth : Int32} {dw : Int32} {dh : Int32} {dall : Int32} {dtop : Int32} {dleft : Int32} {dright : Int32} {dparts : Nat → Int32} {dyl : Nat → Int32} {dwl : Nat → Int32} {dfl : Nat → Int32} {dol : Nat → Int32} {known : Int32} {rows : Nat → Int32} {k1 : Int32} {f1 : Nat → Int32} {k2 : Int32} {f2 : Nat → Int32} {ik : Nat → Int32} {blf : Int32} {sets : Nat → Int32} {sums : Nat → Int32} {lows : Nat → Int32} {highs : Nat → Int32} {hl : Int32} {found : Int32} {each : Int32} {hlf : Int32} {hp : Nat → Int32} {path : Nat → Int32} {fr : Nat → Int32} {ysz : Int32} {yat : Int32} {ybg : Int32} {ytk : Int32} {ytd : Int32} {und : Int32} {cam : Int32} {yea : Int32} {tr7 : Int64} {ytx : Nat → Int32} {yrd : Nat → Int32} {hill : Nat → Int32} {now : Nat → Int32} {undn : Nat → Int32} {need : Nat → Int32} {cmo : Nat → Int32} {plc : Nat → Int32} {fr7 : Nat → Int32} {kept : Nat → Int32} (hB : B ≤ 600000) (hx : xin L x3) (J : Inv B tr rl rb tbo tlo tth tw th tall ttop tleft tright tparts tfl tol known rows k1 f1 k2 f2 ik blf sets sums hl found each hlf hp fr ysz und cam tr7 ytx hill now undn cmo kept) (R : hRec (B + 1000) rec (x3 + 5)) : FL_14 L xs rec x3 tr rl rp rt rb tsT tbT tlT tbo tlo tth tw th tall ttop tleft tright tparts tyl twl tfl tol dsT dbT dlT dbo dlo dth dw dh dall dtop dleft dright dparts dyl dwl dfl dol known rows k1 f1 k2 f2 ik blf sets sums lows highs hl found each hlf hp path fr ysz yat ybg ytk ytd und cam yea tr7 ytx yrd hill now undn need cmo plc fr7 kept := by
  obtain ⟨W, H, thN, boN, loN, pa, fa, wo, T, K, A, S, C, M1, M2, cb, cf, et⟩ := J
  have C1 := iC_mono A.1 (show B ≤ B + 1000 by omega) C
  have N1 := iM_mono A.1 (show B ≤ B + 1000 by omega) M1
  have N2 := iM_mono A.1 (show B ≤ B + 1000 by omega) M2
  obtain ⟨kk, hkk, ek1, ek2, R0, Rj⟩ := id C
  obtain ⟨dg, st, yr, ye, wh, R1⟩ := rR0.mp R0
  have X := mk_cXY A R1
  have hw := fun (t : Nat) (ht : t < thN) => (⟨(A.2.2.2.2.2.2.2.2.2.2 t ht).2.1, (A.2.2.2.2.2.2.2.2.2.2 t ht).2.2.2.1, (A.2.2.2.2.2.2.2.2.2.2 t ht).2.2.2.2.2⟩ : wo t ≤ 99 ∧ tol t = nI (wo t) ∧ hill (25 + 4 * t) = nI (wo t))
  obtain ⟨r, h6, h7⟩ := pr_needs X (p := xs (x3 + 1).toNatClampNeg) (p1 := xs (x3 + 2).toNatClampNeg)
  unfold FL_14
  refine ⟨hx.1, ?_⟩
  rintro s rfl
  refine ⟨hx.2.1, ?_⟩
  rintro s rfl
  refine h6 _ ?_
  refine ⟨hx.1, ?_⟩
  rintro s rfl
  refine ⟨hx.2.1, ?_⟩
  rintro s rfl
  refine h7 _ (br_t rfl ?_)
  rintro x rfl
  exact R _ _ _ _ _ _ _ _ _ _ _ _ _ _ _ _ _ _ _ _ _ _ _ _ _ _ _ _ _ _ _ _ _ _ _ _ _ _ _ _ _ _ _ _ _ _ _ _ _ _ _ _ _ _ _ _ _ _ _ _ _ _ _ _ _ _ _ _ _ _ _ _ _ _ _ _ _ ⟨W, H, thN, boN, loN, pa, fa, wo, T, K, A, S, C1, N1, N2, cb, cf, et⟩
theorem fl_15 {L : Nat} {xs : Nat → Int32} {rec : RecT} {x3 : Int32} {B : Nat} {tr : Int64} {rl : Int32} {rp : Int32} {rt : Int32} {rb : Nat → Int32} {tsT : Int32} {tbT : Int32} {tlT : Int32} {tbo : Int32} {tlo : Int32} {tth : Int32} {tw : Int32} {th : Int32} {tall : Int32} {ttop : Int32} {tleft : Int32} {tright : Int32} {tparts : Nat → Int32} {tyl : Nat → Int32} {twl : Nat → Int32} {tfl : Nat → Int32} {tol : Nat → Int32} {dsT : Int32} {dbT : Int32} {dlT : Int32} {dbo : Int32} {dlo : Int32} {dth : Int32} {dw : Int32} {dh : Int32} {dall : Int32} {dtop : Int32} {dleft : Int32} {dright : Int32} {dparts : Nat → Int32} {dyl : Nat → Int32} {dwl : Nat → Int32} {dfl : Nat → Int32} {dol : Nat → Int32} {known : Int32} {rows : Nat → Int32} {k1 : Int32} {f1 : Nat → Int32} {k2 : Int32} {f2 : Nat → Int32} {ik : Nat → Int32} {blf : Int32} {sets : Nat → Int32} {sums : Nat → Int32} {lows : Nat → Int32} {highs : Nat → Int32} {hl : Int32} {found : Int32} {each : Int32} {hlf : Int32} {hp : Nat → Int32} {path : Nat → Int32} {fr : Nat → Int32} {ysz : Int32} {yat : Int32} {ybg : Int32} {ytk : Int32} {ytd : Int32} {und : Int32} {cam : Int32} {yea : Int32} {tr7 : Int64} {ytx : Nat → Int32} {yrd : Nat → Int32} {hill : Nat → Int32} {now : Nat → Int32} {undn : Nat → Int32} {need : Nat → Int32} {cmo : Nat → Int32} {plc : Nat → Int32} {fr7 : Nat → Int32} {kept : Nat → Int32} (hB : B ≤ 600000) (hx : xin L x3) (J : Inv B tr rl rb tbo tlo tth tw th tall ttop tleft tright tparts tfl tol known rows k1 f1 k2 f2 ik blf sets sums hl found each hlf hp fr ysz und cam tr7 ytx hill now undn cmo kept) (R : hRec (B + 1000) rec (x3 + 5)) : FL_15 L xs rec x3 tr rl rp rt rb tsT tbT tlT tbo tlo tth tw th tall ttop tleft tright tparts tyl twl tfl tol dsT dbT dlT dbo dlo dth dw dh dall dtop dleft dright dparts dyl dwl dfl dol known rows k1 f1 k2 f2 ik blf sets sums lows highs hl found each hlf hp path fr ysz yat ybg ytk ytd und cam yea tr7 ytx yrd hill now undn need cmo plc fr7 kept := by
  obtain ⟨W, H, thN, boN, loN, pa, fa, wo, T, K, A, S, C, M1, M2, cb, cf, et⟩ := J
  have C1 := iC_mono A.1 (show B ≤ B + 1000 by omega) C
  have N1 := iM_mono A.1 (show B ≤ B + 1000 by omega) M1
  have N2 := iM_mono A.1 (show B ≤ B + 1000 by omega) M2
  obtain ⟨kk, hkk, ek1, ek2, R0, Rj⟩ := id C
  obtain ⟨dg, st, yr, ye, wh, R1⟩ := rR0.mp R0
  have X := mk_cXY A R1
  have hw := fun (t : Nat) (ht : t < thN) => (⟨(A.2.2.2.2.2.2.2.2.2.2 t ht).2.1, (A.2.2.2.2.2.2.2.2.2.2 t ht).2.2.2.1, (A.2.2.2.2.2.2.2.2.2.2 t ht).2.2.2.2.2⟩ : wo t ≤ 99 ∧ tol t = nI (wo t) ∧ hill (25 + 4 * t) = nI (wo t))
  obtain ⟨r, u, h6, h7⟩ := pr_kept (need := need) (p := xs (x3 + 1).toNatClampNeg) (p1 := xs (x3 + 2).toNatClampNeg) A R1 (by omega)
  unfold FL_15
  refine ⟨hx.1, ?_⟩
  rintro s rfl
  refine ⟨hx.2.1, ?_⟩
  rintro s rfl
  refine h6 _ ?_
  refine ⟨hx.1, ?_⟩
  rintro s rfl
  refine ⟨hx.2.1, ?_⟩
  rintro s rfl
  refine h7 _ (br_t rfl ?_)
  rintro x rfl
  exact R _ _ _ _ _ _ _ _ _ _ _ _ _ _ _ _ _ _ _ _ _ _ _ _ _ _ _ _ _ _ _ _ _ _ _ _ _ _ _ _ _ _ _ _ _ _ _ _ _ _ _ _ _ _ _ _ _ _ _ _ _ _ _ _ _ _ _ _ _ _ _ _ _ _ _ _ _ ⟨W, H, thN, boN, loN, pa, fa, wo, T, K, A, S, C1, N1, N2, cb, cf, et⟩
theorem fl_16 {L : Nat} {xs : Nat → Int32} {rec : RecT} {x3 : Int32} {B : Nat} {tr : Int64} {rl : Int32} {rp : Int32} {rt : Int32} {rb : Nat → Int32} {tsT : Int32} {tbT : Int32} {tlT : Int32} {tbo : Int32} {tlo : Int32} {tth : Int32} {tw : Int32} {th : Int32} {tall : Int32} {ttop : Int32} {tleft : Int32} {tright : Int32} {tparts : Nat → Int32} {tyl : Nat → Int32} {twl : Nat → Int32} {tfl : Nat → Int32} {tol : Nat → Int32} {dsT : Int32} {dbT : Int32} {dlT : Int32} {dbo : Int32} {dlo : Int32} {dth : Int32} {dw : Int32} {dh : Int32} {dall : Int32} {dtop : Int32} {dleft : Int32} {dright : Int32} {dparts : Nat → Int32} {dyl : Nat → Int32} {dwl : Nat → Int32} {dfl : Nat → Int32} {dol : Nat → Int32} {known : Int32} {rows : Nat → Int32} {k1 : Int32} {f1 : Nat → Int32} {k2 : Int32} {f2 : Nat → Int32} {ik : Nat → Int32} {blf : Int32} {sets : Nat → Int32} {sums : Nat → Int32} {lows : Nat → Int32} {highs : Nat → Int32} {hl : Int32} {found : Int32} {each : Int32} {hlf : Int32} {hp : Nat → Int32} {path : Nat → Int32} {fr : Nat → Int32} {ysz : Int32} {yat : Int32} {ybg : Int32} {ytk : Int32} {ytd : Int32} {und : Int32} {cam : Int32} {yea : Int32} {tr7 : Int64} {ytx : Nat → Int32} {yrd : Nat → Int32} {hill : Nat → Int32} {now : Nat → Int32} {undn : Nat → Int32} {need : Nat → Int32} {cmo : Nat → Int32} {plc : Nat → Int32} {fr7 : Nat → Int32} {kept : Nat → Int32} (hB : B ≤ 600000) (hx : xin L x3) (J : Inv B tr rl rb tbo tlo tth tw th tall ttop tleft tright tparts tfl tol known rows k1 f1 k2 f2 ik blf sets sums hl found each hlf hp fr ysz und cam tr7 ytx hill now undn cmo kept) (R : hRec (B + 1000) rec (x3 + 5)) : FL_16 L xs rec x3 tr rl rp rt rb tsT tbT tlT tbo tlo tth tw th tall ttop tleft tright tparts tyl twl tfl tol dsT dbT dlT dbo dlo dth dw dh dall dtop dleft dright dparts dyl dwl dfl dol known rows k1 f1 k2 f2 ik blf sets sums lows highs hl found each hlf hp path fr ysz yat ybg ytk ytd und cam yea tr7 ytx yrd hill now undn need cmo plc fr7 kept := by
  obtain ⟨W, H, thN, boN, loN, pa, fa, wo, T, K, A, S, C, M1, M2, cb, cf, et⟩ := J
  have C1 := iC_mono A.1 (show B ≤ B + 1000 by omega) C
  have N1 := iM_mono A.1 (show B ≤ B + 1000 by omega) M1
  have N2 := iM_mono A.1 (show B ≤ B + 1000 by omega) M2
  obtain ⟨kk, hkk, ek1, ek2, R0, Rj⟩ := id C
  obtain ⟨dg, st, yr, ye, wh, R1⟩ := rR0.mp R0
  have X := mk_cXY A R1
  have hw := fun (t : Nat) (ht : t < thN) => (⟨(A.2.2.2.2.2.2.2.2.2.2 t ht).2.1, (A.2.2.2.2.2.2.2.2.2.2 t ht).2.2.2.1, (A.2.2.2.2.2.2.2.2.2.2 t ht).2.2.2.2.2⟩ : wo t ≤ 99 ∧ tol t = nI (wo t) ∧ hill (25 + 4 * t) = nI (wo t))
  obtain ⟨r, lf2, lo2, hi2, sets2, sums2, h6, h7, cb2⟩ := pr_bestDig (lo := lows) (hi := highs) (p := xs (x3 + 1).toNatClampNeg) (p1 := xs (x3 + 2).toNatClampNeg) S R1 cb
  unfold FL_16
  refine ⟨hx.1, ?_⟩
  rintro s rfl
  refine ⟨hx.2.1, ?_⟩
  rintro s rfl
  refine h6 _ ?_
  refine ⟨hx.1, ?_⟩
  rintro s rfl
  refine ⟨hx.2.1, ?_⟩
  rintro s rfl
  refine h7 _ (br_t rfl ?_)
  rintro x rfl
  exact R _ _ _ _ _ _ _ _ _ _ _ _ _ _ _ _ _ _ _ _ _ _ _ _ _ _ _ _ _ _ _ _ _ _ _ _ _ _ _ _ _ _ _ _ _ _ _ _ _ _ _ _ _ _ _ _ _ _ _ _ _ _ _ _ _ _ _ _ _ _ _ _ _ _ _ _ _ ⟨W, H, thN, boN, loN, pa, fa, wo, T, K, A, S, C1, N1, N2, cb2, cf, et⟩
theorem fl_17 {L : Nat} {xs : Nat → Int32} {rec : RecT} {x3 : Int32} {B : Nat} {tr : Int64} {rl : Int32} {rp : Int32} {rt : Int32} {rb : Nat → Int32} {tsT : Int32} {tbT : Int32} {tlT : Int32} {tbo : Int32} {tlo : Int32} {tth : Int32} {tw : Int32} {th : Int32} {tall : Int32} {ttop : Int32} {tleft : Int32} {tright : Int32} {tparts : Nat → Int32} {tyl : Nat → Int32} {twl : Nat → Int32} {tfl : Nat → Int32} {tol : Nat → Int32} {dsT : Int32} {dbT : Int32} {dlT : Int32} {dbo : Int32} {dlo : Int32} {dth : Int32} {dw : Int32} {dh : Int32} {dall : Int32} {dtop : Int32} {dleft : Int32} {dright : Int32} {dparts : Nat → Int32} {dyl : Nat → Int32} {dwl : Nat → Int32} {dfl : Nat → Int32} {dol : Nat → Int32} {known : Int32} {rows : Nat → Int32} {k1 : Int32} {f1 : Nat → Int32} {k2 : Int32} {f2 : Nat → Int32} {ik : Nat → Int32} {blf : Int32} {sets : Nat → Int32} {sums : Nat → Int32} {lows : Nat → Int32} {highs : Nat → Int32} {hl : Int32} {found : Int32} {each : Int32} {hlf : Int32} {hp : Nat → Int32} {path : Nat → Int32} {fr : Nat → Int32} {ysz : Int32} {yat : Int32} {ybg : Int32} {ytk : Int32} {ytd : Int32} {und : Int32} {cam : Int32} {yea : Int32} {tr7 : Int64} {ytx : Nat → Int32} {yrd : Nat → Int32} {hill : Nat → Int32} {now : Nat → Int32} {undn : Nat → Int32} {need : Nat → Int32} {cmo : Nat → Int32} {plc : Nat → Int32} {fr7 : Nat → Int32} {kept : Nat → Int32} (hB : B ≤ 600000) (hx : xin L x3) (J : Inv B tr rl rb tbo tlo tth tw th tall ttop tleft tright tparts tfl tol known rows k1 f1 k2 f2 ik blf sets sums hl found each hlf hp fr ysz und cam tr7 ytx hill now undn cmo kept) (R : hRec (B + 1000) rec (x3 + 5)) : FL_17 L xs rec x3 tr rl rp rt rb tsT tbT tlT tbo tlo tth tw th tall ttop tleft tright tparts tyl twl tfl tol dsT dbT dlT dbo dlo dth dw dh dall dtop dleft dright dparts dyl dwl dfl dol known rows k1 f1 k2 f2 ik blf sets sums lows highs hl found each hlf hp path fr ysz yat ybg ytk ytd und cam yea tr7 ytx yrd hill now undn need cmo plc fr7 kept := by
  obtain ⟨W, H, thN, boN, loN, pa, fa, wo, T, K, A, S, C, M1, M2, cb, cf, et⟩ := J
  have C1 := iC_mono A.1 (show B ≤ B + 1000 by omega) C
  have N1 := iM_mono A.1 (show B ≤ B + 1000 by omega) M1
  have N2 := iM_mono A.1 (show B ≤ B + 1000 by omega) M2
  obtain ⟨kk, hkk, ek1, ek2, R0, Rj⟩ := id C
  obtain ⟨dg, st, yr, ye, wh, R1⟩ := rR0.mp R0
  have X := mk_cXY A R1
  have hw := fun (t : Nat) (ht : t < thN) => (⟨(A.2.2.2.2.2.2.2.2.2.2 t ht).2.1, (A.2.2.2.2.2.2.2.2.2.2 t ht).2.2.2.1, (A.2.2.2.2.2.2.2.2.2.2 t ht).2.2.2.2.2⟩ : wo t ≤ 99 ∧ tol t = nI (wo t) ∧ hill (25 + 4 * t) = nI (wo t))
  obtain ⟨r, h6, h7⟩ := pr_far X (p := xs (x3 + 1).toNatClampNeg)
  unfold FL_17
  refine ⟨hx.1, ?_⟩
  rintro s rfl
  refine h6 _ ?_
  refine ⟨hx.1, ?_⟩
  rintro s rfl
  refine h7 _ (br_t rfl ?_)
  rintro x rfl
  exact R _ _ _ _ _ _ _ _ _ _ _ _ _ _ _ _ _ _ _ _ _ _ _ _ _ _ _ _ _ _ _ _ _ _ _ _ _ _ _ _ _ _ _ _ _ _ _ _ _ _ _ _ _ _ _ _ _ _ _ _ _ _ _ _ _ _ _ _ _ _ _ _ _ _ _ _ _ ⟨W, H, thN, boN, loN, pa, fa, wo, T, K, A, S, C1, N1, N2, cb, cf, et⟩
theorem fl_18 {L : Nat} {xs : Nat → Int32} {rec : RecT} {x3 : Int32} {B : Nat} {tr : Int64} {rl : Int32} {rp : Int32} {rt : Int32} {rb : Nat → Int32} {tsT : Int32} {tbT : Int32} {tlT : Int32} {tbo : Int32} {tlo : Int32} {tth : Int32} {tw : Int32} {th : Int32} {tall : Int32} {ttop : Int32} {tleft : Int32} {tright : Int32} {tparts : Nat → Int32} {tyl : Nat → Int32} {twl : Nat → Int32} {tfl : Nat → Int32} {tol : Nat → Int32} {dsT : Int32} {dbT : Int32} {dlT : Int32} {dbo : Int32} {dlo : Int32} {dth : Int32} {dw : Int32} {dh : Int32} {dall : Int32} {dtop : Int32} {dleft : Int32} {dright : Int32} {dparts : Nat → Int32} {dyl : Nat → Int32} {dwl : Nat → Int32} {dfl : Nat → Int32} {dol : Nat → Int32} {known : Int32} {rows : Nat → Int32} {k1 : Int32} {f1 : Nat → Int32} {k2 : Int32} {f2 : Nat → Int32} {ik : Nat → Int32} {blf : Int32} {sets : Nat → Int32} {sums : Nat → Int32} {lows : Nat → Int32} {highs : Nat → Int32} {hl : Int32} {found : Int32} {each : Int32} {hlf : Int32} {hp : Nat → Int32} {path : Nat → Int32} {fr : Nat → Int32} {ysz : Int32} {yat : Int32} {ybg : Int32} {ytk : Int32} {ytd : Int32} {und : Int32} {cam : Int32} {yea : Int32} {tr7 : Int64} {ytx : Nat → Int32} {yrd : Nat → Int32} {hill : Nat → Int32} {now : Nat → Int32} {undn : Nat → Int32} {need : Nat → Int32} {cmo : Nat → Int32} {plc : Nat → Int32} {fr7 : Nat → Int32} {kept : Nat → Int32} (hB : B ≤ 600000) (hx : xin L x3) (J : Inv B tr rl rb tbo tlo tth tw th tall ttop tleft tright tparts tfl tol known rows k1 f1 k2 f2 ik blf sets sums hl found each hlf hp fr ysz und cam tr7 ytx hill now undn cmo kept) (R : hRec (B + 1000) rec (x3 + 5)) : FL_18 L xs rec x3 tr rl rp rt rb tsT tbT tlT tbo tlo tth tw th tall ttop tleft tright tparts tyl twl tfl tol dsT dbT dlT dbo dlo dth dw dh dall dtop dleft dright dparts dyl dwl dfl dol known rows k1 f1 k2 f2 ik blf sets sums lows highs hl found each hlf hp path fr ysz yat ybg ytk ytd und cam yea tr7 ytx yrd hill now undn need cmo plc fr7 kept := by
  obtain ⟨W, H, thN, boN, loN, pa, fa, wo, T, K, A, S, C, M1, M2, cb, cf, et⟩ := J
  have C1 := iC_mono A.1 (show B ≤ B + 1000 by omega) C
  have N1 := iM_mono A.1 (show B ≤ B + 1000 by omega) M1
  have N2 := iM_mono A.1 (show B ≤ B + 1000 by omega) M2
  obtain ⟨kk, hkk, ek1, ek2, R0, Rj⟩ := id C
  obtain ⟨dg, st, yr, ye, wh, R1⟩ := rR0.mp R0
  have X := mk_cXY A R1
  have hw := fun (t : Nat) (ht : t < thN) => (⟨(A.2.2.2.2.2.2.2.2.2.2 t ht).2.1, (A.2.2.2.2.2.2.2.2.2.2 t ht).2.2.2.1, (A.2.2.2.2.2.2.2.2.2.2 t ht).2.2.2.2.2⟩ : wo t ≤ 99 ∧ tol t = nI (wo t) ∧ hill (25 + 4 * t) = nI (wo t))
  obtain ⟨r, h6, h7⟩ := pr_sell X hw (p := xs (x3 + 1).toNatClampNeg) (p1 := xs (x3 + 2).toNatClampNeg) (p2 := xs (x3 + 3).toNatClampNeg)
  unfold FL_18
  refine ⟨hx.1, ?_⟩
  rintro s rfl
  refine ⟨hx.2.1, ?_⟩
  rintro s rfl
  refine ⟨hx.2.2.1, ?_⟩
  rintro s rfl
  refine h6 _ ?_
  refine ⟨hx.1, ?_⟩
  rintro s rfl
  refine ⟨hx.2.1, ?_⟩
  rintro s rfl
  refine ⟨hx.2.2.1, ?_⟩
  rintro s rfl
  refine h7 _ (br_t rfl ?_)
  rintro x rfl
  exact R _ _ _ _ _ _ _ _ _ _ _ _ _ _ _ _ _ _ _ _ _ _ _ _ _ _ _ _ _ _ _ _ _ _ _ _ _ _ _ _ _ _ _ _ _ _ _ _ _ _ _ _ _ _ _ _ _ _ _ _ _ _ _ _ _ _ _ _ _ _ _ _ _ _ _ _ _ ⟨W, H, thN, boN, loN, pa, fa, wo, T, K, A, S, C1, N1, N2, cb, cf, et⟩
theorem fl_19 {L : Nat} {xs : Nat → Int32} {rec : RecT} {x3 : Int32} {B : Nat} {tr : Int64} {rl : Int32} {rp : Int32} {rt : Int32} {rb : Nat → Int32} {tsT : Int32} {tbT : Int32} {tlT : Int32} {tbo : Int32} {tlo : Int32} {tth : Int32} {tw : Int32} {th : Int32} {tall : Int32} {ttop : Int32} {tleft : Int32} {tright : Int32} {tparts : Nat → Int32} {tyl : Nat → Int32} {twl : Nat → Int32} {tfl : Nat → Int32} {tol : Nat → Int32} {dsT : Int32} {dbT : Int32} {dlT : Int32} {dbo : Int32} {dlo : Int32} {dth : Int32} {dw : Int32} {dh : Int32} {dall : Int32} {dtop : Int32} {dleft : Int32} {dright : Int32} {dparts : Nat → Int32} {dyl : Nat → Int32} {dwl : Nat → Int32} {dfl : Nat → Int32} {dol : Nat → Int32} {known : Int32} {rows : Nat → Int32} {k1 : Int32} {f1 : Nat → Int32} {k2 : Int32} {f2 : Nat → Int32} {ik : Nat → Int32} {blf : Int32} {sets : Nat → Int32} {sums : Nat → Int32} {lows : Nat → Int32} {highs : Nat → Int32} {hl : Int32} {found : Int32} {each : Int32} {hlf : Int32} {hp : Nat → Int32} {path : Nat → Int32} {fr : Nat → Int32} {ysz : Int32} {yat : Int32} {ybg : Int32} {ytk : Int32} {ytd : Int32} {und : Int32} {cam : Int32} {yea : Int32} {tr7 : Int64} {ytx : Nat → Int32} {yrd : Nat → Int32} {hill : Nat → Int32} {now : Nat → Int32} {undn : Nat → Int32} {need : Nat → Int32} {cmo : Nat → Int32} {plc : Nat → Int32} {fr7 : Nat → Int32} {kept : Nat → Int32} (hB : B ≤ 600000) (hx : xin L x3) (J : Inv B tr rl rb tbo tlo tth tw th tall ttop tleft tright tparts tfl tol known rows k1 f1 k2 f2 ik blf sets sums hl found each hlf hp fr ysz und cam tr7 ytx hill now undn cmo kept) (R : hRec (B + 1000) rec (x3 + 5)) : FL_19 L xs rec x3 tr rl rp rt rb tsT tbT tlT tbo tlo tth tw th tall ttop tleft tright tparts tyl twl tfl tol dsT dbT dlT dbo dlo dth dw dh dall dtop dleft dright dparts dyl dwl dfl dol known rows k1 f1 k2 f2 ik blf sets sums lows highs hl found each hlf hp path fr ysz yat ybg ytk ytd und cam yea tr7 ytx yrd hill now undn need cmo plc fr7 kept := by
  obtain ⟨W, H, thN, boN, loN, pa, fa, wo, T, K, A, S, C, M1, M2, cb, cf, et⟩ := J
  have C1 := iC_mono A.1 (show B ≤ B + 1000 by omega) C
  have N1 := iM_mono A.1 (show B ≤ B + 1000 by omega) M1
  have N2 := iM_mono A.1 (show B ≤ B + 1000 by omega) M2
  obtain ⟨kk, hkk, ek1, ek2, R0, Rj⟩ := id C
  obtain ⟨dg, st, yr, ye, wh, R1⟩ := rR0.mp R0
  have X := mk_cXY A R1
  have hw := fun (t : Nat) (ht : t < thN) => (⟨(A.2.2.2.2.2.2.2.2.2.2 t ht).2.1, (A.2.2.2.2.2.2.2.2.2.2 t ht).2.2.2.1, (A.2.2.2.2.2.2.2.2.2.2 t ht).2.2.2.2.2⟩ : wo t ≤ 99 ∧ tol t = nI (wo t) ∧ hill (25 + 4 * t) = nI (wo t))
  obtain ⟨r, h6, h7⟩ := pr_spare X (p := xs (x3 + 1).toNatClampNeg)
  unfold FL_19
  refine ⟨hx.1, ?_⟩
  rintro s rfl
  refine h6 _ ?_
  refine ⟨hx.1, ?_⟩
  rintro s rfl
  refine h7 _ (br_t rfl ?_)
  rintro x rfl
  exact R _ _ _ _ _ _ _ _ _ _ _ _ _ _ _ _ _ _ _ _ _ _ _ _ _ _ _ _ _ _ _ _ _ _ _ _ _ _ _ _ _ _ _ _ _ _ _ _ _ _ _ _ _ _ _ _ _ _ _ _ _ _ _ _ _ _ _ _ _ _ _ _ _ _ _ _ _ ⟨W, H, thN, boN, loN, pa, fa, wo, T, K, A, S, C1, N1, N2, cb, cf, et⟩
theorem fl_20 {L : Nat} {xs : Nat → Int32} {rec : RecT} {x3 : Int32} {B : Nat} {tr : Int64} {rl : Int32} {rp : Int32} {rt : Int32} {rb : Nat → Int32} {tsT : Int32} {tbT : Int32} {tlT : Int32} {tbo : Int32} {tlo : Int32} {tth : Int32} {tw : Int32} {th : Int32} {tall : Int32} {ttop : Int32} {tleft : Int32} {tright : Int32} {tparts : Nat → Int32} {tyl : Nat → Int32} {twl : Nat → Int32} {tfl : Nat → Int32} {tol : Nat → Int32} {dsT : Int32} {dbT : Int32} {dlT : Int32} {dbo : Int32} {dlo : Int32} {dth : Int32} {dw : Int32} {dh : Int32} {dall : Int32} {dtop : Int32} {dleft : Int32} {dright : Int32} {dparts : Nat → Int32} {dyl : Nat → Int32} {dwl : Nat → Int32} {dfl : Nat → Int32} {dol : Nat → Int32} {known : Int32} {rows : Nat → Int32} {k1 : Int32} {f1 : Nat → Int32} {k2 : Int32} {f2 : Nat → Int32} {ik : Nat → Int32} {blf : Int32} {sets : Nat → Int32} {sums : Nat → Int32} {lows : Nat → Int32} {highs : Nat → Int32} {hl : Int32} {found : Int32} {each : Int32} {hlf : Int32} {hp : Nat → Int32} {path : Nat → Int32} {fr : Nat → Int32} {ysz : Int32} {yat : Int32} {ybg : Int32} {ytk : Int32} {ytd : Int32} {und : Int32} {cam : Int32} {yea : Int32} {tr7 : Int64} {ytx : Nat → Int32} {yrd : Nat → Int32} {hill : Nat → Int32} {now : Nat → Int32} {undn : Nat → Int32} {need : Nat → Int32} {cmo : Nat → Int32} {plc : Nat → Int32} {fr7 : Nat → Int32} {kept : Nat → Int32} (hB : B ≤ 600000) (hx : xin L x3) (J : Inv B tr rl rb tbo tlo tth tw th tall ttop tleft tright tparts tfl tol known rows k1 f1 k2 f2 ik blf sets sums hl found each hlf hp fr ysz und cam tr7 ytx hill now undn cmo kept) (R : hRec (B + 1000) rec (x3 + 5)) : FL_20 L xs rec x3 tr rl rp rt rb tsT tbT tlT tbo tlo tth tw th tall ttop tleft tright tparts tyl twl tfl tol dsT dbT dlT dbo dlo dth dw dh dall dtop dleft dright dparts dyl dwl dfl dol known rows k1 f1 k2 f2 ik blf sets sums lows highs hl found each hlf hp path fr ysz yat ybg ytk ytd und cam yea tr7 ytx yrd hill now undn need cmo plc fr7 kept := by
  obtain ⟨W, H, thN, boN, loN, pa, fa, wo, T, K, A, S, C, M1, M2, cb, cf, et⟩ := J
  have C1 := iC_mono A.1 (show B ≤ B + 1000 by omega) C
  have N1 := iM_mono A.1 (show B ≤ B + 1000 by omega) M1
  have N2 := iM_mono A.1 (show B ≤ B + 1000 by omega) M2
  obtain ⟨kk, hkk, ek1, ek2, R0, Rj⟩ := id C
  obtain ⟨dg, st, yr, ye, wh, R1⟩ := rR0.mp R0
  have X := mk_cXY A R1
  have hw := fun (t : Nat) (ht : t < thN) => (⟨(A.2.2.2.2.2.2.2.2.2.2 t ht).2.1, (A.2.2.2.2.2.2.2.2.2.2 t ht).2.2.2.1, (A.2.2.2.2.2.2.2.2.2.2 t ht).2.2.2.2.2⟩ : wo t ≤ 99 ∧ tol t = nI (wo t) ∧ hill (25 + 4 * t) = nI (wo t))
  obtain ⟨r, h6, h7⟩ := pr_rich X 
  unfold FL_20
  refine h6 _ ?_
  refine h7 _ (br_t rfl ?_)
  rintro x rfl
  exact R _ _ _ _ _ _ _ _ _ _ _ _ _ _ _ _ _ _ _ _ _ _ _ _ _ _ _ _ _ _ _ _ _ _ _ _ _ _ _ _ _ _ _ _ _ _ _ _ _ _ _ _ _ _ _ _ _ _ _ _ _ _ _ _ _ _ _ _ _ _ _ _ _ _ _ _ _ ⟨W, H, thN, boN, loN, pa, fa, wo, T, K, A, S, C1, N1, N2, cb, cf, et⟩
theorem fl_21 {L : Nat} {xs : Nat → Int32} {rec : RecT} {x3 : Int32} {B : Nat} {tr : Int64} {rl : Int32} {rp : Int32} {rt : Int32} {rb : Nat → Int32} {tsT : Int32} {tbT : Int32} {tlT : Int32} {tbo : Int32} {tlo : Int32} {tth : Int32} {tw : Int32} {th : Int32} {tall : Int32} {ttop : Int32} {tleft : Int32} {tright : Int32} {tparts : Nat → Int32} {tyl : Nat → Int32} {twl : Nat → Int32} {tfl : Nat → Int32} {tol : Nat → Int32} {dsT : Int32} {dbT : Int32} {dlT : Int32} {dbo : Int32} {dlo : Int32} {dth : Int32} {dw : Int32} {dh : Int32} {dall : Int32} {dtop : Int32} {dleft : Int32} {dright : Int32} {dparts : Nat → Int32} {dyl : Nat → Int32} {dwl : Nat → Int32} {dfl : Nat → Int32} {dol : Nat → Int32} {known : Int32} {rows : Nat → Int32} {k1 : Int32} {f1 : Nat → Int32} {k2 : Int32} {f2 : Nat → Int32} {ik : Nat → Int32} {blf : Int32} {sets : Nat → Int32} {sums : Nat → Int32} {lows : Nat → Int32} {highs : Nat → Int32} {hl : Int32} {found : Int32} {each : Int32} {hlf : Int32} {hp : Nat → Int32} {path : Nat → Int32} {fr : Nat → Int32} {ysz : Int32} {yat : Int32} {ybg : Int32} {ytk : Int32} {ytd : Int32} {und : Int32} {cam : Int32} {yea : Int32} {tr7 : Int64} {ytx : Nat → Int32} {yrd : Nat → Int32} {hill : Nat → Int32} {now : Nat → Int32} {undn : Nat → Int32} {need : Nat → Int32} {cmo : Nat → Int32} {plc : Nat → Int32} {fr7 : Nat → Int32} {kept : Nat → Int32} (hB : B ≤ 600000) (hx : xin L x3) (J : Inv B tr rl rb tbo tlo tth tw th tall ttop tleft tright tparts tfl tol known rows k1 f1 k2 f2 ik blf sets sums hl found each hlf hp fr ysz und cam tr7 ytx hill now undn cmo kept) (R : hRec (B + 1000) rec (x3 + 5)) : FL_21 L xs rec x3 tr rl rp rt rb tsT tbT tlT tbo tlo tth tw th tall ttop tleft tright tparts tyl twl tfl tol dsT dbT dlT dbo dlo dth dw dh dall dtop dleft dright dparts dyl dwl dfl dol known rows k1 f1 k2 f2 ik blf sets sums lows highs hl found each hlf hp path fr ysz yat ybg ytk ytd und cam yea tr7 ytx yrd hill now undn need cmo plc fr7 kept := by
  obtain ⟨W, H, thN, boN, loN, pa, fa, wo, T, K, A, S, C, M1, M2, cb, cf, et⟩ := J
  have C1 := iC_mono A.1 (show B ≤ B + 1000 by omega) C
  have N1 := iM_mono A.1 (show B ≤ B + 1000 by omega) M1
  have N2 := iM_mono A.1 (show B ≤ B + 1000 by omega) M2
  obtain ⟨kk, hkk, ek1, ek2, R0, Rj⟩ := id C
  obtain ⟨dg, st, yr, ye, wh, R1⟩ := rR0.mp R0
  have X := mk_cXY A R1
  have hw := fun (t : Nat) (ht : t < thN) => (⟨(A.2.2.2.2.2.2.2.2.2.2 t ht).2.1, (A.2.2.2.2.2.2.2.2.2.2 t ht).2.2.2.1, (A.2.2.2.2.2.2.2.2.2.2 t ht).2.2.2.2.2⟩ : wo t ≤ 99 ∧ tol t = nI (wo t) ∧ hill (25 + 4 * t) = nI (wo t))
  obtain ⟨r, h6, h7⟩ := pr_odds X (p := xs (x3 + 1).toNatClampNeg) (p1 := xs (x3 + 2).toNatClampNeg) (p2 := xs (x3 + 3).toNatClampNeg) (p3 := xs (x3 + 4).toNatClampNeg)
  unfold FL_21
  refine ⟨hx.1, ?_⟩
  rintro s rfl
  refine ⟨hx.2.1, ?_⟩
  rintro s rfl
  refine ⟨hx.2.2.1, ?_⟩
  rintro s rfl
  refine ⟨hx.2.2.2, ?_⟩
  rintro s rfl
  refine h6 _ ?_
  refine ⟨hx.1, ?_⟩
  rintro s rfl
  refine ⟨hx.2.1, ?_⟩
  rintro s rfl
  refine ⟨hx.2.2.1, ?_⟩
  rintro s rfl
  refine ⟨hx.2.2.2, ?_⟩
  rintro s rfl
  refine h7 _ (br_t rfl ?_)
  rintro x rfl
  exact R _ _ _ _ _ _ _ _ _ _ _ _ _ _ _ _ _ _ _ _ _ _ _ _ _ _ _ _ _ _ _ _ _ _ _ _ _ _ _ _ _ _ _ _ _ _ _ _ _ _ _ _ _ _ _ _ _ _ _ _ _ _ _ _ _ _ _ _ _ _ _ _ _ _ _ _ _ ⟨W, H, thN, boN, loN, pa, fa, wo, T, K, A, S, C1, N1, N2, cb, cf, et⟩
theorem fl_22 {L : Nat} {xs : Nat → Int32} {rec : RecT} {x3 : Int32} {B : Nat} {tr : Int64} {rl : Int32} {rp : Int32} {rt : Int32} {rb : Nat → Int32} {tsT : Int32} {tbT : Int32} {tlT : Int32} {tbo : Int32} {tlo : Int32} {tth : Int32} {tw : Int32} {th : Int32} {tall : Int32} {ttop : Int32} {tleft : Int32} {tright : Int32} {tparts : Nat → Int32} {tyl : Nat → Int32} {twl : Nat → Int32} {tfl : Nat → Int32} {tol : Nat → Int32} {dsT : Int32} {dbT : Int32} {dlT : Int32} {dbo : Int32} {dlo : Int32} {dth : Int32} {dw : Int32} {dh : Int32} {dall : Int32} {dtop : Int32} {dleft : Int32} {dright : Int32} {dparts : Nat → Int32} {dyl : Nat → Int32} {dwl : Nat → Int32} {dfl : Nat → Int32} {dol : Nat → Int32} {known : Int32} {rows : Nat → Int32} {k1 : Int32} {f1 : Nat → Int32} {k2 : Int32} {f2 : Nat → Int32} {ik : Nat → Int32} {blf : Int32} {sets : Nat → Int32} {sums : Nat → Int32} {lows : Nat → Int32} {highs : Nat → Int32} {hl : Int32} {found : Int32} {each : Int32} {hlf : Int32} {hp : Nat → Int32} {path : Nat → Int32} {fr : Nat → Int32} {ysz : Int32} {yat : Int32} {ybg : Int32} {ytk : Int32} {ytd : Int32} {und : Int32} {cam : Int32} {yea : Int32} {tr7 : Int64} {ytx : Nat → Int32} {yrd : Nat → Int32} {hill : Nat → Int32} {now : Nat → Int32} {undn : Nat → Int32} {need : Nat → Int32} {cmo : Nat → Int32} {plc : Nat → Int32} {fr7 : Nat → Int32} {kept : Nat → Int32} (hB : B ≤ 600000) (hx : xin L x3) (J : Inv B tr rl rb tbo tlo tth tw th tall ttop tleft tright tparts tfl tol known rows k1 f1 k2 f2 ik blf sets sums hl found each hlf hp fr ysz und cam tr7 ytx hill now undn cmo kept) (R : hRec (B + 1000) rec (x3 + 5)) : FL_22 L xs rec x3 tr rl rp rt rb tsT tbT tlT tbo tlo tth tw th tall ttop tleft tright tparts tyl twl tfl tol dsT dbT dlT dbo dlo dth dw dh dall dtop dleft dright dparts dyl dwl dfl dol known rows k1 f1 k2 f2 ik blf sets sums lows highs hl found each hlf hp path fr ysz yat ybg ytk ytd und cam yea tr7 ytx yrd hill now undn need cmo plc fr7 kept := by
  obtain ⟨W, H, thN, boN, loN, pa, fa, wo, T, K, A, S, C, M1, M2, cb, cf, et⟩ := J
  have C1 := iC_mono A.1 (show B ≤ B + 1000 by omega) C
  have N1 := iM_mono A.1 (show B ≤ B + 1000 by omega) M1
  have N2 := iM_mono A.1 (show B ≤ B + 1000 by omega) M2
  obtain ⟨r, u, uf, v, u2, v2, h6, h7, K2, alt⟩ := pr_came (xf := hlf) (p := xs (x3 + 1).toNatClampNeg) K
  have cf2 : caF W H pa u v uf found each fr := by
    rcases alt with g | ⟨g1, g2, g3⟩
    · exact .inl g
    · rw [g1, g2, g3]; exact cf
  unfold FL_22
  refine ⟨hx.1, ?_⟩
  rintro s rfl
  refine h6 _ ?_
  refine ⟨hx.1, ?_⟩
  rintro s rfl
  refine h7 _ (br_t rfl ?_)
  rintro x rfl
  exact R _ _ _ _ _ _ _ _ _ _ _ _ _ _ _ _ _ _ _ _ _ _ _ _ _ _ _ _ _ _ _ _ _ _ _ _ _ _ _ _ _ _ _ _ _ _ _ _ _ _ _ _ _ _ _ _ _ _ _ _ _ _ _ _ _ _ _ _ _ _ _ _ _ _ _ _ _ ⟨W, H, thN, boN, loN, pa, fa, wo, T, K2, A, S, C1, N1, N2, cb, cf2, et⟩
theorem fl_23 {L : Nat} {xs : Nat → Int32} {rec : RecT} {x3 : Int32} {B : Nat} {tr : Int64} {rl : Int32} {rp : Int32} {rt : Int32} {rb : Nat → Int32} {tsT : Int32} {tbT : Int32} {tlT : Int32} {tbo : Int32} {tlo : Int32} {tth : Int32} {tw : Int32} {th : Int32} {tall : Int32} {ttop : Int32} {tleft : Int32} {tright : Int32} {tparts : Nat → Int32} {tyl : Nat → Int32} {twl : Nat → Int32} {tfl : Nat → Int32} {tol : Nat → Int32} {dsT : Int32} {dbT : Int32} {dlT : Int32} {dbo : Int32} {dlo : Int32} {dth : Int32} {dw : Int32} {dh : Int32} {dall : Int32} {dtop : Int32} {dleft : Int32} {dright : Int32} {dparts : Nat → Int32} {dyl : Nat → Int32} {dwl : Nat → Int32} {dfl : Nat → Int32} {dol : Nat → Int32} {known : Int32} {rows : Nat → Int32} {k1 : Int32} {f1 : Nat → Int32} {k2 : Int32} {f2 : Nat → Int32} {ik : Nat → Int32} {blf : Int32} {sets : Nat → Int32} {sums : Nat → Int32} {lows : Nat → Int32} {highs : Nat → Int32} {hl : Int32} {found : Int32} {each : Int32} {hlf : Int32} {hp : Nat → Int32} {path : Nat → Int32} {fr : Nat → Int32} {ysz : Int32} {yat : Int32} {ybg : Int32} {ytk : Int32} {ytd : Int32} {und : Int32} {cam : Int32} {yea : Int32} {tr7 : Int64} {ytx : Nat → Int32} {yrd : Nat → Int32} {hill : Nat → Int32} {now : Nat → Int32} {undn : Nat → Int32} {need : Nat → Int32} {cmo : Nat → Int32} {plc : Nat → Int32} {fr7 : Nat → Int32} {kept : Nat → Int32} (hB : B ≤ 600000) (hx : xin L x3) (J : Inv B tr rl rb tbo tlo tth tw th tall ttop tleft tright tparts tfl tol known rows k1 f1 k2 f2 ik blf sets sums hl found each hlf hp fr ysz und cam tr7 ytx hill now undn cmo kept) (R : hRec (B + 1000) rec (x3 + 5)) : FL_23 L xs rec x3 tr rl rp rt rb tsT tbT tlT tbo tlo tth tw th tall ttop tleft tright tparts tyl twl tfl tol dsT dbT dlT dbo dlo dth dw dh dall dtop dleft dright dparts dyl dwl dfl dol known rows k1 f1 k2 f2 ik blf sets sums lows highs hl found each hlf hp path fr ysz yat ybg ytk ytd und cam yea tr7 ytx yrd hill now undn need cmo plc fr7 kept := by
  obtain ⟨W, H, thN, boN, loN, pa, fa, wo, T, K, A, S, C, M1, M2, cb, cf, et⟩ := J
  have C1 := iC_mono A.1 (show B ≤ B + 1000 by omega) C
  have N1 := iM_mono A.1 (show B ≤ B + 1000 by omega) M1
  have N2 := iM_mono A.1 (show B ≤ B + 1000 by omega) M2
  obtain ⟨r, u, uf, u2, h6, h7, K2, g⟩ := pr_forget (xf := hlf) K
  unfold FL_23
  refine h6 _ ?_
  refine h7 _ (br_t rfl ?_)
  rintro x rfl
  exact R _ _ _ _ _ _ _ _ _ _ _ _ _ _ _ _ _ _ _ _ _ _ _ _ _ _ _ _ _ _ _ _ _ _ _ _ _ _ _ _ _ _ _ _ _ _ _ _ _ _ _ _ _ _ _ _ _ _ _ _ _ _ _ _ _ _ _ _ _ _ _ _ _ _ _ _ _ ⟨W, H, thN, boN, loN, pa, fa, wo, T, K2, A, S, C1, N1, N2, cb, (.inl g), et⟩
theorem fl_24 {L : Nat} {xs : Nat → Int32} {rec : RecT} {x3 : Int32} {B : Nat} {tr : Int64} {rl : Int32} {rp : Int32} {rt : Int32} {rb : Nat → Int32} {tsT : Int32} {tbT : Int32} {tlT : Int32} {tbo : Int32} {tlo : Int32} {tth : Int32} {tw : Int32} {th : Int32} {tall : Int32} {ttop : Int32} {tleft : Int32} {tright : Int32} {tparts : Nat → Int32} {tyl : Nat → Int32} {twl : Nat → Int32} {tfl : Nat → Int32} {tol : Nat → Int32} {dsT : Int32} {dbT : Int32} {dlT : Int32} {dbo : Int32} {dlo : Int32} {dth : Int32} {dw : Int32} {dh : Int32} {dall : Int32} {dtop : Int32} {dleft : Int32} {dright : Int32} {dparts : Nat → Int32} {dyl : Nat → Int32} {dwl : Nat → Int32} {dfl : Nat → Int32} {dol : Nat → Int32} {known : Int32} {rows : Nat → Int32} {k1 : Int32} {f1 : Nat → Int32} {k2 : Int32} {f2 : Nat → Int32} {ik : Nat → Int32} {blf : Int32} {sets : Nat → Int32} {sums : Nat → Int32} {lows : Nat → Int32} {highs : Nat → Int32} {hl : Int32} {found : Int32} {each : Int32} {hlf : Int32} {hp : Nat → Int32} {path : Nat → Int32} {fr : Nat → Int32} {ysz : Int32} {yat : Int32} {ybg : Int32} {ytk : Int32} {ytd : Int32} {und : Int32} {cam : Int32} {yea : Int32} {tr7 : Int64} {ytx : Nat → Int32} {yrd : Nat → Int32} {hill : Nat → Int32} {now : Nat → Int32} {undn : Nat → Int32} {need : Nat → Int32} {cmo : Nat → Int32} {plc : Nat → Int32} {fr7 : Nat → Int32} {kept : Nat → Int32} (hB : B ≤ 600000) (hx : xin L x3) (J : Inv B tr rl rb tbo tlo tth tw th tall ttop tleft tright tparts tfl tol known rows k1 f1 k2 f2 ik blf sets sums hl found each hlf hp fr ysz und cam tr7 ytx hill now undn cmo kept) (R : hRec (B + 1000) rec (x3 + 5)) : FL_24 L xs rec x3 tr rl rp rt rb tsT tbT tlT tbo tlo tth tw th tall ttop tleft tright tparts tyl twl tfl tol dsT dbT dlT dbo dlo dth dw dh dall dtop dleft dright dparts dyl dwl dfl dol known rows k1 f1 k2 f2 ik blf sets sums lows highs hl found each hlf hp path fr ysz yat ybg ytk ytd und cam yea tr7 ytx yrd hill now undn need cmo plc fr7 kept := by
  obtain ⟨W, H, thN, boN, loN, pa, fa, wo, T, K, A, S, C, M1, M2, cb, cf, et⟩ := J
  have C1 := iC_mono A.1 (show B ≤ B + 1000 by omega) C
  have N1 := iM_mono A.1 (show B ≤ B + 1000 by omega) M1
  have N2 := iM_mono A.1 (show B ≤ B + 1000 by omega) M2
  obtain ⟨kk, hkk, ek1, ek2, R0, Rj⟩ := id C
  obtain ⟨dg, st, yr, ye, wh, R1⟩ := rR0.mp R0
  have X := mk_cXY A R1
  have hw := fun (t : Nat) (ht : t < thN) => (⟨(A.2.2.2.2.2.2.2.2.2.2 t ht).2.1, (A.2.2.2.2.2.2.2.2.2.2 t ht).2.2.2.1, (A.2.2.2.2.2.2.2.2.2.2 t ht).2.2.2.2.2⟩ : wo t ≤ 99 ∧ tol t = nI (wo t) ∧ hill (25 + 4 * t) = nI (wo t))
  obtain ⟨r, fo2, ea2, lf2, pa2, fr2, e72, pl2, f72, h6, h7, cf2⟩ := pr_fits (each7 := yea) (path := path) (places := plc) (fr7 := fr7) (p := xs (x3 + 1).toNatClampNeg) S R1 K cf
  unfold FL_24
  refine ⟨hx.1, ?_⟩
  rintro s rfl
  refine h6 _ ?_
  refine ⟨hx.1, ?_⟩
  rintro s rfl
  refine h7 _ (br_t rfl ?_)
  rintro x rfl
  exact R _ _ _ _ _ _ _ _ _ _ _ _ _ _ _ _ _ _ _ _ _ _ _ _ _ _ _ _ _ _ _ _ _ _ _ _ _ _ _ _ _ _ _ _ _ _ _ _ _ _ _ _ _ _ _ _ _ _ _ _ _ _ _ _ _ _ _ _ _ _ _ _ _ _ _ _ _ ⟨W, H, thN, boN, loN, pa, fa, wo, T, K, A, S, C1, N1, N2, cb, cf2, et⟩
theorem fl_25 {L : Nat} {xs : Nat → Int32} {rec : RecT} {x3 : Int32} {B : Nat} {tr : Int64} {rl : Int32} {rp : Int32} {rt : Int32} {rb : Nat → Int32} {tsT : Int32} {tbT : Int32} {tlT : Int32} {tbo : Int32} {tlo : Int32} {tth : Int32} {tw : Int32} {th : Int32} {tall : Int32} {ttop : Int32} {tleft : Int32} {tright : Int32} {tparts : Nat → Int32} {tyl : Nat → Int32} {twl : Nat → Int32} {tfl : Nat → Int32} {tol : Nat → Int32} {dsT : Int32} {dbT : Int32} {dlT : Int32} {dbo : Int32} {dlo : Int32} {dth : Int32} {dw : Int32} {dh : Int32} {dall : Int32} {dtop : Int32} {dleft : Int32} {dright : Int32} {dparts : Nat → Int32} {dyl : Nat → Int32} {dwl : Nat → Int32} {dfl : Nat → Int32} {dol : Nat → Int32} {known : Int32} {rows : Nat → Int32} {k1 : Int32} {f1 : Nat → Int32} {k2 : Int32} {f2 : Nat → Int32} {ik : Nat → Int32} {blf : Int32} {sets : Nat → Int32} {sums : Nat → Int32} {lows : Nat → Int32} {highs : Nat → Int32} {hl : Int32} {found : Int32} {each : Int32} {hlf : Int32} {hp : Nat → Int32} {path : Nat → Int32} {fr : Nat → Int32} {ysz : Int32} {yat : Int32} {ybg : Int32} {ytk : Int32} {ytd : Int32} {und : Int32} {cam : Int32} {yea : Int32} {tr7 : Int64} {ytx : Nat → Int32} {yrd : Nat → Int32} {hill : Nat → Int32} {now : Nat → Int32} {undn : Nat → Int32} {need : Nat → Int32} {cmo : Nat → Int32} {plc : Nat → Int32} {fr7 : Nat → Int32} {kept : Nat → Int32} (hB : B ≤ 600000) (hx : xin L x3) (J : Inv B tr rl rb tbo tlo tth tw th tall ttop tleft tright tparts tfl tol known rows k1 f1 k2 f2 ik blf sets sums hl found each hlf hp fr ysz und cam tr7 ytx hill now undn cmo kept) (R : hRec (B + 1000) rec (x3 + 5)) : FL_25 L xs rec x3 tr rl rp rt rb tsT tbT tlT tbo tlo tth tw th tall ttop tleft tright tparts tyl twl tfl tol dsT dbT dlT dbo dlo dth dw dh dall dtop dleft dright dparts dyl dwl dfl dol known rows k1 f1 k2 f2 ik blf sets sums lows highs hl found each hlf hp path fr ysz yat ybg ytk ytd und cam yea tr7 ytx yrd hill now undn need cmo plc fr7 kept := by
  obtain ⟨W, H, thN, boN, loN, pa, fa, wo, T, K, A, S, C, M1, M2, cb, cf, et⟩ := J
  have C1 := iC_mono A.1 (show B ≤ B + 1000 by omega) C
  have N1 := iM_mono A.1 (show B ≤ B + 1000 by omega) M1
  have N2 := iM_mono A.1 (show B ≤ B + 1000 by omega) M2
  obtain ⟨kk, hkk, ek1, ek2, R0, Rj⟩ := id C
  obtain ⟨dg, st, yr, ye, wh, R1⟩ := rR0.mp R0
  have X := mk_cXY A R1
  have hw := fun (t : Nat) (ht : t < thN) => (⟨(A.2.2.2.2.2.2.2.2.2.2 t ht).2.1, (A.2.2.2.2.2.2.2.2.2.2 t ht).2.2.2.1, (A.2.2.2.2.2.2.2.2.2.2 t ht).2.2.2.2.2⟩ : wo t ≤ 99 ∧ tol t = nI (wo t) ∧ hill (25 + 4 * t) = nI (wo t))
  obtain ⟨r, u, h6, h7⟩ := pr_mark (p := xs (x3 + 1).toNatClampNeg) (p1 := xs (x3 + 2).toNatClampNeg) X hw (R1.2.2.2.2.2.1.trans R1.2.2.2.2.2.2.1.symm) tr
  subst et
  unfold FL_25
  refine ⟨hx.1, ?_⟩
  rintro s rfl
  refine ⟨hx.2.1, ?_⟩
  rintro s rfl
  refine h6 _ ?_
  refine ⟨hx.1, ?_⟩
  rintro s rfl
  refine ⟨hx.2.1, ?_⟩
  rintro s rfl
  refine h7 _ (br_t rfl ?_)
  rintro x rfl
  exact R _ _ _ _ _ _ _ _ _ _ _ _ _ _ _ _ _ _ _ _ _ _ _ _ _ _ _ _ _ _ _ _ _ _ _ _ _ _ _ _ _ _ _ _ _ _ _ _ _ _ _ _ _ _ _ _ _ _ _ _ _ _ _ _ _ _ _ _ _ _ _ _ _ _ _ _ _ ⟨W, H, thN, boN, loN, pa, fa, wo, T, K, A, S, C1, N1, N2, cb, cf, rfl⟩
theorem fl_26 {L : Nat} {xs : Nat → Int32} {rec : RecT} {x3 : Int32} {B : Nat} {tr : Int64} {rl : Int32} {rp : Int32} {rt : Int32} {rb : Nat → Int32} {tsT : Int32} {tbT : Int32} {tlT : Int32} {tbo : Int32} {tlo : Int32} {tth : Int32} {tw : Int32} {th : Int32} {tall : Int32} {ttop : Int32} {tleft : Int32} {tright : Int32} {tparts : Nat → Int32} {tyl : Nat → Int32} {twl : Nat → Int32} {tfl : Nat → Int32} {tol : Nat → Int32} {dsT : Int32} {dbT : Int32} {dlT : Int32} {dbo : Int32} {dlo : Int32} {dth : Int32} {dw : Int32} {dh : Int32} {dall : Int32} {dtop : Int32} {dleft : Int32} {dright : Int32} {dparts : Nat → Int32} {dyl : Nat → Int32} {dwl : Nat → Int32} {dfl : Nat → Int32} {dol : Nat → Int32} {known : Int32} {rows : Nat → Int32} {k1 : Int32} {f1 : Nat → Int32} {k2 : Int32} {f2 : Nat → Int32} {ik : Nat → Int32} {blf : Int32} {sets : Nat → Int32} {sums : Nat → Int32} {lows : Nat → Int32} {highs : Nat → Int32} {hl : Int32} {found : Int32} {each : Int32} {hlf : Int32} {hp : Nat → Int32} {path : Nat → Int32} {fr : Nat → Int32} {ysz : Int32} {yat : Int32} {ybg : Int32} {ytk : Int32} {ytd : Int32} {und : Int32} {cam : Int32} {yea : Int32} {tr7 : Int64} {ytx : Nat → Int32} {yrd : Nat → Int32} {hill : Nat → Int32} {now : Nat → Int32} {undn : Nat → Int32} {need : Nat → Int32} {cmo : Nat → Int32} {plc : Nat → Int32} {fr7 : Nat → Int32} {kept : Nat → Int32} (hB : B ≤ 600000) (hx : xin L x3) (J : Inv B tr rl rb tbo tlo tth tw th tall ttop tleft tright tparts tfl tol known rows k1 f1 k2 f2 ik blf sets sums hl found each hlf hp fr ysz und cam tr7 ytx hill now undn cmo kept) (R : hRec (B + 1000) rec (x3 + 5)) : FL_26 L xs rec x3 tr rl rp rt rb tsT tbT tlT tbo tlo tth tw th tall ttop tleft tright tparts tyl twl tfl tol dsT dbT dlT dbo dlo dth dw dh dall dtop dleft dright dparts dyl dwl dfl dol known rows k1 f1 k2 f2 ik blf sets sums lows highs hl found each hlf hp path fr ysz yat ybg ytk ytd und cam yea tr7 ytx yrd hill now undn need cmo plc fr7 kept := by
  obtain ⟨W, H, thN, boN, loN, pa, fa, wo, T, K, A, S, C, M1, M2, cb, cf, et⟩ := J
  have C1 := iC_mono A.1 (show B ≤ B + 1000 by omega) C
  have N1 := iM_mono A.1 (show B ≤ B + 1000 by omega) M1
  have N2 := iM_mono A.1 (show B ≤ B + 1000 by omega) M2
  obtain ⟨r, k12, k22, f12, f22, ik2, kept2, h6, h7, L1, L2⟩ := pr_keep (p := xs (x3 + 1).toNatClampNeg) A.1 C M1 M2
  unfold FL_26
  refine ⟨hx.1, ?_⟩
  rintro s rfl
  refine h6 _ ?_
  refine ⟨hx.1, ?_⟩
  rintro s rfl
  refine h7 _ (br_t rfl ?_)
  rintro x rfl
  exact R _ _ _ _ _ _ _ _ _ _ _ _ _ _ _ _ _ _ _ _ _ _ _ _ _ _ _ _ _ _ _ _ _ _ _ _ _ _ _ _ _ _ _ _ _ _ _ _ _ _ _ _ _ _ _ _ _ _ _ _ _ _ _ _ _ _ _ _ _ _ _ _ _ _ _ _ _ ⟨W, H, thN, boN, loN, pa, fa, wo, T, K, A, S, C1, (iM_mono A.1 (show B ≤ B + 1000 by omega) L1), (iM_mono A.1 (show B ≤ B + 1000 by omega) L2), cb, cf, et⟩
theorem fl_27 {L : Nat} {xs : Nat → Int32} {rec : RecT} {x3 : Int32} {B : Nat} {tr : Int64} {rl : Int32} {rp : Int32} {rt : Int32} {rb : Nat → Int32} {tsT : Int32} {tbT : Int32} {tlT : Int32} {tbo : Int32} {tlo : Int32} {tth : Int32} {tw : Int32} {th : Int32} {tall : Int32} {ttop : Int32} {tleft : Int32} {tright : Int32} {tparts : Nat → Int32} {tyl : Nat → Int32} {twl : Nat → Int32} {tfl : Nat → Int32} {tol : Nat → Int32} {dsT : Int32} {dbT : Int32} {dlT : Int32} {dbo : Int32} {dlo : Int32} {dth : Int32} {dw : Int32} {dh : Int32} {dall : Int32} {dtop : Int32} {dleft : Int32} {dright : Int32} {dparts : Nat → Int32} {dyl : Nat → Int32} {dwl : Nat → Int32} {dfl : Nat → Int32} {dol : Nat → Int32} {known : Int32} {rows : Nat → Int32} {k1 : Int32} {f1 : Nat → Int32} {k2 : Int32} {f2 : Nat → Int32} {ik : Nat → Int32} {blf : Int32} {sets : Nat → Int32} {sums : Nat → Int32} {lows : Nat → Int32} {highs : Nat → Int32} {hl : Int32} {found : Int32} {each : Int32} {hlf : Int32} {hp : Nat → Int32} {path : Nat → Int32} {fr : Nat → Int32} {ysz : Int32} {yat : Int32} {ybg : Int32} {ytk : Int32} {ytd : Int32} {und : Int32} {cam : Int32} {yea : Int32} {tr7 : Int64} {ytx : Nat → Int32} {yrd : Nat → Int32} {hill : Nat → Int32} {now : Nat → Int32} {undn : Nat → Int32} {need : Nat → Int32} {cmo : Nat → Int32} {plc : Nat → Int32} {fr7 : Nat → Int32} {kept : Nat → Int32} (hB : B ≤ 600000) (hx : xin L x3) (J : Inv B tr rl rb tbo tlo tth tw th tall ttop tleft tright tparts tfl tol known rows k1 f1 k2 f2 ik blf sets sums hl found each hlf hp fr ysz und cam tr7 ytx hill now undn cmo kept) (R : hRec (B + 1000) rec (x3 + 5)) : FL_27 L xs rec x3 tr rl rp rt rb tsT tbT tlT tbo tlo tth tw th tall ttop tleft tright tparts tyl twl tfl tol dsT dbT dlT dbo dlo dth dw dh dall dtop dleft dright dparts dyl dwl dfl dol known rows k1 f1 k2 f2 ik blf sets sums lows highs hl found each hlf hp path fr ysz yat ybg ytk ytd und cam yea tr7 ytx yrd hill now undn need cmo plc fr7 kept := by
  obtain ⟨W, H, thN, boN, loN, pa, fa, wo, T, K, A, S, C, M1, M2, cb, cf, et⟩ := J
  have C1 := iC_mono A.1 (show B ≤ B + 1000 by omega) C
  have N1 := iM_mono A.1 (show B ≤ B + 1000 by omega) M1
  have N2 := iM_mono A.1 (show B ≤ B + 1000 by omega) M2
  obtain ⟨r, u, v, u2, v2, w2, h6, h7, C2⟩ := pr_back (p := xs (x3 + 1).toNatClampNeg) A.1 C M1 M2
  unfold FL_27
  refine ⟨hx.1, ?_⟩
  rintro s rfl
  refine h6 _ ?_
  refine ⟨hx.1, ?_⟩
  rintro s rfl
  refine h7 _ (br_t rfl ?_)
  rintro x rfl
  exact R _ _ _ _ _ _ _ _ _ _ _ _ _ _ _ _ _ _ _ _ _ _ _ _ _ _ _ _ _ _ _ _ _ _ _ _ _ _ _ _ _ _ _ _ _ _ _ _ _ _ _ _ _ _ _ _ _ _ _ _ _ _ _ _ _ _ _ _ _ _ _ _ _ _ _ _ _ ⟨W, H, thN, boN, loN, pa, fa, wo, T, K, A, S, (iC_mono A.1 (show B ≤ B + 1000 by omega) C2), N1, N2, cb, cf, et⟩
theorem fl_28 {L : Nat} {xs : Nat → Int32} {rec : RecT} {x3 : Int32} {B : Nat} {tr : Int64} {rl : Int32} {rp : Int32} {rt : Int32} {rb : Nat → Int32} {tsT : Int32} {tbT : Int32} {tlT : Int32} {tbo : Int32} {tlo : Int32} {tth : Int32} {tw : Int32} {th : Int32} {tall : Int32} {ttop : Int32} {tleft : Int32} {tright : Int32} {tparts : Nat → Int32} {tyl : Nat → Int32} {twl : Nat → Int32} {tfl : Nat → Int32} {tol : Nat → Int32} {dsT : Int32} {dbT : Int32} {dlT : Int32} {dbo : Int32} {dlo : Int32} {dth : Int32} {dw : Int32} {dh : Int32} {dall : Int32} {dtop : Int32} {dleft : Int32} {dright : Int32} {dparts : Nat → Int32} {dyl : Nat → Int32} {dwl : Nat → Int32} {dfl : Nat → Int32} {dol : Nat → Int32} {known : Int32} {rows : Nat → Int32} {k1 : Int32} {f1 : Nat → Int32} {k2 : Int32} {f2 : Nat → Int32} {ik : Nat → Int32} {blf : Int32} {sets : Nat → Int32} {sums : Nat → Int32} {lows : Nat → Int32} {highs : Nat → Int32} {hl : Int32} {found : Int32} {each : Int32} {hlf : Int32} {hp : Nat → Int32} {path : Nat → Int32} {fr : Nat → Int32} {ysz : Int32} {yat : Int32} {ybg : Int32} {ytk : Int32} {ytd : Int32} {und : Int32} {cam : Int32} {yea : Int32} {tr7 : Int64} {ytx : Nat → Int32} {yrd : Nat → Int32} {hill : Nat → Int32} {now : Nat → Int32} {undn : Nat → Int32} {need : Nat → Int32} {cmo : Nat → Int32} {plc : Nat → Int32} {fr7 : Nat → Int32} {kept : Nat → Int32} (hB : B ≤ 600000) (hx : xin L x3) (J : Inv B tr rl rb tbo tlo tth tw th tall ttop tleft tright tparts tfl tol known rows k1 f1 k2 f2 ik blf sets sums hl found each hlf hp fr ysz und cam tr7 ytx hill now undn cmo kept) (R : hRec (B + 1000) rec (x3 + 5)) : FL_28 L xs rec x3 tr rl rp rt rb tsT tbT tlT tbo tlo tth tw th tall ttop tleft tright tparts tyl twl tfl tol dsT dbT dlT dbo dlo dth dw dh dall dtop dleft dright dparts dyl dwl dfl dol known rows k1 f1 k2 f2 ik blf sets sums lows highs hl found each hlf hp path fr ysz yat ybg ytk ytd und cam yea tr7 ytx yrd hill now undn need cmo plc fr7 kept := by
  obtain ⟨W, H, thN, boN, loN, pa, fa, wo, T, K, A, S, C, M1, M2, cb, cf, et⟩ := J
  have C1 := iC_mono A.1 (show B ≤ B + 1000 by omega) C
  have N1 := iM_mono A.1 (show B ≤ B + 1000 by omega) M1
  have N2 := iM_mono A.1 (show B ≤ B + 1000 by omega) M2
  obtain ⟨r, h6, h7⟩ := pr_count (p := xs (x3 + 1).toNatClampNeg) T K A S C
  unfold FL_28
  refine ⟨hx.1, ?_⟩
  rintro s rfl
  refine h6 _ ?_
  refine ⟨hx.1, ?_⟩
  rintro s rfl
  refine h7 _ (br_t rfl ?_)
  rintro x rfl
  exact R _ _ _ _ _ _ _ _ _ _ _ _ _ _ _ _ _ _ _ _ _ _ _ _ _ _ _ _ _ _ _ _ _ _ _ _ _ _ _ _ _ _ _ _ _ _ _ _ _ _ _ _ _ _ _ _ _ _ _ _ _ _ _ _ _ _ _ _ _ _ _ _ _ _ _ _ _ ⟨W, H, thN, boN, loN, pa, fa, wo, T, K, A, S, C1, N1, N2, cb, cf, et⟩
theorem fl_29 {L : Nat} {xs : Nat → Int32} {rec : RecT} {x3 : Int32} {B : Nat} {tr : Int64} {rl : Int32} {rp : Int32} {rt : Int32} {rb : Nat → Int32} {tsT : Int32} {tbT : Int32} {tlT : Int32} {tbo : Int32} {tlo : Int32} {tth : Int32} {tw : Int32} {th : Int32} {tall : Int32} {ttop : Int32} {tleft : Int32} {tright : Int32} {tparts : Nat → Int32} {tyl : Nat → Int32} {twl : Nat → Int32} {tfl : Nat → Int32} {tol : Nat → Int32} {dsT : Int32} {dbT : Int32} {dlT : Int32} {dbo : Int32} {dlo : Int32} {dth : Int32} {dw : Int32} {dh : Int32} {dall : Int32} {dtop : Int32} {dleft : Int32} {dright : Int32} {dparts : Nat → Int32} {dyl : Nat → Int32} {dwl : Nat → Int32} {dfl : Nat → Int32} {dol : Nat → Int32} {known : Int32} {rows : Nat → Int32} {k1 : Int32} {f1 : Nat → Int32} {k2 : Int32} {f2 : Nat → Int32} {ik : Nat → Int32} {blf : Int32} {sets : Nat → Int32} {sums : Nat → Int32} {lows : Nat → Int32} {highs : Nat → Int32} {hl : Int32} {found : Int32} {each : Int32} {hlf : Int32} {hp : Nat → Int32} {path : Nat → Int32} {fr : Nat → Int32} {ysz : Int32} {yat : Int32} {ybg : Int32} {ytk : Int32} {ytd : Int32} {und : Int32} {cam : Int32} {yea : Int32} {tr7 : Int64} {ytx : Nat → Int32} {yrd : Nat → Int32} {hill : Nat → Int32} {now : Nat → Int32} {undn : Nat → Int32} {need : Nat → Int32} {cmo : Nat → Int32} {plc : Nat → Int32} {fr7 : Nat → Int32} {kept : Nat → Int32} (hB : B ≤ 600000) (hx : xin L x3) (J : Inv B tr rl rb tbo tlo tth tw th tall ttop tleft tright tparts tfl tol known rows k1 f1 k2 f2 ik blf sets sums hl found each hlf hp fr ysz und cam tr7 ytx hill now undn cmo kept) (R : hRec (B + 1000) rec (x3 + 5)) : FL_29 L xs rec x3 tr rl rp rt rb tsT tbT tlT tbo tlo tth tw th tall ttop tleft tright tparts tyl twl tfl tol dsT dbT dlT dbo dlo dth dw dh dall dtop dleft dright dparts dyl dwl dfl dol known rows k1 f1 k2 f2 ik blf sets sums lows highs hl found each hlf hp path fr ysz yat ybg ytk ytd und cam yea tr7 ytx yrd hill now undn need cmo plc fr7 kept := by
  obtain ⟨W, H, thN, boN, loN, pa, fa, wo, T, K, A, S, C, M1, M2, cb, cf, et⟩ := J
  have C1 := iC_mono A.1 (show B ≤ B + 1000 by omega) C
  have N1 := iM_mono A.1 (show B ≤ B + 1000 by omega) M1
  have N2 := iM_mono A.1 (show B ≤ B + 1000 by omega) M2
  unfold FL_29 q_X6_trace F_X6_trace_e q_X7_trace F_X7_trace_e
  refine br_t ((lg_cmp_eq _ _).mpr et) ?_
  rintro x rfl
  exact R _ _ _ _ _ _ _ _ _ _ _ _ _ _ _ _ _ _ _ _ _ _ _ _ _ _ _ _ _ _ _ _ _ _ _ _ _ _ _ _ _ _ _ _ _ _ _ _ _ _ _ _ _ _ _ _ _ _ _ _ _ _ _ _ _ _ _ _ _ _ _ _ _ _ _ _ _ ⟨W, H, thN, boN, loN, pa, fa, wo, T, K, A, S, C1, N1, N2, cb, cf, et⟩
theorem fl_d {L : Nat} {xs : Nat → Int32} {rec : RecT} {x3 : Int32} {B : Nat} {tr : Int64} {rl : Int32} {rp : Int32} {rt : Int32} {rb : Nat → Int32} {tsT : Int32} {tbT : Int32} {tlT : Int32} {tbo : Int32} {tlo : Int32} {tth : Int32} {tw : Int32} {th : Int32} {tall : Int32} {ttop : Int32} {tleft : Int32} {tright : Int32} {tparts : Nat → Int32} {tyl : Nat → Int32} {twl : Nat → Int32} {tfl : Nat → Int32} {tol : Nat → Int32} {dsT : Int32} {dbT : Int32} {dlT : Int32} {dbo : Int32} {dlo : Int32} {dth : Int32} {dw : Int32} {dh : Int32} {dall : Int32} {dtop : Int32} {dleft : Int32} {dright : Int32} {dparts : Nat → Int32} {dyl : Nat → Int32} {dwl : Nat → Int32} {dfl : Nat → Int32} {dol : Nat → Int32} {known : Int32} {rows : Nat → Int32} {k1 : Int32} {f1 : Nat → Int32} {k2 : Int32} {f2 : Nat → Int32} {ik : Nat → Int32} {blf : Int32} {sets : Nat → Int32} {sums : Nat → Int32} {lows : Nat → Int32} {highs : Nat → Int32} {hl : Int32} {found : Int32} {each : Int32} {hlf : Int32} {hp : Nat → Int32} {path : Nat → Int32} {fr : Nat → Int32} {ysz : Int32} {yat : Int32} {ybg : Int32} {ytk : Int32} {ytd : Int32} {und : Int32} {cam : Int32} {yea : Int32} {tr7 : Int64} {ytx : Nat → Int32} {yrd : Nat → Int32} {hill : Nat → Int32} {now : Nat → Int32} {undn : Nat → Int32} {need : Nat → Int32} {cmo : Nat → Int32} {plc : Nat → Int32} {fr7 : Nat → Int32} {kept : Nat → Int32} (hB : B ≤ 600000) (hx : xin L x3) (J : Inv B tr rl rb tbo tlo tth tw th tall ttop tleft tright tparts tfl tol known rows k1 f1 k2 f2 ik blf sets sums hl found each hlf hp fr ysz und cam tr7 ytx hill now undn cmo kept) (R : hRec (B + 1000) rec (x3 + 5)) : FL_d L xs rec x3 tr rl rp rt rb tsT tbT tlT tbo tlo tth tw th tall ttop tleft tright tparts tyl twl tfl tol dsT dbT dlT dbo dlo dth dw dh dall dtop dleft dright dparts dyl dwl dfl dol known rows k1 f1 k2 f2 ik blf sets sums lows highs hl found each hlf hp path fr ysz yat ybg ytk ytd und cam yea tr7 ytx yrd hill now undn need cmo plc fr7 kept := by
  obtain ⟨W, H, thN, boN, loN, pa, fa, wo, T, K, A, S, C, M1, M2, cb, cf, et⟩ := J
  have C1 := iC_mono A.1 (show B ≤ B + 1000 by omega) C
  have N1 := iM_mono A.1 (show B ≤ B + 1000 by omega) M1
  have N2 := iM_mono A.1 (show B ≤ B + 1000 by omega) M2
  unfold FL_d
  rintro x rfl
  exact R _ _ _ _ _ _ _ _ _ _ _ _ _ _ _ _ _ _ _ _ _ _ _ _ _ _ _ _ _ _ _ _ _ _ _ _ _ _ _ _ _ _ _ _ _ _ _ _ _ _ _ _ _ _ _ _ _ _ _ _ _ _ _ _ _ _ _ _ _ _ _ _ _ _ _ _ _ ⟨W, H, thN, boN, loN, pa, fa, wo, T, K, A, S, C1, N1, N2, cb, cf, et⟩

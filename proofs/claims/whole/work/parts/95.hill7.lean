/-! ===== hill, both sides ===== -/
theorem s_wipe (sT bT lT bo lo th w h all top left right : Int32) (parts : Nat → Int32) : ∃ parts' : Nat → Int32, (∀ c, c < 16 → parts' c = 0) ∧ ∀ Q : Int32 → Int32 → Int32 → Int32 → Int32 → Int32 → Int32 → Int32 → Int32 → Int32 → Int32 → Int32 → (Nat → Int32) → Prop, Q 0 0 0 5 3 0 (nI 0) (nI 0) (nI (2 ^ (0 * 0) - 1)) (nI (2 ^ 0 - 1)) (nI (lfm 0 0)) (nI (rgm 0 0)) parts' → q_X5_wipe sT bT lT bo lo th w h all top left right parts Q := by
  obtain ⟨p', h0, hN⟩ := s_shape (W := 0) (H := 0) (by omega) (by omega) (fun _ => rfl) w h all top left right parts
  refine ⟨p', h0, fun Q hq => ?_⟩
  unfold q_X5_wipe F_X5_wipe_e
  exact hN (fun u1 u2 u3 u4 u5 u6 u7 => Q 0 0 0 5 3 0 u1 u2 u3 u4 u5 u6 u7) hq
theorem pln_z {k : Nat} (h3 : k ≠ 3) (h4 : k ≠ 4) : pln k = nI 0 := by
  unfold pln
  rw [if_neg h3, if_neg h4]; rfl
theorem pln_3 : pln 3 = nI 5 := by
  unfold pln
  rw [if_pos rfl]; rfl
theorem pln_4 : pln 4 = nI 3 := by
  unfold pln
  rw [if_neg (by omega), if_pos rfl]; rfl
theorem iS_0 {parts read : Nat → Int32} (hp : ∀ c, c < 16 → parts c = 0) (hr : ∀ k, k < 46 → read k = pln k) : iS 0 0 (fun _ => 0) (nI 0) (nI 0) (nI (2 ^ (0 * 0) - 1)) (nI (2 ^ 0 - 1)) (nI (lfm 0 0)) (nI (rgm 0 0)) parts read := by
  refine ⟨by omega, by omega, Iff.rfl, rfl, rfl, rfl, rfl, rfl, rfl, ?_, ?_, ?_⟩
  · rw [hr 0 (by omega), pln_z (by omega) (by omega)]
  · rw [hr 1 (by omega), pln_z (by omega) (by omega)]
  · intro c hc
    refine ⟨Nat.zero_le _, hp c hc, ?_⟩
    rw [hr _ (by omega), pln_z (by omega) (by omega)]
theorem iA_0 {read : Nat → Int32} (hr : ∀ k, k < 46 → read k = pln k) (fl ol : Nat → Int32) : iA 0 5 3 (fun _ => 0) (fun _ => 0) 5 3 0 fl ol read := by
  refine ⟨by omega, by omega, by omega, by omega, rfl, rfl, rfl, ?_, ?_, ?_, ?_⟩
  · rw [hr 2 (by omega), pln_z (by omega) (by omega)]
  · rw [hr 3 (by omega), pln_3]
  · rw [hr 4 (by omega), pln_4]
  · intro t ht; omega
theorem dR_0 {parts read : Nat → Int32} (hp : ∀ c, c < 16 → parts c = 0) (hr : ∀ k, k < 46 → read k = pln k) (yl wl fl ol : Nat → Int32) : dR 0 0 0 5 3 0 (nI 0) (nI 0) (nI (2 ^ (0 * 0) - 1)) (nI (2 ^ 0 - 1)) (nI (lfm 0 0)) (nI (rgm 0 0)) parts yl wl fl ol read := by
  refine ⟨0, 0, 0, 5, 3, false, false, fun _ => 0, fun _ => 0, fun _ => 0, fun _ => 0, fun _ => 0, iS_0 hp hr, fun _ _ _ => rfl, by decide, rfl, rfl, ?_, iA_0 hr fl ol, ?_⟩
  · rw [hr 5 (by omega), pln_z (by omega) (by omega)]; rfl
  · intro t ht; omega
theorem n10 : ∀ q : Fin 151, ¬ (0 : Int32) ≤ -10 - nI q.val := by decide +kernel
def rN (th : Nat) (cells : Nat) (rows now : Nat → Int32) : Prop := rR th cells 0 rows 0 now 0
theorem pr_hill {xl ys : Int32} {xb yt : Nat → Int32} (T : iT xl xb ys yt) (dsT dbT dlT dbo dlo dth dw dh dall dtop dleft dright pl ts known hlen hlf blf at0 bg tk td undos cames : Int32) (dparts dyl dwl dfl dol rows ik read hill now kept : Nat → Int32) :
    (∃ (r sT bT lT bo lo th w h all top left right pl' ts' : Int32) (parts yl wl fl ol rows' ik' : Nat → Int32) (a bg' td' : Int32) (read' hill' now' kept' : Nat → Int32),
      (∀ Q : Int32 → Bool → Int32 → Int32 → Int32 → Int32 → Int32 → Int32 → Int32 → Int32 → Int32 → Int32 → Int32 → Int32 → Int32 → Int32 → Int32 → (Nat → Int32) → (Nat → Int32) → (Nat → Int32) → (Nat → Int32) → (Nat → Int32) → Int32 → (Nat → Int32) → Int32 → Int32 → Int32 → (Nat → Int32) → Prop, Q r true sT bT lT bo lo th w h all top left right 0 pl' ts' parts yl wl fl ol 0 rows' 0 (-1) (-1) ik' → q_X6_hill dsT dbT dlT dbo dlo dth dw dh dall dtop dleft dright xl pl ts dparts xb dyl dwl dfl dol known rows hlen hlf blf ik Q) ∧
      (∀ Q : Int32 → Int32 → Int32 → Int32 → Int32 → Int32 → Int32 → Int32 → (Nat → Int32) → (Nat → Int32) → (Nat → Int32) → (Nat → Int32) → Prop, Q r 0 a bg' 0 td' 0 0 read' hill' now' kept' → q_X7_hill ys at0 bg tk td undos cames read yt hill now kept Q) ∧
      (∃ (W H thN boN loN : Nat) (pa fa wo : Nat → Nat), iS W H pa w h all top left right parts hill' ∧ iA thN boN loN fa wo bo lo th fl ol hill' ∧ rN thN (W * H) rows' now') ∧ ik' 0 = 0 ∧ ik' 1 = 0 ∧ kept' 0 = 0 ∧ kept' 167 = 0) ∨
    (∃ (r sT bT lT bo lo th w h all top left right pl' ts' : Int32) (parts yl wl fl ol : Nat → Int32) (a bg' tk' td' : Int32) (read' : Nat → Int32),
      (∀ Q : Int32 → Bool → Int32 → Int32 → Int32 → Int32 → Int32 → Int32 → Int32 → Int32 → Int32 → Int32 → Int32 → Int32 → Int32 → Int32 → Int32 → (Nat → Int32) → (Nat → Int32) → (Nat → Int32) → (Nat → Int32) → (Nat → Int32) → Int32 → (Nat → Int32) → Int32 → Int32 → Int32 → (Nat → Int32) → Prop, Q r false sT bT lT bo lo th w h all top left right xl pl' ts' parts yl wl fl ol known rows hlen hlf blf ik → q_X6_hill dsT dbT dlT dbo dlo dth dw dh dall dtop dleft dright xl pl ts dparts xb dyl dwl dfl dol known rows hlen hlf blf ik Q) ∧
      (∀ Q : Int32 → Int32 → Int32 → Int32 → Int32 → Int32 → Int32 → Int32 → (Nat → Int32) → (Nat → Int32) → (Nat → Int32) → (Nat → Int32) → Prop, Q r ys a bg' tk' td' undos cames read' hill now kept → q_X7_hill ys at0 bg tk td undos cames read yt hill now kept Q)) := by
  obtain ⟨n, hn, rfl, rfl, hk⟩ := T
  have T7 : tx n (fun k => (yt k).toNatClampNeg) yt := ⟨hn, fun k hk' => by
    obtain ⟨-, v, hv, e⟩ := hk k hk'
    show (yt k).toNatClampNeg < 256 ∧ yt k = nI (yt k).toNatClampNeg
    rw [e, nI_clamp (by omega)]; exact ⟨hv, rfl⟩⟩
  have T6 : tx n (fun k => (yt k).toNatClampNeg) xb := ⟨hn, fun k hk' => by
    obtain ⟨e0, v, hv, e⟩ := hk k hk'
    show (yt k).toNatClampNeg < 256 ∧ xb k = nI (yt k).toNatClampNeg
    rw [e0, e, nI_clamp (by omega)]; exact ⟨hv, rfl⟩⟩
  obtain ⟨parts0, hp0, hW⟩ := s_wipe dsT dbT dlT dbo dlo dth dw dh dall dtop dleft dright dparts
  obtain ⟨read0, hr0, hP⟩ := s_plain read
  have hRI : ∀ Q : Int32 → Int32 → Int32 → Int32 → Int32 → Int32 → Int32 → Int32 → Int32 → Int32 → Int32 → Int32 → Int32 → Int32 → Int32 → (Nat → Int32) → (Nat → Int32) → (Nat → Int32) → (Nat → Int32) → (Nat → Int32) → Prop, (∃ k, wp_X3_readInto (nI n) xb Q k 13 (nI 0) (nI 0) (nI 0) ts 0 0 0 5 3 0 (nI 0) (nI 0) (nI (2 ^ (0 * 0) - 1)) (nI (2 ^ 0 - 1)) (nI (lfm 0 0)) (nI (rgm 0 0)) parts0 dyl dwl dfl dol) → q_X3_readInto (nI n) pl ts dsT dbT dlT dbo dlo dth dw dh dall dtop dleft dright dparts xb dyl dwl dfl dol Q := by
    rintro Q ⟨k, hk⟩
    refine ⟨k, ?_⟩
    unfold F_X3_readInto_e
    exact hW _ hk
  rcases pr_loop T6 T7 (n + 1) 0 0 ts bg tk td 0 0 0 5 3 0 (nI 0) (nI 0) (nI (2 ^ (0 * 0) - 1)) (nI (2 ^ 0 - 1)) (nI (lfm 0 0)) (nI (rgm 0 0)) parts0 dyl dwl dfl dol read0 (by omega) (by omega) (by omega) (dR_0 hp0 hr0 dyl dwl dfl dol) with ⟨i', pl', ts', sT, bT, lT, bo, lo, th, w, h, all, top, left, right, parts, yl, wl, fl, ol, a, bg', td', read', hi', D', hC, hR⟩ | ⟨q, pl', sT, bT, lT, bo, lo, th, w, h, all, top, left, right, parts, yl, wl, fl, ol, a, tk', td', read', hq, hC, hR⟩
  · obtain ⟨W, H, thN, boN, loN, bt, lt, pa, fa, wo, ye, wh, S, -, -, -, -, -, A, hyw⟩ := D'
    have hth : th = nI thN := A.2.2.2.2.2.2.1
    subst hth
    obtain ⟨hill', now', kept', k0, k1, k2, k3, k4, hN⟩ := s_takes A.1 A.2.2.2.2.2.2.2.1 undos cames hill now kept
    obtain ⟨rows', b1, b2, hB⟩ := s_begin A.1 known rows yl wl
    refine .inl ⟨nI i', sT, bT, lT, bo, lo, nI thN, w, h, all, top, left, right, pl', ts', parts, yl, wl, fl, ol, rows', upd (upd ik ((0 : Int32)).toNatClampNeg (vp_nar .boolean (0 : Int32))) ((1 : Int32)).toNatClampNeg (vp_nar .boolean (0 : Int32)), a, bg', td', read', hill', now', kept', fun Q hQ => ?_, fun Q hQ => ?_, ⟨W, H, thN, boN, loN, pa, fa, wo, iS_hill S (fun k hk => k0 k (by omega)), iA_hill A (fun k hk => k0 k (by omega)), ?_⟩, ?_, ?_, k3, k4⟩
    · unfold q_X6_hill F_X6_hill_e
      refine hRI _ (hC _ (br_t (nI_pos' (by omega)) (hB _ ?_)))
      unfold q_X1_wipe F_X1_wipe_e q_X0_wipe F_X0_wipe_e
      rintro f rfl f2 rfl
      exact hQ
    · obtain ⟨k, hk⟩ := hR Q undos cames hill now kept (hN _ hQ)
      refine ⟨k, ?_⟩
      unfold F_X7_hill_e
      exact hP _ hk
    · refine rR0.mpr ⟨0, 0, 0, ye, wh, Nat.two_pow_pos _, by omega, by omega, b1.1, b1.2.1, b1.2.2, k1.1, k1.2.1, k1.2.2, fun t ht => ?_⟩
      obtain ⟨g1, g2, g3, g4, g5, g6⟩ := hyw t ht
      exact ⟨by omega, by omega, (b2 t ht).1.trans g3, (b2 t ht).2.trans g4, (k2 t ht).1.trans g5, (k2 t ht).2.trans g6⟩
    · rw [c0, c1, upd_at, if_neg (by omega), upd_at, if_pos rfl]; rfl
    · rw [c0, c1, upd_at, if_pos rfl]; rfl
  · refine .inr ⟨-10 - nI q, sT, bT, lT, bo, lo, th, w, h, all, top, left, right, pl', nI q, parts, yl, wl, fl, ol, a, nI q, tk', td', read', fun Q hQ => ?_, fun Q hQ => ?_⟩
    · unfold q_X6_hill F_X6_hill_e
      exact hRI _ (hC _ (br_f (n10 ⟨q, by omega⟩) hQ))
    · obtain ⟨k, hk⟩ := hR Q undos cames hill now kept hQ
      refine ⟨k, ?_⟩
      unfold F_X7_hill_e
      exact hP _ hk

/-! ===== fits, both ===== -/
def ac0 : Acc := (0, 65535, fun _ => 0)
def cmO (xp : Nat → Int32) (i : Nat) : Nat := (xp i).toNatClampNeg
def caF (W H : Nat) (pa : Nat → Nat) (xl : Int32) (xp : Nat → Int32) (lf found each : Int32) (fr : Nat → Int32) : Prop := lf = -1 ∨ ∃ d, d < 2 ^ (W * H) ∧ lf = nI d ∧ cR (W * H) xl.toNatClampNeg (go W H pa (cmO xp) d xl.toNatClampNeg 0 d (fun _ => 0) ac0) found each fr
theorem in24 {p : Int32} (h : decide ((-2 : Int32) ≤ p ∧ p ≤ 4) = true) : p = -2 ∨ p = -1 ∨ ∃ i : Nat, i ≤ 4 ∧ p = nI i := by
  have h := of_decide_eq_true h
  rw [fa_le, fa_le, show ((-2 : Int32)).toInt = -2 from by decide, show ((4 : Int32)).toInt = 4 from by decide] at h
  by_cases a : p.toInt = -2
  · exact .inl ((fa_eq _ _).mpr a)
  by_cases b : p.toInt = -1
  · exact .inr (.inl ((fa_eq _ _).mpr b))
  · refine .inr (.inr (inR_t (n := 4) (by decide) (decide_eq_true ⟨?_, ?_⟩)))
    · rw [fa_le, show ((0 : Int32)).toInt = 0 from by decide]; omega
    · rw [fa_le, show (nI 4).toInt = 4 from by decide]; omega
section Fit
variable {W H B dg st yr th : Nat} {pa ye wh : Nat → Nat} {w h all top left right xl yl lf found each each7 p : Int32} {parts hill rows now xp yp path fr places fr7 : Nat → Int32}
theorem pr_fits (S : iS W H pa w h all top left right parts hill) (R : row0 th (W * H) B dg st yr ye wh rows now) (K : iK xl xp yl yp) (ca : caF W H pa xl xp lf found each fr) : ∃ (r found' each' lf' : Int32) (path' fr' : Nat → Int32) (each7' : Int32) (places' fr7' : Nat → Int32), (∀ Q : Int32 → Int32 → Int32 → Int32 → (Nat → Int32) → (Nat → Int32) → Prop, Q r found' each' lf' path' fr' → q_X6_fits rows xl found each lf w h all top left right path fr parts xp p Q) ∧ (∀ Q : Int32 → Int32 → (Nat → Int32) → (Nat → Int32) → Prop, Q r each7' places' fr7' → q_X7_fits yl each7 now places fr7 hill yp p Q) ∧ caF W H pa xl xp lf' found' each' fr' := by
  have S' := S
  obtain ⟨hW, hH, hWH, ew, eh, ea, et, el, er, e0, e1, ep⟩ := S'
  have h16 := p16 hW hH
  have hcl := cells_le hW hH
  obtain ⟨r1, r2, r3, r4, r5, r6, r7, r8, r9, r10⟩ := R
  obtain ⟨m, hm, rfl, rfl, hk⟩ := K
  have ecl : (nI m).toNatClampNeg = m := nI_clamp (by omega)
  unfold caF at ca ⊢
  rw [ecl] at ca ⊢
  have hcx : ∀ i, i < m → cmO xp i ≤ 9 ∧ xp i = nI (cmO xp i) := fun i hi => by
    obtain ⟨a, v, hv, b⟩ := hk i hi
    have e : cmO xp i = v := by unfold cmO; rw [a, b, nI_clamp (by omega)]
    rw [e, a]; exact ⟨hv, b⟩
  have hcy : ∀ i, i < m → cmO xp i ≤ 9 ∧ yp i = nI (cmO xp i) := fun i hi => ⟨(hcx i hi).1, (hk i hi).1.symm.trans (hcx i hi).2⟩
  cases hin : decide ((-2 : Int32) ≤ p ∧ p ≤ 4) with
  | false =>
    refine ⟨-1, found, each, lf, path, fr, each7, places, fr7, fun Q hq => ?_, fun Q hq => ?_, ca⟩
    · unfold q_X6_fits F_X6_fits_e
      refine s_within ?_
      rw [hin]; exact p_m rfl hq
    · unfold q_X7_fits F_X7_fits_e
      refine s_in (b := -2) (c := 4) rfl rfl ?_
      rw [hin]; exact p_m rfl hq
  | true =>
    have hub : (go W H pa (cmO xp) dg m 0 dg (fun _ => 0) ac0).1 < 2 ^ 31 := by
      have := go_ub (W := W) (H := H) (pa := pa) (cm := cmO xp) (d := dg) hcl m 0 dg (fun _ => 0) ac0
      have h2 : 16 ^ m ≤ 16 ^ 5 := Nat.pow_le_pow_right (by decide) hm
      rw [show (16 : Nat) ^ 5 = 1048576 from rfl] at h2
      have h0 : ac0.1 = 0 := rfl
      omega
    have c00 : cR (W * H) m ac0 0 0 fr := ⟨by decide, by decide, fun _ => rfl, rfl, rfl, fun q => absurd rfl q⟩
    have c07 : cR7 (W * H) m ac0 0 65535 fr7 := ⟨by decide, by decide, fun _ => rfl, rfl, rfl, fun q => absurd rfl q⟩
    -- the class
    obtain ⟨f', e', path', fr', RR, hN⟩ : ∃ (f' e' : Int32) (path' fr' : Nat → Int32), cR (W * H) m (go W H pa (cmO xp) dg m 0 dg (fun _ => 0) ac0) f' e' fr' ∧ ∀ Q : Int32 → Int32 → Int32 → (Nat → Int32) → (Nat → Int32) → Prop, Q f' e' (nI dg) path' fr' → q_X1_lookFrom (nI m) found each lf w h all top left right path fr parts xp (nI dg) Q := by
      by_cases hl : lf = nI dg
      · refine ⟨found, each, path, fr, ?_, fun Q hq => ?_⟩
        · rcases ca with q | ⟨d2, a1, a2, a3⟩
          · rw [q] at hl
            exact absurd (Int32.le_of_eq hl.symm) (neg1_lt (by omega))
          · have : d2 = dg := nI_inj (by omega) (by omega) (a2.symm.trans hl)
            subst this
            exact a3
        · unfold q_X1_lookFrom F_X1_lookFrom_e
          refine p_m hl ?_
          rw [hl]; exact hq
      · obtain ⟨f', e', path', fr', RR, -, hN⟩ := s_follow (d := dg) (lf := nI dg) S hm rfl hcx m 0 dg (fun _ => 0) ac0 0 0 path fr 6 (by omega) (by omega) r1 (fun _ h => h) (fun i hi => by omega) c00 hub
        refine ⟨f', e', path', fr', RR, fun Q hq => ?_⟩
        unfold q_X1_lookFrom F_X1_lookFrom_e
        refine p_n hl ?_
        have hz : dif dg dg = 0 := Nat.eq_of_testBit_eq fun i => by rw [dif_bit (by omega), Nat.zero_testBit, Bool.and_not_self]
        have := hN (fun u2 u3 u4 u5 => Q u2 u3 (nI dg) u4 u5) hq
        rw [hz] at this
        exact this
    -- the reference
    obtain ⟨n7, e7, pl7, f7, R7, hN7⟩ : ∃ (n7 e7 : Int32) (pl7 f7 : Nat → Int32), cR7 (W * H) m (go W H pa (cmO xp) dg m 0 dg (fun _ => 0) ac0) n7 e7 f7 ∧ ∀ Q : Int32 → Int32 → (Nat → Int32) → (Nat → Int32) → Prop, Q n7 e7 pl7 f7 → q_X7_rows (nI m) each7 now places fr7 hill yp Q := by
      obtain ⟨n7, e7, pl7, f7, R7, -, hN7⟩ := s_rows (d := dg) (now := now) S hm rfl hcy r9 m 0 dg (fun _ => 0) ac0 0 65535 (upd places 0 (-1)) fr7 (by omega) r1 (fun _ h => h) (fun i hi => by omega) (fun _ => by rw [upd_at, if_pos rfl]) c07 hub
      refine ⟨n7, e7, pl7, f7, R7, fun Q hq => ?_⟩
      obtain ⟨n, hn⟩ := hN7 Q ⟨1, by
        show F_X7_rows_24 (nI m) now hill yp Q (wp_X7_rows (nI m) now hill yp Q 0) n7 (nI 0 + -1) (nI (bfr 0 dg (fun _ => 0))) 0 e7 pl7 f7
        unfold F_X7_rows_24
        exact br_t (by decide) hq⟩
      refine ⟨n, ?_⟩
      unfold F_X7_rows_e
      rw [c2, r9, c0]
      rintro x rfl f rfl
      exact hn
    have RR' := RR
    generalize go W H pa (cmO xp) dg m 0 dg (fun _ => 0) ac0 = g at RR R7 hub
    obtain ⟨a1, a2, a3, a4, a5, a6⟩ := RR
    obtain ⟨b1, b2, b3, b4, b5, b6⟩ := R7
    have ec : ∀ Q : Int32 → Int32 → Int32 → Int32 → (Nat → Int32) → (Nat → Int32) → Prop, _ → q_X6_fits rows (nI m) found each lf w h all top left right path fr parts xp p Q := fun Q hq => by
      unfold q_X6_fits F_X6_fits_e
      refine s_within ?_
      rw [hin]
      refine p_n (by decide) ?_
      unfold q_X2_dug F_X2_dug_e
      rw [c0, r4]
      exact hN _ hq
    have e7' : ∀ Q : Int32 → Int32 → (Nat → Int32) → (Nat → Int32) → Prop, _ → q_X7_fits (nI m) each7 now places fr7 hill yp p Q := fun Q hq => by
      unfold q_X7_fits F_X7_fits_e
      refine s_in (b := -2) (c := 4) rfl rfl ?_
      rw [hin]
      exact p_n (by decide) (hN7 _ hq)
    rcases in24 hin with hp | hp | ⟨i, hi, hp⟩
    · subst hp
      refine ⟨e', f', e', nI dg, path', fr', e7, pl7, f7, fun Q hq => ec Q ?_, fun Q hq => e7' Q ?_, .inr ⟨dg, r1, rfl, RR'⟩⟩
      · exact p_n (by decide) (p_m rfl hq)
      · refine br_f (by decide) (p_n (by decide) ?_)
        rw [a5] at hq
        by_cases z : g.1 = 0
        · rw [if_pos z] at hq
          exact p_m (by rw [b4, z]; rfl) hq
        · rw [if_neg z] at hq
          rw [b5] at hq ⊢
          exact p_n (by rw [b4]; exact nI_ne0 (by omega) b1) hq
    · subst hp
      refine ⟨f', f', e', nI dg, path', fr', e7, pl7, f7, fun Q hq => ec Q ?_, fun Q hq => e7' Q ?_, .inr ⟨dg, r1, rfl, RR'⟩⟩
      · exact p_m rfl hq
      · refine br_f (by decide) (p_m rfl ?_)
        rw [b4, ← a4]; exact hq
    · subst hp
      have n1 : ¬ nI i = -1 := fun q => absurd (Int32.le_of_eq q) (neg1_lt (by omega))
      have n2 : ¬ nI i = -2 := fun q => by
        have := nI_pos' (n := i) (by omega)
        rw [q] at this
        exact absurd this (by decide)
      by_cases z : g.1 = 0
      · refine ⟨-9, f', e', nI dg, path', fr', e7, pl7, f7, fun Q hq => ec Q ?_, fun Q hq => e7' Q ?_, .inr ⟨dg, r1, rfl, RR'⟩⟩
        · exact p_n n1 (p_n n2 (br_t (by rw [a4, z]; rfl) hq))
        · exact br_t (nI_pos' (by omega)) (br_t (by rw [b4, z]; rfl) hq)
      · have f0 : ¬ f' = 0 := by rw [a4]; exact nI_ne0 (by omega) a1
        have f7' : ¬ n7 = 0 := by rw [b4]; exact nI_ne0 (by omega) b1
        by_cases hlt : i < m
        · obtain ⟨p1, p2⟩ := a6 z i hlt
          obtain ⟨-, q2⟩ := b6 z i hlt
          have hW0 : 0 < W := by
            rcases Nat.eq_zero_or_pos W with q | q
            · rw [q, Nat.zero_mul] at p1; omega
            · exact q
          generalize g.2.2 i = c at p1 p2 q2
          have hcy' : W * (c / W) ≤ c := Nat.mul_div_le c W
          refine ⟨nI (10 * (c - W * (c / W)) + c / W), f', e', nI dg, path', fr', e7, pl7, f7, fun Q hq => ec Q ?_, fun Q hq => e7' Q ?_, .inr ⟨dg, r1, rfl, RR'⟩⟩
          · refine p_n n1 (p_n n2 (br_f f0 (br_t (nI_lt hlt (by omega)) ⟨vp_nI (by omega) (by decide), ?_⟩)))
            rw [nI_clamp (by omega), p2, ew]
            unfold q_X4_pairOf F_X4_pairOf_e
            refine s_quotient (by omega) hW0 (by omega) ?_
            show Q (10 * (nI c - nI W * nI (c / W)) + nI (c / W)) f' e' (nI dg) path' fr'
            rw [pk_mul, pk_sub hcy', show (10 : Int32) * nI (c - W * (c / W)) = nI (10 * (c - W * (c / W))) from pk_mul 10 _, nI_add]
            exact hq
          · refine br_t (nI_pos' (by omega)) (br_f f7' (br_t (nI_lt hlt (by omega)) ?_))
            rw [c0, e0, nI_clamp (by omega), q2]
            refine ⟨vp_nI (by omega) (by decide), nI_ne0 hW0 (by omega), vp_nI (by omega) (by decide), nI_ne0 hW0 (by omega), ?_⟩
            rw [pk_div (by omega) hW0 (by omega), pk_mul, Nat.mul_comm (c / W) W, pk_sub hcy', show (10 : Int32) * nI (c - W * (c / W)) = nI (10 * (c - W * (c / W))) from pk_mul 10 _, nI_add]
            exact hq
        · have nl : ¬ nI i < nI m := fun q => hlt ((nI_ltI (by omega) (by omega)).mp q)
          refine ⟨-9, f', e', nI dg, path', fr', e7, pl7, f7, fun Q hq => ec Q ?_, fun Q hq => e7' Q ?_, .inr ⟨dg, r1, rfl, RR'⟩⟩
          · exact p_n n1 (p_n n2 (br_f f0 (br_f nl hq)))
          · exact br_t (nI_pos' (by omega)) (br_f f7' (br_f nl hq))
end Fit

/-! ===== fits: the reference, and both ===== -/
section Fit
variable {W H : Nat} {pa cm : Nat → Nat} {d m : Nat} {w h all top left right len lf : Int32} {parts hill now vp : Nat → Int32}
/-- how it was before the last cell -/
def bfr (lv D : Nat) (P : Nat → Nat) : Nat := if lv = 0 then D else dif D (2 ^ P (lv - 1))
theorem n1_lt : ¬ (0 : Int32) ≤ nI 0 + -1 := by decide
theorem nI_m1 {l : Nat} : nI (l + 1) + (-1) = nI l := by
  rw [← nI_1, Int32.add_assoc, show (1 : Int32) + -1 = 0 from by decide]
  exact Int32.add_zero _
theorem lvl_t {lv : Nat} (h5 : lv ≤ 5) {D : Nat} {P : Nat → Nat} {N : Nat} (hN : N ≤ 16) {places : Nat → Int32} (hD : D < 65536) (hP : ∀ i, i < lv → P i < N ∧ places i = nI (P i)) {R : Int32 → Prop} (hR : R (nI (bfr lv D P))) : (0 ≤ nI lv + -1 → (vp_in (nI lv + -1) 5 ∧ (∀ x : Int32, x = (nI D &&& (((1 : Int32) <<< ((places (nI lv + -1).toNatClampNeg) &&& 31)) ^^^ (-1 : Int32))) → R x))) ∧ (¬ 0 ≤ nI lv + -1 → (∀ x : Int32, x = (nI D &&& nI D) → R x)) := by
  unfold bfr at hR
  cases lv with
  | zero =>
    refine br_f n1_lt ?_
    rw [fa_and, Nat.and_self]
    rintro x rfl
    exact hR
  | succ l =>
    rw [if_neg (Nat.succ_ne_zero l), Nat.add_sub_cancel] at hR
    rw [nI_m1]
    refine br_t (nI_pos' (by omega)) ⟨vp_nI (by omega) (by decide), ?_⟩
    have := hP l (by omega)
    rw [nI_clamp (by omega), this.2, sh1 (by omega), dif_I hD]
    rintro x rfl
    exact hR
theorem s_rows (S : iS W H pa w h all top left right parts hill) (hm : m ≤ 5) (elen : len = nI m) (hcm : ∀ i, i < m → cm i ≤ 9 ∧ vp i = nI (cm i)) (en : now 2 = nI d) : ∀ k lv D (P : Nat → Nat) (a : Acc) (x1 each : Int32) (places fr : Nat → Int32), k + lv = m → D < 2 ^ (W * H) → sub d D → (∀ i, i < lv → P i < W * H ∧ places i = nI (P i)) → (lv < m → places lv = -1) → cR7 (W * H) m a x1 each fr → (go W H pa cm d k lv D P a).1 < 2 ^ 31 → ∃ (x1' each' : Int32) (places' fr' : Nat → Int32), cR7 (W * H) m (go W H pa cm d k lv D P a) x1' each' fr' ∧ (∀ i, i < lv → places' i = places i) ∧ ∀ Q : Int32 → Int32 → (Nat → Int32) → (Nat → Int32) → Prop, (∃ n, wp_X7_rows len now hill vp Q n 24 x1' (nI lv + -1) (nI (bfr lv D P)) 0 each' places' fr') → ∃ n, wp_X7_rows len now hill vp Q n 24 x1 (nI lv) (nI D) 0 each places fr := by
  have S' := S
  obtain ⟨hW, hH, hWH, ew, eh, ea, et, el, er, e0, e1, ep⟩ := S'
  have h16 := p16 hW hH
  have hcl := cells_le hW hH
  intro k
  induction k with
  | zero =>
    intro lv D P a x1 each places fr hk hD hdD hP hneg R hlt
    have : lv = m := by omega
    subst this
    have hb : dif D d < 65536 := dif_lt (by omega)
    obtain ⟨a1, a2, a3, a4, a5, a6⟩ := R
    have hand : a.2.1 &&& dif D d < 65536 := Nat.lt_of_le_of_lt Nat.and_le_left a2
    have hlt' : a.1 + 1 < 2 ^ 31 := hlt
    -- the end of the row
    have E : ∀ (fr' : Nat → Int32) Q, (∃ n, wp_X7_rows len now hill vp Q n 24 (nI (a.1 + 1)) (nI lv + -1) (nI (bfr lv D P)) 0 (nI (a.2.1 &&& dif D d)) places fr') → ∃ n, wp_X7_rows len now hill vp Q n 72 x1 (nI lv) (nI D) 0 each places fr' := by
      intro fr' Q ⟨n, hn⟩
      refine ⟨n + 1, ?_⟩
      show F_X7_rows_72 len now hill vp Q (wp_X7_rows len now hill vp Q n) x1 (nI lv) (nI D) 0 each places fr'
      unfold F_X7_rows_72
      rw [a4, a5, c2, en, dif_I (by omega), fa_and, nI_1]
      rintro x rfl y rfl z rfl
      exact lvl_t (R := fun x => wp_X7_rows len now hill vp Q n 24 (nI (a.1 + 1)) (nI lv + -1) x 0 (nI (a.2.1 &&& dif D d)) places fr') hm hcl (by omega) hP hn
    have top24 : ∀ Q, (∃ n, wp_X7_rows len now hill vp Q n 39 x1 (nI lv) (nI D) 0 each places fr) → ∃ n, wp_X7_rows len now hill vp Q n 24 x1 (nI lv) (nI D) 0 each places fr := by
      intro Q ⟨n, hn⟩
      refine ⟨n + 1, ?_⟩
      show F_X7_rows_24 len now hill vp Q (wp_X7_rows len now hill vp Q n) x1 (nI lv) (nI D) 0 each places fr
      unfold F_X7_rows_24
      exact br_f (nI_pos (by omega)) (p_m elen.symm hn)
    by_cases z : a.1 = 0
    · have C : ∀ j i (f : Nat → Int32), i + j = lv → (∀ q, q < i → f q = places q) → ∃ f' : Nat → Int32, (∀ q, q < lv → f' q = places q) ∧ ∀ Q, (∃ n, wp_X7_rows len now hill vp Q n 72 x1 (nI lv) (nI D) 0 each places f') → ∃ n, wp_X7_rows len now hill vp Q n 39 x1 (nI lv) (nI D) (nI i) each places f := by
        intro j
        induction j with
        | zero =>
          intro i f hi hf
          have : i = lv := by omega
          subst this
          refine ⟨f, hf, fun Q ⟨n, hn⟩ => ⟨n + 1, ?_⟩⟩
          show F_X7_rows_39 len now hill vp Q (wp_X7_rows len now hill vp Q n) x1 (nI i) (nI D) (nI i) each places f
          unfold F_X7_rows_39
          exact br_t (by rw [elen]; exact Int32.le_refl _) hn
        | succ j ihj =>
          intro i f hi hf
          obtain ⟨f', hf', hN⟩ := ihj (i + 1) (upd f i (places i)) (by omega) (fun q hq => by
            rw [upd_at]
            by_cases e : q = i
            · rw [if_pos e, e]
            · rw [if_neg e]; exact hf q (by omega))
          refine ⟨f', hf', fun Q hQ => ?_⟩
          obtain ⟨n, hn⟩ := hN Q hQ
          refine ⟨n + 1, ?_⟩
          show F_X7_rows_39 len now hill vp Q (wp_X7_rows len now hill vp Q n) x1 (nI lv) (nI D) (nI i) each places f
          unfold F_X7_rows_39
          refine br_f (by rw [elen]; exact nI_ge (by omega) (by omega)) (p_m (by rw [a4, z]; rfl) ⟨vp_nI (by omega) (by decide), vp_nI (by omega) (by decide), ?_⟩)
          rw [nI_clamp (by omega)]
          rintro x rfl y rfl
          rw [nI_1]; exact hn
      obtain ⟨f', hf', hN⟩ := C lv 0 fr (by omega) (fun q hq => by omega)
      refine ⟨nI (a.1 + 1), nI (a.2.1 &&& dif D d), places, f', ⟨hlt', hand, fun q => absurd q (Nat.succ_ne_zero _), rfl, rfl, fun _ i hi => ?_⟩, fun _ _ => rfl, fun Q hQ => top24 Q (hN Q (E f' Q hQ))⟩
      show (if a.1 = 0 then P else a.2.2) i < W * H ∧ _ = nI ((if a.1 = 0 then P else a.2.2) i)
      rw [if_pos z, hf' i hi]
      exact hP i hi
    · refine ⟨nI (a.1 + 1), nI (a.2.1 &&& dif D d), places, fr, ⟨hlt', hand, fun q => absurd q (Nat.succ_ne_zero _), rfl, rfl, fun _ i hi => ?_⟩, fun _ _ => rfl, fun Q hQ => top24 Q ?_⟩
      · show (if a.1 = 0 then P else a.2.2) i < W * H ∧ _ = nI ((if a.1 = 0 then P else a.2.2) i)
        rw [if_neg z]
        exact a6 z i hi
      · obtain ⟨n, hn⟩ := E fr Q hQ
        refine ⟨n + 1, ?_⟩
        show F_X7_rows_39 len now hill vp Q (wp_X7_rows len now hill vp Q n) x1 (nI lv) (nI D) (nI 0) each places fr
        unfold F_X7_rows_39
        by_cases l0 : lv = 0
        · exact br_t (by rw [elen, l0]; exact Int32.le_refl _) hn
        · exact br_f (by rw [elen]; exact nI_ge (by omega) (by omega)) (p_n (by rw [a4]; exact nI_ne0 (by omega) a1) hn)
  | succ k ih =>
    intro lv D P a x10 each0 places0 fr0 hk hD hdD hP hneg R hlt
    rw [go_s] at hlt ⊢
    -- from 131 on: cell c is looked at
    have L : ∀ j c (x1 each : Int32) (places fr : Nat → Int32), c + j = W * H → (∀ i, i < lv → places i = places0 i) → places lv = nI c → cR7 (W * H) m (fld (stp W H pa cm d k lv D P) c a) x1 each fr → ∃ (x1' each' : Int32) (places' fr' : Nat → Int32), cR7 (W * H) m (fld (stp W H pa cm d k lv D P) (W * H) a) x1' each' fr' ∧ (∀ i, i < lv → places' i = places0 i) ∧ ∀ Q : Int32 → Int32 → (Nat → Int32) → (Nat → Int32) → Prop, (∃ n, wp_X7_rows len now hill vp Q n 24 x1' (nI lv + -1) (nI (bfr lv D P)) 0 each' places' fr') → ∃ n, wp_X7_rows len now hill vp Q n 131 x1 (nI lv) (nI D) 0 each places fr := by
      intro j
      induction j with
      | zero =>
        intro c x1 each places fr hc hp hpl R
        have : c = W * H := by omega
        subst this
        refine ⟨x1, each, places, fr, R, hp, fun Q ⟨n, hn⟩ => ⟨n + 2, ?_⟩⟩
        show F_X7_rows_131 len now hill vp Q (wp_X7_rows len now hill vp Q (n + 1)) x1 (nI lv) (nI D) 0 each places fr
        unfold F_X7_rows_131
        refine ⟨vp_nI (by omega) (by decide), s_cells7 e0 e1 ?_⟩
        rw [nI_clamp (by omega), hpl]
        refine br_t (Int32.le_refl _) ?_
        show F_X7_rows_194 len now hill vp Q (wp_X7_rows len now hill vp Q n) x1 (nI lv) (nI D) 0 each places fr
        unfold F_X7_rows_194
        refine ⟨vp_nI (by omega) (by decide), s_cells7 e0 e1 ?_⟩
        rw [nI_clamp (n := lv) (by omega), hpl]
        refine br_t (Int32.le_refl _) ?_
        rintro x rfl
        exact lvl_t (R := fun x => wp_X7_rows len now hill vp Q n 24 x1 (nI lv + -1) x 0 each places fr) (by omega) hcl (by omega) (fun i hi => ⟨(hP i hi).1, (hp i hi).trans (hP i hi).2⟩) hn
      | succ j ihj =>
        intro c x1 each places fr hc hp hpl R
        have eS : fld (stp W H pa cm d k lv D P) (c + 1) a = stp W H pa cm d k lv D P c (fld (stp W H pa cm d k lv D P) c a) := rfl
        by_cases ok : pa c = cm lv ∧ mayN W H D c = true
        · have eG : fld (stp W H pa cm d k lv D P) (c + 1) a = go W H pa cm d k (lv + 1) (D ||| 2 ^ c) (upN P lv c) (fld (stp W H pa cm d k lv D P) c a) := by rw [eS]; exact if_pos ok
          have hDc := (of_may ok.2).1
          have hlt2 : (go W H pa cm d k (lv + 1) (D ||| 2 ^ c) (upN P lv c) (fld (stp W H pa cm d k lv D P) c a)).1 < 2 ^ 31 := by
            rw [← eG]
            have := fld_mono (stp_le (W := W) (H := H) (pa := pa) (cm := cm) (d := d) k lv D P) (c + 1) a (W * H - (c + 1))
            rw [show c + 1 + (W * H - (c + 1)) = W * H by omega] at this
            omega
          have hor : D ||| 2 ^ c < 2 ^ (W * H) := Nat.or_lt_two_pow hD (Nat.pow_lt_pow_right (by decide) (by omega))
          -- what is written for the next level
          obtain ⟨pl1, hq1, hq2, hq3⟩ : ∃ pl1 : Nat → Int32, (∀ i, i < lv + 1 → pl1 i = places i) ∧ (lv + 1 < m → pl1 (lv + 1) = -1) ∧ ∀ Q n, wp_X7_rows len now hill vp Q n 24 x1 (nI (lv + 1)) (nI (D ||| 2 ^ c)) 0 each pl1 fr → wp_X7_rows len now hill vp Q (n + 2) 131 x1 (nI lv) (nI D) 0 each places fr := by
            have pre : ∀ Q n, (((5 : Int32) ≤ nI (lv + 1) → wp_X7_rows len now hill vp Q n 24 x1 (nI (lv + 1)) (nI (D ||| 2 ^ c)) 0 each places fr) ∧ (¬ (5 : Int32) ≤ nI (lv + 1) → (vp_in (nI (lv + 1)) 5 ∧ (∀ f_63 : Nat → Int32, f_63 = upd places (nI (lv + 1)).toNatClampNeg (-1 : Int32) → (wp_X7_rows len now hill vp Q n 24 x1 (nI (lv + 1)) (nI (D ||| 2 ^ c)) 0 each f_63 fr))))) → wp_X7_rows len now hill vp Q (n + 2) 131 x1 (nI lv) (nI D) 0 each places fr := by
              intro Q n hn
              show F_X7_rows_131 len now hill vp Q (wp_X7_rows len now hill vp Q (n + 1)) x1 (nI lv) (nI D) 0 each places fr
              unfold F_X7_rows_131
              refine ⟨vp_nI (by omega) (by decide), s_cells7 e0 e1 ?_⟩
              rw [nI_clamp (by omega), hpl]
              refine br_f (nI_ge (b := W * H) (by omega) (by omega)) ⟨vp_nI (by omega) (by decide), ?_⟩
              rw [show (6 : Int32) + nI c = nI (6 + c) from nI_add 6 c, nI_clamp (n := 6 + c) (by omega), (ep c (by omega)).2.2, (hcm lv (by omega)).2]
              refine ⟨vp_nI (by omega) (by decide), vp_nI (by omega) (by decide), p_m (by rw [ok.1]) ⟨vp_nI (by omega) (by decide), s_may7 hW hH hD (by omega) e0 e1 ?_⟩⟩
              rw [ok.2]
              refine p_n (by decide) ?_
              show F_X7_rows_194 len now hill vp Q (wp_X7_rows len now hill vp Q n) x1 (nI lv) (nI D) 0 each places fr
              unfold F_X7_rows_194
              refine ⟨vp_nI (by omega) (by decide), s_cells7 e0 e1 ?_⟩
              rw [nI_clamp (n := lv) (by omega), hpl]
              refine br_f (nI_ge (b := W * H) (by omega) (by omega)) ⟨vp_nI (by omega) (by decide), ?_⟩
              rw [sh1 (by omega), fa_or, nI_1]
              rintro x rfl y rfl
              exact hn
            by_cases g5 : lv + 1 < 5
            · refine ⟨upd places (lv + 1) (-1), fun i hi => by rw [upd_at, if_neg (by omega)], fun _ => by rw [upd_at, if_pos rfl], fun Q n hn => pre Q n (br_f (nI_ge (b := 5) g5 (by decide)) ⟨vp_nI (by omega) (by decide), ?_⟩)⟩
              rw [nI_clamp (by omega)]
              rintro f rfl
              exact hn
            · exact ⟨places, fun _ _ => rfl, fun q => by omega, fun Q n hn => pre Q n (br_t (nI_le (a := 5) (by omega) (by omega)) hn)⟩
          obtain ⟨y1, y2, y3, y4, R1, hp1, hN1⟩ := ih (lv + 1) (D ||| 2 ^ c) (upN P lv c) _ x1 each pl1 fr (by omega) hor (fun i hi => by rw [fb_bit_set, hdD i hi]; rfl) (fun i hi => by
            rw [hq1 i hi]
            unfold upN
            by_cases e : i = lv
            · rw [if_pos e, e]; exact ⟨by omega, hpl⟩
            · rw [if_neg e, hp i (by omega)]; exact hP i (by omega)) hq2 R hlt2
          rw [← eG] at R1
          have hbf : bfr (lv + 1) (D ||| 2 ^ c) (upN P lv c) = D := by
            unfold bfr upN
            rw [if_neg (Nat.succ_ne_zero lv), Nat.add_sub_cancel, if_pos rfl]
            refine Nat.eq_of_testBit_eq fun i => ?_
            rw [dif_bit (by omega), fb_bit_set, Nat.testBit_two_pow]
            by_cases e : i = c
            · subst e; rw [hDc]; simp
            · rw [decide_eq_false e, decide_eq_false (fun q => e q.symm)]; simp
          rw [hbf, nI_m1] at hN1
          have hy3 : y3 lv = nI c := by rw [hp1 lv (by omega), hq1 lv (by omega)]; exact hpl
          obtain ⟨z1, z2, z3, z4, R2, hp2, hN2⟩ := ihj (c + 1) y1 y2 (upd y3 lv (nI (c + 1))) y4 (by omega) (fun i hi => by rw [upd_at, if_neg (by omega), hp1 i (by omega), hq1 i (by omega)]; exact hp i hi) (by rw [upd_at, if_pos rfl]) R1
          refine ⟨z1, z2, z3, z4, R2, hp2, fun Q hQ => ?_⟩
          obtain ⟨n, hn⟩ := hN2 Q hQ
          obtain ⟨n2, hn2⟩ := hN1 Q ⟨n + 1, by
            show F_X7_rows_24 len now hill vp Q (wp_X7_rows len now hill vp Q n) y1 (nI lv) (nI D) 0 y2 y3 y4
            unfold F_X7_rows_24
            refine br_f (nI_pos (by omega)) (p_n (by rw [elen]; exact fun q => by have := nI_inj (by omega) (by omega) q; omega) ⟨vp_nI (by omega) (by decide), vp_nI (by omega) (by decide), ?_⟩)
            rw [nI_clamp (by omega), hy3, nI_1]
            rintro f rfl
            exact hn⟩
          exact ⟨n2 + 2, hq3 Q n2 hn2⟩
        · have eG : fld (stp W H pa cm d k lv D P) (c + 1) a = fld (stp W H pa cm d k lv D P) c a := by rw [eS]; exact if_neg ok
          obtain ⟨z1, z2, z3, z4, R2, hp2, hN2⟩ := ihj (c + 1) x1 each (upd places lv (nI (c + 1))) fr (by omega) (fun i hi => by rw [upd_at, if_neg (by omega)]; exact hp i hi) (by rw [upd_at, if_pos rfl]) (by rw [eG]; exact R)
          refine ⟨z1, z2, z3, z4, R2, hp2, fun Q hQ => ?_⟩
          obtain ⟨n, hn⟩ := hN2 Q hQ
          refine ⟨n + 2, ?_⟩
          have h181 : wp_X7_rows len now hill vp Q (n + 1) 181 x1 (nI lv) (nI D) 0 each places fr := by
            show F_X7_rows_181 len now hill vp Q (wp_X7_rows len now hill vp Q n) x1 (nI lv) (nI D) 0 each places fr
            unfold F_X7_rows_181
            refine ⟨vp_nI (by omega) (by decide), vp_nI (by omega) (by decide), ?_⟩
            rw [nI_clamp (by omega), hpl, nI_1]
            rintro f rfl
            exact hn
          show F_X7_rows_131 len now hill vp Q (wp_X7_rows len now hill vp Q (n + 1)) x1 (nI lv) (nI D) 0 each places fr
          unfold F_X7_rows_131
          refine ⟨vp_nI (by omega) (by decide), s_cells7 e0 e1 ?_⟩
          rw [nI_clamp (by omega), hpl]
          refine br_f (nI_ge (b := W * H) (by omega) (by omega)) ⟨vp_nI (by omega) (by decide), ?_⟩
          rw [show (6 : Int32) + nI c = nI (6 + c) from nI_add 6 c, nI_clamp (n := 6 + c) (by omega), (ep c (by omega)).2.2, (hcm lv (by omega)).2]
          refine ⟨vp_nI (by omega) (by decide), vp_nI (by omega) (by decide), ?_⟩
          by_cases epc : pa c = cm lv
          · refine p_m (by rw [epc]) ⟨vp_nI (by omega) (by decide), s_may7 hW hH hD (by omega) e0 e1 ?_⟩
            cases hmy : mayN W H D c with
            | false => exact p_m rfl h181
            | true => exact absurd ⟨epc, hmy⟩ ok
          · have h1 := (ep c (by omega)).1
            have h2 := (hcm lv (by omega)).1
            exact p_n (fun q => epc (nI_inj (by omega) (by omega) q)) h181
    obtain ⟨z1, z2, z3, z4, R2, hp2, hN2⟩ := L (W * H) 0 x10 each0 (upd places0 lv (nI 0)) fr0 (by omega) (fun i hi => by rw [upd_at, if_neg (by omega)]) (by rw [upd_at, if_pos rfl]) R
    refine ⟨z1, z2, z3, z4, R2, hp2, fun Q hQ => ?_⟩
    obtain ⟨n, hn⟩ := hN2 Q hQ
    refine ⟨n + 1, ?_⟩
    show F_X7_rows_24 len now hill vp Q (wp_X7_rows len now hill vp Q n) x10 (nI lv) (nI D) 0 each0 places0 fr0
    unfold F_X7_rows_24
    refine br_f (nI_pos (by omega)) (p_n (by rw [elen]; exact fun q => by have := nI_inj (by omega) (by omega) q; omega) ⟨vp_nI (by omega) (by decide), vp_nI (by omega) (by decide), ?_⟩)
    rw [nI_clamp (by omega), hneg (by omega), show (-1 : Int32) + 1 = nI 0 from by decide]
    rintro f rfl
    exact hn
end Fit

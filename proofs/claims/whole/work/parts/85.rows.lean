/-! ===== fits: the class ===== -/
abbrev Acc := Nat × Nat × (Nat → Nat)
def fld (f : Nat → Acc → Acc) : Nat → Acc → Acc
  | 0, a => a
  | c + 1, a => f c (fld f c a)
def go (W H : Nat) (pa cm : Nat → Nat) (d : Nat) : Nat → Nat → Nat → (Nat → Nat) → Acc → Acc
  | 0, _, D, P, a => (a.1 + 1, a.2.1 &&& dif D d, if a.1 = 0 then P else a.2.2)
  | k + 1, lv, D, P, a => fld (fun c a => if pa c = cm lv ∧ mayN W H D c = true then go W H pa cm d k (lv + 1) (D ||| 2 ^ c) (upN P lv c) a else a) (W * H) a
def stp (W H : Nat) (pa cm : Nat → Nat) (d k lv D : Nat) (P : Nat → Nat) (c : Nat) (a : Acc) : Acc := if pa c = cm lv ∧ mayN W H D c = true then go W H pa cm d k (lv + 1) (D ||| 2 ^ c) (upN P lv c) a else a
theorem go_s (W H : Nat) (pa cm : Nat → Nat) (d k lv D : Nat) (P : Nat → Nat) (a : Acc) : go W H pa cm d (k + 1) lv D P a = fld (stp W H pa cm d k lv D P) (W * H) a := rfl
theorem fld_le {f : Nat → Acc → Acc} (hf : ∀ c a, a.1 ≤ (f c a).1) : ∀ n a, a.1 ≤ (fld f n a).1
  | 0, a => Nat.le_refl _
  | n + 1, a => Nat.le_trans (fld_le hf n a) (hf n _)
theorem fld_mono {f : Nat → Acc → Acc} (hf : ∀ c a, a.1 ≤ (f c a).1) (n : Nat) (a : Acc) : ∀ j, (fld f n a).1 ≤ (fld f (n + j) a).1
  | 0 => Nat.le_refl _
  | j + 1 => Nat.le_trans (fld_mono hf n a j) (hf (n + j) _)
theorem fld_ub {f : Nat → Acc → Acc} {B : Nat} (hf : ∀ c a, (f c a).1 ≤ a.1 + B) : ∀ n a, (fld f n a).1 ≤ a.1 + n * B
  | 0, a => by rw [Nat.zero_mul]; exact Nat.le_refl _
  | n + 1, a => by
    have h1 := fld_ub hf n a
    have h2 := hf n (fld f n a)
    rw [Nat.succ_mul]
    show (f n (fld f n a)).1 ≤ _
    omega
section Go
variable {W H : Nat} {pa cm : Nat → Nat} {d : Nat}
theorem go_le : ∀ k lv D P a, a.1 ≤ (go W H pa cm d k lv D P a).1
  | 0, lv, D, P, a => Nat.le_succ _
  | k + 1, lv, D, P, a => by
    rw [go_s]
    refine fld_le (fun c a => ?_) _ a
    unfold stp
    split
    · exact go_le k _ _ _ _
    · exact Nat.le_refl _
theorem stp_le (k lv D : Nat) (P : Nat → Nat) (c : Nat) (a : Acc) : a.1 ≤ (stp W H pa cm d k lv D P c a).1 := by
  unfold stp
  split
  · exact go_le k _ _ _ _
  · exact Nat.le_refl _
theorem go_ub (hn : W * H ≤ 16) : ∀ k lv D P a, (go W H pa cm d k lv D P a).1 ≤ a.1 + 16 ^ k
  | 0, lv, D, P, a => Nat.le_refl _
  | k + 1, lv, D, P, a => by
    rw [go_s]
    have := fld_ub (f := stp W H pa cm d k lv D P) (B := 16 ^ k) (fun c a => by
      unfold stp
      split
      · exact go_ub hn k _ _ _ _
      · exact Nat.le_add_right _ _) (W * H) a
    have h2 : W * H * 16 ^ k ≤ 16 * 16 ^ k := Nat.mul_le_mul_right _ hn
    rw [Nat.pow_succ, Nat.mul_comm (16 ^ k) 16]
    omega
end Go
def cR (N m : Nat) (a : Acc) (found each : Int32) (fr : Nat → Int32) : Prop := a.1 < 2 ^ 31 ∧ a.2.1 < 65536 ∧ (a.1 = 0 → a.2.1 = 65535) ∧ found = nI a.1 ∧ each = (if a.1 = 0 then 0 else nI a.2.1) ∧ (a.1 ≠ 0 → ∀ i, i < m → a.2.2 i < N ∧ fr i = nI (a.2.2 i))
def cR7 (N m : Nat) (a : Acc) (found each : Int32) (fr : Nat → Int32) : Prop := a.1 < 2 ^ 31 ∧ a.2.1 < 65536 ∧ (a.1 = 0 → a.2.1 = 65535) ∧ found = nI a.1 ∧ each = nI a.2.1 ∧ (a.1 ≠ 0 → ∀ i, i < m → a.2.2 i < N ∧ fr i = nI (a.2.2 i))
theorem dif_or {D d c : Nat} (hD : D < 65536) (hc : c < 16) (hd : d.testBit c = false) : dif D d ||| 2 ^ c = dif (D ||| 2 ^ c) d := by
  have h2 : 2 ^ c < 2 ^ 16 := Nat.pow_lt_pow_right (by decide) hc
  have h3 : D ||| 2 ^ c < 2 ^ 16 := Nat.or_lt_two_pow hD h2
  refine Nat.eq_of_testBit_eq fun i => ?_
  rw [fb_bit_set, dif_bit hD, dif_bit h3, fb_bit_set]
  by_cases e : i = c
  · subst e; rw [hd]; simp
  · rw [decide_eq_false e]; simp
section Fit
variable {W H : Nat} {pa cm : Nat → Nat} {d m : Nat} {w h all top left right len lf : Int32} {parts hill vp : Nat → Int32}
theorem s_take {a : Acc} {b : Nat} {P : Nat → Nat} {N : Nat} {found each : Int32} {path fr : Nat → Int32} (hm : m ≤ 5) (R : cR N m a found each fr) (hb : b < 65536) (hl : a.1 + 1 < 2 ^ 31) (hP : ∀ i, i < m → P i < N ∧ path i = nI (P i)) : ∃ found' each' fr', cR N m (a.1 + 1, a.2.1 &&& b, if a.1 = 0 then P else a.2.2) found' each' fr' ∧ ∀ Q : Int32 → Int32 → (Nat → Int32) → Prop, Q found' each' fr' → q_X1_take found each path fr (nI b) Q := by
  obtain ⟨a1, a2, a3, a4, a5, a6⟩ := R
  have hand : a.2.1 &&& b < 65536 := Nat.lt_of_le_of_lt Nat.and_le_left a2
  by_cases z : a.1 = 0
  · refine ⟨nI (a.1 + 1), nI (a.2.1 &&& b), va_cpy path fr 0 0 5, ⟨hl, hand, fun q => absurd q (Nat.succ_ne_zero _), rfl, (if_neg (Nat.succ_ne_zero _)).symm, fun _ i hi => ?_⟩, fun Q hq => ⟨1, ?_⟩⟩
    · show (if a.1 = 0 then P else a.2.2) i < N ∧ _ = nI ((if a.1 = 0 then P else a.2.2) i)
      rw [if_pos z]
      refine ⟨(hP i hi).1, ?_⟩
      rw [pk_cpy_in (Nat.zero_le i) (by omega), Nat.zero_add, Nat.sub_zero]; exact (hP i hi).2
    · unfold F_X1_take_e
      refine p_m (by rw [a4, z]; rfl) ?_
      rintro x rfl
      show F_X1_take_26 path (nI b) Q (wp_X1_take path (nI b) Q 0) found (nI b) _
      unfold F_X1_take_26
      rw [fa_and, Nat.and_self, a4, nI_1]
      rintro x rfl y rfl
      have e : a.2.1 &&& b = b := by
        rw [a3 z, Nat.and_comm]
        have := Nat.and_two_pow_sub_one_eq_mod b 16
        rw [show 2 ^ 16 - 1 = 65535 from rfl, Nat.mod_eq_of_lt hb] at this
        exact this
      rw [e] at hq
      exact hq
  · refine ⟨nI (a.1 + 1), nI (a.2.1 &&& b), fr, ⟨hl, hand, fun q => absurd q (Nat.succ_ne_zero _), rfl, (if_neg (Nat.succ_ne_zero _)).symm, fun _ i hi => ?_⟩, fun Q hq => ⟨1, ?_⟩⟩
    · show (if a.1 = 0 then P else a.2.2) i < N ∧ _ = nI ((if a.1 = 0 then P else a.2.2) i)
      rw [if_neg z]
      exact a6 z i hi
    · unfold F_X1_take_e
      refine p_n (by rw [a4]; exact nI_ne0 (by omega) a1) ?_
      show F_X1_take_26 path (nI b) Q (wp_X1_take path (nI b) Q 0) found each _
      unfold F_X1_take_26
      rw [a5, if_neg z, fa_and, a4, nI_1]
      rintro x rfl y rfl
      exact hq
theorem s_follow (S : iS W H pa w h all top left right parts hill) (hm : m ≤ 5) (elen : len = nI m) (hcm : ∀ i, i < m → cm i ≤ 9 ∧ vp i = nI (cm i)) : ∀ k lv D (P : Nat → Nat) (a : Acc) (found each : Int32) (path fr : Nat → Int32) (t : Nat), k + lv = m → k ≤ t → D < 2 ^ (W * H) → sub d D → (∀ i, i < lv → P i < W * H ∧ path i = nI (P i)) → cR (W * H) m a found each fr → (go W H pa cm d k lv D P a).1 < 2 ^ 31 → ∃ (found' each' : Int32) (path' fr' : Nat → Int32), cR (W * H) m (go W H pa cm d k lv D P a) found' each' fr' ∧ (∀ i, i < lv → path' i = path i) ∧ ∀ Q : Int32 → Int32 → (Nat → Int32) → (Nat → Int32) → Prop, Q found' each' path' fr' → q_X1_follow (t + 1) len found each lf w h all top left right path fr parts vp (nI lv) (nI D) (nI (dif D d)) Q := by
  have S' := S
  obtain ⟨hW, hH, hWH, ew, eh, ea, et, el, er, e0, e1, ep⟩ := S'
  have h16 := p16 hW hH
  have hcl := cells_le hW hH
  intro k
  induction k with
  | zero =>
    intro lv D P a found each path fr t hk ht hD hdD hP R hlt
    have : lv = m := by omega
    subst this
    have hb : dif D d < 65536 := dif_lt (by omega)
    obtain ⟨f', e', fr', R', hN⟩ := s_take (path := path) (P := P) hm R hb hlt hP
    refine ⟨f', e', path, fr', R', fun _ _ => rfl, fun Q hq => ⟨1, ?_⟩⟩
    unfold F_X1_follow_e
    rw [elen]
    refine br_t (Int32.le_refl _) ?_
    exact hN _ hq
  | succ k ih =>
    intro lv D P a found0 each0 path0 fr0 t hk ht hD hdD hP R hlt
    obtain ⟨t', rfl⟩ : ∃ t', t = t' + 1 := ⟨t - 1, by omega⟩
    rw [go_s] at hlt ⊢
    have L : ∀ j c (found each : Int32) (path fr : Nat → Int32), c + j = W * H → (∀ i, i < lv → path i = path0 i) → cR (W * H) m (fld (stp W H pa cm d k lv D P) c a) found each fr → ∃ (found' each' : Int32) (path' fr' : Nat → Int32), cR (W * H) m (fld (stp W H pa cm d k lv D P) (W * H) a) found' each' fr' ∧ (∀ i, i < lv → path' i = path0 i) ∧ ∀ Q : Int32 → Int32 → (Nat → Int32) → (Nat → Int32) → Prop, Q found' each' path' fr' → ∃ n, wp_X1_follow (q_X1_follow (t' + 1)) len lf w h all top left right parts vp (nI lv) (nI D) (nI (dif D d)) Q n 30 (nI (opS W H D)) (nI c) found each path fr := by
      intro j
      induction j with
      | zero =>
        intro c found each path fr hc hp R
        have : c = W * H := by omega
        subst this
        refine ⟨found, each, path, fr, R, hp, fun Q hq => ⟨1, ?_⟩⟩
        show F_X1_follow_30 (q_X1_follow (t' + 1)) len lf w h all top left right parts vp (nI lv) (nI D) (nI (dif D d)) Q (wp_X1_follow (q_X1_follow (t' + 1)) len lf w h all top left right parts vp (nI lv) (nI D) (nI (dif D d)) Q 0) (nI (opS W H D)) (nI (W * H)) found each path fr
        unfold F_X1_follow_30 q_X4_cells F_X4_cells_e
        rw [ew, eh, pk_mul]
        exact br_t (Int32.le_refl _) hq
      | succ j ihj =>
        intro c found each path fr hc hp R
        have hce : (opS W H D).testBit c = mayN W H D c := by rw [opS_bit hW hH hD, decide_eq_true (show c < W * H by omega), Bool.true_and]
        have eS : fld (stp W H pa cm d k lv D P) (c + 1) a = stp W H pa cm d k lv D P c (fld (stp W H pa cm d k lv D P) c a) := rfl
        by_cases ok : pa c = cm lv ∧ mayN W H D c = true
        · have eG : fld (stp W H pa cm d k lv D P) (c + 1) a = go W H pa cm d k (lv + 1) (D ||| 2 ^ c) (upN P lv c) (fld (stp W H pa cm d k lv D P) c a) := by rw [eS]; exact if_pos ok
          have hDc := (of_may ok.2).1
          have hdc : d.testBit c = false := by
            cases q : d.testBit c with
            | false => rfl
            | true => rw [hdD c q] at hDc; cases hDc
          have hlt2 : (go W H pa cm d k (lv + 1) (D ||| 2 ^ c) (upN P lv c) (fld (stp W H pa cm d k lv D P) c a)).1 < 2 ^ 31 := by
            rw [← eG]
            have := fld_mono (stp_le (W := W) (H := H) (pa := pa) (cm := cm) (d := d) k lv D P) (c + 1) a (W * H - (c + 1))
            rw [show c + 1 + (W * H - (c + 1)) = W * H by omega] at this
            omega
          obtain ⟨f1, e1', path1, fr1, R1, hp1, hN1⟩ := ih (lv + 1) (D ||| 2 ^ c) (upN P lv c) _ found each (upd path lv (nI c)) fr t' (by omega) (by omega) (Nat.or_lt_two_pow hD (Nat.pow_lt_pow_right (by decide) (by omega))) (fun i hi => by rw [fb_bit_set, hdD i hi]; rfl) (fun i hi => by
            rw [upd_at]
            unfold upN
            by_cases e : i = lv
            · rw [if_pos e, if_pos e]; exact ⟨by omega, rfl⟩
            · rw [if_neg e, if_neg e, hp i (by omega)]; exact hP i (by omega)) R hlt2
          rw [← eG] at R1
          obtain ⟨f2, e2, path2, fr2, R2, hp2, hN2⟩ := ihj (c + 1) f1 e1' path1 fr1 (by omega) (fun i hi => by rw [hp1 i (by omega), upd_at, if_neg (by omega)]; exact hp i hi) R1
          refine ⟨f2, e2, path2, fr2, R2, hp2, fun Q hq => ?_⟩
          obtain ⟨n, hn⟩ := hN2 Q hq
          refine ⟨n + 1, ?_⟩
          show F_X1_follow_30 (q_X1_follow (t' + 1)) len lf w h all top left right parts vp (nI lv) (nI D) (nI (dif D d)) Q (wp_X1_follow (q_X1_follow (t' + 1)) len lf w h all top left right parts vp (nI lv) (nI D) (nI (dif D d)) Q n) (nI (opS W H D)) (nI c) found each path fr
          unfold F_X1_follow_30 q_X4_cells F_X4_cells_e
          rw [show w * h = nI (W * H) by rw [ew, eh, pk_mul]]
          refine br_f (nI_ge (b := W * H) (by omega) (by omega)) (br_f (nI_ge (b := 16) (by omega) (by decide)) ?_)
          rw [sh1 (by omega)]
          rintro x rfl
          refine br_f (fun q => by rw [(fa_bit (by omega)).mp q, ok.2] at hce; cases hce) ⟨vp_nI (by omega) (by decide), vp_nI (by omega) (by decide), ?_⟩
          rw [nI_clamp (by omega), nI_clamp (by omega)]
          refine p_m (by rw [(ep c (by omega)).2.1, (hcm lv (by omega)).2, ok.1]) ⟨vp_nI (by omega) (by decide), ?_⟩
          rintro x rfl
          rw [nI_1, fa_or, fa_or, dif_or (by omega) (by omega) hdc]
          refine hN1 _ ?_
          rintro x rfl
          rw [nI_1]; exact hn
        · have eG : fld (stp W H pa cm d k lv D P) (c + 1) a = fld (stp W H pa cm d k lv D P) c a := by rw [eS]; exact if_neg ok
          obtain ⟨f2, e2, path2, fr2, R2, hp2, hN2⟩ := ihj (c + 1) found each path fr (by omega) hp (by rw [eG]; exact R)
          refine ⟨f2, e2, path2, fr2, R2, hp2, fun Q hq => ?_⟩
          obtain ⟨n, hn⟩ := hN2 Q hq
          refine ⟨n + 1, ?_⟩
          show F_X1_follow_30 (q_X1_follow (t' + 1)) len lf w h all top left right parts vp (nI lv) (nI D) (nI (dif D d)) Q (wp_X1_follow (q_X1_follow (t' + 1)) len lf w h all top left right parts vp (nI lv) (nI D) (nI (dif D d)) Q n) (nI (opS W H D)) (nI c) found each path fr
          unfold F_X1_follow_30 q_X4_cells F_X4_cells_e
          rw [show w * h = nI (W * H) by rw [ew, eh, pk_mul]]
          refine br_f (nI_ge (b := W * H) (by omega) (by omega)) (br_f (nI_ge (b := 16) (by omega) (by decide)) ?_)
          rw [sh1 (by omega)]
          rintro x rfl
          cases hmy : mayN W H D c with
          | false =>
            refine br_t ((fa_bit (by omega)).mpr (by rw [hce, hmy])) ?_
            rintro x rfl
            rw [nI_1]; exact hn
          | true =>
            refine br_f (fun q => by rw [(fa_bit (by omega)).mp q, hmy] at hce; cases hce) ⟨vp_nI (by omega) (by decide), vp_nI (by omega) (by decide), ?_⟩
            rw [nI_clamp (by omega), nI_clamp (by omega)]
            refine p_n (fun q => ?_) ?_
            · rw [(ep c (by omega)).2.1, (hcm lv (by omega)).2] at q
              have h1 := (ep c (by omega)).1
              have h2 := (hcm lv (by omega)).1
              exact ok ⟨nI_inj (by omega) (by omega) q, hmy⟩
            · rintro x rfl
              rw [nI_1]; exact hn
    obtain ⟨f2, e2, path2, fr2, R2, hp2, hN2⟩ := L (W * H) 0 found0 each0 path0 fr0 (by omega) (fun _ _ => rfl) R
    refine ⟨f2, e2, path2, fr2, R2, hp2, fun Q hq => ?_⟩
    obtain ⟨n, hn⟩ := hN2 Q hq
    refine ⟨n, ?_⟩
    unfold F_X1_follow_e
    rw [show (len ≤ nI lv) = (nI m ≤ nI lv) by rw [elen]]
    refine br_f (nI_ge (by omega) (by omega)) (br_t (nI_lt (b := 5) (by omega) (by decide)) (s_openFrom hW hH hD ew ea et el er hn))
end Fit

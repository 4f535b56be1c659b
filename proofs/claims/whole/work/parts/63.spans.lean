/-! ===== spare, lasts, needs, far: closed forms and loops ===== -/
theorem s_quotient {a d : Nat} (ha : a < 2 ^ 31) (h0 : 0 < d) (hd : d < 2 ^ 31) {Q : Int32 → Prop} (h : Q (nI (a / d))) : q_X6_quotient (nI a) (nI d) Q := by
  unfold q_X6_quotient F_X6_quotient_e
  rw [pk_div ha h0 hd]
  exact br_f (nI_nle h0 hd) ⟨nI_ne0 h0 hd, h⟩
def leI (b w : Nat) : Int32 := if b = 10 ∧ w ≠ 0 then -9 else nI (lst b w)
def las (b y w f : Nat) : Int32 := if y < lst b w then 0 else if f = 0 then -9 else nI ((y - lst b w) / f + 1)
def nee (b y w f n : Nat) : Int32 := if y + (lst b w + n * f - y) ≤ 999 then nI (lst b w + n * f - y) else -9
def frr (b y w : Nat) : Nat := (if 999 < 10 * y / b - y then 999 else 10 * y / b - y) - w
theorem lst_le {b w : Nat} (h1 : 1 ≤ b) (h2 : b ≤ 10) (hw : w ≤ 999) (h : ¬ (b = 10 ∧ w ≠ 0)) : lst b w ≤ 9000 := by
  unfold lst
  rcases (show b = 1 ∨ b = 2 ∨ b = 3 ∨ b = 4 ∨ b = 5 ∨ b = 6 ∨ b = 7 ∨ b = 8 ∨ b = 9 ∨ b = 10 by omega) with rfl | rfl | rfl | rfl | rfl | rfl | rfl | rfl | rfl | rfl <;> simp at h ⊢ <;> (try rw [if_pos h]) <;> omega
theorem lst_big {b w : Nat} (h : b = 10 ∧ w ≠ 0) : lst b w = 1000000 := by unfold lst; rw [if_pos h.1, if_neg h.2]
section CX
variable {th bo : Nat} {fa ye wh : Nat → Nat} {bound things : Int32} {fades rows : Nat → Int32} {t : Nat} {Q : Int32 → Prop}
theorem s_leastYellow (C : cX th bo fa ye wh bound things fades rows) (ht : t < th) (h : Q (leI bo (wh t))) : q_X6_leastYellow rows bound (nI t) Q := by
  unfold q_X6_leastYellow F_X6_leastYellow_e
  refine s_white C ht ?_
  rintro x rfl
  obtain ⟨h1, hb1, hb, e, -, hh⟩ := C
  obtain ⟨g1, g2, g3, -⟩ := hh t ht
  subst e
  have e1 : (10 : Int32) - nI bo = nI (10 - bo) := pk_sub (a := 10) hb
  have hm : bo * wh t ≤ 10 * 999 := Nat.mul_le_mul hb g3
  rw [e1]
  rcases Nat.lt_or_ge bo 10 with q | q
  · refine p_n (nI_ne0 (by omega) (by omega)) ?_
    have e2 : nI bo * nI (wh t) + nI (10 - bo) - 1 = nI (bo * wh t + (10 - bo) - 1) := by
      rw [pk_mul, nI_add]; exact pk_sub (b := 1) (by omega)
    rw [e2]
    refine s_quotient (by omega) (by omega) (by omega) ?_
    have e3 : leI bo (wh t) = nI (1 + ((bo * wh t + (10 - bo) - 1) / (10 - bo) - 1)) := by
      unfold leI lst
      rw [if_neg (by omega), if_neg (by omega)]
    rw [e3] at h
    have hq : (bo * wh t + (10 - bo) - 1) / (10 - bo) ≤ 10000 := Nat.le_trans (Nat.div_le_self _ _) (by omega)
    generalize (bo * wh t + (10 - bo) - 1) / (10 - bo) = z at h hq
    rcases Nat.lt_or_ge 1 z with q2 | q2
    · rw [if_pos (show (1 : Int32) < nI z from nI_lt (a := 1) q2 (by omega))]
      rw [show 1 + (z - 1) = z by omega] at h; exact h
    · rw [if_neg (show ¬ (1 : Int32) < nI z from nI_nlt (b := z) q2 (by decide))]
      rw [show 1 + (z - 1) = 1 by omega] at h; exact h
  · have : bo = 10 := by omega
    subst this
    refine p_m rfl ?_
    by_cases hw : wh t = 0
    · rw [hw] at h ⊢
      exact p_m rfl h
    · refine p_n (nI_ne0 (by omega) (by omega)) ?_
      unfold leI at h
      rw [if_pos ⟨rfl, hw⟩] at h; exact h
theorem s_canSpare (C : cX th bo fa ye wh bound things fades rows) (ht : t < th) (h : Q (nI (ye t - lst bo (wh t)))) : q_X6_canSpare bound rows fades (nI t) Q := by
  unfold q_X6_canSpare F_X6_canSpare_e
  refine s_called0 C ht ?_
  have C' := C
  obtain ⟨h1, hb1, hb, e, -, hh⟩ := C'
  obtain ⟨g1, g2, g3, -⟩ := hh t ht
  rw [cal_lst hb1 hb (by omega)]
  refine p_z (fun hc => ?_) (fun hc => ?_)
  · have := of_decide_eq_false hc
    rw [Nat.sub_eq_zero_of_le (by omega)] at h; exact h
  · have hc := of_decide_eq_true hc
    refine s_yellow C ht (s_leastYellow C ht ?_)
    have : ¬ (bo = 10 ∧ wh t ≠ 0) := fun q => by have := lst_big q; omega
    unfold leI
    rw [if_neg this, pk_sub hc]; exact h
theorem s_yearsCalled (C : cX th bo fa ye wh bound things fades rows) (ht : t < th) (h : Q (las bo (ye t) (wh t) (fa t))) : q_X6_yearsCalled bound rows fades (nI t) Q := by
  unfold q_X6_yearsCalled F_X6_yearsCalled_e
  refine s_called0 C ht ?_
  have C' := C
  obtain ⟨h1, hb1, hb, e, -, hh⟩ := C'
  obtain ⟨g1, g2, g3, -⟩ := hh t ht
  obtain ⟨f1, f2⟩ := s_fadesV C ht
  rw [cal_lst hb1 hb (by omega), f2]
  unfold las at h
  refine p_y (fun hc => ⟨f1, ?_⟩) (fun hc => ?_)
  · have hc := of_decide_eq_true hc
    rw [if_neg (by omega)] at h
    by_cases hf : fa t = 0
    · rw [if_pos hf] at h
      exact p_m (by rw [hf]; rfl) h
    · rw [if_neg hf] at h
      refine p_n (nI_ne0 (by omega) (by omega)) (s_canSpare C ht ⟨f1, s_quotient (by omega) (by omega) (by omega) ?_⟩)
      rw [show nI ((ye t - lst bo (wh t)) / fa t) + 1 = nI ((ye t - lst bo (wh t)) / fa t + 1) from nI_1 _]
      exact h
  · have hc := of_decide_eq_false hc
    rw [if_pos (by omega)] at h; exact h
theorem s_paintFor (C : cX th bo fa ye wh bound things fades rows) (ht : t < th) {n : Nat} (hn : n ≤ 99) (h : Q (nee bo (ye t) (wh t) (fa t) n)) : q_X6_paintFor rows bound fades (nI t) (nI n) Q := by
  unfold q_X6_paintFor F_X6_paintFor_e
  refine s_leastYellow C ht ?_
  have C' := C
  obtain ⟨h1, hb1, hb, e, -, hh⟩ := C'
  obtain ⟨g1, g2, g3, -⟩ := hh t ht
  obtain ⟨f1, f2⟩ := s_fadesV C ht
  unfold leI
  by_cases hbig : bo = 10 ∧ wh t ≠ 0
  · rw [if_pos hbig]
    refine p_m rfl ?_
    unfold nee at h
    rw [lst_big hbig, if_neg (by omega)] at h; exact h
  · rw [if_neg hbig]
    have hl := lst_le hb1 hb g3 hbig
    have hp := lst_pos bo (wh t)
    have hm : n * fa t ≤ 99 * 9 := Nat.mul_le_mul hn g1
    refine p_n ?_ (s_yellow C ht ⟨f1, ?_⟩)
    · intro q
      have : (nI (lst bo (wh t))) < 0 := by rw [q]; decide
      exact nI_pos (by omega) this
    · rintro x rfl
      rw [f2, pk_mul, nI_add, max_sub (by omega) (by omega), nI_add]
      unfold nee at h
      refine ⟨fun q => ?_, fun q => ?_⟩
      · rw [if_pos ((nI_leI (b := 999) (by omega) (by decide)).mp q)] at h; exact h
      · rw [if_neg (fun z => q (nI_le z (by decide)))] at h; exact h
end CX
section CY
variable {th bo : Nat} {fa ye wh : Nat → Nat} {hill now : Nat → Int32} {t : Nat} {Q : Int32 → Prop}
theorem s_spareOf (C : cY th bo fa ye wh hill now) (ht : t < th) (h : Q (nI (ye t - lst bo (wh t)))) : q_X7_spareOf now hill (nI t) Q := by
  have C' := C
  obtain ⟨h1, hb1, hb, -, e, hh⟩ := C'
  obtain ⟨g1, g2, g3, -⟩ := hh t ht
  have hp := lst_pos bo (wh t)
  have L : ∀ d k : Nat, k + d = ye t - lst bo (wh t) → ∃ n, wp_X7_spareOf now hill (nI t) Q n 2 (nI k) := by
    intro d
    induction d with
    | zero =>
      intro k hk
      refine ⟨1, ?_⟩
      show F_X7_spareOf_2 now hill (nI t) Q (wp_X7_spareOf now hill (nI t) Q 0) (nI k)
      unfold F_X7_spareOf_2
      refine s_yellow7 C ht (s_white7 C ht ?_)
      have fin : q_X7_isThen now hill (nI t) 0 0 (fun r => (r = 0 → Q 0) ∧ (¬ r = 0 → Q (nI k))) := by
        refine s_then0 C ht ?_
        rw [cal_lst hb1 hb (by omega)]
        refine p_z (fun hc => ?_) (fun hc => ?_)
        · have hc := of_decide_eq_false hc
          have : ye t - lst bo (wh t) = 0 := by omega
          rw [this] at h; exact h
        · rw [show k = ye t - lst bo (wh t) by omega]; exact h
      rcases Nat.lt_or_ge k (ye t) with q | q
      · rw [pk_sub (by omega), show nI (ye t - k) - 1 = nI (ye t - k - 1) from pk_sub (b := 1) (by omega)]
        refine s_isCalled7 e hb (by omega) (by omega) ?_
        rw [cal_lst hb1 hb (by omega), decide_eq_false (by omega)]
        exact br_t rfl fin
      · have e0 : ye t = k := by omega
        rw [e0, pk_sub (Nat.le_refl _), Nat.sub_self]
        exact s_isCalled7n (by decide) (br_t rfl fin)
    | succ d ih =>
      intro k hk
      obtain ⟨n, hn⟩ := ih (k + 1) (by omega)
      refine ⟨n + 1, ?_⟩
      show F_X7_spareOf_2 now hill (nI t) Q (wp_X7_spareOf now hill (nI t) Q n) (nI k)
      unfold F_X7_spareOf_2
      refine s_yellow7 C ht (s_white7 C ht ?_)
      rw [pk_sub (by omega), show nI (ye t - k) - 1 = nI (ye t - k - 1) from pk_sub (b := 1) (by omega)]
      refine s_isCalled7 e hb (by omega) (by omega) ?_
      rw [cal_lst hb1 hb (by omega), decide_eq_true (by omega)]
      refine br_f (by decide) ?_
      rintro x rfl
      rw [nI_1]; exact hn
  obtain ⟨n, hn⟩ := L (ye t - lst bo (wh t)) 0 (by omega)
  exact ⟨n, hn⟩
theorem s_lastsOf (C : cY th bo fa ye wh hill now) (ht : t < th) (h : Q (las bo (ye t) (wh t) (fa t))) : q_X7_lastsOf now hill (nI t) Q := by
  have C' := C
  obtain ⟨h1, hb1, hb, -, e, hh⟩ := C'
  obtain ⟨g1, g2, g3, -⟩ := hh t ht
  have hp := lst_pos bo (wh t)
  unfold las at h
  by_cases hc : ye t < lst bo (wh t)
  · rw [if_pos hc] at h
    refine ⟨1, ?_⟩
    show F_X7_lastsOf_2 now hill (nI t) Q (wp_X7_lastsOf now hill (nI t) Q 0) 0
    unfold F_X7_lastsOf_2
    refine s_then0 C ht ?_
    rw [cal_lst hb1 hb (by omega), decide_eq_false (by omega)]
    exact br_t rfl h
  · rw [if_neg hc] at h
    by_cases hf : fa t = 0
    · rw [if_pos hf] at h
      refine ⟨1, ?_⟩
      show F_X7_lastsOf_2 now hill (nI t) Q (wp_X7_lastsOf now hill (nI t) Q 0) 0
      unfold F_X7_lastsOf_2
      refine s_then0 C ht ?_
      rw [cal_lst hb1 hb (by omega), decide_eq_true (by omega)]
      refine br_f (by decide) (s_fades7 C ht ?_)
      rw [hf]
      exact p_m rfl h
    · rw [if_neg hf] at h
      have hK : (ye t - lst bo (wh t)) / fa t ≤ ye t - lst bo (wh t) := Nat.div_le_self _ _
      have hlo : ∀ k, k ≤ (ye t - lst bo (wh t)) / fa t → lst bo (wh t) ≤ ye t - k * fa t := by
        intro k hk
        have := Nat.le_trans (Nat.mul_le_mul_right (fa t) hk) (Nat.div_mul_le_self (ye t - lst bo (wh t)) (fa t))
        omega
      have hhi : ¬ lst bo (wh t) ≤ ye t - ((ye t - lst bo (wh t)) / fa t + 1) * fa t := by
        have := Nat.lt_mul_div_succ (ye t - lst bo (wh t)) (b := fa t) (by omega)
        rw [Nat.mul_comm] at this
        omega
      generalize (ye t - lst bo (wh t)) / fa t = K at h hK hlo hhi
      have L : ∀ d k : Nat, k + d = K + 1 → ∃ n, wp_X7_lastsOf now hill (nI t) Q n 2 (nI k) := by
        intro d
        induction d with
        | zero =>
          intro k hk
          refine ⟨1, ?_⟩
          show F_X7_lastsOf_2 now hill (nI t) Q (wp_X7_lastsOf now hill (nI t) Q 0) (nI k)
          unfold F_X7_lastsOf_2
          refine s_isThen7 (m := 0) C ht (by omega) (by omega) ?_
          rw [show k = K + 1 by omega, Nat.add_zero, cal_lst hb1 hb (by omega), decide_eq_false hhi]
          exact br_t rfl h
        | succ d ih =>
          intro k hk
          obtain ⟨n, hn⟩ := ih (k + 1) (by omega)
          refine ⟨n + 1, ?_⟩
          show F_X7_lastsOf_2 now hill (nI t) Q (wp_X7_lastsOf now hill (nI t) Q n) (nI k)
          unfold F_X7_lastsOf_2
          refine s_isThen7 (m := 0) C ht (by omega) (by omega) ?_
          rw [Nat.add_zero, cal_lst hb1 hb (by omega), decide_eq_true (hlo k (by omega))]
          refine br_f (by decide) (s_fades7 C ht (p_n (nI_ne0 (by omega) (by omega)) ?_))
          rintro x rfl
          rw [nI_1]; exact hn
      obtain ⟨n, hn⟩ := L (K + 1) 0 (by omega)
      exact ⟨n, hn⟩
theorem s_needsOf (C : cY th bo fa ye wh hill now) (ht : t < th) {n : Nat} (hn : n ≤ 99) (h : Q (nee bo (ye t) (wh t) (fa t) n)) : q_X7_needsOf now hill (nI t) (nI n) Q := by
  have C' := C
  obtain ⟨h1, hb1, hb, -, e, hh⟩ := C'
  obtain ⟨g1, g2, g3, -⟩ := hh t ht
  have hp := lst_pos bo (wh t)
  have hm : n * fa t ≤ 99 * 9 := Nat.mul_le_mul hn g1
  generalize hz : n * fa t = z at hm
  unfold nee at h
  rw [hz] at h
  have hM : ∃ M, M ≤ 1000 - ye t ∧ (∀ k, k < M → ¬ lst bo (wh t) ≤ ye t + k - z) ∧ ((M = 1000 - ye t ∧ Q (-9)) ∨ (ye t + M < 1000 ∧ lst bo (wh t) ≤ ye t + M - z ∧ Q (nI M))) := by
    by_cases hc : ye t + (lst bo (wh t) + z - ye t) ≤ 999
    · rw [if_pos hc] at h
      exact ⟨lst bo (wh t) + z - ye t, by omega, fun k hk => by omega, Or.inr ⟨by omega, by omega, h⟩⟩
    · rw [if_neg hc] at h
      exact ⟨1000 - ye t, by omega, fun k hk => by omega, Or.inl ⟨rfl, h⟩⟩
  obtain ⟨M, hM1, hM2, hM3⟩ := hM
  have L : ∀ d k : Nat, k + d = M → ∃ i, wp_X7_needsOf now hill (nI t) (nI n) Q i 2 (nI k) := by
    intro d
    induction d with
    | zero =>
      intro k hk
      have hk : k = M := by omega
      subst hk
      refine ⟨1, ?_⟩
      show F_X7_needsOf_2 now hill (nI t) (nI n) Q (wp_X7_needsOf now hill (nI t) (nI n) Q 0) (nI k)
      unfold F_X7_needsOf_2
      refine s_yellow7 C ht ?_
      rw [nI_add]
      rcases hM3 with ⟨q1, q2⟩ | ⟨q1, q2, q3⟩
      · exact br_t (nI_le (a := 1000) (by omega) (by omega)) q2
      · refine br_f (fun q => ?_) (s_isThen7 C ht (by omega) (by omega) ?_)
        · have := (nI_leI (a := 1000) (by decide) (by omega)).mp q; omega
        · rw [hz, cal_lst hb1 hb (by omega), decide_eq_true q2]
          exact br_f (by decide) q3
    | succ d ih =>
      intro k hk
      obtain ⟨i, hi⟩ := ih (k + 1) (by omega)
      refine ⟨i + 1, ?_⟩
      show F_X7_needsOf_2 now hill (nI t) (nI n) Q (wp_X7_needsOf now hill (nI t) (nI n) Q i) (nI k)
      unfold F_X7_needsOf_2
      refine s_yellow7 C ht ?_
      rw [nI_add]
      refine br_f (fun q => ?_) (s_isThen7 C ht (by omega) (by omega) ?_)
      · have := (nI_leI (a := 1000) (by decide) (by omega)).mp q; omega
      · rw [hz, cal_lst hb1 hb (by omega), decide_eq_false (hM2 k (by omega))]
        refine br_t rfl ?_
        rintro x rfl
        rw [nI_1]; exact hi
  obtain ⟨i, hi⟩ := L M 0 (by omega)
  exact ⟨i, hi⟩
end CY

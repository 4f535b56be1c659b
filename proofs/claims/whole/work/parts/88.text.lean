/-! ===== the text and its tokens ===== -/
def tx (n : Nat) (t : Nat → Nat) (b : Nat → Int32) : Prop := n ≤ 150 ∧ ∀ k, k < n → t k < 256 ∧ b k = nI (t k)
def blk (n : Nat) (t : Nat → Nat) (p q : Nat) : Prop := p ≤ q ∧ q ≤ n ∧ (q < n → t q ≠ 32) ∧ ∀ i, p ≤ i → i < q → t i = 32
def run (P : Nat → Bool) (n q e : Nat) : Prop := q ≤ e ∧ e ≤ n ∧ (∀ i, q ≤ i → i < e → P i = true) ∧ (e < n → P e = false)
def isD (x : Nat) : Bool := decide (48 ≤ x ∧ x ≤ 57)
def isL (x : Nat) : Bool := decide (97 ≤ x ∧ x ≤ 122)
theorem run_ex (P : Nat → Bool) {n : Nat} : ∀ m q, q + m = n → ∃ e, run P n q e
  | 0, q, h => ⟨q, Nat.le_refl q, by omega, fun i a b => by omega, fun a => by omega⟩
  | m + 1, q, h => by
    cases hq : P q with
    | false => exact ⟨q, Nat.le_refl q, by omega, fun i a b => by omega, fun _ => hq⟩
    | true =>
      obtain ⟨e, h1, h2, h3, h4⟩ := run_ex P (n := n) m (q + 1) (by omega)
      refine ⟨e, by omega, h2, fun i a b => ?_, h4⟩
      by_cases z : i = q
      · rw [z]; exact hq
      · exact h3 i (by omega) b
theorem blk_ex (t : Nat → Nat) {n p : Nat} (h : p ≤ n) : ∃ q, blk n t p q := by
  obtain ⟨q, h1, h2, h3, h4⟩ := run_ex (fun i => decide (t i = 32)) (n - p) p (show p + (n - p) = n by omega)
  exact ⟨q, h1, h2, fun a => of_decide_eq_false (h4 a), fun i a b => of_decide_eq_true (h3 i a b)⟩
theorem isD_I {x : Nat} (h : x < 256) : decide ((48 : Int32) ≤ nI x ∧ nI x ≤ 57) = isD x := by
  unfold isD
  rw [decide_eq_decide, show (48 : Int32) = nI 48 from rfl, show (57 : Int32) = nI 57 from rfl, nI_leI (by omega) (by omega), nI_leI (by omega) (by omega)]
theorem isL_I {x : Nat} (h : x < 256) : decide ((97 : Int32) ≤ nI x ∧ nI x ≤ 122) = isL x := by
  unfold isL
  rw [decide_eq_decide, show (97 : Int32) = nI 97 from rfl, show (122 : Int32) = nI 122 from rfl, nI_leI (by omega) (by omega), nI_leI (by omega) (by omega)]
section Tx
variable {n p q e : Nat} {t : Nat → Nat} {b : Nat → Int32}
theorem s_findToken (T : tx n t b) (h : blk n t p q) {ts : Int32} {Q : Int32 → Int32 → Prop} (hq : Q (nI q) (nI q)) : q_X3_findToken (nI n) (nI p) ts b Q := by
  obtain ⟨hn, ht⟩ := T
  obtain ⟨h1, h2, h3, h4⟩ := h
  have L : ∀ m p, p + m = q → (∀ i, p ≤ i → i < q → t i = 32) → ∃ k, wp_X3_findToken (nI n) b Q k 0 (nI p) ts := by
    intro m
    induction m with
    | zero =>
      intro p hp _
      have : p = q := by omega
      subst this
      refine ⟨1, ?_⟩
      show F_X3_findToken_0 (nI n) b Q (wp_X3_findToken (nI n) b Q 0) (nI p) ts
      unfold F_X3_findToken_0
      by_cases z : p = n
      · exact br_t (by rw [z]; exact Int32.le_refl _) hq
      · refine br_f (nI_ge (by omega) (by omega)) ⟨vp_nI (by omega) (by decide), ?_⟩
        rw [nI_clamp (by omega), (ht p (by omega)).2]
        have := (ht p (by omega)).1
        exact p_n (fun g => h3 (by omega) (nI_inj (b := 32) (by omega) (by decide) g)) hq
    | succ m ih =>
      intro p hp hi
      obtain ⟨k, hk⟩ := ih (p + 1) (by omega) (fun i a c => hi i (by omega) c)
      refine ⟨k + 1, ?_⟩
      show F_X3_findToken_0 (nI n) b Q (wp_X3_findToken (nI n) b Q k) (nI p) ts
      unfold F_X3_findToken_0
      refine br_f (nI_ge (by omega) (by omega)) ⟨vp_nI (by omega) (by decide), ?_⟩
      rw [nI_clamp (by omega), (ht p (by omega)).2, hi p (by omega) (by omega), nI_1]
      refine p_m rfl ?_
      rintro x rfl
      exact hk
  obtain ⟨k, hk⟩ := L (q - p) p (by omega) h4
  exact ⟨k, hk⟩
theorem s_blanks (T : tx n t b) (h : blk n t p q) {ts : Int32} {Q : Int32 → Int32 → Prop} (hq : Q (nI q) (nI q)) : q_X7_blanks (nI n) (nI p) ts b Q := by
  obtain ⟨hn, ht⟩ := T
  obtain ⟨h1, h2, h3, h4⟩ := h
  have L : ∀ m p, p + m = q → (∀ i, p ≤ i → i < q → t i = 32) → ∃ k, wp_X7_blanks (nI n) b Q k 0 (nI p) ts := by
    intro m
    induction m with
    | zero =>
      intro p hp _
      have : p = q := by omega
      subst this
      refine ⟨1, ?_⟩
      show F_X7_blanks_0 (nI n) b Q (wp_X7_blanks (nI n) b Q 0) (nI p) ts
      unfold F_X7_blanks_0
      by_cases z : p = n
      · exact br_t (by rw [z]; exact Int32.le_refl _) hq
      · refine br_f (nI_ge (by omega) (by omega)) ⟨vp_nI (by omega) (by decide), ?_⟩
        rw [nI_clamp (by omega), (ht p (by omega)).2]
        have := (ht p (by omega)).1
        exact p_n (fun g => h3 (by omega) (nI_inj (b := 32) (by omega) (by decide) g)) hq
    | succ m ih =>
      intro p hp hi
      obtain ⟨k, hk⟩ := ih (p + 1) (by omega) (fun i a c => hi i (by omega) c)
      refine ⟨k + 1, ?_⟩
      show F_X7_blanks_0 (nI n) b Q (wp_X7_blanks (nI n) b Q k) (nI p) ts
      unfold F_X7_blanks_0
      refine br_f (nI_ge (by omega) (by omega)) ⟨vp_nI (by omega) (by decide), ?_⟩
      rw [nI_clamp (by omega), (ht p (by omega)).2, hi p (by omega) (by omega), nI_1]
      refine p_m rfl ?_
      rintro x rfl
      exact hk
  obtain ⟨k, hk⟩ := L (q - p) p (by omega) h4
  exact ⟨k, hk⟩
theorem s_isDigitAt (T : tx n t b) {k : Nat} (hk : k ≤ 151) {Q : Int32 → Prop} (hq : Q (bI (decide (k < n) && isD (t k)))) : q_X3_isDigitAt (nI n) b (nI k) Q := by
  obtain ⟨hn, ht⟩ := T
  unfold q_X3_isDigitAt F_X3_isDigitAt_e
  by_cases z : k < n
  · rw [decide_eq_true z, Bool.true_and] at hq
    refine br_f (nI_ge z (by omega)) ⟨vp_nI (by omega) (by decide), s_within ?_⟩
    rw [nI_clamp (by omega), (ht k z).2, isD_I (ht k z).1]
    exact p_z (fun g => by rw [g] at hq; exact hq) (fun g => by rw [g] at hq; exact hq)
  · rw [decide_eq_false z, Bool.false_and] at hq
    exact br_t (nI_le (by omega) (by omega)) hq
theorem s_isLetterAt (T : tx n t b) {k : Nat} (hk : k ≤ 151) {Q : Int32 → Prop} (hq : Q (bI (decide (k < n) && isL (t k)))) : q_X3_isLetterAt (nI n) b (nI k) Q := by
  obtain ⟨hn, ht⟩ := T
  unfold q_X3_isLetterAt F_X3_isLetterAt_e
  by_cases z : k < n
  · rw [decide_eq_true z, Bool.true_and] at hq
    refine br_f (nI_ge z (by omega)) ⟨vp_nI (by omega) (by decide), s_within ?_⟩
    rw [nI_clamp (by omega), (ht k z).2, isL_I (ht k z).1]
    exact p_z (fun g => by rw [g] at hq; exact hq) (fun g => by rw [g] at hq; exact hq)
  · rw [decide_eq_false z, Bool.false_and] at hq
    exact br_t (nI_le (by omega) (by omega)) hq
theorem s_isLetter7 {x : Nat} (h : x < 256) {Q : Int32 → Prop} (hq : Q (bI (isL x))) : q_X7_isLetter (nI x) Q := by
  unfold q_X7_isLetter F_X7_isLetter_e
  refine s_in (b := 97) (c := 122) rfl rfl ?_
  rw [isL_I h]
  exact ⟨nar_bI _, hq⟩
theorem s_isFigure7 {x : Nat} (h : x < 256) {Q : Int32 → Prop} (hq : Q (bI (isD x))) : q_X7_isFigure (nI x) Q := by
  unfold q_X7_isFigure F_X7_isFigure_e
  refine s_in (b := 48) (c := 57) rfl rfl ?_
  rw [isD_I h]
  exact ⟨nar_bI _, hq⟩
def numV (t : Nat → Nat) (q e v : Nat) : Prop := (e = q + 1 ∧ v = t q - 48) ∨ (e = q + 2 ∧ t q ≠ 48 ∧ v = 10 * (t q - 48) + (t (q + 1) - 48))
theorem isD_t {x : Nat} (h : isD x = true) : 48 ≤ x ∧ x ≤ 57 := of_decide_eq_true h
theorem s_readNumber (T : tx n t b) (hb : blk n t p q) (hr : run (fun i => isD (t i)) n q e) {ts lo hi : Int32} {Q : Int32 → Int32 → Int32 → Prop} (hv : ∀ v, numV t q e v → v ≤ 99 → Q (if decide (lo ≤ nI v ∧ nI v ≤ hi) then nI v else -1) (nI e) (nI q)) (hno : (∀ v, ¬ numV t q e v) → Q (-1) (nI e) (nI q)) : q_X3_readNumber (nI n) (nI p) ts b lo hi Q := by
  have hn := T.1
  have ht := T.2
  obtain ⟨r1, r2, r3, r4⟩ := hr
  have g109 : ∀ v : Nat, numV t q e v → v ≤ 99 → ∃ k, wp_X3_readNumber (nI n) b lo hi Q k 109 (nI v) (nI e) (nI q) := by
    intro v hnv hle
    have := hv v hnv hle
    refine ⟨1, ?_⟩
    show F_X3_readNumber_109 (nI n) b lo hi Q (wp_X3_readNumber (nI n) b lo hi Q 0) (nI v) (nI e) (nI q)
    unfold F_X3_readNumber_109
    refine s_within (p_z (fun g => ?_) (fun g => ?_))
    · rw [g] at this; exact this
    · rw [g] at this; exact this
  have g39 : ∃ k, wp_X3_readNumber (nI n) b lo hi Q k 39 0 (nI e) (nI q) := by
    have es : nI e - nI q = nI (e - q) := pk_sub r1
    by_cases z0 : e = q
    · refine ⟨1, ?_⟩
      show F_X3_readNumber_39 (nI n) b lo hi Q (wp_X3_readNumber (nI n) b lo hi Q 0) 0 (nI e) (nI q)
      unfold F_X3_readNumber_39
      rw [es]
      rintro x rfl
      refine br_t (nI_lt (b := 1) (by omega) (by decide)) (hno fun v g => ?_)
      rcases g with ⟨g, -⟩ | ⟨g, -⟩ <;> omega
    have hq := isD_t (r3 q (Nat.le_refl q) (by omega))
    have e48 : nI (t q) - 48 = nI (t q - 48) := pk_sub (b := 48) hq.1
    by_cases z1 : e = q + 1
    · obtain ⟨k, hk⟩ := g109 (t q - 48) (.inl ⟨z1, rfl⟩) (by omega)
      refine ⟨k + 1, ?_⟩
      show F_X3_readNumber_39 (nI n) b lo hi Q (wp_X3_readNumber (nI n) b lo hi Q k) 0 (nI e) (nI q)
      unfold F_X3_readNumber_39
      rw [es, nI_clamp (by omega), (ht q (by omega)).2, e48, show e - q = 1 by omega]
      rintro x rfl
      refine br_f (by decide) (br_t (by decide) ⟨vp_nI (by omega) (by decide), ?_⟩)
      rintro x rfl
      exact p_n (by decide) hk
    by_cases z2 : e = q + 2
    · have hq1 := isD_t (r3 (q + 1) (by omega) (by omega))
      by_cases z3 : t q = 48
      · refine ⟨1, ?_⟩
        show F_X3_readNumber_39 (nI n) b lo hi Q (wp_X3_readNumber (nI n) b lo hi Q 0) 0 (nI e) (nI q)
        unfold F_X3_readNumber_39
        rw [es, nI_clamp (by omega), (ht q (by omega)).2, e48, show e - q = 2 by omega, z3]
        rintro x rfl
        refine br_f (by decide) (br_t (by decide) ⟨vp_nI (by omega) (by decide), ?_⟩)
        rintro x rfl
        refine p_m rfl (p_m rfl (hno fun v g => ?_))
        rcases g with ⟨g, -⟩ | ⟨g, g2, -⟩
        · omega
        · exact g2 z3
      · obtain ⟨k, hk⟩ := g109 (10 * (t q - 48) + (t (q + 1) - 48)) (.inr ⟨z2, z3, rfl⟩) (by omega)
        refine ⟨k + 1, ?_⟩
        show F_X3_readNumber_39 (nI n) b lo hi Q (wp_X3_readNumber (nI n) b lo hi Q k) 0 (nI e) (nI q)
        unfold F_X3_readNumber_39
        rw [es, nI_clamp (by omega), (ht q (by omega)).2, e48, show e - q = 2 by omega]
        rintro x rfl
        refine br_f (by decide) (br_t (by decide) ⟨vp_nI (by omega) (by decide), ?_⟩)
        rintro x rfl
        refine p_m rfl (p_n (nI_ne0 (by omega) (by omega)) ?_)
        rw [nI_1]
        refine ⟨vp_nI (by omega) (by decide), ?_⟩
        rw [nI_clamp (by omega), (ht (q + 1) (by omega)).2, show (10 : Int32) * nI (t q - 48) = nI (10 * (t q - 48)) from pk_mul 10 _, nI_add, show nI (10 * (t q - 48) + t (q + 1)) - 48 = nI (10 * (t q - 48) + t (q + 1) - 48) from pk_sub (b := 48) (by omega), show 10 * (t q - 48) + t (q + 1) - 48 = 10 * (t q - 48) + (t (q + 1) - 48) by omega]
        rintro x rfl
        exact hk
    · refine ⟨1, ?_⟩
      show F_X3_readNumber_39 (nI n) b lo hi Q (wp_X3_readNumber (nI n) b lo hi Q 0) 0 (nI e) (nI q)
      unfold F_X3_readNumber_39
      rw [es]
      rintro x rfl
      refine br_f (fun g => by rw [show (1 : Int32) = nI 1 from rfl, nI_ltI (by omega) (by decide)] at g; omega) (br_f (fun g => by rw [show (2 : Int32) = nI 2 from rfl, nI_leI (by omega) (by decide)] at g; omega) (hno fun v g => ?_))
      rcases g with ⟨g, -⟩ | ⟨g, -⟩ <;> omega
  have L : ∀ m i, i + m = e → q ≤ i → ∃ k, wp_X3_readNumber (nI n) b lo hi Q k 4 0 (nI i) (nI q) := by
    intro m
    induction m with
    | zero =>
      intro i him hqi
      have : i = e := by omega
      subst this
      obtain ⟨k, hk⟩ := g39
      refine ⟨k + 1, ?_⟩
      show F_X3_readNumber_4 (nI n) b lo hi Q (wp_X3_readNumber (nI n) b lo hi Q k) 0 (nI i) (nI q)
      unfold F_X3_readNumber_4
      by_cases z : i = n
      · exact br_t (by rw [z]; exact Int32.le_refl _) hk
      · refine br_f (nI_ge (by omega) (by omega)) (s_isDigitAt T (by omega) ?_)
        rw [show isD (t i) = false from r4 (by omega), Bool.and_false]
        exact br_t rfl hk
    | succ m ih =>
      intro i him hqi
      obtain ⟨k, hk⟩ := ih (i + 1) (by omega) (by omega)
      refine ⟨k + 1, ?_⟩
      show F_X3_readNumber_4 (nI n) b lo hi Q (wp_X3_readNumber (nI n) b lo hi Q k) 0 (nI i) (nI q)
      unfold F_X3_readNumber_4
      refine br_f (nI_ge (by omega) (by omega)) (s_isDigitAt T (by omega) ?_)
      rw [show isD (t i) = true from r3 i hqi (by omega), decide_eq_true (show i < n by omega)]
      refine br_f (by decide) ?_
      rintro x rfl
      rw [nI_1]; exact hk
  obtain ⟨k, hk⟩ := L (e - q) q (by omega) (Nat.le_refl q)
  refine ⟨k, ?_⟩
  unfold F_X3_readNumber_e
  exact s_findToken T hb hk
end Tx

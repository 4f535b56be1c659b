/-! ===== odds ===== -/
def eu : Nat → Nat → Nat → Nat
  | 0, a, _ => a
  | k + 1, a, b => if b = 0 then a else eu k b (a % b)
theorem eu_ok : ∀ x : Fin 11, ∀ n : Fin 9, eu 50 ((10 - x.val) ^ n.val) (10 ^ n.val) = Nat.gcd ((10 - x.val) ^ n.val) (10 ^ n.val) := by decide +kernel
theorem eu_0 : ∀ n : Fin 9, eu 50 0 (10 ^ n.val) = 10 ^ n.val := by decide +kernel
theorem pw_le {b n : Nat} (hb : b ≤ 10) (hn : n ≤ 8) : b ^ n ≤ 100000000 := Nat.le_trans (Nat.pow_le_pow_left hb n) (Nat.le_trans (Nat.pow_le_pow_right (by decide) hn) (by decide))
theorem s_power {b n : Nat} (hb : b ≤ 10) (hn : n ≤ 8) {Q : Int32 → Prop} (h : Q (nI (b ^ n))) : q_X6_power (nI b) (nI n) Q := by
  have L : ∀ d k : Nat, k + d = n → ∃ i, wp_X6_power (nI b) (nI n) Q i 4 (nI (b ^ k)) (nI k) := by
    intro d
    induction d with
    | zero =>
      intro k hk
      have hk : k = n := by omega
      subst hk
      refine ⟨1, ?_⟩
      show F_X6_power_4 (nI b) (nI k) Q (wp_X6_power (nI b) (nI k) Q 0) (nI (b ^ k)) (nI k)
      exact br_t (Int32.le_refl _) h
    | succ d ih =>
      intro k hk
      obtain ⟨i, hi⟩ := ih (k + 1) (by omega)
      refine ⟨i + 1, ?_⟩
      show F_X6_power_4 (nI b) (nI n) Q (wp_X6_power (nI b) (nI n) Q i) (nI (b ^ k)) (nI k)
      refine br_f (nI_ge (by omega) (by omega)) ?_
      rintro x rfl z rfl
      rw [pk_mul, nI_1]; exact hi
  obtain ⟨i, hi⟩ := L n 0 (by omega)
  exact ⟨i, hi⟩
theorem s_cd {a b : Nat} (ha : a < 2 ^ 31) (hb : b < 2 ^ 31) {Q : Int32 → Prop} (h : Q (nI (eu 50 a b))) : q_X6_commonDivisor (nI a) (nI b) Q := by
  have L : ∀ d k x y : Nat, k + d = 50 → x < 2 ^ 31 → y < 2 ^ 31 → Q (nI (eu d x y)) → ∃ i, wp_X6_commonDivisor (nI a) (nI b) Q i 7 (nI x) (nI y) (nI k) := by
    intro d
    induction d with
    | zero =>
      intro k x y hk hx hy hq
      have hk : k = 50 := by omega
      subst hk
      refine ⟨1, ?_⟩
      show F_X6_commonDivisor_7 (nI a) (nI b) Q (wp_X6_commonDivisor (nI a) (nI b) Q 0) (nI x) (nI y) (nI 50)
      exact br_t (Int32.le_refl _) hq
    | succ d ih =>
      intro k x y hk hx hy hq
      unfold eu at hq
      rcases Nat.eq_zero_or_pos y with q | q
      · subst q
        rw [if_pos rfl] at hq
        refine ⟨1, ?_⟩
        show F_X6_commonDivisor_7 (nI a) (nI b) Q (wp_X6_commonDivisor (nI a) (nI b) Q 0) (nI x) (nI 0) (nI k)
        exact br_f (nI_ge (b := 50) (by omega) (by decide)) (br_t (by decide) hq)
      · rw [if_neg (by omega)] at hq
        have hm : x % y < y := Nat.mod_lt _ q
        obtain ⟨i, hi⟩ := ih (k + 1) y (x % y) (by omega) hy (by omega) hq
        refine ⟨i + 1, ?_⟩
        show F_X6_commonDivisor_7 (nI a) (nI b) Q (wp_X6_commonDivisor (nI a) (nI b) Q i) (nI x) (nI y) (nI k)
        refine br_f (nI_ge (b := 50) (by omega) (by decide)) (br_f (nI_nle q hy) ⟨nI_ne0 q hy, ?_⟩)
        rintro u rfl v rfl
        rw [pk_rem hx q hy, nI_1]; exact hi
  obtain ⟨i, hi⟩ := L 50 0 a b (by omega) ha hb h
  exact ⟨i, hi⟩
theorem s_common7 {a b : Nat} (ha : a < 2 ^ 31) (hb : b < 2 ^ 31) {Q : Int32 → Prop} (h : Q (nI (Nat.gcd a b))) : q_X7_common (nI a) (nI b) Q := by
  have L : ∀ m y : Nat, y ≤ m → ∀ x : Nat, x < 2 ^ 31 → y < 2 ^ 31 → Q (nI (Nat.gcd x y)) → ∃ i, wp_X7_common (nI a) (nI b) Q i 4 (nI x) (nI y) := by
    intro m
    induction m with
    | zero =>
      intro y hy x hx hy2 hq
      have : y = 0 := by omega
      subst this
      rw [Nat.gcd_zero_right] at hq
      refine ⟨1, ?_⟩
      show F_X7_common_4 (nI a) (nI b) Q (wp_X7_common (nI a) (nI b) Q 0) (nI x) (nI 0)
      exact br_t rfl hq
    | succ m ih =>
      intro y hy x hx hy2 hq
      rcases Nat.eq_zero_or_pos y with q | q
      · subst q
        rw [Nat.gcd_zero_right] at hq
        refine ⟨1, ?_⟩
        show F_X7_common_4 (nI a) (nI b) Q (wp_X7_common (nI a) (nI b) Q 0) (nI x) (nI 0)
        exact br_t rfl hq
      · have hm : x % y < y := Nat.mod_lt _ q
        rw [Nat.gcd_comm, Nat.gcd_rec, Nat.gcd_comm] at hq
        obtain ⟨i, hi⟩ := ih (x % y) (by omega) y hy2 (by omega) hq
        refine ⟨i + 1, ?_⟩
        show F_X7_common_4 (nI a) (nI b) Q (wp_X7_common (nI a) (nI b) Q i) (nI x) (nI y)
        refine br_f (nI_ne0 q hy2) ⟨nI_ne0 q hy2, ?_⟩
        rintro u rfl
        rw [pk_rem hx q hy2]; exact hi
  obtain ⟨i, hi⟩ := L b b (Nat.le_refl _) a ha hb h
  exact ⟨i, hi⟩
section XY
variable {th bo : Nat} {fa ye wh wo : Nat → Nat} {bound things : Int32} {fades rows hill now worth : Nat → Int32} {t : Nat} {p p1 p2 p3 : Int32} {Q : Int32 → Prop}
/-- the upper number -/
def upr (c : Bool) (x n : Nat) : Nat := if c then (10 - x) ^ n else 0
theorem upr_le {c : Bool} {x n : Nat} (hn : n ≤ 8) : upr c x n ≤ 100000000 := by
  unfold upr; split
  · exact pw_le (by omega) hn
  · omega
theorem eu_upr {c : Bool} {x n : Nat} (hx : x ≤ 10) (hn : n ≤ 8) : eu 50 (upr c x n) (10 ^ n) = Nat.gcd (upr c x n) (10 ^ n) := by
  unfold upr; split
  · exact eu_ok ⟨x, by omega⟩ ⟨n, by omega⟩
  · rw [Nat.gcd_zero_left]; exact eu_0 ⟨n, by omega⟩
theorem s_odds (X : cX th bo fa ye wh bound things fades rows) (ht : t < th) {x n w : Nat} (hx : x ≤ 10) (hn : n ≤ 8) (hw : w ≤ 1) (h : Q (nI ((if w = 0 then upr (cal bo (ye t - n * fa t) (wh t)) x n else 10 ^ n) / Nat.gcd (upr (cal bo (ye t - n * fa t) (wh t)) x n) (10 ^ n)))) : q_X6_odds bound things rows fades (nI t) (nI x) (nI n) (nI w) Q := by
  have h6 := X.1
  have hp : 0 < 10 ^ n := Nat.pow_pos (by decide)
  have hp2 := pw_le (b := 10) (Nat.le_refl _) hn
  generalize hc : cal bo (ye t - n * fa t) (wh t) = c at h
  have hu := upr_le (c := c) (x := x) hn
  have hg : 0 < Nat.gcd (upr c x n) (10 ^ n) := Nat.gcd_pos_of_pos_right _ hp
  have hg2 : Nat.gcd (upr c x n) (10 ^ n) ≤ 10 ^ n := Nat.gcd_le_right _ hp
  have h92 : ∀ k0 : Nat, k0 = (if w = 0 then upr c x n else 10 ^ n) → wp_X6_odds bound things rows fades (nI t) (nI x) (nI n) (nI w) Q 1 92 (nI (Nat.gcd (upr c x n) (10 ^ n))) (nI k0) := by
    intro k0 hk
    show F_X6_odds_92 bound things rows fades (nI t) (nI x) (nI n) (nI w) Q (wp_X6_odds bound things rows fades (nI t) (nI x) (nI n) (nI w) Q 0) (nI (Nat.gcd (upr c x n) (10 ^ n))) (nI k0)
    unfold F_X6_odds_92
    have : k0 ≤ 100000000 := by rw [hk]; split <;> omega
    refine s_quotient (by omega) hg (by omega) ?_
    rw [hk]; exact h
  have h61 : wp_X6_odds bound things rows fades (nI t) (nI x) (nI n) (nI w) Q 2 61 0 (nI (upr c x n)) := by
    show F_X6_odds_61 bound things rows fades (nI t) (nI x) (nI n) (nI w) Q (wp_X6_odds bound things rows fades (nI t) (nI x) (nI n) (nI w) Q 1) 0 (nI (upr c x n))
    unfold F_X6_odds_61
    refine s_power (b := 10) (Nat.le_refl _) hn (s_cd (by omega) (by omega) ?_)
    rw [eu_upr hx hn]
    rcases (show w = 0 ∨ w = 1 by omega) with rfl | rfl
    · exact p_m rfl (h92 _ rfl)
    · exact p_n (by decide) (h92 _ rfl)
  refine ⟨2, ?_⟩
  unfold F_X6_odds_e
  refine s_isThing X.2.2.2.2.1 ?_
  rw [isT_nI (by omega) ht]
  refine br_f (by decide) (s_within ?_)
  rw [show decide ((0 : Int32) ≤ nI x ∧ nI x ≤ 10) = true from inR_nI (by decide) hx]
  refine br_f (by decide) (s_within ?_)
  rw [show decide ((0 : Int32) ≤ nI n ∧ nI n ≤ 8) = true from inR_nI (by decide) hn]
  refine br_f (by decide) (s_within ?_)
  rw [show decide ((0 : Int32) ≤ nI w ∧ nI w ≤ 1) = true from inR_nI (by decide) hw]
  refine p_n (by decide) (s_calledAfter X ht (by omega) ?_)
  rw [hc]
  unfold upr at h61
  cases c
  · exact br_t rfl h61
  · refine br_f (by decide) ?_
    rw [show (10 : Int32) - nI x = nI (10 - x) from pk_sub (a := 10) hx]
    exact s_power (by omega) hn h61
theorem s_odds7 (Y : cY th bo fa ye wh hill now) (ht : t < th) {x n w : Nat} (hx : x ≤ 10) (hn : n ≤ 8) (hw : w ≤ 1) (h : Q (nI ((if w = 0 then upr (cal bo (ye t - n * fa t) (wh t)) x n else 10 ^ n) / Nat.gcd (upr (cal bo (ye t - n * fa t) (wh t)) x n) (10 ^ n)))) : q_X7_odds hill now (nI t) (nI x) (nI n) (nI w) Q := by
  have h6 := Y.1
  have hp : 0 < 10 ^ n := Nat.pow_pos (by decide)
  have hp2 := pw_le (b := 10) (Nat.le_refl _) hn
  generalize hc : cal bo (ye t - n * fa t) (wh t) = c at h
  have hu := upr_le (c := c) (x := x) hn
  have hg : 0 < Nat.gcd (upr c x n) (10 ^ n) := Nat.gcd_pos_of_pos_right _ hp
  have hg2 : Nat.gcd (upr c x n) (10 ^ n) ≤ 10 ^ n := Nat.gcd_le_right _ hp
  have L : ∀ d k : Nat, k + d = n → ∃ i, wp_X7_odds hill now (nI t) (nI x) (nI n) (nI w) Q i 68 (nI (upr c x k)) (nI (10 ^ k)) (nI k) := by
    intro d
    induction d with
    | zero =>
      intro k hk
      have hk : k = n := by omega
      subst hk
      refine ⟨1, ?_⟩
      show F_X7_odds_68 hill now (nI t) (nI x) (nI k) (nI w) Q (wp_X7_odds hill now (nI t) (nI x) (nI k) (nI w) Q 0) (nI (upr c x k)) (nI (10 ^ k)) (nI k)
      unfold F_X7_odds_68
      refine br_t (Int32.le_refl _) (s_common7 (by omega) (by omega) ?_)
      rcases (show w = 0 ∨ w = 1 by omega) with rfl | rfl
      · refine p_m rfl ⟨nI_ne0 hg (by omega), ?_⟩
        rw [pk_div (by omega) hg (by omega)]; exact h
      · refine p_n (by decide) ⟨nI_ne0 hg (by omega), ?_⟩
        rw [pk_div (by omega) hg (by omega)]; exact h
    | succ d ih =>
      intro k hk
      obtain ⟨i, hi⟩ := ih (k + 1) (by omega)
      refine ⟨i + 1, ?_⟩
      show F_X7_odds_68 hill now (nI t) (nI x) (nI n) (nI w) Q (wp_X7_odds hill now (nI t) (nI x) (nI n) (nI w) Q i) (nI (upr c x k)) (nI (10 ^ k)) (nI k)
      unfold F_X7_odds_68
      refine br_f (nI_ge (by omega) (by omega)) ?_
      rintro u rfl v rfl z rfl
      rw [show (10 : Int32) - nI x = nI (10 - x) from pk_sub (a := 10) hx, pk_mul, show nI (10 ^ k) * 10 = nI (10 ^ k * 10) from pk_mul _ 10, nI_1]
      have e : upr c x (k + 1) = upr c x k * (10 - x) := by
        unfold upr; cases c
        · simp
        · simp [Nat.pow_succ]
      rw [e] at hi
      exact hi
  obtain ⟨i, hi⟩ := L n 0 (by omega)
  refine ⟨i, ?_⟩
  unfold F_X7_odds_e
  refine s_isThing7 Y.2.2.2.1 ?_
  rw [isT_nI (by omega) ht]
  refine br_f (by decide) (s_in (b := 0) (c := 10) rfl rfl ?_)
  rw [show decide ((0 : Int32) ≤ nI x ∧ nI x ≤ 10) = true from inR_nI (by decide) hx]
  refine br_f (by decide) (s_in (b := 0) (c := 8) rfl rfl ?_)
  rw [show decide ((0 : Int32) ≤ nI n ∧ nI n ≤ 8) = true from inR_nI (by decide) hn]
  refine br_f (by decide) (s_in (b := 0) (c := 1) rfl rfl ?_)
  rw [show decide ((0 : Int32) ≤ nI w ∧ nI w ≤ 1) = true from inR_nI (by decide) hw]
  refine p_n (by decide) (s_isThen7 (m := 0) Y ht (by omega) (by omega) ?_)
  rw [Nat.add_zero, hc]
  unfold upr at hi
  cases c
  · exact br_t rfl hi
  · exact br_f (by decide) hi
theorem pr_odds (C : cXY th bo fa ye wh bound things fades rows hill now) : ∃ r : Int32, (∀ Q : Int32 → Prop, Q r → q_X6_odds bound things rows fades p p1 p2 p3 Q) ∧ (∀ Q : Int32 → Prop, Q r → q_X7_odds hill now p p1 p2 p3 Q) := by
  obtain ⟨X, Y⟩ := C
  have h6 := X.1
  by_cases hp : isT p th = true
  · obtain ⟨k, hk, rfl⟩ := isT_t (by omega) hp
    by_cases hx : inR p1 10 = true
    · obtain ⟨x, hx2, rfl⟩ := inR_t (by decide) hx
      by_cases hn : inR p2 8 = true
      · obtain ⟨n, hn2, rfl⟩ := inR_t (by decide) hn
        by_cases hv : inR p3 1 = true
        · obtain ⟨w, hw2, rfl⟩ := inR_t (by decide) hv
          exact ⟨_, fun Q h => s_odds X hk hx2 hn2 hw2 h, fun Q h => s_odds7 Y hk hx2 hn2 hw2 h⟩
        · have hv : inR p3 1 = false := by simpa using hv
          refine ⟨-1, fun Q h => ⟨0, ?_⟩, fun Q h => ⟨0, ?_⟩⟩
          · unfold F_X6_odds_e
            refine s_isThing X.2.2.2.2.1 ?_
            rw [hp]
            refine br_f (by decide) (s_within ?_)
            rw [show decide ((0 : Int32) ≤ nI x ∧ nI x ≤ 10) = true from hx]
            refine br_f (by decide) (s_within ?_)
            rw [show decide ((0 : Int32) ≤ nI n ∧ nI n ≤ 8) = true from hn]
            refine br_f (by decide) (s_within ?_)
            rw [show decide ((0 : Int32) ≤ p3 ∧ p3 ≤ 1) = false from hv]
            exact p_m rfl h
          · unfold F_X7_odds_e
            refine s_isThing7 Y.2.2.2.1 ?_
            rw [hp]
            refine br_f (by decide) (s_in (b := 0) (c := 10) rfl rfl ?_)
            rw [show decide ((0 : Int32) ≤ nI x ∧ nI x ≤ 10) = true from hx]
            refine br_f (by decide) (s_in (b := 0) (c := 8) rfl rfl ?_)
            rw [show decide ((0 : Int32) ≤ nI n ∧ nI n ≤ 8) = true from hn]
            refine br_f (by decide) (s_in (b := 0) (c := 1) rfl rfl ?_)
            rw [show decide ((0 : Int32) ≤ p3 ∧ p3 ≤ 1) = false from hv]
            exact p_m rfl h
      · have hn : inR p2 8 = false := by simpa using hn
        refine ⟨-1, fun Q h => ⟨0, ?_⟩, fun Q h => ⟨0, ?_⟩⟩
        · unfold F_X6_odds_e
          refine s_isThing X.2.2.2.2.1 ?_
          rw [hp]
          refine br_f (by decide) (s_within ?_)
          rw [show decide ((0 : Int32) ≤ nI x ∧ nI x ≤ 10) = true from hx]
          refine br_f (by decide) (s_within ?_)
          rw [show decide ((0 : Int32) ≤ p2 ∧ p2 ≤ 8) = false from hn]
          exact br_t rfl h
        · unfold F_X7_odds_e
          refine s_isThing7 Y.2.2.2.1 ?_
          rw [hp]
          refine br_f (by decide) (s_in (b := 0) (c := 10) rfl rfl ?_)
          rw [show decide ((0 : Int32) ≤ nI x ∧ nI x ≤ 10) = true from hx]
          refine br_f (by decide) (s_in (b := 0) (c := 8) rfl rfl ?_)
          rw [show decide ((0 : Int32) ≤ p2 ∧ p2 ≤ 8) = false from hn]
          exact br_t rfl h
    · have hx : inR p1 10 = false := by simpa using hx
      refine ⟨-1, fun Q h => ⟨0, ?_⟩, fun Q h => ⟨0, ?_⟩⟩
      · unfold F_X6_odds_e
        refine s_isThing X.2.2.2.2.1 ?_
        rw [hp]
        refine br_f (by decide) (s_within ?_)
        rw [show decide ((0 : Int32) ≤ p1 ∧ p1 ≤ 10) = false from hx]
        exact br_t rfl h
      · unfold F_X7_odds_e
        refine s_isThing7 Y.2.2.2.1 ?_
        rw [hp]
        refine br_f (by decide) (s_in (b := 0) (c := 10) rfl rfl ?_)
        rw [show decide ((0 : Int32) ≤ p1 ∧ p1 ≤ 10) = false from hx]
        exact br_t rfl h
  · have hp : isT p th = false := by simpa using hp
    refine ⟨-1, fun Q h => ⟨0, ?_⟩, fun Q h => ⟨0, ?_⟩⟩
    · unfold F_X6_odds_e
      refine s_isThing X.2.2.2.2.1 ?_
      rw [hp]; exact br_t rfl h
    · unfold F_X7_odds_e
      refine s_isThing7 Y.2.2.2.1 ?_
      rw [hp]; exact br_t rfl h
end XY

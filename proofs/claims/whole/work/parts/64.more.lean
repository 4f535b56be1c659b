/-! ===== far, first, rich, lasts, needs, spare: pairs ===== -/
def cXY (th bo : Nat) (fa ye wh : Nat → Nat) (bound things : Int32) (fades rows hill now : Nat → Int32) : Prop := cX th bo fa ye wh bound things fades rows ∧ cY th bo fa ye wh hill now
section XY
variable {th bo : Nat} {fa ye wh : Nat → Nat} {bound things : Int32} {fades rows hill now : Nat → Int32} {t : Nat} {p p1 : Int32}
theorem isT_f {p : Int32} {th : Nat} {c : Bool} (h : ¬ isT p th = true) : isT p th = false := by simpa using h
theorem pr_lasts (C : cXY th bo fa ye wh bound things fades rows hill now) : ∃ r : Int32, (∀ Q : Int32 → Prop, Q r → q_X6_lasts bound things rows fades p Q) ∧ (∀ Q : Int32 → Prop, Q r → q_X7_lasts hill now p Q) := by
  obtain ⟨X, Y⟩ := C
  by_cases hp : isT p th = true
  · obtain ⟨k, hk, rfl⟩ := isT_t (by have := X.1; omega) hp
    refine ⟨las bo (ye k) (wh k) (fa k), fun Q h => ?_, fun Q h => ?_⟩
    · unfold q_X6_lasts F_X6_lasts_e
      refine s_isThing X.2.2.2.2.1 ?_
      rw [hp]
      exact br_f (by decide) (s_yearsCalled X hk h)
    · unfold q_X7_lasts F_X7_lasts_e
      refine s_isThing7 Y.2.2.2.1 ?_
      rw [hp]
      exact br_f (by decide) (s_lastsOf Y hk h)
  · have hp : isT p th = false := by simpa using hp
    refine ⟨-1, fun Q h => ?_, fun Q h => ?_⟩
    · unfold q_X6_lasts F_X6_lasts_e
      refine s_isThing X.2.2.2.2.1 ?_
      rw [hp]; exact br_t rfl h
    · unfold q_X7_lasts F_X7_lasts_e
      refine s_isThing7 Y.2.2.2.1 ?_
      rw [hp]; exact br_t rfl h
theorem pr_spare (C : cXY th bo fa ye wh bound things fades rows hill now) : ∃ r : Int32, (∀ Q : Int32 → Prop, Q r → q_X6_spare bound things rows fades p Q) ∧ (∀ Q : Int32 → Prop, Q r → q_X7_spare hill now p Q) := by
  obtain ⟨X, Y⟩ := C
  by_cases hp : isT p th = true
  · obtain ⟨k, hk, rfl⟩ := isT_t (by have := X.1; omega) hp
    refine ⟨nI (ye k - lst bo (wh k)), fun Q h => ?_, fun Q h => ?_⟩
    · unfold q_X6_spare F_X6_spare_e
      refine s_isThing X.2.2.2.2.1 ?_
      rw [hp]
      exact br_f (by decide) (s_canSpare X hk h)
    · unfold q_X7_spare F_X7_spare_e
      refine s_isThing7 Y.2.2.2.1 ?_
      rw [hp]
      exact br_f (by decide) (s_spareOf Y hk h)
  · have hp : isT p th = false := by simpa using hp
    refine ⟨-1, fun Q h => ?_, fun Q h => ?_⟩
    · unfold q_X6_spare F_X6_spare_e
      refine s_isThing X.2.2.2.2.1 ?_
      rw [hp]; exact br_t rfl h
    · unfold q_X7_spare F_X7_spare_e
      refine s_isThing7 Y.2.2.2.1 ?_
      rw [hp]; exact br_t rfl h
theorem pr_needs (C : cXY th bo fa ye wh bound things fades rows hill now) : ∃ r : Int32, (∀ Q : Int32 → Prop, Q r → q_X6_needs bound things rows fades p p1 Q) ∧ (∀ Q : Int32 → Prop, Q r → q_X7_needs hill now p p1 Q) := by
  obtain ⟨X, Y⟩ := C
  by_cases hp : isT p th = true
  · obtain ⟨k, hk, rfl⟩ := isT_t (by have := X.1; omega) hp
    by_cases hn : inR p1 99 = true
    · obtain ⟨n, hn2, rfl⟩ := inR_t (by decide) hn
      refine ⟨nee bo (ye k) (wh k) (fa k) n, fun Q h => ?_, fun Q h => ?_⟩
      · unfold q_X6_needs F_X6_needs_e
        refine s_isThing X.2.2.2.2.1 ?_
        rw [hp]
        refine br_f (by decide) (s_within ?_)
        rw [show decide ((0 : Int32) ≤ nI n ∧ nI n ≤ 99) = true from hn]
        exact p_n (by decide) (s_paintFor X hk hn2 h)
      · unfold q_X7_needs F_X7_needs_e
        refine s_isThing7 Y.2.2.2.1 ?_
        rw [hp]
        refine br_f (by decide) (s_in (b := 0) (c := 99) rfl rfl ?_)
        rw [show decide ((0 : Int32) ≤ nI n ∧ nI n ≤ 99) = true from hn]
        exact br_f (by decide) (s_needsOf Y hk hn2 h)
    · have hn : inR p1 99 = false := by simpa using hn
      refine ⟨-1, fun Q h => ?_, fun Q h => ?_⟩
      · unfold q_X6_needs F_X6_needs_e
        refine s_isThing X.2.2.2.2.1 ?_
        rw [hp]
        refine br_f (by decide) (s_within ?_)
        rw [show decide ((0 : Int32) ≤ p1 ∧ p1 ≤ 99) = false from hn]
        exact p_m rfl h
      · unfold q_X7_needs F_X7_needs_e
        refine s_isThing7 Y.2.2.2.1 ?_
        rw [hp]
        refine br_f (by decide) (s_in (b := 0) (c := 99) rfl rfl ?_)
        rw [show decide ((0 : Int32) ≤ p1 ∧ p1 ≤ 99) = false from hn]
        exact br_t rfl h
  · have hp : isT p th = false := by simpa using hp
    refine ⟨-1, fun Q h => ?_, fun Q h => ?_⟩
    · unfold q_X6_needs F_X6_needs_e
      refine s_isThing X.2.2.2.2.1 ?_
      rw [hp]; exact br_t rfl h
    · unfold q_X7_needs F_X7_needs_e
      refine s_isThing7 Y.2.2.2.1 ?_
      rw [hp]; exact br_t rfl h
theorem far_key {b y w : Nat} (h1 : 1 ≤ b) (h2 : b ≤ 10) : cal b y w = true ↔ 0 < y ∧ w ≤ 10 * y / b - y := by
  have key : b * (y + w) ≤ 10 * y ↔ y + w ≤ 10 * y / b := by
    rw [Nat.le_div_iff_mul_le (by omega), Nat.mul_comm]
  have h3 : y ≤ 10 * y / b := by
    rw [Nat.le_div_iff_mul_le (by omega), Nat.mul_comm]
    exact Nat.mul_le_mul_right y h2
  unfold cal
  simp only [Bool.and_eq_true, decide_eq_true_eq, key]
  constructor
  · rintro ⟨q1, q2⟩; exact ⟨q1, by omega⟩
  · rintro ⟨q1, q2⟩; exact ⟨q1, by omega⟩
theorem pr_far (C : cXY th bo fa ye wh bound things fades rows hill now) : ∃ r : Int32, (∀ Q : Int32 → Prop, Q r → q_X6_far bound things rows fades p Q) ∧ (∀ Q : Int32 → Prop, Q r → q_X7_far hill now p Q) := by
  obtain ⟨X, Y⟩ := C
  by_cases hp : isT p th = true
  · obtain ⟨k, hk, rfl⟩ := isT_t (by have := X.1; omega) hp
    have X' := X
    obtain ⟨h1, hb1, hb, e, -, hh⟩ := X'
    have Y' := Y
    obtain ⟨-, -, -, -, e3, -⟩ := Y'
    obtain ⟨g1, g2, g3, -⟩ := hh k hk
    by_cases hc : cal bo (ye k) (wh k) = true
    · have hc2 := (far_key hb1 hb).mp hc
      have hq : 10 * ye k / bo ≤ 10 * ye k := Nat.div_le_self _ _
      have hy : ye k ≤ 10 * ye k / bo := by
        rw [Nat.le_div_iff_mul_le (by omega), Nat.mul_comm]
        exact Nat.mul_le_mul_right _ hb
      refine ⟨nI (frr bo (ye k) (wh k)), fun Q h => ?_, fun Q h => ?_⟩
      · unfold q_X6_far F_X6_far_e
        refine s_isThing X.2.2.2.2.1 ?_
        rw [hp]
        refine p_n (by decide) (s_called0 X hk ?_)
        rw [hc]
        refine p_n (by decide) (s_yellow X hk ?_)
        rw [show (10 : Int32) * nI (ye k) = nI (10 * ye k) from pk_mul 10 _, e]
        refine s_quotient (by omega) (by omega) (by omega) ?_
        rintro x rfl
        refine s_white X hk ?_
        rw [pk_sub hy]
        unfold frr at h
        by_cases hz : 999 < 10 * ye k / bo - ye k
        · rw [if_pos hz] at h
          rw [if_pos (show (999 : Int32) < nI (10 * ye k / bo - ye k) from nI_lt (a := 999) hz (by omega)), show (999 : Int32) - nI (wh k) = nI (999 - wh k) from pk_sub (a := 999) g3]
          exact h
        · rw [if_neg hz] at h
          rw [if_neg (show ¬ (999 : Int32) < nI (10 * ye k / bo - ye k) from nI_nlt (a := 999) (by omega) (by decide)), pk_sub hc2.2]
          exact h
      · have hK : frr bo (ye k) (wh k) + wh k ≤ 999 ∧ (∀ j, j < frr bo (ye k) (wh k) → cal bo (ye k) (wh k + j + 1) = true) ∧ (wh k + frr bo (ye k) (wh k) < 999 → cal bo (ye k) (wh k + frr bo (ye k) (wh k) + 1) = false) := by
          refine ⟨?_, fun j hj => (far_key hb1 hb).mpr ⟨hc2.1, ?_⟩, fun hj => ?_⟩
          · unfold frr; split <;> omega
          · unfold frr at hj; split at hj <;> omega
          · rcases hcc : cal bo (ye k) (wh k + frr bo (ye k) (wh k) + 1) with _ | _
            · rfl
            · have := (far_key hb1 hb).mp hcc
              unfold frr at this hj
              split at this <;> split at hj <;> omega
        generalize frr bo (ye k) (wh k) = K at h hK
        obtain ⟨k1, k2, k3⟩ := hK
        have L : ∀ d j : Nat, j + d = K → ∃ n, wp_X7_far hill now (nI k) Q n 25 (nI j) := by
          intro d
          induction d with
          | zero =>
            intro j hj
            have hj : j = K := by omega
            subst hj
            refine ⟨1, ?_⟩
            show F_X7_far_25 hill now (nI k) Q (wp_X7_far hill now (nI k) Q 0) (nI j)
            unfold F_X7_far_25
            refine s_white7 Y hk ?_
            rw [nI_add]
            refine ⟨fun _ => h, fun q => s_yellow7 Y hk (s_white7 Y hk ?_)⟩
            have q2 : wh k + j < 999 := by
              rcases Nat.lt_or_ge (wh k + j) 999 with z | z
              · exact z
              · exact absurd (nI_le (a := 999) z (by omega)) q
            rw [nI_add, show nI (wh k + j) + 1 = nI (wh k + j + 1) from nI_1 _]
            refine s_isCalled7 e3 hb (by omega) (by omega) ?_
            rw [k3 q2]
            exact br_t rfl h
          | succ d ih =>
            intro j hj
            obtain ⟨n, hn⟩ := ih (j + 1) (by omega)
            refine ⟨n + 1, ?_⟩
            show F_X7_far_25 hill now (nI k) Q (wp_X7_far hill now (nI k) Q n) (nI j)
            unfold F_X7_far_25
            refine s_white7 Y hk ?_
            rw [nI_add]
            refine br_f (fun q => ?_) (s_yellow7 Y hk (s_white7 Y hk ?_))
            · have := (nI_leI (a := 999) (by decide) (by omega)).mp q; omega
            · rw [nI_add, show nI (wh k + j) + 1 = nI (wh k + j + 1) from nI_1 _]
              refine s_isCalled7 e3 hb (by omega) (by omega) ?_
              rw [k2 j (by omega)]
              refine br_f (by decide) ?_
              rintro x rfl
              rw [nI_1]; exact hn
        obtain ⟨n, hn⟩ := L K 0 (by omega)
        refine ⟨n, ?_⟩
        unfold F_X7_far_e
        refine s_isThing7 Y.2.2.2.1 ?_
        rw [hp]
        refine p_n (by decide) (s_then0 Y hk ?_)
        rw [hc]
        exact p_n (by decide) hn
    · have hc : cal bo (ye k) (wh k) = false := by simpa using hc
      refine ⟨-5, fun Q h => ?_, fun Q h => ?_⟩
      · unfold q_X6_far F_X6_far_e
        refine s_isThing X.2.2.2.2.1 ?_
        rw [hp]
        refine p_n (by decide) (s_called0 X hk ?_)
        rw [hc]
        exact p_m rfl h
      · refine ⟨0, ?_⟩
        unfold F_X7_far_e
        refine s_isThing7 Y.2.2.2.1 ?_
        rw [hp]
        refine p_n (by decide) (s_then0 Y hk ?_)
        rw [hc]
        exact p_m rfl h
  · have hp : isT p th = false := by simpa using hp
    refine ⟨-1, fun Q h => ?_, fun Q h => ?_⟩
    · unfold q_X6_far F_X6_far_e
      refine s_isThing X.2.2.2.2.1 ?_
      rw [hp]; exact p_m rfl h
    · refine ⟨0, ?_⟩
      unfold F_X7_far_e
      refine s_isThing7 Y.2.2.2.1 ?_
      rw [hp]; exact p_m rfl h
/-! first and rich: a scan over the things -/
def oI (o : Option Nat) : Int32 := match o with
  | none => -9
  | some k => nI k
/-- the first of the least values above 0 -/
def fsts (v : Nat → Int32) : Nat → Option Nat
  | 0 => none
  | k + 1 => if v k ≤ 0 then fsts v k else match fsts v k with
    | none => some k
    | some j => if v j ≤ v k then some j else some k
/-- the first of the greatest values above 0 -/
def rchs (v : Nat → Int32) : Nat → Option Nat
  | 0 => none
  | k + 1 => if v k ≤ 0 then rchs v k else match rchs v k with
    | none => some k
    | some j => if v k ≤ v j then some j else some k
theorem fsts_lt (v : Nat → Int32) : ∀ k j, fsts v k = some j → j < k
  | 0, j, h => by simp [fsts] at h
  | k + 1, j, h => by
    have ih := fsts_lt v k
    unfold fsts at h
    split at h
    · have := ih j h; omega
    · split at h
      · cases h; omega
      · rename_i j0 e0
        have := ih j0 e0
        split at h <;> cases h <;> omega
theorem rchs_lt (v : Nat → Int32) : ∀ k j, rchs v k = some j → j < k
  | 0, j, h => by simp [rchs] at h
  | k + 1, j, h => by
    have ih := rchs_lt v k
    unfold rchs at h
    split at h
    · have := ih j h; omega
    · split at h
      · cases h; omega
      · rename_i j0 e0
        have := ih j0 e0
        split at h <;> cases h <;> omega
theorem nI_n9 {k : Nat} (h : k < 2 ^ 31) : ¬ nI k = -9 := fun q => nI_pos h (by rw [q]; decide)
end XY

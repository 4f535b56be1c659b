/-! ===== things: when one is called yellow ===== -/
def cal (b y w : Nat) : Bool := decide (0 < y) && decide (b * (y + w) ≤ 10 * y)
/-- the least yellow by which a thing with so much white is called -/
def lst (b w : Nat) : Nat := if b = 10 then (if w = 0 then 1 else 1000000) else 1 + ((b * w + (10 - b) - 1) / (10 - b) - 1)
theorem lst_pos (b w : Nat) : 1 ≤ lst b w := by
  unfold lst; split
  · split <;> omega
  · omega
theorem cal_lst {b y w : Nat} (h1 : 1 ≤ b) (h2 : b ≤ 10) (hy : y < 1000000) : cal b y w = decide (lst b w ≤ y) := by
  have key : (0 < y ∧ b * (y + w) ≤ 10 * y) ↔ lst b w ≤ y := by
    unfold lst
    rcases (show b = 1 ∨ b = 2 ∨ b = 3 ∨ b = 4 ∨ b = 5 ∨ b = 6 ∨ b = 7 ∨ b = 8 ∨ b = 9 ∨ b = 10 by omega) with rfl | rfl | rfl | rfl | rfl | rfl | rfl | rfl | rfl | rfl <;> simp <;> (try split) <;> omega
  unfold cal
  by_cases h : lst b w ≤ y
  · have := key.mpr h
    simp [h, this.1, this.2]
  · have : ¬ (0 < y ∧ b * (y + w) ≤ 10 * y) := fun q => h (key.mp q)
    simp only [h, decide_false]
    by_cases h3 : 0 < y
    · have : ¬ b * (y + w) ≤ 10 * y := fun q => this ⟨h3, q⟩
      simp [this]
    · simp [h3]
theorem s_calledWith {b y w : Nat} (hb : b ≤ 10) (hy : y ≤ 9999) (hw : w ≤ 9999) {Q : Int32 → Prop} (h : Q (bI (cal b y w))) : q_X6_calledWith (nI b) (nI y) (nI w) Q := by
  unfold q_X6_calledWith F_X6_calledWith_e
  have hm : b * (y + w) ≤ 10 * 19998 := Nat.mul_le_mul hb (by omega)
  have e1 : (10 : Int32) * nI y = nI (10 * y) := pk_mul 10 y
  have e2 : nI b * (nI y + nI w) = nI (b * (y + w)) := by rw [nI_add, pk_mul]
  rw [e1, e2]
  refine ⟨fun h1 => ?_, fun h1 => ⟨fun h2 => ?_, fun h2 => ?_⟩⟩
  · have : y = 0 := by have := (nI_leI (a := y) (b := 0) (by omega) (by decide)).mp h1; omega
    subst this
    simpa [cal, bI] using h
  · have := (nI_ltI (by omega) (by omega)).mp h2
    have e : cal b y w = false := by unfold cal; simp; omega
    rw [e] at h; exact h
  · have h3 : ¬ 10 * y < b * (y + w) := fun q => h2 (nI_lt q (by omega))
    have h4 : ¬ y ≤ 0 := fun q => h1 (nI_le (a := y) (b := 0) q (by decide))
    have e : cal b y w = true := by unfold cal; simp; omega
    rw [e] at h; exact h
theorem s_isCalled7 {hill : Nat → Int32} {b y w : Nat} (hh : hill 3 = nI b) (hb : b ≤ 10) (hy : y ≤ 9999) (hw : w ≤ 9999) {Q : Int32 → Prop} (h : Q (bI (cal b y w))) : q_X7_isCalled hill (nI y) (nI w) Q := by
  have := s_calledWith hb hy hw h
  unfold q_X6_calledWith F_X6_calledWith_e at this
  unfold q_X7_isCalled F_X7_isCalled_e
  rw [show ((3 : Int32)).toNatClampNeg = 3 from rfl, hh]
  exact this
theorem s_isCalled7n {hill : Nat → Int32} {p w : Int32} (hp : p < 0) {Q : Int32 → Prop} (h : Q (bI false)) : q_X7_isCalled hill p w Q := by
  unfold q_X7_isCalled F_X7_isCalled_e
  exact br_t (Int32.le_of_lt hp) h
/-! the class's things -/
def cX (th bo : Nat) (fa ye wh : Nat → Nat) (bound things : Int32) (fades rows : Nat → Int32) : Prop := th ≤ 6 ∧ 1 ≤ bo ∧ bo ≤ 10 ∧ bound = nI bo ∧ things = nI th ∧ ∀ t, t < th → fa t ≤ 9 ∧ ye t ≤ 999 ∧ wh t ≤ 999 ∧ fades t = nI (fa t) ∧ rows (3 + t) = nI (ye t) ∧ rows (9 + t) = nI (wh t)
def cY (th bo : Nat) (fa ye wh : Nat → Nat) (hill now : Nat → Int32) : Prop := th ≤ 6 ∧ 1 ≤ bo ∧ bo ≤ 10 ∧ hill 2 = nI th ∧ hill 3 = nI bo ∧ ∀ t, t < th → fa t ≤ 9 ∧ ye t ≤ 999 ∧ wh t ≤ 999 ∧ hill (24 + 4 * t) = nI (fa t) ∧ now (3 + 2 * t) = nI (ye t) ∧ now (4 + 2 * t) = nI (wh t)
section CX
variable {th bo : Nat} {fa ye wh : Nat → Nat} {bound things : Int32} {fades rows : Nat → Int32} {t : Nat} {Q : Int32 → Prop}
theorem s_yellow (C : cX th bo fa ye wh bound things fades rows) (ht : t < th) (h : Q (nI (ye t))) : q_X2_yellow rows (nI t) Q := by
  obtain ⟨h1, -, -, -, -, hh⟩ := C
  obtain ⟨-, -, -, -, h5, -⟩ := hh t ht
  unfold q_X2_yellow F_X2_yellow_e
  have e : (3 : Int32) + nI t = nI (3 + t) := nI_add 3 t
  rw [e, nI_clamp (by omega), h5]
  exact ⟨vp_nI (by omega) (by decide), h⟩
theorem s_white (C : cX th bo fa ye wh bound things fades rows) (ht : t < th) (h : Q (nI (wh t))) : q_X2_white rows (nI t) Q := by
  obtain ⟨h1, -, -, -, -, hh⟩ := C
  obtain ⟨-, -, -, -, -, h5⟩ := hh t ht
  unfold q_X2_white F_X2_white_e
  have e : (9 : Int32) + nI t = nI (9 + t) := nI_add 9 t
  rw [e, nI_clamp (by omega), h5]
  exact ⟨vp_nI (by omega) (by decide), h⟩
theorem s_fadesV (C : cX th bo fa ye wh bound things fades rows) (ht : t < th) : vp_in (nI t) 6 ∧ fades (nI t).toNatClampNeg = nI (fa t) := by
  obtain ⟨h1, -, -, -, -, hh⟩ := C
  obtain ⟨-, -, -, h4, -⟩ := hh t ht
  rw [nI_clamp (by omega)]
  exact ⟨vp_nI (by omega) (by decide), h4⟩
/-- x - y, or 0 -/
theorem max_sub {a b : Nat} (ha : a < 2 ^ 30) (hb : b < 2 ^ 30) : (if (0 : Int32) < nI a - nI b then nI a - nI b else 0) = nI (a - b) := by
  rcases Nat.lt_or_ge b a with q | q
  · rw [pk_sub (by omega), if_pos (show (0 : Int32) < nI (a - b) from nI_lt (a := 0) (by omega) (by omega))]
  · rw [Nat.sub_eq_zero_of_le q]
    rcases Nat.eq_or_lt_of_le q with e | e
    · subst e
      rw [pk_sub (Nat.le_refl _), Nat.sub_self, if_neg (by decide)]; rfl
    · rw [if_neg (Int32.not_lt.mpr (Int32.le_of_lt (pk_sneg hb e)))]; rfl
theorem s_yellowAfter (C : cX th bo fa ye wh bound things fades rows) (ht : t < th) {n : Nat} (hn : n ≤ 999) (h : Q (nI (ye t - n * fa t))) : q_X6_yellowAfter rows fades (nI t) (nI n) Q := by
  unfold q_X6_yellowAfter F_X6_yellowAfter_e
  refine s_yellow C ht ?_
  obtain ⟨f1, f2⟩ := s_fadesV C ht
  obtain ⟨h1, -, -, -, -, hh⟩ := C
  obtain ⟨g1, g2, -⟩ := hh t ht
  have hm : n * fa t ≤ 999 * 9 := Nat.mul_le_mul hn g1
  rw [f2, pk_mul, max_sub (by omega) (by omega)]
  exact ⟨f1, h⟩
theorem s_calledAfter (C : cX th bo fa ye wh bound things fades rows) (ht : t < th) {n : Nat} (hn : n ≤ 999) (h : Q (bI (cal bo (ye t - n * fa t) (wh t)))) : q_X6_calledAfter bound rows fades (nI t) (nI n) Q := by
  unfold q_X6_calledAfter F_X6_calledAfter_e
  refine s_yellowAfter C ht hn (s_white C ht ?_)
  obtain ⟨h1, -, hb, e, -, hh⟩ := C
  obtain ⟨g1, g2, g3, -⟩ := hh t ht
  rw [e]
  exact s_calledWith hb (by omega) (by omega) ⟨nar_bI _, h⟩
theorem s_called0 (C : cX th bo fa ye wh bound things fades rows) (ht : t < th) (h : Q (bI (cal bo (ye t) (wh t)))) : q_X6_calledAfter bound rows fades (nI t) 0 Q := by
  refine s_calledAfter (n := 0) C ht (by omega) ?_
  rw [Nat.zero_mul, Nat.sub_zero]; exact h
end CX
section CY
variable {th bo : Nat} {fa ye wh : Nat → Nat} {hill now : Nat → Int32} {t : Nat} {Q : Int32 → Prop}
theorem s_yellow7 (C : cY th bo fa ye wh hill now) (ht : t < th) (h : Q (nI (ye t))) : q_X7_yellow now (nI t) Q := by
  obtain ⟨h1, -, -, -, -, hh⟩ := C
  obtain ⟨-, -, -, -, h5, -⟩ := hh t ht
  unfold q_X7_yellow F_X7_yellow_e
  have e : (3 : Int32) + (2 : Int32) * nI t = nI (3 + 2 * t) := by
    rw [show (2 : Int32) * nI t = nI (2 * t) from pk_mul 2 t]; exact nI_add 3 _
  rw [e, nI_clamp (by omega), h5]
  exact ⟨vp_nI (by omega) (by decide), h⟩
theorem s_white7 (C : cY th bo fa ye wh hill now) (ht : t < th) (h : Q (nI (wh t))) : q_X7_white now (nI t) Q := by
  obtain ⟨h1, -, -, -, -, hh⟩ := C
  obtain ⟨-, -, -, -, -, h5⟩ := hh t ht
  unfold q_X7_white F_X7_white_e
  have e : (4 : Int32) + (2 : Int32) * nI t = nI (4 + 2 * t) := by
    rw [show (2 : Int32) * nI t = nI (2 * t) from pk_mul 2 t]; exact nI_add 4 _
  rw [e, nI_clamp (by omega), h5]
  exact ⟨vp_nI (by omega) (by decide), h⟩
theorem s_fades7 (C : cY th bo fa ye wh hill now) (ht : t < th) (h : Q (nI (fa t))) : q_X7_fades hill (nI t) Q := by
  obtain ⟨h1, -, -, -, -, hh⟩ := C
  obtain ⟨-, -, -, h5, -⟩ := hh t ht
  unfold q_X7_fades F_X7_fades_e
  have e : (22 : Int32) + (4 : Int32) * nI t + 2 = nI (24 + 4 * t) := by
    rw [show (4 : Int32) * nI t = nI (4 * t) from pk_mul 4 t, show (22 : Int32) + nI (4 * t) = nI (22 + 4 * t) from nI_add 22 _, show nI (22 + 4 * t) + 2 = nI (22 + 4 * t + 2) from nI_add _ 2]
    congr 1; omega
  rw [e, nI_clamp (by omega), h5]
  exact ⟨vp_nI (by omega) (by decide), h⟩
theorem s_isThen7 (C : cY th bo fa ye wh hill now) (ht : t < th) {n m : Nat} (hn : n ≤ 999) (hm : m ≤ 999) (h : Q (bI (cal bo (ye t + m - n * fa t) (wh t)))) : q_X7_isThen now hill (nI t) (nI n) (nI m) Q := by
  unfold q_X7_isThen F_X7_isThen_e
  refine s_yellow7 C ht (s_fades7 C ht ?_)
  rintro x rfl
  refine s_white7 C ht ?_
  obtain ⟨h1, -, hb, -, e, hh⟩ := C
  obtain ⟨g1, g2, g3, -⟩ := hh t ht
  have hk : n * fa t ≤ 999 * 9 := Nat.mul_le_mul hn g1
  rw [nI_add, pk_mul]
  rcases Nat.lt_or_ge (ye t + m) (n * fa t) with q | q
  · refine s_isCalled7n (pk_sneg (by omega) q) ⟨rfl, ?_⟩
    rw [Nat.sub_eq_zero_of_le (Nat.le_of_lt q)] at h
    simpa [cal] using h
  · rw [pk_sub q]
    exact s_isCalled7 e hb (by omega) (by omega) ⟨nar_bI _, h⟩
theorem s_then0 (C : cY th bo fa ye wh hill now) (ht : t < th) (h : Q (bI (cal bo (ye t) (wh t)))) : q_X7_isThen now hill (nI t) 0 0 Q := by
  refine s_isThen7 (n := 0) (m := 0) C ht (by omega) (by omega) ?_
  rw [Nat.zero_mul, Nat.add_zero, Nat.sub_zero]; exact h
end CY

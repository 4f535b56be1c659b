/-! ===== the course: now, and what may be undone ===== -/
def rR (th cells B : Nat) (rows : Nat → Int32) (o : Nat) (m : Nat → Int32) (q : Nat) : Prop := ∃ (dg st yr : Nat) (ye wh : Nat → Nat), dg < 2 ^ cells ∧ st ≤ B ∧ yr ≤ 999 ∧ rows o = nI dg ∧ rows (o + 1) = nI st ∧ rows (o + 2) = nI yr ∧ m q = nI yr ∧ m (q + 1) = nI st ∧ m (q + 2) = nI dg ∧ ∀ t, t < th → ye t ≤ 999 ∧ wh t ≤ 999 ∧ rows (o + 3 + t) = nI (ye t) ∧ rows (o + 9 + t) = nI (wh t) ∧ m (q + 3 + 2 * t) = nI (ye t) ∧ m (q + 4 + 2 * t) = nI (wh t)
def iC (th cells B : Nat) (rows : Nat → Int32) (known : Int32) (now undone : Nat → Int32) (undos : Int32) : Prop := ∃ k : Nat, k ≤ 10 ∧ known = nI k ∧ undos = nI k ∧ rR th cells B rows 0 now 0 ∧ ∀ j, 1 ≤ j → j ≤ k → rR th cells B rows (15 * j) undone (15 * (k - j))
theorem rR_cong {th cells B B' : Nat} {rows rows' m m' : Nat → Int32} {o o' q q' : Nat} (h6 : th ≤ 6) (hB : B ≤ B') (hr : ∀ f, f < 15 → rows' (o' + f) = rows (o + f)) (hm : ∀ f, f < 15 → m' (q' + f) = m (q + f)) (h : rR th cells B rows o m q) : rR th cells B' rows' o' m' q' := by
  obtain ⟨dg, st, yr, ye, wh, h1, h2, h3, h4, h5, h7, h8, h9, h10, h11⟩ := h
  refine ⟨dg, st, yr, ye, wh, h1, by omega, h3, ?_, ?_, ?_, ?_, ?_, ?_, fun t ht => ?_⟩
  · have := hr 0 (by omega); rw [Nat.add_zero, Nat.add_zero] at this; rw [this]; exact h4
  · rw [hr 1 (by omega)]; exact h5
  · rw [hr 2 (by omega)]; exact h7
  · have := hm 0 (by omega); rw [Nat.add_zero, Nat.add_zero] at this; rw [this]; exact h8
  · rw [hm 1 (by omega)]; exact h9
  · rw [hm 2 (by omega)]; exact h10
  · obtain ⟨a1, a2, a3, a4, a5, a6⟩ := h11 t ht
    refine ⟨a1, a2, ?_, ?_, ?_, ?_⟩
    · rw [Nat.add_assoc, hr (3 + t) (by omega), ← Nat.add_assoc]; exact a3
    · rw [Nat.add_assoc, hr (9 + t) (by omega), ← Nat.add_assoc]; exact a4
    · rw [Nat.add_assoc, hm (3 + 2 * t) (by omega), ← Nat.add_assoc]; exact a5
    · rw [Nat.add_assoc, hm (4 + 2 * t) (by omega), ← Nat.add_assoc]; exact a6
/-- what notes() leaves -/
def ntU (k : Nat) (now und : Nat → Int32) : Nat → Int32 := if k = 10 then fb_put (fb_put und (fun i => und (i + 15)) 0 135) now 135 15 else fb_put und now (15 * k) 15
theorem s_notes {k : Nat} (hk : k ≤ 10) {now und : Nat → Int32} {Q : Int32 → (Nat → Int32) → Prop} (h : Q (nI (if k = 10 then 10 else k + 1)) (ntU k now und)) : q_X7_notes (nI k) und now Q := by
  have L48 : ∀ (u : Nat) (f : Nat → Int32), u ≤ 9 → Q (nI (u + 1)) (fb_put f now (15 * u) 15) → ∀ d i : Nat, i + d = 15 → ∃ n, wp_X7_notes now Q n 48 (nI i) (nI u) (fb_put f now (15 * u) i) := by
    intro u f hu hq d
    induction d with
    | zero =>
      intro i hi
      have hi : i = 15 := by omega
      subst hi
      refine ⟨1, ?_⟩
      show F_X7_notes_48 now Q (wp_X7_notes now Q 0) (nI 15) (nI u) (fb_put f now (15 * u) 15)
      unfold F_X7_notes_48
      refine br_t (Int32.le_refl _) ?_
      rintro x rfl
      rw [nI_1]; exact hq
    | succ d ih =>
      intro i hi
      obtain ⟨n, hn⟩ := ih (i + 1) (by omega)
      refine ⟨n + 1, ?_⟩
      show F_X7_notes_48 now Q (wp_X7_notes now Q n) (nI i) (nI u) (fb_put f now (15 * u) i)
      unfold F_X7_notes_48
      have e : (15 : Int32) * nI u + nI i = nI (15 * u + i) := by rw [show (15 : Int32) * nI u = nI (15 * u) from pk_mul 15 u, nI_add]
      rw [e]
      refine br_f (nI_ge (b := 15) (by omega) (by decide)) ⟨vp_nI (by omega) (by decide), vp_nI (by omega) (by decide), ?_⟩
      rintro g rfl x rfl
      rw [nI_clamp (by omega), nI_clamp (by omega), fb_put_succ, nI_1]
      exact hn
  by_cases h10 : k = 10
  · subst h10
    unfold ntU at h
    rw [if_pos rfl, if_pos rfl] at h
    obtain ⟨n9, h9⟩ := L48 9 _ (by omega) h 15 0 (by omega)
    rw [fb_put_0] at h9
    have L12 : ∀ d i : Nat, i + d = 135 → ∃ n, wp_X7_notes now Q n 12 (nI (i + 15)) (nI 10) (fb_put und (fun i => und (i + 15)) 0 i) := by
      intro d
      induction d with
      | zero =>
        intro i hi
        have hi : i = 135 := by omega
        subst hi
        refine ⟨n9 + 1, ?_⟩
        show F_X7_notes_12 now Q (wp_X7_notes now Q n9) (nI 150) (nI 10) (fb_put und (fun i => und (i + 15)) 0 135)
        unfold F_X7_notes_12
        exact br_t (Int32.le_refl _) h9
      | succ d ih =>
        intro i hi
        obtain ⟨n, hn⟩ := ih (i + 1) (by omega)
        refine ⟨n + 1, ?_⟩
        show F_X7_notes_12 now Q (wp_X7_notes now Q n) (nI (i + 15)) (nI 10) (fb_put und (fun i => und (i + 15)) 0 i)
        unfold F_X7_notes_12
        have e : nI (i + 15) - 15 = nI i := by rw [show nI (i + 15) - 15 = nI (i + 15 - 15) from pk_sub (b := 15) (by omega), Nat.add_sub_cancel]
        rw [e]
        refine br_f (nI_ge (b := 150) (by omega) (by decide)) ⟨vp_nI (by omega) (by decide), vp_nI (by omega) (by decide), ?_⟩
        rintro g rfl x rfl
        rw [nI_clamp (by omega), nI_clamp (by omega), fb_put_out (k := i + 15) (by omega), show nI (i + 15) + 1 = nI (i + 1 + 15) by rw [nI_1, show i + 15 + 1 = i + 1 + 15 by omega]]
        have e2 := fb_put_succ und (fun i => und (i + 15)) 0 i
        rw [Nat.zero_add] at e2
        rw [e2]
        exact hn
    obtain ⟨n, hn⟩ := L12 135 0 (by omega)
    rw [fb_put_0] at hn
    refine ⟨n, ?_⟩
    unfold F_X7_notes_e
    exact p_m rfl hn
  · unfold ntU at h
    rw [if_neg h10, if_neg h10] at h
    obtain ⟨n, hn⟩ := L48 k und (by omega) h 15 0 (by omega)
    rw [fb_put_0] at hn
    refine ⟨n, ?_⟩
    unfold F_X7_notes_e
    exact p_n (fun q => h10 (nI_inj (by omega) (by decide) q)) hn
/-- what remember() leaves -/
def rmR (rows : Nat → Int32) : Nat → Int32 := va_cpy rows rows 0 15 150
theorem s_remember {k : Nat} (hk : k ≤ 10) {rows : Nat → Int32} {Q : Int32 → (Nat → Int32) → Prop} (h : Q (nI (if k = 10 then 10 else k + 1)) (rmR rows)) : q_X2_remember (nI k) rows Q := by
  unfold q_X2_remember F_X2_remember_e
  rintro f rfl n rfl
  rw [show nI k + 1 = nI (k + 1) from nI_1 k]
  have e : (if (10 : Int32) < nI (k + 1) then (10 : Int32) else nI (k + 1)) = nI (if k = 10 then 10 else k + 1) := by
    by_cases h10 : k = 10
    · subst h10; rfl
    · rw [if_neg h10, if_neg (show ¬ (10 : Int32) < nI (k + 1) from nI_nlt (a := 10) (by omega) (by decide))]
  rw [e]
  exact h
theorem rm_lo (rows : Nat → Int32) {i : Nat} (h : i < 15) : rmR rows i = rows i := pk_cpy_out (by omega)
theorem rm_hi (rows : Nat → Int32) {i : Nat} (h : i < 150) : rmR rows (i + 15) = rows i := by
  unfold rmR
  rw [pk_cpy_in (by omega) (by omega)]
  congr 1; omega
/-- a deed: the old row is remembered on both sides, the new one stands in its place -/
theorem iC_step {th cells B B' : Nat} {rows now undone rows2 now2 : Nat → Int32} {k : Nat} (h6 : th ≤ 6) (hB : B ≤ B') (hk : k ≤ 10) (h0 : rR th cells B rows 0 now 0) (hj : ∀ j, 1 ≤ j → j ≤ k → rR th cells B rows (15 * j) undone (15 * (k - j))) (hr : ∀ i, 15 ≤ i → rows2 i = rmR rows i) (hn : rR th cells B' rows2 0 now2 0) : iC th cells B' rows2 (nI (if k = 10 then 10 else k + 1)) now2 (ntU k now undone) (nI (if k = 10 then 10 else k + 1)) := by
  refine ⟨if k = 10 then 10 else k + 1, by split <;> omega, rfl, rfl, hn, fun j h1 h2 => ?_⟩
  have e1 : ∀ f, f < 15 → rows2 (15 * j + f) = rows (15 * (j - 1) + f) := by
    intro f hf
    have : j ≤ 10 := by split at h2 <;> omega
    rw [hr _ (by omega), show 15 * j + f = 15 * (j - 1) + f + 15 by omega, rm_hi rows (by omega)]
  unfold ntU
  by_cases h10 : k = 10
  · subst h10
    rw [if_pos rfl] at h2 ⊢
    rw [if_pos rfl]
    by_cases hj1 : j = 1
    · subst hj1
      refine rR_cong h6 hB e1 (fun f hf => ?_) h0
      rw [fb_put_in (by omega) (by omega)]
      exact congrArg now (by omega)
    · refine rR_cong h6 hB e1 (fun f hf => ?_) (hj (j - 1) (by omega) (by omega))
      rw [fb_put_out (by omega), fb_put_in (by omega) (by omega)]
      congr 1; omega
  · rw [if_neg h10] at h2 ⊢
    rw [if_neg h10]
    by_cases hj1 : j = 1
    · subst hj1
      refine rR_cong h6 hB e1 (fun f hf => ?_) h0
      rw [fb_put_in (by omega) (by omega)]
      congr 1; omega
    · refine rR_cong h6 hB e1 (fun f hf => ?_) (hj (j - 1) (by omega) (by omega))
      rw [fb_put_out (by omega)]
      congr 1; omega
theorem iC_mono {th cells B B' : Nat} {rows now undone : Nat → Int32} {known undos : Int32} (h6 : th ≤ 6) (hB : B ≤ B') (h : iC th cells B rows known now undone undos) : iC th cells B' rows known now undone undos := by
  obtain ⟨k, h1, h2, h3, h4, h5⟩ := h
  exact ⟨k, h1, h2, h3, rR_cong h6 hB (fun _ _ => rfl) (fun _ _ => rfl) h4, fun j a b => rR_cong h6 hB (fun _ _ => rfl) (fun _ _ => rfl) (h5 j a b)⟩
/-! undo -/
theorem pr_undo {th cells B : Nat} {rows now undone : Nat → Int32} {known undos : Int32} (h6 : th ≤ 6) (I : iC th cells B rows known now undone undos) : ∃ (r u : Int32) (v : Nat → Int32) (u2 : Int32) (v2 : Nat → Int32), (∀ Q : Int32 → Int32 → (Nat → Int32) → Prop, Q r u v → q_X6_undo known rows Q) ∧ (∀ Q : Int32 → Int32 → (Nat → Int32) → Prop, Q r u2 v2 → q_X7_undo undos undone now Q) ∧ iC th cells B v u v2 undone u2 := by
  obtain ⟨k, hk, rfl, rfl, h0, hj⟩ := I
  rcases Nat.eq_zero_or_pos k with q | q
  · subst q
    refine ⟨-2, nI 0, rows, nI 0, now, fun Q h => ?_, fun Q h => ⟨0, ?_⟩, 0, by omega, rfl, rfl, h0, hj⟩
    · unfold q_X6_undo F_X6_undo_e
      exact p_m rfl h
    · unfold F_X7_undo_e
      exact p_m rfl h
  · have L : ∀ Q : Int32 → Int32 → (Nat → Int32) → Prop, Q (nI (k - 1)) (nI (k - 1)) (fb_put now (fun i => undone (15 * (k - 1) + i)) 0 15) → ∀ d i : Nat, i + d = 15 → ∃ n, wp_X7_undo undone Q n 22 (nI i) (nI (k - 1)) (fb_put now (fun i => undone (15 * (k - 1) + i)) 0 i) := by
      intro Q hq d
      induction d with
      | zero =>
        intro i hi
        have hi : i = 15 := by omega
        subst hi
        refine ⟨1, ?_⟩
        show F_X7_undo_22 undone Q (wp_X7_undo undone Q 0) (nI 15) (nI (k - 1)) (fb_put now (fun i => undone (15 * (k - 1) + i)) 0 15)
        unfold F_X7_undo_22
        exact br_t (Int32.le_refl _) hq
      | succ d ih =>
        intro i hi
        obtain ⟨n, hn⟩ := ih (i + 1) (by omega)
        refine ⟨n + 1, ?_⟩
        show F_X7_undo_22 undone Q (wp_X7_undo undone Q n) (nI i) (nI (k - 1)) (fb_put now (fun i => undone (15 * (k - 1) + i)) 0 i)
        unfold F_X7_undo_22
        have e : (15 : Int32) * nI (k - 1) + nI i = nI (15 * (k - 1) + i) := by rw [show (15 : Int32) * nI (k - 1) = nI (15 * (k - 1)) from pk_mul 15 _, nI_add]
        rw [e]
        refine br_f (nI_ge (b := 15) (by omega) (by decide)) ⟨vp_nI (by omega) (by decide), vp_nI (by omega) (by decide), ?_⟩
        rintro g rfl x rfl
        have e2 := fb_put_succ now (fun i => undone (15 * (k - 1) + i)) 0 i
        rw [Nat.zero_add] at e2
        rw [nI_clamp (by omega), nI_clamp (by omega), e2, nI_1]
        exact hn
    refine ⟨nI (k - 1), nI (k - 1), va_cpy rows rows 15 0 150, nI (k - 1), fb_put now (fun i => undone (15 * (k - 1) + i)) 0 15, fun Q h => ?_, fun Q h => ?_, k - 1, by omega, rfl, rfl, ?_, fun j h1 h2 => ?_⟩
    · unfold q_X6_undo F_X6_undo_e
      refine p_n (nI_ne0 q (by omega)) ?_
      unfold q_X2_stepBack F_X2_stepBack_e
      rintro f rfl n rfl
      rw [show nI k - 1 = nI (k - 1) from pk_sub (b := 1) q, if_neg (nI_pos (by omega))]
      exact h
    · obtain ⟨n, hn⟩ := L Q h 15 0 (by omega)
      rw [fb_put_0] at hn
      refine ⟨n, ?_⟩
      unfold F_X7_undo_e
      refine p_n (nI_ne0 q (by omega)) ?_
      rintro x rfl
      rw [show nI k - 1 = nI (k - 1) from pk_sub (b := 1) q]
      exact hn
    · refine rR_cong h6 (Nat.le_refl _) (fun f hf => ?_) (fun f hf => ?_) (hj 1 (by omega) q)
      · rw [pk_cpy_in (by omega) (by omega)]; congr 1; omega
      · rw [fb_put_in (by omega) (by omega)]; exact congrArg undone (by omega)
    · refine rR_cong h6 (Nat.le_refl _) (fun f hf => ?_) (fun f hf => ?_) (hj (j + 1) (by omega) (by omega))
      · rw [pk_cpy_in (by omega) (by omega)]; congr 1; omega
      · congr 1; omega

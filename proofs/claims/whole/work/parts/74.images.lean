/-! ===== images ===== -/
/-- an image: not kept on both sides, or kept and alike -/
def iM (th cells B : Nat) (ik : Int32) (rows : Nat → Int32) (known : Int32) (kept : Nat → Int32) (a : Nat) : Prop := (ik = 0 ∧ kept a = 0) ∨ (ik = 1 ∧ kept a = 1 ∧ iC th cells B rows known (fun i => kept (a + 2 + i)) (fun i => kept (a + 17 + i)) (kept (a + 1)))
theorem iC_cong {th cells B B' : Nat} {rows rows' now now' undone undone' : Nat → Int32} {known undos : Int32} (h6 : th ≤ 6) (hB : B ≤ B') (hr : ∀ i, i < 165 → rows' i = rows i) (hn : ∀ i, i < 15 → now' i = now i) (hu : ∀ i, i < 150 → undone' i = undone i) (h : iC th cells B rows known now undone undos) : iC th cells B' rows' known now' undone' undos := by
  obtain ⟨k, h1, h2, h3, h4, h5⟩ := h
  refine ⟨k, h1, h2, h3, rR_cong h6 hB (fun f hf => ?_) (fun f hf => ?_) h4, fun j a b => rR_cong h6 hB (fun f hf => ?_) (fun f hf => ?_) (h5 j a b)⟩
  · exact hr _ (by omega)
  · exact hn _ (by omega)
  · exact hr _ (by omega)
  · exact hu _ (by omega)
theorem iM_mono {th cells B B' : Nat} {ik known : Int32} {rows kept : Nat → Int32} {a : Nat} (h6 : th ≤ 6) (hB : B ≤ B') (h : iM th cells B ik rows known kept a) : iM th cells B' ik rows known kept a := by
  rcases h with h | ⟨h1, h2, h3⟩
  · exact Or.inl h
  · exact Or.inr ⟨h1, h2, iC_mono h6 hB h3⟩
/-- another part of the row of images has changed -/
theorem iM_other {th cells B : Nat} {ik known : Int32} {rows kept kept' : Nat → Int32} {a : Nat} (h6 : th ≤ 6) (hk : ∀ i, a ≤ i → i < a + 167 → kept' i = kept i) (h : iM th cells B ik rows known kept a) : iM th cells B ik rows known kept' a := by
  rcases h with ⟨h1, h2⟩ | ⟨h1, h2, h3⟩
  · exact Or.inl ⟨h1, by rw [hk a (by omega) (by omega)]; exact h2⟩
  · refine Or.inr ⟨h1, by rw [hk a (by omega) (by omega)]; exact h2, ?_⟩
    rw [hk (a + 1) (by omega) (by omega)]
    exact iC_cong h6 (Nat.le_refl _) (fun _ _ => rfl) (fun i hi => hk _ (by omega) (by omega)) (fun i hi => hk _ (by omega) (by omega)) h3
/-- the row of images behind keep() -/
def kpU (a : Nat) (undos : Int32) (now und kept : Nat → Int32) : Nat → Int32 := fb_put (fb_put (upd (upd kept a 1) (a + 1) undos) now (a + 2) 15) und (a + 17) 150
theorem s_keep7 {g : Nat} (hg : g ≤ 1) {undos : Int32} {kept now und : Nat → Int32} {Q : Int32 → (Nat → Int32) → Prop} (h : Q (now 0) (kpU (167 * g) undos now und kept)) : q_X7_keep undos kept now und (nI g) Q := by
  have L69 : ∀ d i : Nat, i + d = 150 → ∃ n, wp_X7_keep undos now und (nI g) Q n 69 (nI (167 * g)) (nI i) (fb_put (fb_put (upd (upd kept (167 * g) 1) (167 * g + 1) undos) now (167 * g + 2) 15) und (167 * g + 17) i) := by
    intro d
    induction d with
    | zero =>
      intro i hi
      have hi : i = 150 := by omega
      subst hi
      refine ⟨1, ?_⟩
      show F_X7_keep_69 undos now und (nI g) Q (wp_X7_keep undos now und (nI g) Q 0) (nI (167 * g)) (nI 150) _
      unfold F_X7_keep_69
      exact br_t (Int32.le_refl _) h
    | succ d ih =>
      intro i hi
      obtain ⟨n, hn⟩ := ih (i + 1) (by omega)
      refine ⟨n + 1, ?_⟩
      show F_X7_keep_69 undos now und (nI g) Q (wp_X7_keep undos now und (nI g) Q n) (nI (167 * g)) (nI i) _
      unfold F_X7_keep_69
      have e : nI (167 * g) + 17 + nI i = nI (167 * g + 17 + i) := by rw [show nI (167 * g) + 17 = nI (167 * g + 17) from nI_add _ 17, nI_add]
      rw [e]
      refine br_f (nI_ge (b := 150) (by omega) (by decide)) ⟨vp_nI (by omega) (by decide), vp_nI (by omega) (by decide), ?_⟩
      rintro f rfl x rfl
      rw [nI_clamp (by omega), nI_clamp (by omega), fb_put_succ, nI_1]
      exact hn
  have L39 : ∀ d i : Nat, i + d = 15 → ∃ n, wp_X7_keep undos now und (nI g) Q n 39 (nI (167 * g)) (nI i) (fb_put (upd (upd kept (167 * g) 1) (167 * g + 1) undos) now (167 * g + 2) i) := by
    intro d
    induction d with
    | zero =>
      intro i hi
      have hi : i = 15 := by omega
      subst hi
      obtain ⟨n, hn⟩ := L69 150 0 (by omega)
      rw [fb_put_0] at hn
      refine ⟨n + 1, ?_⟩
      show F_X7_keep_39 undos now und (nI g) Q (wp_X7_keep undos now und (nI g) Q n) (nI (167 * g)) (nI 15) _
      unfold F_X7_keep_39
      exact br_t (Int32.le_refl _) hn
    | succ d ih =>
      intro i hi
      obtain ⟨n, hn⟩ := ih (i + 1) (by omega)
      refine ⟨n + 1, ?_⟩
      show F_X7_keep_39 undos now und (nI g) Q (wp_X7_keep undos now und (nI g) Q n) (nI (167 * g)) (nI i) _
      unfold F_X7_keep_39
      have e : nI (167 * g) + 2 + nI i = nI (167 * g + 2 + i) := by rw [show nI (167 * g) + 2 = nI (167 * g + 2) from nI_add _ 2, nI_add]
      rw [e]
      refine br_f (nI_ge (b := 15) (by omega) (by decide)) ⟨vp_nI (by omega) (by decide), vp_nI (by omega) (by decide), ?_⟩
      rintro f rfl x rfl
      rw [nI_clamp (by omega), nI_clamp (by omega), fb_put_succ, nI_1]
      exact hn
  obtain ⟨n, hn⟩ := L39 15 0 (by omega)
  rw [fb_put_0] at hn
  refine ⟨n, ?_⟩
  unfold F_X7_keep_e
  refine s_in (b := 0) (c := 1) rfl rfl ?_
  rw [show decide ((0 : Int32) ≤ nI g ∧ nI g ≤ 1) = true from inR_nI (by decide) hg]
  refine p_n (by decide) ?_
  rintro x rfl
  rw [show (167 : Int32) * nI g = nI (167 * g) from pk_mul 167 g, show nI (167 * g) + 1 = nI (167 * g + 1) from nI_1 _]
  refine ⟨vp_nI (by omega) (by decide), ?_⟩
  rintro f rfl
  refine ⟨vp_nI (by omega) (by decide), ?_⟩
  rintro f rfl
  rw [nI_clamp (by omega), nI_clamp (by omega)]
  exact hn
theorem s_back7 {g : Nat} (hg : g ≤ 1) {undos : Int32} {kept now und : Nat → Int32} (hk : ¬ kept (167 * g) = 0) {Q : Int32 → Int32 → (Nat → Int32) → (Nat → Int32) → Prop} (h : Q (kept (167 * g + 2)) (kept (167 * g + 1)) (fb_put now (fun i => kept (167 * g + 2 + i)) 0 15) (fb_put und (fun i => kept (167 * g + 17 + i)) 0 150)) : q_X7_back undos kept now und (nI g) Q := by
  have L74 : ∀ d i : Nat, i + d = 150 → ∃ n, wp_X7_back kept (nI g) Q n 74 (nI (167 * g)) (nI i) (kept (167 * g + 1)) (fb_put now (fun i => kept (167 * g + 2 + i)) 0 15) (fb_put und (fun i => kept (167 * g + 17 + i)) 0 i) := by
    intro d
    induction d with
    | zero =>
      intro i hi
      have hi : i = 150 := by omega
      subst hi
      refine ⟨1, ?_⟩
      show F_X7_back_74 kept (nI g) Q (wp_X7_back kept (nI g) Q 0) (nI (167 * g)) (nI 150) _ _ _
      unfold F_X7_back_74
      refine br_t (Int32.le_refl _) ?_
      rw [c0, fb_put_in (by omega) (by omega)]
      exact h
    | succ d ih =>
      intro i hi
      obtain ⟨n, hn⟩ := ih (i + 1) (by omega)
      refine ⟨n + 1, ?_⟩
      show F_X7_back_74 kept (nI g) Q (wp_X7_back kept (nI g) Q n) (nI (167 * g)) (nI i) _ _ _
      unfold F_X7_back_74
      have e : nI (167 * g) + 17 + nI i = nI (167 * g + 17 + i) := by rw [show nI (167 * g) + 17 = nI (167 * g + 17) from nI_add _ 17, nI_add]
      rw [e]
      refine br_f (nI_ge (b := 150) (by omega) (by decide)) ⟨vp_nI (by omega) (by decide), vp_nI (by omega) (by decide), ?_⟩
      rintro f rfl x rfl
      have e2 := fb_put_succ und (fun i => kept (167 * g + 17 + i)) 0 i
      rw [Nat.zero_add] at e2
      rw [nI_clamp (by omega), nI_clamp (by omega), e2, nI_1]
      exact hn
  have L44 : ∀ d i : Nat, i + d = 15 → ∃ n, wp_X7_back kept (nI g) Q n 44 (nI (167 * g)) (nI i) (kept (167 * g + 1)) (fb_put now (fun i => kept (167 * g + 2 + i)) 0 i) und := by
    intro d
    induction d with
    | zero =>
      intro i hi
      have hi : i = 15 := by omega
      subst hi
      obtain ⟨n, hn⟩ := L74 150 0 (by omega)
      rw [fb_put_0] at hn
      refine ⟨n + 1, ?_⟩
      show F_X7_back_44 kept (nI g) Q (wp_X7_back kept (nI g) Q n) (nI (167 * g)) (nI 15) _ _ _
      unfold F_X7_back_44
      exact br_t (Int32.le_refl _) hn
    | succ d ih =>
      intro i hi
      obtain ⟨n, hn⟩ := ih (i + 1) (by omega)
      refine ⟨n + 1, ?_⟩
      show F_X7_back_44 kept (nI g) Q (wp_X7_back kept (nI g) Q n) (nI (167 * g)) (nI i) _ _ _
      unfold F_X7_back_44
      have e : nI (167 * g) + 2 + nI i = nI (167 * g + 2 + i) := by rw [show nI (167 * g) + 2 = nI (167 * g + 2) from nI_add _ 2, nI_add]
      rw [e]
      refine br_f (nI_ge (b := 15) (by omega) (by decide)) ⟨vp_nI (by omega) (by decide), vp_nI (by omega) (by decide), ?_⟩
      rintro f rfl x rfl
      have e2 := fb_put_succ now (fun i => kept (167 * g + 2 + i)) 0 i
      rw [Nat.zero_add] at e2
      rw [nI_clamp (by omega), nI_clamp (by omega), e2, nI_1]
      exact hn
  obtain ⟨n, hn⟩ := L44 15 0 (by omega)
  rw [fb_put_0] at hn
  refine ⟨n, ?_⟩
  unfold F_X7_back_e
  refine s_in (b := 0) (c := 1) rfl rfl ?_
  rw [show decide ((0 : Int32) ≤ nI g ∧ nI g ≤ 1) = true from inR_nI (by decide) hg]
  refine p_n (by decide) ?_
  rintro x rfl
  rw [show (167 : Int32) * nI g = nI (167 * g) from pk_mul 167 g, show nI (167 * g) + 1 = nI (167 * g + 1) from nI_1 _, nI_clamp (by omega), nI_clamp (by omega)]
  refine ⟨vp_nI (by omega) (by decide), p_n hk ⟨vp_nI (by omega) (by decide), ?_⟩⟩
  rintro x rfl
  exact hn
theorem pr_keep {th cells B : Nat} {rows now undone ik f1 f2 kept : Nat → Int32} {known undos k1 k2 p : Int32} (h6 : th ≤ 6) (I : iC th cells B rows known now undone undos) (M1 : iM th cells B (ik 0) f1 k1 kept 0) (M2 : iM th cells B (ik 1) f2 k2 kept 167) : ∃ (r k1' k2' : Int32) (f1' f2' ik' kept' : Nat → Int32), (∀ Q : Int32 → Int32 → (Nat → Int32) → (Nat → Int32) → Int32 → (Nat → Int32) → Prop, Q r k1' f1' ik' k2' f2' → q_X6_keep known k1 rows f1 ik k2 f2 p Q) ∧ (∀ Q : Int32 → (Nat → Int32) → Prop, Q r kept' → q_X7_keep undos kept now undone p Q) ∧ iM th cells B (ik' 0) f1' k1' kept' 0 ∧ iM th cells B (ik' 1) f2' k2' kept' 167 := by
  by_cases hp : inR p 1 = true
  · obtain ⟨g, hg, rfl⟩ := inR_t (by decide) hp
    have ey : rows 2 = now 0 := by
      obtain ⟨_, _, _, _, h0, _⟩ := I
      obtain ⟨dg, st, yr, ye, wh, R⟩ := rR0.mp h0
      rw [R.2.2.2.2.2.1, R.2.2.2.2.2.2.1]
    have C : ∀ (f : Nat → Int32) (a : Nat), iC th cells B (va_cpy rows f 0 0 165) known (fun i => kpU a undos now undone kept (a + 2 + i)) (fun i => kpU a undos now undone kept (a + 17 + i)) (kpU a undos now undone kept (a + 1)) := by
      intro f a
      have e1 : kpU a undos now undone kept (a + 1) = undos := by
        unfold kpU; rw [fb_put_out (by omega), fb_put_out (by omega), upd_at, if_pos rfl]
      rw [e1]
      refine iC_cong h6 (Nat.le_refl _) (fun i hi => ?_) (fun i hi => ?_) (fun i hi => ?_) I
      · rw [pk_cpy_in (by omega) (by omega)]; exact congrArg rows (by omega)
      · show kpU a undos now undone kept (a + 2 + i) = now i
        unfold kpU; rw [fb_put_out (by omega), fb_put_in (by omega) (by omega)]; exact congrArg now (by omega)
      · show kpU a undos now undone kept (a + 17 + i) = undone i
        unfold kpU; rw [fb_put_in (by omega) (by omega)]; exact congrArg undone (by omega)
    have e0 : ∀ a, kpU a undos now undone kept a = 1 := by
      intro a
      unfold kpU; rw [fb_put_out (by omega), fb_put_out (by omega), upd_at, if_neg (by omega), upd_at, if_pos rfl]
    rcases (show g = 0 ∨ g = 1 by omega) with rfl | rfl
    · refine ⟨now 0, known, k2, va_cpy rows f1 0 0 165, f2, upd ik 0 1, kpU 0 undos now undone kept, fun Q h => ?_, fun Q h => s_keep7 (g := 0) (by omega) h, ?_, ?_⟩
      · unfold q_X6_keep F_X6_keep_e
        refine s_within ?_
        rw [show decide ((0 : Int32) ≤ nI 0 ∧ nI 0 ≤ 1) = true from hp]
        refine p_n (by decide) (br_t rfl ?_)
        unfold q_X2_copyFrom F_X2_copyFrom_e
        rintro f rfl
        refine ⟨vp_nI (by decide) (by decide), ?_⟩
        rintro f rfl
        unfold q_X2_year F_X2_year_e
        rw [c2, ey]
        exact h
      · exact Or.inr ⟨by rw [upd_at, if_pos rfl], e0 0, C f1 0⟩
      · rw [upd_at, if_neg (by omega)]
        refine iM_other h6 (fun i h1 h2 => ?_) M2
        unfold kpU; rw [fb_put_out (by omega), fb_put_out (by omega), upd_at, if_neg (by omega), upd_at, if_neg (by omega)]
    · refine ⟨now 0, k1, known, f1, va_cpy rows f2 0 0 165, upd ik 1 1, kpU 167 undos now undone kept, fun Q h => ?_, fun Q h => s_keep7 (g := 1) (by omega) h, ?_, ?_⟩
      · unfold q_X6_keep F_X6_keep_e
        refine s_within ?_
        rw [show decide ((0 : Int32) ≤ nI 1 ∧ nI 1 ≤ 1) = true from hp]
        refine p_n (by decide) (br_f (by decide) ?_)
        unfold q_X2_copyFrom F_X2_copyFrom_e
        rintro f rfl
        refine ⟨vp_nI (by decide) (by decide), ?_⟩
        rintro f rfl
        unfold q_X2_year F_X2_year_e
        rw [c2, ey]
        exact h
      · rw [upd_at, if_neg (by omega)]
        refine iM_other h6 (fun i h1 h2 => ?_) M1
        unfold kpU; rw [fb_put_out (by omega), fb_put_out (by omega), upd_at, if_neg (by omega), upd_at, if_neg (by omega)]
      · exact Or.inr ⟨by rw [upd_at, if_pos rfl], e0 167, C f2 167⟩
  · have hp : inR p 1 = false := by simpa using hp
    refine ⟨-1, k1, k2, f1, f2, ik, kept, fun Q h => ?_, fun Q h => ⟨0, ?_⟩, M1, M2⟩
    · unfold q_X6_keep F_X6_keep_e
      refine s_within ?_
      rw [show decide ((0 : Int32) ≤ p ∧ p ≤ 1) = false from hp]
      exact p_m rfl h
    · unfold F_X7_keep_e
      refine s_in (b := 0) (c := 1) rfl rfl ?_
      rw [show decide ((0 : Int32) ≤ p ∧ p ≤ 1) = false from hp]
      exact p_m rfl h
theorem pr_back {th cells B : Nat} {rows now undone ik f1 f2 kept : Nat → Int32} {known undos k1 k2 p : Int32} (h6 : th ≤ 6) (I : iC th cells B rows known now undone undos) (M1 : iM th cells B (ik 0) f1 k1 kept 0) (M2 : iM th cells B (ik 1) f2 k2 kept 167) : ∃ (r u : Int32) (v : Nat → Int32) (u2 : Int32) (v2 w2 : Nat → Int32), (∀ Q : Int32 → Int32 → (Nat → Int32) → Prop, Q r u v → q_X6_back ik k1 known f1 rows k2 f2 p Q) ∧ (∀ Q : Int32 → Int32 → (Nat → Int32) → (Nat → Int32) → Prop, Q r u2 v2 w2 → q_X7_back undos kept now undone p Q) ∧ iC th cells B v u v2 w2 u2 := by
  by_cases hp : inR p 1 = true
  · obtain ⟨g, hg, rfl⟩ := inR_t (by decide) hp
    have ecl : (nI g).toNatClampNeg = g := nI_clamp (by omega)
    have M : iM th cells B (ik g) (if g = 0 then f1 else f2) (if g = 0 then k1 else k2) kept (167 * g) := by
      rcases (show g = 0 ∨ g = 1 by omega) with rfl | rfl
      · exact M1
      · exact M2
    rcases M with ⟨m1, m2⟩ | ⟨m1, m2, m3⟩
    · refine ⟨-2, known, rows, undos, now, undone, fun Q h => ?_, fun Q h => ⟨0, ?_⟩, I⟩
      · unfold q_X6_back F_X6_back_e
        refine s_within ?_
        rw [show decide ((0 : Int32) ≤ nI g ∧ nI g ≤ 1) = true from hp, ecl, m1]
        exact p_n (by decide) ⟨vp_nI (by omega) (by decide), p_m rfl h⟩
      · unfold F_X7_back_e
        refine s_in (b := 0) (c := 1) rfl rfl ?_
        rw [show decide ((0 : Int32) ≤ nI g ∧ nI g ≤ 1) = true from hp]
        refine p_n (by decide) ?_
        rintro x rfl
        rw [show (167 : Int32) * nI g = nI (167 * g) from pk_mul 167 g, nI_clamp (by omega), m2]
        exact ⟨vp_nI (by omega) (by decide), p_m rfl h⟩
    · have ey : (if g = 0 then f1 else f2) 2 = kept (167 * g + 2) := by
        obtain ⟨_, _, _, _, h0, _⟩ := m3
        obtain ⟨dg, st, yr, ye, wh, R⟩ := rR0.mp h0
        rw [R.2.2.2.2.2.1]
        exact R.2.2.2.2.2.2.1.symm
      refine ⟨kept (167 * g + 2), (if g = 0 then k1 else k2), va_cpy (if g = 0 then f1 else f2) rows 0 0 165, kept (167 * g + 1), fb_put now (fun i => kept (167 * g + 2 + i)) 0 15, fb_put undone (fun i => kept (167 * g + 17 + i)) 0 150, fun Q h => ?_, fun Q h => s_back7 hg (by rw [m2]; decide) h, ?_⟩
      · unfold q_X6_back F_X6_back_e
        refine s_within ?_
        rw [show decide ((0 : Int32) ≤ nI g ∧ nI g ≤ 1) = true from hp, ecl, m1]
        refine p_n (by decide) ⟨vp_nI (by omega) (by decide), p_n (by decide) ?_⟩
        rcases (show g = 0 ∨ g = 1 by omega) with rfl | rfl
        · refine br_t rfl ?_
          unfold q_X2_copyFrom F_X2_copyFrom_e
          rintro f rfl
          unfold q_X2_year F_X2_year_e
          rw [c2, pk_cpy_in (by decide) (by decide)]
          rw [← ey] at h
          exact h
        · refine br_f (by decide) ?_
          unfold q_X2_copyFrom F_X2_copyFrom_e
          rintro f rfl
          unfold q_X2_year F_X2_year_e
          rw [c2, pk_cpy_in (by decide) (by decide)]
          rw [← ey] at h
          exact h
      · refine iC_cong h6 (Nat.le_refl _) (fun i hi => ?_) (fun i hi => ?_) (fun i hi => ?_) m3
        · rw [pk_cpy_in (by omega) (by omega)]; exact congrArg _ (by omega)
        · rw [fb_put_in (by omega) (by omega)]; rfl
        · rw [fb_put_in (by omega) (by omega)]; rfl
  · have hp : inR p 1 = false := by simpa using hp
    refine ⟨-1, known, rows, undos, now, undone, fun Q h => ?_, fun Q h => ⟨0, ?_⟩, I⟩
    · unfold q_X6_back F_X6_back_e
      refine s_within ?_
      rw [show decide ((0 : Int32) ≤ p ∧ p ≤ 1) = false from hp]
      exact p_m rfl h
    · unfold F_X7_back_e
      refine s_in (b := 0) (c := 1) rfl rfl ?_
      rw [show decide ((0 : Int32) ≤ p ∧ p ≤ 1) = false from hp]
      exact p_m rfl h

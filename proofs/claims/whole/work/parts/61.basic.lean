/-! ===== pure part: helpers ===== -/
def bI (c : Bool) : Int32 := if c then 1 else 0
theorem bI_t : bI true = 1 := rfl
theorem bI_f : bI false = 0 := rfl
theorem nar_bI (c : Bool) : narrow .boolean (.int (bI c)) = .int (bI c) := by cases c <;> rfl
theorem p_n {c A B : Prop} (h : ¬ c) (a : A) : (¬ c → A) ∧ (c → B) := ⟨fun _ => a, fun x => absurd x h⟩
theorem p_m {c A B : Prop} (h : c) (b : B) : (¬ c → A) ∧ (c → B) := ⟨fun x => absurd h x, fun _ => b⟩
/-- a branch on a truth value: (r = 0 → B) first -/
theorem p_z {c : Bool} {A B : Prop} (hf : c = false → B) (ht : c = true → A) : (bI c = 0 → B) ∧ (¬ bI c = 0 → A) := by
  cases c
  · exact ⟨fun _ => hf rfl, fun h => absurd rfl h⟩
  · exact ⟨fun h => absurd h (by decide), fun _ => ht rfl⟩
/-- (¬ r = 0 → A) first -/
theorem p_y {c : Bool} {A B : Prop} (ht : c = true → A) (hf : c = false → B) : (¬ bI c = 0 → A) ∧ (bI c = 0 → B) := by
  cases c
  · exact ⟨fun h => absurd rfl h, fun _ => hf rfl⟩
  · exact ⟨fun _ => ht rfl, fun h => absurd h (by decide)⟩
theorem nI_inj {a b : Nat} (ha : a < 2 ^ 31) (hb : b < 2 ^ 31) (h : nI a = nI b) : a = b := (nI_eq ha hb).mp h
theorem s_within {a b c : Int32} {Q : Int32 → Prop} (h : Q (bI (decide (b ≤ a ∧ a ≤ c)))) : q_X6_within a b c Q := by
  unfold q_X6_within F_X6_within_e
  refine ⟨fun h1 => ?_, fun h1 => ⟨fun h2 => ?_, fun h2 => ?_⟩⟩
  · have e : decide (b ≤ a ∧ a ≤ c) = false := decide_eq_false (fun q => absurd h1 (Int32.not_lt.mpr q.1))
    rw [e] at h; exact h
  · have e : decide (b ≤ a ∧ a ≤ c) = false := decide_eq_false (fun q => absurd h2 (Int32.not_lt.mpr q.2))
    rw [e] at h; exact h
  · have e : decide (b ≤ a ∧ a ≤ c) = true := decide_eq_true ⟨Int32.not_lt.mp h1, Int32.not_lt.mp h2⟩
    rw [e] at h; exact h
theorem s_in64 {a b c : Int64} {Q : Int32 → Prop} (h : Q (bI (decide (b ≤ a ∧ a ≤ c)))) : q_X7_in a b c Q := by
  unfold q_X7_in F_X7_in_e
  rw [lg_cmp_lt, lg_cmp_gt]
  refine ⟨fun h1 => ?_, fun h1 => ⟨fun h2 => ?_, fun h2 => ?_⟩⟩
  · have e : decide (b ≤ a ∧ a ≤ c) = false := decide_eq_false (fun q => absurd h1 (Int64.not_lt.mpr q.1))
    rw [e] at h; exact h
  · have e : decide (b ≤ a ∧ a ≤ c) = false := decide_eq_false (fun q => absurd h2 (Int64.not_lt.mpr q.2))
    rw [e] at h; exact h
  · have e : decide (b ≤ a ∧ a ≤ c) = true := decide_eq_true ⟨Int64.not_lt.mp h1, Int64.not_lt.mp h2⟩
    rw [e] at h; exact h
theorem s_in {a b c : Int32} {b' c' : Int64} (hb : b' = b.toInt64) (hc : c' = c.toInt64) {Q : Int32 → Prop} (h : Q (bI (decide (b ≤ a ∧ a ≤ c)))) : q_X7_in a.toInt64 b' c' Q := by
  subst hb; subst hc
  refine s_in64 ?_
  simp only [fa_wide_le]
  exact h
/-- within 0 .. n, of any number -/
def inR (p : Int32) (n : Nat) : Bool := decide (0 ≤ p ∧ p ≤ nI n)
theorem inR_t {p : Int32} {n : Nat} (hn : n < 2 ^ 31) (h : inR p n = true) : ∃ k : Nat, k ≤ n ∧ p = nI k := by
  have h := of_decide_eq_true h
  obtain ⟨k, hk, rfl⟩ := nI_of (Int32.not_lt.mpr h.1)
  exact ⟨k, (nI_leI hk hn).mp h.2, rfl⟩
theorem inR_nI {k n : Nat} (hn : n < 2 ^ 31) (h : k ≤ n) : inR (nI k) n = true := decide_eq_true ⟨nI_pos' (by omega), nI_le h hn⟩
/-- is it a thing: t of th -/
def isT (p : Int32) (th : Nat) : Bool := decide (0 ≤ p ∧ p ≤ nI th - 1)
theorem isT_t {p : Int32} {th : Nat} (hn : th ≤ 16) (h : isT p th = true) : ∃ k : Nat, k < th ∧ p = nI k := by
  have h := of_decide_eq_true h
  obtain ⟨k, hk, rfl⟩ := nI_of (Int32.not_lt.mpr h.1)
  refine ⟨k, ?_, rfl⟩
  rcases Nat.eq_zero_or_pos th with q | q
  · subst q
    have : nI k ≤ -1 := h.2
    exact absurd (Int32.le_trans h.1 this) (by decide)
  · have e : nI th - 1 = nI (th - 1) := pk_sub (a := th) (b := 1) q
    rw [e] at h
    have := (nI_leI hk (by omega)).mp h.2
    omega
theorem isT_nI {k th : Nat} (hn : th ≤ 16) (h : k < th) : isT (nI k) th = true := by
  have e : nI th - 1 = nI (th - 1) := pk_sub (a := th) (b := 1) (by omega)
  refine decide_eq_true ⟨nI_pos' (by omega), ?_⟩
  rw [e]
  exact nI_le (by omega) (by omega)
theorem s_isThing {things p : Int32} {th : Nat} (ht : things = nI th) {Q : Int32 → Prop} (h : Q (bI (isT p th))) : q_X6_isThing things p Q := by
  subst ht
  unfold q_X6_isThing F_X6_isThing_e
  exact s_within ⟨nar_bI _, h⟩
theorem s_isThing7 {hill : Nat → Int32} {p : Int32} {th : Nat} (ht : hill 2 = nI th) {Q : Int32 → Prop} (h : Q (bI (isT p th))) : q_X7_isThing hill p Q := by
  unfold q_X7_isThing F_X7_isThing_e
  refine s_in (b := 0) (c := nI th - 1) rfl ?_ ⟨nar_bI _, h⟩
  rw [show ((2 : Int32)).toNatClampNeg = 2 from rfl, ht]
/-! ===== the text, what came, counts ===== -/
def iT (xl : Int32) (xb : Nat → Int32) (ys : Int32) (yt : Nat → Int32) : Prop := ∃ n : Nat, n ≤ 150 ∧ xl = nI n ∧ ys = nI n ∧ ∀ k, k < n → xb k = yt k ∧ ∃ v : Nat, v < 256 ∧ yt k = nI v
theorem vp_nI {k n : Nat} (h : k < n) (hn : n < 2 ^ 31) : vp_in (nI k) n := vp_in_nI h hn
theorem pr_type {xl ys p : Int32} {xb yt : Nat → Int32} (I : iT xl xb ys yt) : ∃ (r u : Int32) (v : Nat → Int32) (u2 : Int32) (v2 : Nat → Int32), (∀ Q : Int32 → Int32 → (Nat → Int32) → Prop, Q r u v → q_X6_type xl xb p Q) ∧ (∀ Q : Int32 → Int32 → (Nat → Int32) → Prop, Q r u2 v2 → q_X7_type ys yt p Q) ∧ iT u v u2 v2 := by
  obtain ⟨n, hn, rfl, rfl, hk⟩ := I
  by_cases hp : inR p 255 = true
  · obtain ⟨c, hc, rfl⟩ := inR_t (by decide) hp
    by_cases h150 : n = 150
    · subst h150
      refine ⟨-3, nI 150, xb, nI 150, yt, fun Q h => ?_, fun Q h => ?_, 150, Nat.le_refl _, rfl, rfl, hk⟩
      · unfold q_X6_type F_X6_type_e
        refine s_within ?_
        rw [show (decide ((0 : Int32) ≤ nI c ∧ nI c ≤ 255)) = true from hp]
        refine p_n (by decide) ?_
        unfold q_X3_add F_X3_add_e
        exact br_f (by decide) (br_t rfl h)
      · unfold q_X7_type F_X7_type_e
        refine s_in (b := 0) (c := 255) rfl rfl ?_
        rw [show (decide ((0 : Int32) ≤ nI c ∧ nI c ≤ 255)) = true from hp]
        exact p_n (by decide) (p_m rfl h)
    · have hlt : n < 150 := by omega
      have e1 : (nI n).toNatClampNeg = n := nI_clamp (by omega)
      have e2 : nI n + 1 = nI (n + 1) := nI_1 n
      have e3 : vp_nar .char (((nI c).toUInt32 % 65536).toInt32) = nI c := by
        rw [pk_vc, pk_char, pk_tn (by omega), Nat.mod_eq_of_lt (by omega)]
      refine ⟨nI (n + 1), nI (n + 1), upd xb n (nI c), nI (n + 1), upd yt n (nI c), fun Q h => ?_, fun Q h => ?_, n + 1, by omega, rfl, rfl, fun k hk2 => ?_⟩
      · unfold q_X6_type F_X6_type_e
        refine s_within ?_
        rw [show (decide ((0 : Int32) ≤ nI c ∧ nI c ≤ 255)) = true from hp]
        refine p_n (by decide) ?_
        unfold q_X3_add F_X3_add_e
        refine br_t (nI_lt hlt (by decide)) ⟨vp_nI hlt (by decide), ?_⟩
        rintro f rfl m rfl
        rw [e1, e2, e3]
        exact br_f (by decide) h
      · unfold q_X7_type F_X7_type_e
        refine s_in (b := 0) (c := 255) rfl rfl ?_
        rw [show (decide ((0 : Int32) ≤ nI c ∧ nI c ≤ 255)) = true from hp]
        refine p_n (by decide) (p_n (fun q => h150 (nI_inj (by omega) (by decide) q)) ⟨vp_nI hlt (by decide), ?_⟩)
        rintro f rfl m rfl
        rw [e1, e2]
        exact h
      · rcases Nat.lt_or_ge k n with q | q
        · rw [pk_un (by omega), pk_un (by omega)]; exact hk k q
        · have e : k = n := by omega
          subst e
          rw [pk_us, pk_us]
          exact ⟨rfl, c, by omega, rfl⟩
  · have hp : inR p 255 = false := by simpa using hp
    refine ⟨-1, nI n, xb, nI n, yt, fun Q h => ?_, fun Q h => ?_, n, hn, rfl, rfl, hk⟩
    · unfold q_X6_type F_X6_type_e
      refine s_within ?_
      rw [show (decide ((0 : Int32) ≤ p ∧ p ≤ 255)) = false from hp]
      exact p_m rfl h
    · unfold q_X7_type F_X7_type_e
      refine s_in (b := 0) (c := 255) rfl rfl ?_
      rw [show (decide ((0 : Int32) ≤ p ∧ p ≤ 255)) = false from hp]
      exact p_m rfl h
theorem pr_clear {xl ys : Int32} {xb yt : Nat → Int32} (I : iT xl xb ys yt) : ∃ (r u u2 : Int32), (∀ Q : Int32 → Int32 → Prop, Q r u → q_X6_clear xl Q) ∧ (∀ Q : Int32 → Int32 → Prop, Q r u2 → q_X7_clear ys Q) ∧ iT u xb u2 yt := by
  obtain ⟨n, hn, rfl, rfl, hk⟩ := I
  exact ⟨nI n, 0, 0, fun Q h => h, fun Q h => h, 0, by omega, rfl, rfl, fun k h => absurd h (Nat.not_lt_zero k)⟩
def iK (xl : Int32) (xp : Nat → Int32) (yl : Int32) (yp : Nat → Int32) : Prop := ∃ n : Nat, n ≤ 5 ∧ xl = nI n ∧ yl = nI n ∧ ∀ k, k < n → xp k = yp k ∧ ∃ v : Nat, v ≤ 9 ∧ yp k = nI v
theorem pr_came {xl xf yl p : Int32} {xp yp : Nat → Int32} (I : iK xl xp yl yp) : ∃ (r u uf : Int32) (v : Nat → Int32) (u2 : Int32) (v2 : Nat → Int32), (∀ Q : Int32 → Int32 → Int32 → (Nat → Int32) → Prop, Q r u uf v → q_X6_came xl xf xp p Q) ∧ (∀ Q : Int32 → Int32 → (Nat → Int32) → Prop, Q r u2 v2 → q_X7_came yl yp p Q) ∧ iK u v u2 v2 ∧ (uf = -1 ∨ (u = xl ∧ uf = xf ∧ v = xp)) := by
  obtain ⟨n, hn, rfl, rfl, hk⟩ := I
  by_cases hp : inR p 9 = true
  · obtain ⟨c, hc, rfl⟩ := inR_t (by decide) hp
    by_cases h5 : n = 5
    · subst h5
      refine ⟨-3, nI 5, xf, xp, nI 5, yp, fun Q h => ?_, fun Q h => ?_, ⟨5, Nat.le_refl _, rfl, rfl, hk⟩, Or.inr ⟨rfl, rfl, rfl⟩⟩
      · unfold q_X6_came F_X6_came_e
        refine s_within ?_
        rw [show (decide ((0 : Int32) ≤ nI c ∧ nI c ≤ 9)) = true from hp]
        refine p_n (by decide) ?_
        unfold q_X1_add F_X1_add_e
        exact br_f (by decide) (br_t rfl h)
      · unfold q_X7_came F_X7_came_e
        refine s_in (b := 0) (c := 9) rfl rfl ?_
        rw [show (decide ((0 : Int32) ≤ nI c ∧ nI c ≤ 9)) = true from hp]
        exact p_n (by decide) (p_m rfl h)
    · have hlt : n < 5 := by omega
      have e1 : (nI n).toNatClampNeg = n := nI_clamp (by omega)
      have e2 : nI n + 1 = nI (n + 1) := nI_1 n
      refine ⟨nI (n + 1), nI (n + 1), -1, upd xp n (nI c), nI (n + 1), upd yp n (nI c), fun Q h => ?_, fun Q h => ?_, ⟨n + 1, by omega, rfl, rfl, fun k hk2 => ?_⟩, Or.inl rfl⟩
      · unfold q_X6_came F_X6_came_e
        refine s_within ?_
        rw [show (decide ((0 : Int32) ≤ nI c ∧ nI c ≤ 9)) = true from hp]
        refine p_n (by decide) ?_
        unfold q_X1_add F_X1_add_e
        refine br_t (nI_lt hlt (by decide)) ⟨vp_nI hlt (by decide), ?_⟩
        rintro f rfl m rfl
        rw [e1, e2]
        exact br_f (by decide) h
      · unfold q_X7_came F_X7_came_e
        refine s_in (b := 0) (c := 9) rfl rfl ?_
        rw [show (decide ((0 : Int32) ≤ nI c ∧ nI c ≤ 9)) = true from hp]
        refine p_n (by decide) (p_n (fun q => h5 (nI_inj (by omega) (by decide) q)) ⟨vp_nI hlt (by decide), ?_⟩)
        rintro f rfl m rfl
        rw [e1, e2]
        exact h
      · rcases Nat.lt_or_ge k n with q | q
        · rw [pk_un (by omega), pk_un (by omega)]; exact hk k q
        · have e : k = n := by omega
          subst e
          rw [pk_us, pk_us]
          exact ⟨rfl, c, hc, rfl⟩
  · have hp : inR p 9 = false := by simpa using hp
    refine ⟨-1, nI n, xf, xp, nI n, yp, fun Q h => ?_, fun Q h => ?_, ⟨n, hn, rfl, rfl, hk⟩, Or.inr ⟨rfl, rfl, rfl⟩⟩
    · unfold q_X6_came F_X6_came_e
      refine s_within ?_
      rw [show (decide ((0 : Int32) ≤ p ∧ p ≤ 9)) = false from hp]
      exact p_m rfl h
    · unfold q_X7_came F_X7_came_e
      refine s_in (b := 0) (c := 9) rfl rfl ?_
      rw [show (decide ((0 : Int32) ≤ p ∧ p ≤ 9)) = false from hp]
      exact p_m rfl h
theorem pr_forget {xl xf yl : Int32} {xp yp : Nat → Int32} (I : iK xl xp yl yp) : ∃ (r u uf u2 : Int32), (∀ Q : Int32 → Int32 → Int32 → Prop, Q r u uf → q_X6_forget xl xf Q) ∧ (∀ Q : Int32 → Int32 → Prop, Q r u2 → q_X7_forget yl Q) ∧ iK u xp u2 yp ∧ uf = -1 := by
  obtain ⟨n, hn, rfl, rfl, hk⟩ := I
  exact ⟨nI n, 0, -1, 0, fun Q h => h, fun Q h => h, ⟨0, by omega, rfl, rfl, fun k h => absurd h (Nat.not_lt_zero k)⟩, rfl⟩

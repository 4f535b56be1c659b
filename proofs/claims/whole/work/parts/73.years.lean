/-! ===== years ===== -/
def ups (ix : Nat → Nat) (v : Nat → Int32) (f : Nat → Int32) : Nat → (Nat → Int32)
  | 0 => f
  | k + 1 => upd (ups ix v f k) (ix k) (v k)
theorem ups_out {ix : Nat → Nat} {v f : Nat → Int32} {i : Nat} : ∀ k, (∀ t, t < k → i ≠ ix t) → ups ix v f k i = f i
  | 0, _ => rfl
  | k + 1, h => by
    show upd (ups ix v f k) (ix k) (v k) i = f i
    rw [upd_at, if_neg (h k (by omega)), ups_out k (fun t ht => h t (by omega))]
theorem ups_in {ix : Nat → Nat} {v f : Nat → Int32} (inj : ∀ a b, ix a = ix b → a = b) {t : Nat} : ∀ k, t < k → ups ix v f k (ix t) = v t
  | 0, h => by omega
  | k + 1, h => by
    show upd (ups ix v f k) (ix k) (v k) (ix t) = v t
    rw [upd_at]
    by_cases e : t = k
    · subst e; rw [if_pos rfl]
    · rw [if_neg (fun q => e (inj _ _ q)), ups_in inj k (by omega)]
section Deeds
variable {th bo lo cells B : Nat} {fa wo : Nat → Nat} {bound loss things known undos p : Int32} {fades worth hill rows now undone : Nat → Int32}
/-- the yellow behind n years, of the first k things alone -/
def yeK (ye fa : Nat → Nat) (n k : Nat) : Nat → Nat := fun t => if t < k then ye t - n * fa t else ye t
theorem cX_K {ye wh : Nat → Nat} {rows : Nat → Int32} (X : cX th bo fa ye wh bound things fades rows) (n k : Nat) (hk : k ≤ th) : cX th bo fa (yeK ye fa n k) wh bound things fades (ups (fun t => 3 + t) (fun t => nI (ye t - n * fa t)) rows k) := by
  obtain ⟨a1, a2, a3, a4, a5, a6⟩ := X
  refine ⟨a1, a2, a3, a4, a5, fun t ht => ?_⟩
  obtain ⟨b1, b2, b3, b4, b5, b6⟩ := a6 t ht
  refine ⟨b1, ?_, b3, b4, ?_, ?_⟩
  · unfold yeK; split <;> omega
  · unfold yeK
    by_cases h : t < k
    · rw [if_pos h]
      exact ups_in (ix := fun t => 3 + t) (fun a b e => by simp at e; exact e) k h
    · rw [if_neg h, ups_out k (fun s hs => by omega)]; exact b5
  · rw [ups_out k (fun s hs => by omega)]; exact b6
theorem cY_K {ye wh : Nat → Nat} {now : Nat → Int32} (Y : cY th bo fa ye wh hill now) (n k : Nat) (hk : k ≤ th) : cY th bo fa (yeK ye fa n k) wh hill (ups (fun t => 3 + 2 * t) (fun t => nI (ye t - n * fa t)) now k) := by
  obtain ⟨a1, a2, a3, a4, a5, a6⟩ := Y
  refine ⟨a1, a2, a3, a4, a5, fun t ht => ?_⟩
  obtain ⟨b1, b2, b3, b4, b5, b6⟩ := a6 t ht
  refine ⟨b1, ?_, b3, b4, ?_, ?_⟩
  · unfold yeK; split <;> omega
  · unfold yeK
    by_cases h : t < k
    · rw [if_pos h]
      exact ups_in (ix := fun t => 3 + 2 * t) (fun a b e => by have e : 3 + 2 * a = 3 + 2 * b := e; omega) k h
    · rw [if_neg h, ups_out k (fun s hs => by omega)]; exact b5
  · rw [ups_out k (fun s hs => by omega)]; exact b6
theorem cX_row {ye wh : Nat → Nat} {rows rows' : Nat → Int32} (X : cX th bo fa ye wh bound things fades rows) (h : ∀ i, 3 ≤ i → i < 15 → rows' i = rows i) : cX th bo fa ye wh bound things fades rows' := by
  obtain ⟨a1, a2, a3, a4, a5, a6⟩ := X
  refine ⟨a1, a2, a3, a4, a5, fun t ht => ?_⟩
  obtain ⟨b1, b2, b3, b4, b5, b6⟩ := a6 t ht
  exact ⟨b1, b2, b3, b4, by rw [h _ (by omega) (by omega)]; exact b5, by rw [h _ (by omega) (by omega)]; exact b6⟩
theorem cY_row {ye wh : Nat → Nat} {now now' : Nat → Int32} (Y : cY th bo fa ye wh hill now) (h : ∀ i, 3 ≤ i → i < 17 → now' i = now i) : cY th bo fa ye wh hill now' := by
  obtain ⟨a1, a2, a3, a4, a5, a6⟩ := Y
  refine ⟨a1, a2, a3, a4, a5, fun t ht => ?_⟩
  obtain ⟨b1, b2, b3, b4, b5, b6⟩ := a6 t ht
  exact ⟨b1, b2, b3, b4, by rw [h _ (by omega) (by omega)]; exact b5, by rw [h _ (by omega) (by omega)]; exact b6⟩
theorem pr_years (A : iA th bo lo fa wo bound loss things fades worth hill) (I : iC th cells B rows known now undone undos) : ∃ (r u : Int32) (v : Nat → Int32) (u2 : Int32) (v2 w2 : Nat → Int32), (∀ Q : Int32 → Int32 → (Nat → Int32) → Prop, Q r u v → q_X6_years known rows bound things fades p Q) ∧ (∀ Q : Int32 → Int32 → (Nat → Int32) → (Nat → Int32) → Prop, Q r u2 v2 w2 → q_X7_years undos now undone hill p Q) ∧ iC th cells (B + 1000) v u v2 w2 u2 := by
  have h6 := A.1
  have I0 := iC_mono (B' := B + 1000) h6 (by omega) I
  obtain ⟨k, hk, rfl, rfl, h0, hj⟩ := I
  obtain ⟨dg, st, yr, ye, wh, R⟩ := rR0.mp h0
  obtain ⟨X, Y⟩ := mk_cXY A R
  have ethX : things = nI th := X.2.2.2.2.1
  have ethY : hill 2 = nI th := Y.2.2.2.1
  obtain ⟨r1, r2, r3, r4, r5, r6, r7, r8, r9, r10⟩ := R
  by_cases hn : decide ((1 : Int32) ≤ p ∧ p ≤ 99) = true
  · obtain ⟨n, hn1, hn2, rfl⟩ := in99_t hn
    by_cases hf : nI yr + nI n ≤ 999
    · have hf2 : yr + n ≤ 999 := by rw [nI_add] at hf; exact (nI_leI (b := 999) (by omega) (by decide)).mp hf
      let RK : Nat → Nat → Int32 := ups (fun t => 3 + t) (fun t => nI (ye t - n * fa t)) (rmR rows)
      let NK : Nat → Nat → Int32 := ups (fun t => 3 + 2 * t) (fun t => nI (ye t - n * fa t)) now
      have X0 : cX th bo fa ye wh bound things fades (rmR rows) := cX_row X (fun i _ h => rm_lo rows h)
      have XK : ∀ j, j ≤ th → cX th bo fa (yeK ye fa n j) wh bound things fades (RK j) := fun j hj => cX_K X0 n j hj
      have YK : ∀ j, j ≤ th → cY th bo fa (yeK ye fa n j) wh hill (NK j) := fun j hj => cY_K Y n j hj
      let set := msk (fun t => cal bo (yeK ye fa n th t) (wh t)) th
      have hset : set < 64 := Nat.lt_of_lt_of_le (msk_lt _ _) (Nat.pow_le_pow_right (n := 2) (by decide) h6)
      have eR2 : RK th 2 = nI yr := by
        show ups (fun t => 3 + t) (fun t => nI (ye t - n * fa t)) (rmR rows) th 2 = _
        rw [ups_out th (fun s hs => by omega), rm_lo rows (by omega)]; exact r6
      have eN0 : NK th 0 = nI yr := by
        show ups (fun t => 3 + 2 * t) (fun t => nI (ye t - n * fa t)) now th 0 = _
        rw [ups_out th (fun s hs => by omega)]; exact r7
      refine ⟨nI (pop 16 set), nI (if k = 10 then 10 else k + 1), upd (RK th) 2 (nI (yr + n)), nI (if k = 10 then 10 else k + 1), upd (NK th) 0 (nI (yr + n)), ntU k now undone, fun Q h => ?_, fun Q h => ?_, ?_⟩
      · have L : ∀ d j : Nat, j + d = th → ∃ i, wp_X6_years bound things fades (nI n) Q i 39 (nI j) (nI (if k = 10 then 10 else k + 1)) (RK j) := by
          intro d
          induction d with
          | zero =>
            intro j hj2
            have e : j = th := by omega
            subst e
            refine ⟨1, ?_⟩
            show F_X6_years_39 bound things fades (nI n) Q (wp_X6_years bound things fades (nI n) Q 0) (nI j) (nI (if k = 10 then 10 else k + 1)) (RK j)
            unfold F_X6_years_39
            refine br_t (by rw [ethX]; exact Int32.le_refl _) ?_
            unfold q_X2_year F_X2_year_e q_X2_setYear F_X2_setYear_e
            rw [c2, eR2]
            dsimp only
            rw [nI_add]
            rintro g rfl
            refine s_calledSet (cX_row (XK j (Nat.le_refl _)) (fun i hi _ => by rw [upd_at, if_neg (by omega)])) (s_bitCount (x := set) (by omega) ?_)
            rw [bc64 ⟨set, hset⟩]
            exact h
          | succ d ih =>
            intro j hj2
            obtain ⟨i, hi⟩ := ih (j + 1) (by omega)
            refine ⟨i + 1, ?_⟩
            show F_X6_years_39 bound things fades (nI n) Q (wp_X6_years bound things fades (nI n) Q i) (nI j) (nI (if k = 10 then 10 else k + 1)) (RK j)
            unfold F_X6_years_39
            refine br_f (by rw [ethX]; exact nI_ge (by omega) (by omega)) (s_yellowAfter (XK j (by omega)) (by omega) (by omega) ?_)
            obtain ⟨q1, q2, q3⟩ := i3 (t := j) (by omega)
            unfold q_X2_setYellow F_X2_setYellow_e
            rw [q1, q2, show yeK ye fa n j j = ye j by unfold yeK; rw [if_neg (by omega)]]
            refine ⟨q3, ?_⟩
            rintro g rfl x rfl
            rw [nI_1]; exact hi
        obtain ⟨i, hi⟩ := L th 0 (by omega)
        refine ⟨i, ?_⟩
        unfold F_X6_years_e
        refine s_within ?_
        rw [hn]
        refine p_n (by decide) ?_
        unfold q_X2_year F_X2_year_e
        rw [c2, r6]
        exact br_t hf (s_remember hk hi)
      · have L : ∀ d j : Nat, j + d = th → ∃ i, wp_X7_years hill (nI n) Q i 37 (nI j) (nI (if k = 10 then 10 else k + 1)) (NK j) (ntU k now undone) := by
          intro d
          induction d with
          | zero =>
            intro j hj2
            have e : j = th := by omega
            subst e
            refine ⟨1, ?_⟩
            show F_X7_years_37 hill (nI n) Q (wp_X7_years hill (nI n) Q 0) (nI j) (nI (if k = 10 then 10 else k + 1)) (NK j) (ntU k now undone)
            unfold F_X7_years_37
            rw [c2, ethY, c0, eN0, nI_add]
            refine br_t (Int32.le_refl _) ?_
            rintro g rfl
            exact s_called7 (cY_row (YK j (Nat.le_refl _)) (fun i hi _ => by rw [upd_at, if_neg (by omega)])) (s_many (x := set) (by omega) h)
          | succ d ih =>
            intro j hj2
            obtain ⟨i, hi⟩ := ih (j + 1) (by omega)
            refine ⟨i + 1, ?_⟩
            show F_X7_years_37 hill (nI n) Q (wp_X7_years hill (nI n) Q i) (nI j) (nI (if k = 10 then 10 else k + 1)) (NK j) (ntU k now undone)
            unfold F_X7_years_37
            rw [c2, ethY]
            obtain ⟨e1, e2, e3⟩ := i32 (t := j) (by omega)
            refine br_f (nI_ge (by omega) (by omega)) (s_yellow7 (YK j (by omega)) (by omega) (s_fades7 (YK j (by omega)) (by omega) ?_))
            obtain ⟨b1, b2, -⟩ := X.2.2.2.2.2 j (by omega)
            have hm : n * fa j ≤ 99 * 9 := Nat.mul_le_mul hn2 b1
            rintro x rfl
            rw [e1, e2, pk_mul, show yeK ye fa n j j = ye j by unfold yeK; rw [if_neg (by omega)]]
            rcases Nat.lt_or_ge (ye j) (n * fa j) with q | q
            · refine br_f (fun z => absurd (pk_sneg (by omega) q) (Int32.not_lt.mpr z)) ⟨e3, ?_⟩
              rintro g rfl x rfl
              have e0 : (0 : Int32) = nI (ye j - n * fa j) := by rw [Nat.sub_eq_zero_of_le (by omega)]; rfl
              rw [nI_1, e0]; exact hi
            · rw [pk_sub q]
              refine br_t (nI_pos' (by omega)) ⟨e3, ?_⟩
              rintro g rfl x rfl
              rw [nI_1]; exact hi
        obtain ⟨i, hi⟩ := L th 0 (by omega)
        refine ⟨i, ?_⟩
        unfold F_X7_years_e
        refine s_in (b := 1) (c := 99) rfl rfl ?_
        rw [hn, c0, r7]
        exact p_n (by decide) (br_t hf (s_notes hk hi))
      · refine iC_step h6 (by omega) hk h0 hj (fun i hi => ?_) (rR0.mpr ⟨dg, st, yr + n, yeK ye fa n th, wh, ?_⟩)
        · rw [upd_at, if_neg (by omega)]
          exact ups_out th (fun s hs => by omega)
        · have XT := (XK th (Nat.le_refl _)).2.2.2.2.2
          have YT := (YK th (Nat.le_refl _)).2.2.2.2.2
          refine ⟨r1, by omega, by omega, ?_, ?_, ?_, ?_, ?_, ?_, fun s hs => ?_⟩
          · rw [upd_at, if_neg (by omega)]
            show ups _ _ _ _ _ = _
            rw [ups_out th (fun s hs => by omega), rm_lo rows (by omega)]; exact r4
          · rw [upd_at, if_neg (by omega)]
            show ups _ _ _ _ _ = _
            rw [ups_out th (fun s hs => by omega), rm_lo rows (by omega)]; exact r5
          · rw [upd_at, if_pos rfl]
          · rw [upd_at, if_pos rfl]
          · rw [upd_at, if_neg (by omega)]
            show ups _ _ _ _ _ = _
            rw [ups_out th (fun s hs => by omega)]; exact r8
          · rw [upd_at, if_neg (by omega)]
            show ups _ _ _ _ _ = _
            rw [ups_out th (fun s hs => by omega)]; exact r9
          · obtain ⟨x1, x2, x3, x4, x5, x6⟩ := XT s hs
            obtain ⟨y1, y2, y3, y4, y5, y6⟩ := YT s hs
            refine ⟨x2, x3, ?_, ?_, ?_, ?_⟩
            · rw [upd_at, if_neg (by omega)]; exact x5
            · rw [upd_at, if_neg (by omega)]; exact x6
            · rw [upd_at, if_neg (by omega)]; exact y5
            · rw [upd_at, if_neg (by omega)]; exact y6
    · refine ⟨-2, nI k, rows, nI k, now, undone, fun Q h => ⟨0, ?_⟩, fun Q h => ⟨0, ?_⟩, I0⟩
      · unfold F_X6_years_e
        refine s_within ?_
        rw [hn]
        refine p_n (by decide) ?_
        unfold q_X2_year F_X2_year_e
        rw [c2, r6]
        exact br_f hf h
      · unfold F_X7_years_e
        refine s_in (b := 1) (c := 99) rfl rfl ?_
        rw [hn, c0, r7]
        exact p_n (by decide) (br_f hf h)
  · have hn : decide ((1 : Int32) ≤ p ∧ p ≤ 99) = false := by simpa using hn
    refine ⟨-1, nI k, rows, nI k, now, undone, fun Q h => ⟨0, ?_⟩, fun Q h => ⟨0, ?_⟩, I0⟩
    · unfold F_X6_years_e
      refine s_within ?_
      rw [hn]
      exact p_m rfl h
    · unfold F_X7_years_e
      refine s_in (b := 1) (c := 99) rfl rfl ?_
      rw [hn]
      exact p_m rfl h
end Deeds

/-! ===== scrapes, paints, stretches ===== -/
def iA (th bo lo : Nat) (fa wo : Nat → Nat) (bound loss things : Int32) (fades worth hill : Nat → Int32) : Prop := th ≤ 6 ∧ 1 ≤ bo ∧ bo ≤ 10 ∧ lo ≤ 10 ∧ bound = nI bo ∧ loss = nI lo ∧ things = nI th ∧ hill 2 = nI th ∧ hill 3 = nI bo ∧ hill 4 = nI lo ∧ ∀ t, t < th → fa t ≤ 9 ∧ wo t ≤ 99 ∧ fades t = nI (fa t) ∧ worth t = nI (wo t) ∧ hill (24 + 4 * t) = nI (fa t) ∧ hill (25 + 4 * t) = nI (wo t)
def row0 (th cells B dg st yr : Nat) (ye wh : Nat → Nat) (rows now : Nat → Int32) : Prop := dg < 2 ^ cells ∧ st ≤ B ∧ yr ≤ 999 ∧ rows 0 = nI dg ∧ rows 1 = nI st ∧ rows 2 = nI yr ∧ now 0 = nI yr ∧ now 1 = nI st ∧ now 2 = nI dg ∧ ∀ t, t < th → ye t ≤ 999 ∧ wh t ≤ 999 ∧ rows (3 + t) = nI (ye t) ∧ rows (9 + t) = nI (wh t) ∧ now (3 + 2 * t) = nI (ye t) ∧ now (4 + 2 * t) = nI (wh t)
theorem rR0 {th cells B : Nat} {rows now : Nat → Int32} : rR th cells B rows 0 now 0 ↔ ∃ (dg st yr : Nat) (ye wh : Nat → Nat), row0 th cells B dg st yr ye wh rows now := by
  unfold rR row0
  simp only [Nat.zero_add]
theorem upd_at (f : Nat → Int32) (k : Nat) (x : Int32) (j : Nat) : upd f k x j = if j = k then x else f j := rfl
theorem mk_cXY {th bo lo cells B dg st yr : Nat} {fa wo ye wh : Nat → Nat} {bound loss things : Int32} {fades worth hill rows now : Nat → Int32} (A : iA th bo lo fa wo bound loss things fades worth hill) (R : row0 th cells B dg st yr ye wh rows now) : cXY th bo fa ye wh bound things fades rows hill now := by
  obtain ⟨a1, a2, a3, a4, a5, a6, a7, a8, a9, a10, a11⟩ := A
  obtain ⟨r1, r2, r3, r4, r5, r6, r7, r8, r9, r10⟩ := R
  refine ⟨⟨a1, a2, a3, a5, a7, fun t ht => ?_⟩, ⟨a1, a2, a3, a8, a9, fun t ht => ?_⟩⟩
  · obtain ⟨b1, b2, b3, b4, b5, b6⟩ := a11 t ht
    obtain ⟨c1, c2, c3, c4, c5, c6⟩ := r10 t ht
    exact ⟨b1, c1, c2, b3, c3, c4⟩
  · obtain ⟨b1, b2, b3, b4, b5, b6⟩ := a11 t ht
    obtain ⟨c1, c2, c3, c4, c5, c6⟩ := r10 t ht
    exact ⟨b1, c1, c2, b5, c5, c6⟩
/-- a new value for a thing -/
def upN (f : Nat → Nat) (t v : Nat) : Nat → Nat := fun s => if s = t then v else f s
theorem i3 {t : Nat} (h : t < 6) : (3 : Int32) + nI t = nI (3 + t) ∧ (nI (3 + t)).toNatClampNeg = 3 + t ∧ vp_in (nI (3 + t)) 165 := ⟨nI_add 3 t, nI_clamp (by omega), vp_nI (by omega) (by decide)⟩
theorem i9 {t : Nat} (h : t < 6) : (9 : Int32) + nI t = nI (9 + t) ∧ (nI (9 + t)).toNatClampNeg = 9 + t ∧ vp_in (nI (9 + t)) 165 := ⟨nI_add 9 t, nI_clamp (by omega), vp_nI (by omega) (by decide)⟩
theorem i32 {t : Nat} (h : t < 6) : (3 : Int32) + (2 : Int32) * nI t = nI (3 + 2 * t) ∧ (nI (3 + 2 * t)).toNatClampNeg = 3 + 2 * t ∧ vp_in (nI (3 + 2 * t)) 15 := ⟨by rw [show (2 : Int32) * nI t = nI (2 * t) from pk_mul 2 t]; exact nI_add 3 _, nI_clamp (by omega), vp_nI (by omega) (by decide)⟩
theorem i42 {t : Nat} (h : t < 6) : (4 : Int32) + (2 : Int32) * nI t = nI (4 + 2 * t) ∧ (nI (4 + 2 * t)).toNatClampNeg = 4 + 2 * t ∧ vp_in (nI (4 + 2 * t)) 15 := ⟨by rw [show (2 : Int32) * nI t = nI (2 * t) from pk_mul 2 t]; exact nI_add 4 _, nI_clamp (by omega), vp_nI (by omega) (by decide)⟩
section Deeds
variable {th bo lo cells B dg st yr : Nat} {fa wo ye wh : Nat → Nat} {bound loss things known undos p p1 : Int32} {fades worth hill rows now undone : Nat → Int32}
theorem c1 : ((1 : Int32)).toNatClampNeg = 1 := rfl
theorem c2 : ((2 : Int32)).toNatClampNeg = 2 := rfl
theorem c0 : ((0 : Int32)).toNatClampNeg = 0 := rfl
theorem c4 : ((4 : Int32)).toNatClampNeg = 4 := rfl
def scr (y lo : Nat) : Nat := y - y * lo / 10
theorem scr_le {y lo : Nat} (h : lo ≤ 10) : y * lo / 10 ≤ y := by
  have : y * lo ≤ y * 10 := Nat.mul_le_mul_left y h
  omega
theorem s_scrapedFrom (X : cX th bo fa ye wh bound things fades rows) (hl : loss = nI lo) (hlo : lo ≤ 10) {t : Nat} (ht : t < th) {Q : Int32 → Prop} (h : Q (nI (scr (ye t) lo))) : q_X6_scrapedFrom rows loss (nI t) Q := by
  unfold q_X6_scrapedFrom F_X6_scrapedFrom_e
  refine s_yellow X ht ?_
  have hy := (X.2.2.2.2.2 t ht).2.1
  have hm : ye t * lo ≤ 999 * 10 := Nat.mul_le_mul hy hlo
  rw [hl, pk_mul, show nI (ye t * lo) / 10 = nI (ye t * lo / 10) from pk_div (d := 10) (by omega) (by decide) (by decide), pk_sub (scr_le hlo)]
  exact h
theorem s_scraped7 (Y : cY th bo fa ye wh hill now) (hl : hill 4 = nI lo) (hlo : lo ≤ 10) {t : Nat} (ht : t < th) {Q : Int32 → Prop} (h : Q (nI (scr (ye t) lo))) : q_X7_scraped now hill (nI t) Q := by
  unfold q_X7_scraped F_X7_scraped_e
  refine s_yellow7 Y ht (s_yellow7 Y ht ?_)
  have hy := (Y.2.2.2.2.2 t ht).2.1
  have hm : ye t * lo ≤ 999 * 10 := Nat.mul_le_mul hy hlo
  rw [c4, hl, pk_mul, show nI (ye t * lo) / 10 = nI (ye t * lo / 10) from pk_div (d := 10) (by omega) (by decide) (by decide), pk_sub (scr_le hlo)]
  exact h
theorem pr_scrapes (A : iA th bo lo fa wo bound loss things fades worth hill) (I : iC th cells B rows known now undone undos) : ∃ (r u : Int32) (v : Nat → Int32) (u2 : Int32) (v2 w2 : Nat → Int32), (∀ Q : Int32 → Int32 → (Nat → Int32) → Prop, Q r u v → q_X6_scrapes loss things known rows p Q) ∧ (∀ Q : Int32 → Int32 → (Nat → Int32) → (Nat → Int32) → Prop, Q r u2 v2 w2 → q_X7_scrapes undos hill now undone p Q) ∧ iC th cells (B + 1000) v u v2 w2 u2 := by
  have h6 := A.1
  have I0 := iC_mono (B' := B + 1000) h6 (by omega) I
  obtain ⟨k, hk, rfl, rfl, h0, hj⟩ := I
  obtain ⟨dg, st, yr, ye, wh, R⟩ := rR0.mp h0
  obtain ⟨X, Y⟩ := mk_cXY A R
  have ethX : things = nI th := X.2.2.2.2.1
  have ethY : hill 2 = nI th := Y.2.2.2.1
  by_cases hp : isT p th = true
  · obtain ⟨t, ht, rfl⟩ := isT_t (by omega) hp
    obtain ⟨q1, q2, q3⟩ := i3 (t := t) (by omega)
    obtain ⟨w1, w2, w3⟩ := i9 (t := t) (by omega)
    obtain ⟨e1, e2, e3⟩ := i32 (t := t) (by omega)
    obtain ⟨f1, f2, f3⟩ := i42 (t := t) (by omega)
    have hlo := A.2.2.2.1
    have hy := (X.2.2.2.2.2 t ht).2.1
    by_cases hz : ye t = 0
    · refine ⟨-2, nI k, rows, nI k, now, undone, fun Q h => ?_, fun Q h => ?_, I0⟩
      · unfold q_X6_scrapes F_X6_scrapes_e
        refine s_isThing ethX ?_
        rw [hp]
        refine p_n (by decide) (s_yellow X ht ?_)
        rw [hz]; exact p_m rfl h
      · unfold q_X7_scrapes F_X7_scrapes_e
        refine s_isThing7 ethY ?_
        rw [hp]
        refine p_n (by decide) (s_yellow7 Y ht ?_)
        rw [hz]; exact p_m rfl h
    · refine ⟨nI (scr (ye t) lo), nI (if k = 10 then 10 else k + 1), upd (upd (upd (rmR rows) 1 (rmR rows 1 + nI (scr (ye t) lo))) (3 + t) 0) (9 + t) 0, nI (if k = 10 then 10 else k + 1), upd (upd (upd now 1 (now 1 + nI (scr (ye t) lo))) (3 + 2 * t) 0) (4 + 2 * t) 0, ntU k now undone, fun Q h => ?_, fun Q h => ?_, ?_⟩
      · unfold q_X6_scrapes F_X6_scrapes_e
        refine s_isThing ethX ?_
        rw [hp]
        refine p_n (by decide) (s_yellow X ht (p_n (nI_ne0 (by omega) (by omega)) (s_scrapedFrom X A.2.2.2.2.2.1 hlo ht (s_remember hk ?_))))
        unfold q_X2_addStore F_X2_addStore_e
        rintro g rfl
        unfold q_X2_setYellow F_X2_setYellow_e
        rw [q1, q2, c1]
        refine ⟨q3, ?_⟩
        rintro g rfl
        unfold q_X2_setWhite F_X2_setWhite_e
        rw [w1, w2]
        refine ⟨w3, ?_⟩
        rintro g rfl
        exact h
      · unfold q_X7_scrapes F_X7_scrapes_e
        refine s_isThing7 ethY ?_
        rw [hp]
        refine p_n (by decide) (s_yellow7 Y ht (p_n (nI_ne0 (by omega) (by omega)) (s_notes hk (s_scraped7 Y A.2.2.2.2.2.2.2.2.2.1 hlo ht ?_))))
        rw [c1, e1, e2, f1, f2]
        rintro g rfl
        refine ⟨e3, ?_⟩
        rintro g rfl
        refine ⟨f3, ?_⟩
        rintro g rfl
        exact h
      · refine iC_step h6 (by omega) hk h0 hj (fun i hi => ?_) (rR0.mpr ⟨dg, st + scr (ye t) lo, yr, upN ye t 0, upN wh t 0, ?_⟩)
        · rw [upd_at, if_neg (by omega), upd_at, if_neg (by omega), upd_at, if_neg (by omega)]
        · obtain ⟨r1, r2, r3, r4, r5, r6, r7, r8, r9, r10⟩ := R
          have hs : scr (ye t) lo ≤ 999 := by unfold scr; omega
          refine ⟨r1, by omega, r3, ?_, ?_, ?_, ?_, ?_, ?_, fun s hs => ?_⟩
          · rw [upd_at, if_neg (by omega), upd_at, if_neg (by omega), upd_at, if_neg (by omega), rm_lo rows (by omega)]; exact r4
          · rw [upd_at, if_neg (by omega), upd_at, if_neg (by omega), upd_at, if_pos rfl, rm_lo rows (by omega), r5, nI_add]
          · rw [upd_at, if_neg (by omega), upd_at, if_neg (by omega), upd_at, if_neg (by omega), rm_lo rows (by omega)]; exact r6
          · rw [upd_at, if_neg (by omega), upd_at, if_neg (by omega), upd_at, if_neg (by omega)]; exact r7
          · rw [upd_at, if_neg (by omega), upd_at, if_neg (by omega), upd_at, if_pos rfl, r8, nI_add]
          · rw [upd_at, if_neg (by omega), upd_at, if_neg (by omega), upd_at, if_neg (by omega)]; exact r9
          · obtain ⟨s1, s2, s3, s4, s5, s6⟩ := r10 s hs
            unfold upN
            by_cases est : s = t
            · subst est
              rw [if_pos rfl, if_pos rfl]
              refine ⟨by omega, by omega, ?_, ?_, ?_, ?_⟩
              · rw [upd_at, if_neg (by omega), upd_at, if_pos rfl]; rfl
              · rw [upd_at, if_pos rfl]; rfl
              · rw [upd_at, if_neg (by omega), upd_at, if_pos rfl]; rfl
              · rw [upd_at, if_pos rfl]; rfl
            · rw [if_neg est, if_neg est]
              refine ⟨s1, s2, ?_, ?_, ?_, ?_⟩
              · rw [upd_at, if_neg (by omega), upd_at, if_neg (by omega), upd_at, if_neg (by omega), rm_lo rows (by omega)]; exact s3
              · rw [upd_at, if_neg (by omega), upd_at, if_neg (by omega), upd_at, if_neg (by omega), rm_lo rows (by omega)]; exact s4
              · rw [upd_at, if_neg (by omega), upd_at, if_neg (by omega), upd_at, if_neg (by omega)]; exact s5
              · rw [upd_at, if_neg (by omega), upd_at, if_neg (by omega), upd_at, if_neg (by omega)]; exact s6
  · have hp : isT p th = false := by simpa using hp
    refine ⟨-1, nI k, rows, nI k, now, undone, fun Q h => ?_, fun Q h => ?_, I0⟩
    · unfold q_X6_scrapes F_X6_scrapes_e
      refine s_isThing ethX ?_
      rw [hp]; exact p_m rfl h
    · unfold q_X7_scrapes F_X7_scrapes_e
      refine s_isThing7 ethY ?_
      rw [hp]; exact p_m rfl h
/-- within 1 .. 99 -/
theorem in99_t {p : Int32} (h : decide ((1 : Int32) ≤ p ∧ p ≤ 99) = true) : ∃ n : Nat, 1 ≤ n ∧ n ≤ 99 ∧ p = nI n := by
  have h := of_decide_eq_true h
  obtain ⟨k, hk, rfl⟩ := nI_of (x := p) (Int32.not_lt.mpr (Int32.le_trans (by decide) h.1))
  exact ⟨k, (nI_leI (a := 1) (by decide) hk).mp h.1, (nI_leI (b := 99) hk (by decide)).mp h.2, rfl⟩
theorem pr_paints (A : iA th bo lo fa wo bound loss things fades worth hill) (I : iC th cells B rows known now undone undos) : ∃ (r u : Int32) (v : Nat → Int32) (u2 : Int32) (v2 w2 : Nat → Int32), (∀ Q : Int32 → Int32 → (Nat → Int32) → Prop, Q r u v → q_X6_paints things known rows p p1 Q) ∧ (∀ Q : Int32 → Int32 → (Nat → Int32) → (Nat → Int32) → Prop, Q r u2 v2 w2 → q_X7_paints undos hill now undone p p1 Q) ∧ (B ≤ 600000 → iC th cells (B + 1000) v u v2 w2 u2) := by
  have h6 := A.1
  have I0 := iC_mono (B' := B + 1000) h6 (by omega) I
  obtain ⟨k, hk, rfl, rfl, h0, hj⟩ := I
  obtain ⟨dg, st, yr, ye, wh, R⟩ := rR0.mp h0
  obtain ⟨X, Y⟩ := mk_cXY A R
  have ethX : things = nI th := X.2.2.2.2.1
  have ethY : hill 2 = nI th := Y.2.2.2.1
  by_cases hp : isT p th = true
  · obtain ⟨t, ht, rfl⟩ := isT_t (by omega) hp
    obtain ⟨q1, q2, q3⟩ := i3 (t := t) (by omega)
    obtain ⟨e1, e2, e3⟩ := i32 (t := t) (by omega)
    have hy := (X.2.2.2.2.2 t ht).2.1
    obtain ⟨r1, r2, r3, r4, r5, r6, r7, r8, r9, r10⟩ := R
    by_cases hn : decide ((1 : Int32) ≤ p1 ∧ p1 ≤ 99) = true
    · obtain ⟨n, hn1, hn2, rfl⟩ := in99_t hn
      by_cases hst : nI n ≤ nI st
      · by_cases hf : nI (ye t) + nI n ≤ 999
        · have hf2 : ye t + n ≤ 999 := by rw [nI_add] at hf; exact (nI_leI (b := 999) (by omega) (by decide)).mp hf
          obtain ⟨s1, s2, s3, s4, s5, s6⟩ := r10 t ht
          have g1 : upd (rmR rows) 1 (rmR rows 1 + -nI n) (3 + t) = nI (ye t) := by rw [upd_at, if_neg (by omega), rm_lo rows (by omega)]; exact s3
          have g2 : upd now 1 (now 1 - nI n) (3 + 2 * t) = nI (ye t) := by rw [upd_at, if_neg (by omega)]; exact s5
          refine ⟨nI (ye t + n), nI (if k = 10 then 10 else k + 1), upd (upd (rmR rows) 1 (rmR rows 1 + -nI n)) (3 + t) (nI (ye t + n)), nI (if k = 10 then 10 else k + 1), upd (upd now 1 (now 1 - nI n)) (3 + 2 * t) (nI (ye t + n)), ntU k now undone, fun Q h => ?_, fun Q h => ?_, fun hB => ?_⟩
          · unfold q_X6_paints F_X6_paints_e
            refine s_isThing ethX ?_
            rw [hp]
            refine br_f (by decide) (s_within ?_)
            rw [hn]
            refine p_n (by decide) ?_
            unfold q_X2_store F_X2_store_e
            rw [c1, r5]
            refine br_t hst (s_yellow X ht (br_t hf (s_remember hk ?_)))
            unfold q_X2_addStore F_X2_addStore_e
            rintro g rfl
            unfold q_X2_yellow F_X2_yellow_e
            rw [c1, q1, q2, g1]
            refine ⟨q3, ?_⟩
            unfold q_X2_setYellow F_X2_setYellow_e
            dsimp only
            rw [q1, q2, nI_add]
            refine ⟨q3, ?_⟩
            rintro g rfl
            refine ⟨q3, ?_⟩
            rw [upd_at, if_pos rfl]
            exact h
          · unfold q_X7_paints F_X7_paints_e
            refine s_isThing7 ethY ?_
            rw [hp]
            refine br_f (by decide) (s_in (b := 1) (c := 99) rfl rfl ?_)
            rw [hn]
            rw [c1, e1, e2, r8]
            refine p_n (by decide) (br_t hst (s_yellow7 Y ht (br_t hf (s_notes hk ?_))))
            rw [← r8]
            rintro g rfl
            rw [g2, nI_add]
            refine ⟨e3, e3, ?_⟩
            rintro g rfl
            unfold q_X7_yellow F_X7_yellow_e
            rw [e1, e2, upd_at, if_pos rfl]
            exact ⟨e3, h⟩
          · have hst2 : n ≤ st := (nI_leI (by omega) (by omega)).mp hst
            have es : nI st + -nI n = nI (st - n) := by rw [← Int32.sub_eq_add_neg, pk_sub hst2]
            refine iC_step h6 (by omega) hk h0 hj (fun i hi => ?_) (rR0.mpr ⟨dg, st - n, yr, upN ye t (ye t + n), wh, ?_⟩)
            · rw [upd_at, if_neg (by omega), upd_at, if_neg (by omega)]
            · refine ⟨r1, by omega, r3, ?_, ?_, ?_, ?_, ?_, ?_, fun s hs => ?_⟩
              · rw [upd_at, if_neg (by omega), upd_at, if_neg (by omega), rm_lo rows (by omega)]; exact r4
              · rw [upd_at, if_neg (by omega), upd_at, if_pos rfl, rm_lo rows (by omega), r5, es]
              · rw [upd_at, if_neg (by omega), upd_at, if_neg (by omega), rm_lo rows (by omega)]; exact r6
              · rw [upd_at, if_neg (by omega), upd_at, if_neg (by omega)]; exact r7
              · rw [upd_at, if_neg (by omega), upd_at, if_pos rfl, r8, pk_sub hst2]
              · rw [upd_at, if_neg (by omega), upd_at, if_neg (by omega)]; exact r9
              · obtain ⟨s1, s2, s3, s4, s5, s6⟩ := r10 s hs
                unfold upN
                by_cases est : s = t
                · subst est
                  rw [if_pos rfl]
                  refine ⟨by omega, s2, ?_, ?_, ?_, ?_⟩
                  · rw [upd_at, if_pos rfl]
                  · rw [upd_at, if_neg (by omega), upd_at, if_neg (by omega), rm_lo rows (by omega)]; exact s4
                  · rw [upd_at, if_pos rfl]
                  · rw [upd_at, if_neg (by omega), upd_at, if_neg (by omega)]; exact s6
                · rw [if_neg est]
                  refine ⟨s1, s2, ?_, ?_, ?_, ?_⟩
                  · rw [upd_at, if_neg (by omega), upd_at, if_neg (by omega), rm_lo rows (by omega)]; exact s3
                  · rw [upd_at, if_neg (by omega), upd_at, if_neg (by omega), rm_lo rows (by omega)]; exact s4
                  · rw [upd_at, if_neg (by omega), upd_at, if_neg (by omega)]; exact s5
                  · rw [upd_at, if_neg (by omega), upd_at, if_neg (by omega)]; exact s6
        · refine ⟨-3, nI k, rows, nI k, now, undone, fun Q h => ?_, fun Q h => ?_, fun _ => I0⟩
          · unfold q_X6_paints F_X6_paints_e
            refine s_isThing ethX ?_
            rw [hp]
            refine br_f (by decide) (s_within ?_)
            rw [hn]
            refine p_n (by decide) ?_
            unfold q_X2_store F_X2_store_e
            rw [c1, r5]
            exact br_t hst (s_yellow X ht (br_f hf h))
          · unfold q_X7_paints F_X7_paints_e
            refine s_isThing7 ethY ?_
            rw [hp]
            refine br_f (by decide) (s_in (b := 1) (c := 99) rfl rfl ?_)
            rw [hn, c1, r8]
            exact p_n (by decide) (br_t hst (s_yellow7 Y ht (br_f hf h)))
      · refine ⟨-2, nI k, rows, nI k, now, undone, fun Q h => ?_, fun Q h => ?_, fun _ => I0⟩
        · unfold q_X6_paints F_X6_paints_e
          refine s_isThing ethX ?_
          rw [hp]
          refine br_f (by decide) (s_within ?_)
          rw [hn]
          refine p_n (by decide) ?_
          unfold q_X2_store F_X2_store_e
          rw [c1, r5]
          exact br_f hst h
        · unfold q_X7_paints F_X7_paints_e
          refine s_isThing7 ethY ?_
          rw [hp]
          refine br_f (by decide) (s_in (b := 1) (c := 99) rfl rfl ?_)
          rw [hn, c1, r8]
          exact p_n (by decide) (br_f hst h)
    · have hn : decide ((1 : Int32) ≤ p1 ∧ p1 ≤ 99) = false := by simpa using hn
      refine ⟨-1, nI k, rows, nI k, now, undone, fun Q h => ?_, fun Q h => ?_, fun _ => I0⟩
      · unfold q_X6_paints F_X6_paints_e
        refine s_isThing ethX ?_
        rw [hp]
        refine br_f (by decide) (s_within ?_)
        rw [hn]
        exact p_m rfl h
      · unfold q_X7_paints F_X7_paints_e
        refine s_isThing7 ethY ?_
        rw [hp]
        refine br_f (by decide) (s_in (b := 1) (c := 99) rfl rfl ?_)
        rw [hn]
        exact p_m rfl h
  · have hp : isT p th = false := by simpa using hp
    refine ⟨-1, nI k, rows, nI k, now, undone, fun Q h => ?_, fun Q h => ?_, fun _ => I0⟩
    · unfold q_X6_paints F_X6_paints_e
      refine s_isThing ethX ?_
      rw [hp]; exact br_t rfl h
    · unfold q_X7_paints F_X7_paints_e
      refine s_isThing7 ethY ?_
      rw [hp]; exact br_t rfl h
theorem pr_stretches (A : iA th bo lo fa wo bound loss things fades worth hill) (I : iC th cells B rows known now undone undos) : ∃ (r u : Int32) (v : Nat → Int32) (u2 : Int32) (v2 w2 : Nat → Int32), (∀ Q : Int32 → Int32 → (Nat → Int32) → Prop, Q r u v → q_X6_stretches things known rows p p1 Q) ∧ (∀ Q : Int32 → Int32 → (Nat → Int32) → (Nat → Int32) → Prop, Q r u2 v2 w2 → q_X7_stretches undos hill now undone p p1 Q) ∧ iC th cells (B + 1000) v u v2 w2 u2 := by
  have h6 := A.1
  have I0 := iC_mono (B' := B + 1000) h6 (by omega) I
  obtain ⟨k, hk, rfl, rfl, h0, hj⟩ := I
  obtain ⟨dg, st, yr, ye, wh, R⟩ := rR0.mp h0
  obtain ⟨X, Y⟩ := mk_cXY A R
  have ethX : things = nI th := X.2.2.2.2.1
  have ethY : hill 2 = nI th := Y.2.2.2.1
  by_cases hp : isT p th = true
  · obtain ⟨t, ht, rfl⟩ := isT_t (by omega) hp
    obtain ⟨q1, q2, q3⟩ := i9 (t := t) (by omega)
    obtain ⟨e1, e2, e3⟩ := i42 (t := t) (by omega)
    obtain ⟨r1, r2, r3, r4, r5, r6, r7, r8, r9, r10⟩ := R
    obtain ⟨s1, s2, s3, s4, s5, s6⟩ := r10 t ht
    by_cases hn : decide ((1 : Int32) ≤ p1 ∧ p1 ≤ 99) = true
    · obtain ⟨n, hn1, hn2, rfl⟩ := in99_t hn
      by_cases hf : nI (wh t) + nI n ≤ 999
      · have hf2 : wh t + n ≤ 999 := by rw [nI_add] at hf; exact (nI_leI (b := 999) (by omega) (by decide)).mp hf
        have g1 : rmR rows (9 + t) = nI (wh t) := by rw [rm_lo rows (by omega)]; exact s4
        refine ⟨nI (wh t + n), nI (if k = 10 then 10 else k + 1), upd (rmR rows) (9 + t) (nI (wh t + n)), nI (if k = 10 then 10 else k + 1), upd now (4 + 2 * t) (nI (wh t + n)), ntU k now undone, fun Q h => ?_, fun Q h => ?_, ?_⟩
        · unfold q_X6_stretches F_X6_stretches_e
          refine s_isThing ethX ?_
          rw [hp]
          refine br_f (by decide) (s_within ?_)
          rw [hn]
          refine p_n (by decide) (s_white X ht (br_t hf (s_remember hk ?_)))
          unfold q_X2_white F_X2_white_e
          rw [q1, q2, g1]
          refine ⟨q3, ?_⟩
          unfold q_X2_setWhite F_X2_setWhite_e
          dsimp only
          rw [q1, q2, nI_add]
          refine ⟨q3, ?_⟩
          rintro g rfl
          refine ⟨q3, ?_⟩
          rw [upd_at, if_pos rfl]
          exact h
        · unfold q_X7_stretches F_X7_stretches_e
          refine s_isThing7 ethY ?_
          rw [hp]
          refine br_f (by decide) (s_in (b := 1) (c := 99) rfl rfl ?_)
          rw [hn, e1, e2, s6]
          refine p_n (by decide) (s_white7 Y ht (br_t hf (s_notes hk ⟨e3, e3, ?_⟩)))
          rw [nI_add]
          rintro g rfl
          unfold q_X7_white F_X7_white_e
          rw [e1, e2, upd_at, if_pos rfl]
          exact ⟨e3, h⟩
        · refine iC_step h6 (by omega) hk h0 hj (fun i hi => ?_) (rR0.mpr ⟨dg, st, yr, ye, upN wh t (wh t + n), ?_⟩)
          · rw [upd_at, if_neg (by omega)]
          · refine ⟨r1, by omega, r3, ?_, ?_, ?_, ?_, ?_, ?_, fun s hs => ?_⟩
            · rw [upd_at, if_neg (by omega), rm_lo rows (by omega)]; exact r4
            · rw [upd_at, if_neg (by omega), rm_lo rows (by omega)]; exact r5
            · rw [upd_at, if_neg (by omega), rm_lo rows (by omega)]; exact r6
            · rw [upd_at, if_neg (by omega)]; exact r7
            · rw [upd_at, if_neg (by omega)]; exact r8
            · rw [upd_at, if_neg (by omega)]; exact r9
            · obtain ⟨s1, s2, s3, s4, s5, s6⟩ := r10 s hs
              unfold upN
              by_cases est : s = t
              · subst est
                rw [if_pos rfl]
                refine ⟨s1, by omega, ?_, ?_, ?_, ?_⟩
                · rw [upd_at, if_neg (by omega), rm_lo rows (by omega)]; exact s3
                · rw [upd_at, if_pos rfl]
                · rw [upd_at, if_neg (by omega)]; exact s5
                · rw [upd_at, if_pos rfl]
              · rw [if_neg est]
                refine ⟨s1, s2, ?_, ?_, ?_, ?_⟩
                · rw [upd_at, if_neg (by omega), rm_lo rows (by omega)]; exact s3
                · rw [upd_at, if_neg (by omega), rm_lo rows (by omega)]; exact s4
                · rw [upd_at, if_neg (by omega)]; exact s5
                · rw [upd_at, if_neg (by omega)]; exact s6
      · refine ⟨-3, nI k, rows, nI k, now, undone, fun Q h => ?_, fun Q h => ?_, I0⟩
        · unfold q_X6_stretches F_X6_stretches_e
          refine s_isThing ethX ?_
          rw [hp]
          refine br_f (by decide) (s_within ?_)
          rw [hn]
          exact p_n (by decide) (s_white X ht (br_f hf h))
        · unfold q_X7_stretches F_X7_stretches_e
          refine s_isThing7 ethY ?_
          rw [hp]
          refine br_f (by decide) (s_in (b := 1) (c := 99) rfl rfl ?_)
          rw [hn]
          exact p_n (by decide) (s_white7 Y ht (br_f hf h))
    · have hn : decide ((1 : Int32) ≤ p1 ∧ p1 ≤ 99) = false := by simpa using hn
      refine ⟨-1, nI k, rows, nI k, now, undone, fun Q h => ?_, fun Q h => ?_, I0⟩
      · unfold q_X6_stretches F_X6_stretches_e
        refine s_isThing ethX ?_
        rw [hp]
        refine br_f (by decide) (s_within ?_)
        rw [hn]
        exact p_m rfl h
      · unfold q_X7_stretches F_X7_stretches_e
        refine s_isThing7 ethY ?_
        rw [hp]
        refine br_f (by decide) (s_in (b := 1) (c := 99) rfl rfl ?_)
        rw [hn]
        exact p_m rfl h
  · have hp : isT p th = false := by simpa using hp
    refine ⟨-1, nI k, rows, nI k, now, undone, fun Q h => ?_, fun Q h => ?_, I0⟩
    · unfold q_X6_stretches F_X6_stretches_e
      refine s_isThing ethX ?_
      rw [hp]; exact br_t rfl h
    · unfold q_X7_stretches F_X7_stretches_e
      refine s_isThing7 ethY ?_
      rw [hp]; exact br_t rfl h
end Deeds

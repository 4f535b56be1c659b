/-! ===== first, rich, sell, odds ===== -/
section XY
variable {th bo : Nat} {fa ye wh : Nat → Nat} {bound things : Int32} {fades rows hill now worth : Nat → Int32} {t : Nat} {p p1 p2 p3 : Int32} {Q : Int32 → Prop}
theorem s_first (X : cX th bo fa ye wh bound things fades rows) (h : Q (oI (fsts (fun t => las bo (ye t) (wh t) (fa t)) th))) : q_X6_first bound things rows fades Q := by
  have h6 := X.1
  have eth := X.2.2.2.2.1
  generalize hv : (fun t => las bo (ye t) (wh t) (fa t)) = v at h
  have hv2 : ∀ t, las bo (ye t) (wh t) (fa t) = v t := fun t => by rw [← hv]
  have L : ∀ d k : Nat, k + d = th → ∀ x2 : Int32, (∀ j, fsts v k = some j → x2 = v j) → ∃ n, wp_X6_first bound things rows fades Q n 7 (oI (fsts v k)) x2 (nI k) 0 := by
    intro d
    induction d with
    | zero =>
      intro k hk x2 hx
      have hk : k = th := by omega
      subst hk
      refine ⟨1, ?_⟩
      show F_X6_first_7 bound things rows fades Q (wp_X6_first bound things rows fades Q 0) (oI (fsts v k)) x2 (nI k) 0
      unfold F_X6_first_7
      rw [eth]
      exact br_t (Int32.le_refl _) h
    | succ d ih =>
      intro k hk x2 hx
      have hlt : ¬ things ≤ nI k := by rw [eth]; exact nI_ge (by omega) (by omega)
      have fsucc : fsts v (k + 1) = if v k ≤ 0 then fsts v k else match fsts v k with
        | none => some k
        | some j => if v j ≤ v k then some j else some k := rfl
      by_cases h0 : v k ≤ 0
      · rw [if_pos h0] at fsucc
        obtain ⟨n, hn⟩ := ih (k + 1) (by omega) x2 (by rw [fsucc]; exact hx)
        refine ⟨n + 1, ?_⟩
        show F_X6_first_7 bound things rows fades Q (wp_X6_first bound things rows fades Q n) (oI (fsts v k)) x2 (nI k) 0
        unfold F_X6_first_7
        refine br_f hlt (s_yearsCalled X (by omega) ?_)
        rw [hv2]
        refine br_t h0 ?_
        rintro x rfl
        rw [nI_1, ← fsucc]; exact hn
      · rw [if_neg h0] at fsucc
        have upd42 : fsts v (k + 1) = some k → ∃ n, wp_X6_first bound things rows fades Q n 42 0 0 (nI k) (v k) := by
          intro e
          obtain ⟨n, hn⟩ := ih (k + 1) (by omega) (v k) (by intro j hj; rw [e] at hj; cases hj; rfl)
          refine ⟨n + 1, ?_⟩
          show F_X6_first_42 bound things rows fades Q (wp_X6_first bound things rows fades Q n) 0 0 (nI k) (v k)
          unfold F_X6_first_42
          rintro x rfl
          rw [e] at hn
          rw [nI_1]; exact hn
        cases hf : fsts v k with
        | none =>
          rw [hf] at fsucc
          obtain ⟨n, hn⟩ := upd42 fsucc
          refine ⟨n + 1, ?_⟩
          show F_X6_first_7 bound things rows fades Q (wp_X6_first bound things rows fades Q n) (oI none) x2 (nI k) 0
          unfold F_X6_first_7
          refine br_f hlt (s_yearsCalled X (by omega) ?_)
          rw [hv2]
          exact br_f h0 (br_t rfl hn)
        | some j =>
          rw [hf] at fsucc
          have hj := fsts_lt v k j hf
          have ex : x2 = v j := hx j hf
          subst ex
          by_cases hc : v j ≤ v k
          · have fsucc : fsts v (k + 1) = some j := by rw [fsucc]; exact if_pos hc
            obtain ⟨n, hn⟩ := ih (k + 1) (by omega) (v j) (by intro i hi; rw [fsucc] at hi; cases hi; rfl)
            rw [fsucc] at hn
            refine ⟨n + 1, ?_⟩
            show F_X6_first_7 bound things rows fades Q (wp_X6_first bound things rows fades Q n) (oI (some j)) (v j) (nI k) 0
            unfold F_X6_first_7
            refine br_f hlt (s_yearsCalled X (by omega) ?_)
            rw [hv2]
            refine br_f h0 (br_f (nI_n9 (by omega)) (br_t hc ?_))
            rintro x rfl
            rw [nI_1]; exact hn
          · obtain ⟨n, hn⟩ := upd42 (by rw [fsucc]; exact if_neg hc)
            refine ⟨n + 1, ?_⟩
            show F_X6_first_7 bound things rows fades Q (wp_X6_first bound things rows fades Q n) (oI (some j)) (v j) (nI k) 0
            unfold F_X6_first_7
            refine br_f hlt (s_yearsCalled X (by omega) ?_)
            rw [hv2]
            exact br_f h0 (br_f (nI_n9 (by omega)) (br_f hc hn))
  obtain ⟨n, hn⟩ := L th 0 (by omega) 0 (by intro j hj; simp [fsts] at hj)
  exact ⟨n, hn⟩
theorem s_first7 (Y : cY th bo fa ye wh hill now) (h : Q (oI (fsts (fun t => las bo (ye t) (wh t) (fa t)) th))) : q_X7_first hill now Q := by
  have h6 := Y.1
  have eth := Y.2.2.2.1
  generalize hv : (fun t => las bo (ye t) (wh t) (fa t)) = v at h
  have hv2 : ∀ t, las bo (ye t) (wh t) (fa t) = v t := fun t => by rw [← hv]
  have L : ∀ d k : Nat, k + d = th → ∃ n, wp_X7_first hill now Q n 5 (oI (fsts v k)) (nI k) := by
    intro d
    induction d with
    | zero =>
      intro k hk
      have hk : k = th := by omega
      subst hk
      refine ⟨1, ?_⟩
      show F_X7_first_5 hill now Q (wp_X7_first hill now Q 0) (oI (fsts v k)) (nI k)
      unfold F_X7_first_5
      rw [show ((2 : Int32)).toNatClampNeg = 2 from rfl, eth]
      exact br_t (Int32.le_refl _) h
    | succ d ih =>
      intro k hk
      obtain ⟨n, hn⟩ := ih (k + 1) (by omega)
      refine ⟨n + 1, ?_⟩
      show F_X7_first_5 hill now Q (wp_X7_first hill now Q n) (oI (fsts v k)) (nI k)
      unfold F_X7_first_5
      rw [show ((2 : Int32)).toNatClampNeg = 2 from rfl, eth]
      refine br_f (nI_ge (by omega) (by omega)) (s_lastsOf Y (by omega) ?_)
      rw [hv2]
      have fsucc : fsts v (k + 1) = if v k ≤ 0 then fsts v k else match fsts v k with
        | none => some k
        | some j => if v j ≤ v k then some j else some k := rfl
      by_cases h0 : v k ≤ 0
      · rw [if_pos h0] at fsucc
        rw [fsucc] at hn
        refine br_t h0 ?_
        rintro x rfl
        rw [nI_1]; exact hn
      · rw [if_neg h0] at fsucc
        refine br_f h0 ?_
        cases hf : fsts v k with
        | none =>
          rw [hf] at fsucc
          rw [fsucc] at hn
          refine br_t rfl ?_
          rintro x rfl
          rw [nI_1]; exact hn
        | some j =>
          rw [hf] at fsucc
          have hj := fsts_lt v k j hf
          refine br_f (nI_n9 (by omega)) (s_lastsOf Y (t := j) (by omega) ?_)
          rw [hv2]
          refine ⟨fun hc => ?_, fun hc => ?_⟩
          · have fsucc : fsts v (k + 1) = some j := by rw [fsucc]; exact if_pos hc
            rw [fsucc] at hn
            rintro x rfl
            rw [nI_1]; exact hn
          · have fsucc : fsts v (k + 1) = some k := by rw [fsucc]; exact if_neg hc
            rw [fsucc] at hn
            rintro x rfl
            rw [nI_1]; exact hn
  obtain ⟨n, hn⟩ := L th 0 (by omega)
  exact ⟨n, hn⟩
theorem pr_first (C : cXY th bo fa ye wh bound things fades rows hill now) : ∃ r : Int32, (∀ Q : Int32 → Prop, Q r → q_X6_first bound things rows fades Q) ∧ (∀ Q : Int32 → Prop, Q r → q_X7_first hill now Q) :=
  ⟨_, fun _ h => s_first C.1 h, fun _ h => s_first7 C.2 h⟩
theorem s_rich (X : cX th bo fa ye wh bound things fades rows) (h : Q (oI (rchs (fun t => nI (ye t - lst bo (wh t))) th))) : q_X6_rich bound things rows fades Q := by
  have h6 := X.1
  have eth := X.2.2.2.2.1
  have hb : ∀ t, t < th → ye t ≤ 999 := fun t ht => (X.2.2.2.2.2 t ht).2.1
  generalize hv : (fun t => nI (ye t - lst bo (wh t))) = v at h
  have hv2 : ∀ t, nI (ye t - lst bo (wh t)) = v t := fun t => by rw [← hv]
  have hpos : ∀ t, t < th → 0 ≤ v t := fun t ht => by rw [← hv2]; exact nI_pos' (by have := hb t ht; omega)
  have L : ∀ d k : Nat, k + d = th → ∀ x2 : Int32, (rchs v k = none → x2 = 0) → (∀ j, rchs v k = some j → x2 = v j ∧ 0 < v j) → ∃ n, wp_X6_rich bound things rows fades Q n 7 (oI (rchs v k)) x2 (nI k) := by
    intro d
    induction d with
    | zero =>
      intro k hk x2 hx0 hx
      have hk : k = th := by omega
      subst hk
      refine ⟨1, ?_⟩
      show F_X6_rich_7 bound things rows fades Q (wp_X6_rich bound things rows fades Q 0) (oI (rchs v k)) x2 (nI k)
      unfold F_X6_rich_7
      rw [eth]
      exact br_t (Int32.le_refl _) h
    | succ d ih =>
      intro k hk x2 hx0 hx
      have hlt : ¬ things ≤ nI k := by rw [eth]; exact nI_ge (by omega) (by omega)
      have fsucc : rchs v (k + 1) = if v k ≤ 0 then rchs v k else match rchs v k with
        | none => some k
        | some j => if v k ≤ v j then some j else some k := rfl
      have keep : rchs v (k + 1) = rchs v k → v k ≤ x2 → ∃ n, wp_X6_rich bound things rows fades Q n 7 (oI (rchs v k)) x2 (nI k) := by
        intro e hle
        obtain ⟨n, hn⟩ := ih (k + 1) (by omega) x2 (by rw [e]; exact hx0) (by rw [e]; exact hx)
        refine ⟨n + 1, ?_⟩
        show F_X6_rich_7 bound things rows fades Q (wp_X6_rich bound things rows fades Q n) (oI (rchs v k)) x2 (nI k)
        unfold F_X6_rich_7
        refine br_f hlt (s_canSpare X (by omega) ?_)
        rw [hv2]
        refine br_t hle ?_
        rintro x rfl
        rw [nI_1, ← e]; exact hn
      have new : rchs v (k + 1) = some k → ¬ v k ≤ x2 → 0 < v k → ∃ n, wp_X6_rich bound things rows fades Q n 7 (oI (rchs v k)) x2 (nI k) := by
        intro e hle hp
        obtain ⟨n, hn⟩ := ih (k + 1) (by omega) (v k) (by rw [e]; intro q; cases q) (by rw [e]; intro j q; cases q; exact ⟨rfl, hp⟩)
        refine ⟨n + 1, ?_⟩
        show F_X6_rich_7 bound things rows fades Q (wp_X6_rich bound things rows fades Q n) (oI (rchs v k)) x2 (nI k)
        unfold F_X6_rich_7
        refine br_f hlt (s_canSpare X (by omega) ?_)
        rw [hv2]
        refine br_f hle (s_canSpare X (by omega) ?_)
        rw [hv2]
        rintro x rfl
        rw [e] at hn
        rw [nI_1]; exact hn
      by_cases h0 : v k ≤ 0
      · rw [if_pos h0] at fsucc
        refine keep fsucc ?_
        cases hf : rchs v k with
        | none => rw [hx0 hf]; exact h0
        | some j => obtain ⟨e1, e2⟩ := hx j hf; rw [e1]; exact Int32.le_trans h0 (Int32.le_of_lt e2)
      · rw [if_neg h0] at fsucc
        have hp : 0 < v k := Int32.not_le.mp h0
        cases hf : rchs v k with
        | none =>
          rw [hf] at fsucc
          have := new fsucc (by rw [hx0 hf]; exact h0) hp
          rw [hf] at this; exact this
        | some j =>
          rw [hf] at fsucc
          obtain ⟨e1, e2⟩ := hx j hf
          by_cases hc : v k ≤ v j
          · have := keep (by rw [fsucc, hf]; exact if_pos hc) (by rw [e1]; exact hc)
            rw [hf] at this; exact this
          · have := new (by rw [fsucc]; exact if_neg hc) (by rw [e1]; exact hc) hp
            rw [hf] at this; exact this
  obtain ⟨n, hn⟩ := L th 0 (by omega) 0 (fun _ => rfl) (by intro j hj; simp [rchs] at hj)
  exact ⟨n, hn⟩
theorem s_rich7 (Y : cY th bo fa ye wh hill now) (h : Q (oI (rchs (fun t => nI (ye t - lst bo (wh t))) th))) : q_X7_rich hill now Q := by
  have h6 := Y.1
  have eth := Y.2.2.2.1
  generalize hv : (fun t => nI (ye t - lst bo (wh t))) = v at h
  have hv2 : ∀ t, nI (ye t - lst bo (wh t)) = v t := fun t => by rw [← hv]
  have L : ∀ d k : Nat, k + d = th → ∃ n, wp_X7_rich hill now Q n 5 (oI (rchs v k)) (nI k) := by
    intro d
    induction d with
    | zero =>
      intro k hk
      have hk : k = th := by omega
      subst hk
      refine ⟨1, ?_⟩
      show F_X7_rich_5 hill now Q (wp_X7_rich hill now Q 0) (oI (rchs v k)) (nI k)
      unfold F_X7_rich_5
      rw [show ((2 : Int32)).toNatClampNeg = 2 from rfl, eth]
      exact br_t (Int32.le_refl _) h
    | succ d ih =>
      intro k hk
      obtain ⟨n, hn⟩ := ih (k + 1) (by omega)
      refine ⟨n + 1, ?_⟩
      show F_X7_rich_5 hill now Q (wp_X7_rich hill now Q n) (oI (rchs v k)) (nI k)
      unfold F_X7_rich_5
      rw [show ((2 : Int32)).toNatClampNeg = 2 from rfl, eth]
      refine br_f (nI_ge (by omega) (by omega)) (s_spareOf Y (by omega) ?_)
      rw [hv2]
      have fsucc : rchs v (k + 1) = if v k ≤ 0 then rchs v k else match rchs v k with
        | none => some k
        | some j => if v k ≤ v j then some j else some k := rfl
      by_cases h0 : v k ≤ 0
      · rw [if_pos h0] at fsucc
        rw [fsucc] at hn
        refine br_t h0 ?_
        rintro x rfl
        rw [nI_1]; exact hn
      · rw [if_neg h0] at fsucc
        refine br_f h0 ?_
        cases hf : rchs v k with
        | none =>
          rw [hf] at fsucc
          rw [fsucc] at hn
          refine br_t rfl ?_
          rintro x rfl
          rw [nI_1]; exact hn
        | some j =>
          rw [hf] at fsucc
          have hj := rchs_lt v k j hf
          refine br_f (nI_n9 (by omega)) (s_spareOf Y (t := j) (by omega) ?_)
          rw [hv2]
          refine ⟨fun hc => ?_, fun hc => ?_⟩
          · have fsucc : rchs v (k + 1) = some j := by rw [fsucc]; exact if_pos hc
            rw [fsucc] at hn
            rintro x rfl
            rw [nI_1]; exact hn
          · have fsucc : rchs v (k + 1) = some k := by rw [fsucc]; exact if_neg hc
            rw [fsucc] at hn
            rintro x rfl
            rw [nI_1]; exact hn
  obtain ⟨n, hn⟩ := L th 0 (by omega)
  exact ⟨n, hn⟩
theorem pr_rich (C : cXY th bo fa ye wh bound things fades rows hill now) : ∃ r : Int32, (∀ Q : Int32 → Prop, Q r → q_X6_rich bound things rows fades Q) ∧ (∀ Q : Int32 → Prop, Q r → q_X7_rich hill now Q) :=
  ⟨_, fun _ h => s_rich C.1 h, fun _ h => s_rich7 C.2 h⟩
end XY

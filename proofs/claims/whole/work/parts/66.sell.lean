/-! ===== sell ===== -/
/-- of the first k things so many are not called, y years from now -/
def ntc (bo : Nat) (fa ye wh : Nat → Nat) (y : Nat) : Nat → Nat
  | 0 => 0
  | k + 1 => ntc bo fa ye wh y k + (if cal bo (ye k - y * fa k) (wh k) then 0 else 1)
theorem ntc_le (bo : Nat) (fa ye wh : Nat → Nat) (y : Nat) : ∀ k, ntc bo fa ye wh y k ≤ k
  | 0 => Nat.le_refl _
  | k + 1 => by
    have ih := ntc_le bo fa ye wh y k
    unfold ntc
    split <;> omega
def prc (th bo : Nat) (fa ye wh wo : Nat → Nat) (t y : Nat) : Nat := if cal bo (ye t - y * fa t) (wh t) then wo t * (1 + ntc bo fa ye wh y th) else 0
def bsy (v : Nat → Nat) : Nat → Nat × Nat
  | 0 => (0, v 0)
  | k + 1 => if v (k + 1) ≤ (bsy v k).2 then bsy v k else (k + 1, v (k + 1))
section XY
variable {th bo : Nat} {fa ye wh wo : Nat → Nat} {bound things : Int32} {fades rows hill now worth : Nat → Int32} {t : Nat} {p p1 p2 p3 : Int32} {Q : Int32 → Prop}
theorem s_price (X : cX th bo fa ye wh bound things fades rows) (hw : ∀ t, t < th → wo t ≤ 99 ∧ worth t = nI (wo t)) (ht : t < th) {y : Nat} (hy : y ≤ 60) (h : Q (nI (prc th bo fa ye wh wo t y))) : q_X6_priceAfter bound things rows fades worth (nI t) (nI y) Q := by
  have h6 := X.1
  have eth := X.2.2.2.2.1
  unfold prc at h
  cases hc : cal bo (ye t - y * fa t) (wh t) with
  | false =>
    rw [hc, if_neg (by decide)] at h
    refine ⟨0, ?_⟩
    unfold F_X6_priceAfter_e
    refine s_calledAfter X ht (by omega) ?_
    rw [hc]; exact p_m rfl h
  | true =>
    rw [hc, if_pos rfl] at h
    have L : ∀ d k : Nat, k + d = th → ∃ n, wp_X6_priceAfter bound things rows fades worth (nI t) (nI y) Q n 16 (nI (ntc bo fa ye wh y k)) (nI k) 0 0 := by
      intro d
      induction d with
      | zero =>
        intro k hk
        have hk : k = th := by omega
        subst hk
        refine ⟨1, ?_⟩
        show F_X6_priceAfter_16 bound things rows fades worth (nI t) (nI y) Q (wp_X6_priceAfter bound things rows fades worth (nI t) (nI y) Q 0) (nI (ntc bo fa ye wh y k)) (nI k) 0 0
        unfold F_X6_priceAfter_16
        rw [eth]
        refine br_t (Int32.le_refl _) ⟨vp_nI (by omega) (by decide), ?_⟩
        rw [nI_clamp (by omega), (hw t ht).2, show (1 : Int32) + nI (ntc bo fa ye wh y k) = nI (1 + ntc bo fa ye wh y k) from nI_add 1 _, pk_mul]
        exact h
      | succ d ih =>
        intro k hk
        obtain ⟨n, hn⟩ := ih (k + 1) (by omega)
        have g44 : ∀ b : Bool, cal bo (ye k - y * fa k) (wh k) = b → wp_X6_priceAfter bound things rows fades worth (nI t) (nI y) Q (n + 1) 44 0 (nI k) (bI (!b)) (nI (ntc bo fa ye wh y k)) := by
          intro b hb
          show F_X6_priceAfter_44 bound things rows fades worth (nI t) (nI y) Q (wp_X6_priceAfter bound things rows fades worth (nI t) (nI y) Q n) 0 (nI k) (bI (!b)) (nI (ntc bo fa ye wh y k))
          unfold F_X6_priceAfter_44 q_X6_oneIf F_X6_oneIf_e
          have e : ntc bo fa ye wh y (k + 1) = ntc bo fa ye wh y k + (if b then 0 else 1) := by rw [← hb]; rfl
          cases b
          · refine br_f (by decide) ?_
            rintro x rfl z rfl
            rw [e] at hn
            rw [nI_1 k, show nI (ntc bo fa ye wh y k) + 1 = nI (ntc bo fa ye wh y k + 1) from nI_1 _]; exact hn
          · refine br_t rfl ?_
            rintro x rfl z rfl
            rw [e] at hn
            rw [nI_1 k, show nI (ntc bo fa ye wh y k) + 0 = nI (ntc bo fa ye wh y k + 0) from nI_add _ 0]; exact hn
        refine ⟨n + 2, ?_⟩
        show F_X6_priceAfter_16 bound things rows fades worth (nI t) (nI y) Q (wp_X6_priceAfter bound things rows fades worth (nI t) (nI y) Q (n + 1)) (nI (ntc bo fa ye wh y k)) (nI k) 0 0
        unfold F_X6_priceAfter_16
        refine br_f (by rw [eth]; exact nI_ge (by omega) (by omega)) (s_calledAfter X (by omega) (by omega) ?_)
        cases hck : cal bo (ye k - y * fa k) (wh k) with
        | false => exact p_m rfl (g44 false hck)
        | true => exact p_n (by decide) (g44 true hck)
    obtain ⟨n, hn⟩ := L th 0 (by omega)
    refine ⟨n, ?_⟩
    unfold F_X6_priceAfter_e
    refine s_calledAfter X ht (by omega) ?_
    rw [hc]; exact p_n (by decide) hn
theorem prc_le (hwo : wo t ≤ 99) (h6 : th ≤ 6) (y : Nat) : prc th bo fa ye wh wo t y ≤ 99 * 7 := by
  unfold prc
  split
  · exact Nat.mul_le_mul hwo (by have := ntc_le bo fa ye wh y th; omega)
  · omega
theorem bsy_le {v : Nat → Nat} {B : Nat} (hv : ∀ k, v k ≤ B) : ∀ k, (bsy v k).1 ≤ k ∧ (bsy v k).2 ≤ B
  | 0 => ⟨Nat.le_refl _, hv 0⟩
  | k + 1 => by
    have ih := bsy_le hv k
    unfold bsy
    split
    · exact ⟨by omega, ih.2⟩
    · exact ⟨Nat.le_refl _, hv _⟩
theorem s_sell (X : cX th bo fa ye wh bound things fades rows) (hw : ∀ t, t < th → wo t ≤ 99 ∧ worth t = nI (wo t)) (ht : t < th) {n w : Nat} (hn : n ≤ 60) (hw1 : w ≤ 1) (h : Q (if w = 0 then nI (bsy (prc th bo fa ye wh wo t) n).1 else nI (bsy (prc th bo fa ye wh wo t) n).2)) : q_X6_sell bound things rows fades worth (nI t) (nI n) (nI w) Q := by
  have h6 := X.1
  have hB : ∀ k, prc th bo fa ye wh wo t k ≤ 693 := fun k => prc_le (hw t ht).1 h6 k
  have L : ∀ d k : Nat, k + d = n → ∃ i, wp_X6_sell bound things rows fades worth (nI t) (nI n) (nI w) Q i 43 (nI (bsy (prc th bo fa ye wh wo t) k).1) (nI (bsy (prc th bo fa ye wh wo t) k).2) (nI (k + 1)) := by
    intro d
    induction d with
    | zero =>
      intro k hk
      have hk : k = n := by omega
      subst hk
      refine ⟨1, ?_⟩
      show F_X6_sell_43 bound things rows fades worth (nI t) (nI k) (nI w) Q (wp_X6_sell bound things rows fades worth (nI t) (nI k) (nI w) Q 0) (nI (bsy (prc th bo fa ye wh wo t) k).1) (nI (bsy (prc th bo fa ye wh wo t) k).2) (nI (k + 1))
      unfold F_X6_sell_43
      refine br_t (nI_lt (by omega) (by omega)) ?_
      rcases (show w = 0 ∨ w = 1 by omega) with rfl | rfl
      · exact p_m rfl h
      · exact p_n (by decide) h
    | succ d ih =>
      intro k hk
      obtain ⟨i, hi⟩ := ih (k + 1) (by omega)
      refine ⟨i + 1, ?_⟩
      show F_X6_sell_43 bound things rows fades worth (nI t) (nI n) (nI w) Q (wp_X6_sell bound things rows fades worth (nI t) (nI n) (nI w) Q i) (nI (bsy (prc th bo fa ye wh wo t) k).1) (nI (bsy (prc th bo fa ye wh wo t) k).2) (nI (k + 1))
      unfold F_X6_sell_43
      refine br_f (nI_nlt (by omega) (by omega)) (s_price X hw ht (by omega) ?_)
      have e : bsy (prc th bo fa ye wh wo t) (k + 1) = if prc th bo fa ye wh wo t (k + 1) ≤ (bsy (prc th bo fa ye wh wo t) k).2 then bsy (prc th bo fa ye wh wo t) k else (k + 1, prc th bo fa ye wh wo t (k + 1)) := rfl
      have hb2 := (bsy_le hB k).2
      have hb3 := hB (k + 1)
      refine ⟨fun q => ?_, fun q => ?_⟩
      · rw [if_pos ((nI_leI (by omega) (by omega)).mp q)] at e
        rw [e] at hi
        rintro x rfl
        rw [nI_1]; exact hi
      · rw [if_neg (fun z => q (nI_le z (by omega)))] at e
        rw [e] at hi
        rintro x rfl
        rw [nI_1]; exact hi
  obtain ⟨i, hi⟩ := L n 0 (by omega)
  refine ⟨i, ?_⟩
  unfold F_X6_sell_e
  refine s_isThing X.2.2.2.2.1 ?_
  rw [isT_nI (by omega) ht]
  refine br_f (by decide) (s_within ?_)
  rw [show decide ((0 : Int32) ≤ nI n ∧ nI n ≤ 60) = true from inR_nI (by decide) hn]
  refine br_f (by decide) (s_within ?_)
  rw [show decide ((0 : Int32) ≤ nI w ∧ nI w ≤ 1) = true from inR_nI (by decide) hw1]
  exact p_n (by decide) (s_price (y := 0) X hw ht (by omega) hi)
theorem s_worth7 (h6 : th ≤ 6) (hw : ∀ t, t < th → hill (25 + 4 * t) = nI (wo t)) (ht : t < th) (h : Q (nI (wo t))) : q_X7_worth hill (nI t) Q := by
  unfold q_X7_worth F_X7_worth_e
  have e : (22 : Int32) + (4 : Int32) * nI t + 3 = nI (25 + 4 * t) := by
    rw [show (4 : Int32) * nI t = nI (4 * t) from pk_mul 4 t, show (22 : Int32) + nI (4 * t) = nI (22 + 4 * t) from nI_add 22 _, show nI (22 + 4 * t) + 3 = nI (22 + 4 * t + 3) from nI_add _ 3]
    congr 1; omega
  rw [e, nI_clamp (by omega), hw t ht]
  exact ⟨vp_nI (by omega) (by decide), h⟩
theorem s_sell7 (Y : cY th bo fa ye wh hill now) (hw : ∀ t, t < th → wo t ≤ 99 ∧ hill (25 + 4 * t) = nI (wo t)) (ht : t < th) {n w : Nat} (hn : n ≤ 60) (hw1 : w ≤ 1) (h : Q (if w = 0 then nI (bsy (prc th bo fa ye wh wo t) n).1 else nI (bsy (prc th bo fa ye wh wo t) n).2)) : q_X7_sell hill now (nI t) (nI n) (nI w) Q := by
  have h6 := Y.1
  have eth := Y.2.2.2.1
  have hB : ∀ k, prc th bo fa ye wh wo t k ≤ 693 := fun k => prc_le (hw t ht).1 h6 k
  generalize hG : wp_X7_sell hill now (nI t) (nI n) (nI w) Q = G
  have G0 : ∀ (i tg : Nat) (x4 x5 x6 x7 x8 k0 : Int32), G (i + 1) tg x4 x5 x6 x7 x8 k0 = wp_X7_sell hill now (nI t) (nI n) (nI w) Q (i + 1) tg x4 x5 x6 x7 x8 k0 := by intros; rw [hG]
  -- one year's price, then the comparison
  have inner : ∀ (x4 x5 : Int32) (y : Nat), y ≤ 60 → (∃ i, G i 117 x4 x5 (nI y) 0 0 (nI (prc th bo fa ye wh wo t y))) → ∀ d k : Nat, k + d = th → ∃ i, G i 53 x4 x5 (nI y) (nI (ntc bo fa ye wh y k)) (nI k) 0 := by
    intro x4 x5 y hy h117 d
    induction d with
    | zero =>
      intro k hk
      have hk : k = th := by omega
      subst hk
      obtain ⟨i, hi⟩ := h117
      refine ⟨i + 1, ?_⟩
      rw [G0]
      show F_X7_sell_53 hill now (nI t) (nI n) (nI w) Q (wp_X7_sell hill now (nI t) (nI n) (nI w) Q i) x4 x5 (nI y) (nI (ntc bo fa ye wh y k)) (nI k) 0
      rw [hG]
      unfold F_X7_sell_53
      rw [show ((2 : Int32)).toNatClampNeg = 2 from rfl, eth]
      refine br_t (Int32.le_refl _) (s_isThen7 (m := 0) Y ht (by omega) (by omega) ?_)
      rw [Nat.add_zero]
      unfold prc at hi
      cases hc : cal bo (ye t - y * fa t) (wh t) with
      | false =>
        rw [hc, if_neg (by decide)] at hi
        exact br_t rfl hi
      | true =>
        rw [hc, if_pos rfl] at hi
        refine br_f (by decide) (s_worth7 h6 (fun t ht => (hw t ht).2) ht ?_)
        rw [show (1 : Int32) + nI (ntc bo fa ye wh y k) = nI (1 + ntc bo fa ye wh y k) from nI_add 1 _, pk_mul]
        exact hi
    | succ d ih =>
      intro k hk
      obtain ⟨i, hi⟩ := ih (k + 1) (by omega)
      refine ⟨i + 1, ?_⟩
      rw [G0]
      show F_X7_sell_53 hill now (nI t) (nI n) (nI w) Q (wp_X7_sell hill now (nI t) (nI n) (nI w) Q i) x4 x5 (nI y) (nI (ntc bo fa ye wh y k)) (nI k) 0
      rw [hG]
      unfold F_X7_sell_53
      rw [show ((2 : Int32)).toNatClampNeg = 2 from rfl, eth]
      refine br_f (nI_ge (by omega) (by omega)) (s_isThen7 (m := 0) Y (by omega) (by omega) (by omega) ?_)
      rw [Nat.add_zero]
      have e : ntc bo fa ye wh y (k + 1) = ntc bo fa ye wh y k + (if cal bo (ye k - y * fa k) (wh k) then 0 else 1) := rfl
      cases hc : cal bo (ye k - y * fa k) (wh k) with
      | false =>
        rw [hc] at e
        rw [e] at hi
        refine br_t rfl ?_
        rintro x rfl z rfl
        rw [nI_1 k, show nI (ntc bo fa ye wh y k) + 1 = nI (ntc bo fa ye wh y k + 1) from nI_1 _]; exact hi
      | true =>
        rw [hc] at e
        rw [e] at hi
        refine br_f (by decide) ?_
        rintro x rfl z rfl
        rw [nI_1 k, show nI (ntc bo fa ye wh y k) + 0 = nI (ntc bo fa ye wh y k + 0) from nI_add _ 0]; exact hi
  have year : ∀ (b4 : Int32) (x5 : Int32) (y : Nat), y ≤ n → ∀ (c4 c5 : Nat), (nI (prc th bo fa ye wh wo t y) ≤ x5 → b4 = nI c4 ∧ x5 = nI c5) → (¬ nI (prc th bo fa ye wh wo t y) ≤ x5 → y = c4 ∧ prc th bo fa ye wh wo t y = c5) → (∃ i, G i 41 (nI c4) (nI c5) (nI (y + 1)) 0 0 0) → ∃ i, G i 41 b4 x5 (nI y) 0 0 0 := by
    intro b4 x5 y hy c4 c5 hle hgt ⟨i, hi⟩
    have h133 : ∃ i, G i 117 b4 x5 (nI y) 0 0 (nI (prc th bo fa ye wh wo t y)) := by
      refine ⟨i + 2, ?_⟩
      rw [G0]
      show F_X7_sell_117 hill now (nI t) (nI n) (nI w) Q (wp_X7_sell hill now (nI t) (nI n) (nI w) Q (i + 1)) b4 x5 (nI y) 0 0 (nI (prc th bo fa ye wh wo t y))
      unfold F_X7_sell_117
      refine ⟨fun q => ?_, fun q => ?_⟩
      · show F_X7_sell_133 hill now (nI t) (nI n) (nI w) Q (wp_X7_sell hill now (nI t) (nI n) (nI w) Q i) 0 x5 (nI y) 0 (nI (prc th bo fa ye wh wo t y)) b4
        unfold F_X7_sell_133
        refine br_t q ?_
        rintro x rfl
        obtain ⟨e1, e2⟩ := hle q
        rw [hG, nI_1, e1, e2]; exact hi
      · show F_X7_sell_133 hill now (nI t) (nI n) (nI w) Q (wp_X7_sell hill now (nI t) (nI n) (nI w) Q i) 0 x5 (nI y) 0 (nI (prc th bo fa ye wh wo t y)) (nI y)
        unfold F_X7_sell_133
        refine br_f q ?_
        rintro x rfl
        obtain ⟨e1, e2⟩ := hgt q
        rw [hG, nI_1, e2]
        rw [← e1] at hi; exact hi
    obtain ⟨i, hi⟩ := inner b4 x5 y (by omega) h133 th 0 (by omega)
    refine ⟨i + 1, ?_⟩
    rw [G0]
    show F_X7_sell_41 hill now (nI t) (nI n) (nI w) Q (wp_X7_sell hill now (nI t) (nI n) (nI w) Q i) b4 x5 (nI y) 0 0 0
    rw [hG]
    unfold F_X7_sell_41
    exact br_f (nI_nlt hy (by omega)) hi
  have L : ∀ d k : Nat, k + d = n → ∃ i, G i 41 (nI (bsy (prc th bo fa ye wh wo t) k).1) (nI (bsy (prc th bo fa ye wh wo t) k).2) (nI (k + 1)) 0 0 0 := by
    intro d
    induction d with
    | zero =>
      intro k hk
      have hk : k = n := by omega
      subst hk
      refine ⟨1, ?_⟩
      rw [G0]
      show F_X7_sell_41 hill now (nI t) (nI k) (nI w) Q (wp_X7_sell hill now (nI t) (nI k) (nI w) Q 0) (nI (bsy (prc th bo fa ye wh wo t) k).1) (nI (bsy (prc th bo fa ye wh wo t) k).2) (nI (k + 1)) 0 0 0
      unfold F_X7_sell_41
      refine br_t (nI_lt (by omega) (by omega)) ?_
      rcases (show w = 0 ∨ w = 1 by omega) with rfl | rfl
      · exact p_m rfl h
      · exact p_n (by decide) h
    | succ d ih =>
      intro k hk
      have hb2 := (bsy_le hB k).2
      have hb3 := hB (k + 1)
      have e : bsy (prc th bo fa ye wh wo t) (k + 1) = if prc th bo fa ye wh wo t (k + 1) ≤ (bsy (prc th bo fa ye wh wo t) k).2 then bsy (prc th bo fa ye wh wo t) k else (k + 1, prc th bo fa ye wh wo t (k + 1)) := rfl
      refine year _ _ (k + 1) (by omega) (bsy (prc th bo fa ye wh wo t) (k + 1)).1 (bsy (prc th bo fa ye wh wo t) (k + 1)).2 (fun q => ?_) (fun q => ?_) (ih (k + 1) (by omega))
      · rw [if_pos ((nI_leI (by omega) (by omega)).mp q)] at e
        rw [e]; exact ⟨rfl, rfl⟩
      · rw [if_neg (fun z => q (nI_le z (by omega)))] at e
        rw [e]; exact ⟨rfl, rfl⟩
  have first : ∃ i, G i 41 0 (-1) (nI 0) 0 0 0 := by
    refine year 0 (-1) 0 (by omega) 0 (prc th bo fa ye wh wo t 0) (fun q => ?_) (fun _ => ⟨rfl, rfl⟩) (L n 0 (by omega))
    exact absurd (Int32.le_trans (nI_pos' (n := prc th bo fa ye wh wo t 0) (by have := hB 0; omega)) q) (by decide)
  obtain ⟨i, hi⟩ := first
  rw [← hG] at hi
  refine ⟨i, ?_⟩
  unfold F_X7_sell_e
  refine s_isThing7 eth ?_
  rw [isT_nI (by omega) ht]
  refine br_f (by decide) (s_in (b := 0) (c := 60) rfl rfl ?_)
  rw [show decide ((0 : Int32) ≤ nI n ∧ nI n ≤ 60) = true from inR_nI (by decide) hn]
  refine br_f (by decide) (s_in (b := 0) (c := 1) rfl rfl ?_)
  rw [show decide ((0 : Int32) ≤ nI w ∧ nI w ≤ 1) = true from inR_nI (by decide) hw1]
  exact p_n (by decide) hi
theorem pr_sell (C : cXY th bo fa ye wh bound things fades rows hill now) (hw : ∀ t, t < th → wo t ≤ 99 ∧ worth t = nI (wo t) ∧ hill (25 + 4 * t) = nI (wo t)) : ∃ r : Int32, (∀ Q : Int32 → Prop, Q r → q_X6_sell bound things rows fades worth p p1 p2 Q) ∧ (∀ Q : Int32 → Prop, Q r → q_X7_sell hill now p p1 p2 Q) := by
  obtain ⟨X, Y⟩ := C
  have h6 := X.1
  by_cases hp : isT p th = true
  · obtain ⟨k, hk, rfl⟩ := isT_t (by omega) hp
    by_cases hn : inR p1 60 = true
    · obtain ⟨n, hn2, rfl⟩ := inR_t (by decide) hn
      by_cases hv : inR p2 1 = true
      · obtain ⟨w, hw2, rfl⟩ := inR_t (by decide) hv
        exact ⟨_, fun Q h => s_sell X (fun t ht => ⟨(hw t ht).1, (hw t ht).2.1⟩) hk hn2 hw2 h, fun Q h => s_sell7 Y (fun t ht => ⟨(hw t ht).1, (hw t ht).2.2⟩) hk hn2 hw2 h⟩
      · have hv : inR p2 1 = false := by simpa using hv
        refine ⟨-1, fun Q h => ⟨0, ?_⟩, fun Q h => ⟨0, ?_⟩⟩
        · unfold F_X6_sell_e
          refine s_isThing X.2.2.2.2.1 ?_
          rw [hp]
          refine br_f (by decide) (s_within ?_)
          rw [show decide ((0 : Int32) ≤ nI n ∧ nI n ≤ 60) = true from hn]
          refine br_f (by decide) (s_within ?_)
          rw [show decide ((0 : Int32) ≤ p2 ∧ p2 ≤ 1) = false from hv]
          exact p_m rfl h
        · unfold F_X7_sell_e
          refine s_isThing7 Y.2.2.2.1 ?_
          rw [hp]
          refine br_f (by decide) (s_in (b := 0) (c := 60) rfl rfl ?_)
          rw [show decide ((0 : Int32) ≤ nI n ∧ nI n ≤ 60) = true from hn]
          refine br_f (by decide) (s_in (b := 0) (c := 1) rfl rfl ?_)
          rw [show decide ((0 : Int32) ≤ p2 ∧ p2 ≤ 1) = false from hv]
          exact p_m rfl h
    · have hn : inR p1 60 = false := by simpa using hn
      refine ⟨-1, fun Q h => ⟨0, ?_⟩, fun Q h => ⟨0, ?_⟩⟩
      · unfold F_X6_sell_e
        refine s_isThing X.2.2.2.2.1 ?_
        rw [hp]
        refine br_f (by decide) (s_within ?_)
        rw [show decide ((0 : Int32) ≤ p1 ∧ p1 ≤ 60) = false from hn]
        exact br_t rfl h
      · unfold F_X7_sell_e
        refine s_isThing7 Y.2.2.2.1 ?_
        rw [hp]
        refine br_f (by decide) (s_in (b := 0) (c := 60) rfl rfl ?_)
        rw [show decide ((0 : Int32) ≤ p1 ∧ p1 ≤ 60) = false from hn]
        exact br_t rfl h
  · have hp : isT p th = false := by simpa using hp
    refine ⟨-1, fun Q h => ⟨0, ?_⟩, fun Q h => ⟨0, ?_⟩⟩
    · unfold F_X6_sell_e
      refine s_isThing X.2.2.2.2.1 ?_
      rw [hp]; exact br_t rfl h
    · unfold F_X7_sell_e
      refine s_isThing7 Y.2.2.2.1 ?_
      rw [hp]; exact br_t rfl h
end XY

/-! ===== kept, the reference ===== -/
section XY
variable {th bo lo st : Nat} {fa ye wh wo : Nat → Nat} {bound things loss : Int32} {fades rows hill now worth need : Nat → Int32}
theorem lf0_pos {nd : Nat → Int32} {sc : Nat → Nat} {st th : Nat} (hs : ∀ t, t < th → sc t ≤ 999) (hst : st ≤ 1000000) (h6 : th ≤ 6) : ¬ lfI nd sc st 0 th < 0 := by
  have : ∀ k, k ≤ th → ∃ z : Nat, z ≤ 1000000 + 999 * k ∧ lfI nd sc st 0 k = nI z := by
    intro k
    induction k with
    | zero => intro _; exact ⟨st, by omega, rfl⟩
    | succ k ih =>
      intro hk
      obtain ⟨z, hz, e⟩ := ih (by omega)
      refine ⟨z + sc k, by have := hs k (by omega); omega, ?_⟩
      unfold lfI
      rw [Nat.zero_testBit, if_neg (by decide), e, nI_add]
  obtain ⟨z, hz, e⟩ := this th (Nat.le_refl _)
  rw [e]
  exact nI_pos (by omega)
theorem s_kept7 (Y : cY th bo fa ye wh hill now) (hst : now 1 = nI st) (hst2 : st ≤ 1000000) (hl : hill 4 = nI lo) (hlo : lo ≤ 10) (hw : ∀ t, t < th → wo t ≤ 99 ∧ hill (25 + 4 * t) = nI (wo t)) {n w : Nat} (hn : n ≤ 99) (hw2 : w ≤ 2) : ∃ u : Nat → Int32, ∀ Q : Int32 → (Nat → Int32) → Prop, Q (if w = 0 then nI (bkp (fun t => nee bo (ye t) (wh t) (fa t) n) (fun t => scr (ye t) lo) wo st th (2 ^ th)).1 else if w = 1 then nI (bkp (fun t => nee bo (ye t) (wh t) (fa t) n) (fun t => scr (ye t) lo) wo st th (2 ^ th)).2 else lfI (fun t => nee bo (ye t) (wh t) (fa t) n) (fun t => scr (ye t) lo) st (bkp (fun t => nee bo (ye t) (wh t) (fa t) n) (fun t => scr (ye t) lo) wo st th (2 ^ th)).1 th) u → q_X7_kept hill now need (nI n) (nI w) Q := by
  have h6 := Y.1
  have eth := Y.2.2.2.1
  have h64 := p64 h6
  have hpos : 0 < 2 ^ th := Nat.pow_pos (by decide)
  have hy : ∀ t, t < th → ye t ≤ 999 := fun t ht => (Y.2.2.2.2.2 t ht).2.1
  generalize hnd : (fun t => nee bo (ye t) (wh t) (fa t) n) = nd
  generalize hsc : (fun t => scr (ye t) lo) = sc
  have hnd2 : ∀ t, nee bo (ye t) (wh t) (fa t) n = nd t := fun t => by rw [← hnd]
  have hsc2 : ∀ t, scr (ye t) lo = sc t := fun t => by rw [← hsc]
  have hsc3 : ∀ t, t < th → sc t ≤ 999 := fun t ht => by rw [← hsc2]; unfold scr; have := hy t ht; omega
  let NK : Nat → Nat → Int32 := ups (fun t => t) nd need
  have hNK : ∀ t, t < th → NK th t = nd t := fun t ht => ups_in (ix := fun t => t) (fun _ _ e => e) th ht
  refine ⟨NK th, fun Q h => ?_⟩
  generalize hB : bkp nd sc wo st th = bk at h
  have bs : ∀ s, bk (s + 1) = if wSm wo s th ≤ (bk s).2 then bk s else if canK nd sc st th s then (s, wSm wo s th) else bk s := fun s => by rw [← hB]; rfl
  have b2 : ∀ s, (bk s).2 ≤ 594 := fun s => by
    rw [← hB, (bkp_ok s).2]
    have := wSm_le (wo := wo) (fun t ht => (hw t ht).1) (bkp nd sc wo st th s).1 th (Nat.le_refl _)
    omega
  have b1 : ∀ s, (bk s).1 ≤ s := fun s => by rw [← hB]; exact (bkp_ok s).1
  have b0 : bk 0 = (0, 0) := by rw [← hB]; rfl
  generalize hG : wp_X7_kept hill now (nI n) (nI w) Q = G
  have GS : ∀ i tg x3 x4 x5 x6 x7 x8 x9 x10 x11 k0 k1 nd', G (i + 1) tg x3 x4 x5 x6 x7 x8 x9 x10 x11 k0 k1 nd' = wp_X7_kept hill now (nI n) (nI w) Q (i + 1) tg x3 x4 x5 x6 x7 x8 x9 x10 x11 k0 k1 nd' := by intros; rw [hG]
  -- one thing of one set
  have inner : ∀ (s : Nat) (x3 x4 x5 : Int32), s < 64 → (∃ i, G i 97 x3 x4 x5 (nI s) (lfI nd sc st s th) (nI (wSm wo s th)) (bI (okS nd s th)) (nI th) 0 0 0 (NK th)) → ∀ d k : Nat, k + d = th → ∃ i, G i 97 x3 x4 x5 (nI s) (lfI nd sc st s k) (nI (wSm wo s k)) (bI (okS nd s k)) (nI k) 0 0 0 (NK th) := by
    intro s x3 x4 x5 hs hend d
    induction d with
    | zero =>
      intro k hk
      have hk : k = th := by omega
      subst hk
      exact hend
    | succ d ih =>
      intro k hk
      obtain ⟨i, hi⟩ := ih (k + 1) (by omega)
      have eW : wSm wo s (k + 1) = wSm wo s k + (if s.testBit k then wo k else 0) := rfl
      have eL : lfI nd sc st s (k + 1) = if s.testBit k then lfI nd sc st s k - nd k else lfI nd sc st s k + nI (sc k) := rfl
      have eO : okS nd s (k + 1) = (okS nd s k && (!s.testBit k || decide (¬ nd k = -9))) := rfl
      have hne : NK th k = nd k := hNK k (by omega)
      have h179 : G (i + 1) 179 x3 x4 x5 (nI s) 0 (nI (wSm wo s k)) (bI (okS nd s (k + 1))) (nI k) (bI (s.testBit k)) (if s.testBit k then -nd k else nI (sc k)) (lfI nd sc st s k) (NK th) := by
        rw [GS]
        show F_X7_kept_179 hill now (nI n) (nI w) Q (wp_X7_kept hill now (nI n) (nI w) Q i) x3 x4 x5 (nI s) 0 (nI (wSm wo s k)) (bI (okS nd s (k + 1))) (nI k) (bI (s.testBit k)) (if s.testBit k then -nd k else nI (sc k)) (lfI nd sc st s k) (NK th)
        rw [hG]
        unfold F_X7_kept_179
        rintro x rfl
        cases hb : s.testBit k with
        | false =>
          rw [hb, if_neg (by decide)] at eL eW
          refine br_t rfl ?_
          rintro y rfl z rfl
          rw [if_neg (by decide), nI_1 k, show nI (wSm wo s k) + 0 = nI (wSm wo s k + 0) from nI_add _ 0, ← eL, ← eW]; exact hi
        | true =>
          rw [hb, if_pos rfl] at eL eW
          refine br_f (by decide) (s_worth7 h6 (fun t ht => (hw t ht).2) (by omega) ?_)
          rintro y rfl z rfl
          rw [if_pos rfl, nI_1 k, nI_add, ← Int32.sub_eq_add_neg, ← eL, ← eW]; exact hi
      have h153 : G (i + 2) 153 x3 x4 x5 (nI s) (lfI nd sc st s k) (nI (wSm wo s k)) 0 (nI k) (bI (s.testBit k)) (bI (okS nd s (k + 1))) 0 (NK th) := by
        rw [GS]
        show F_X7_kept_153 hill now (nI n) (nI w) Q (wp_X7_kept hill now (nI n) (nI w) Q (i + 1)) x3 x4 x5 (nI s) (lfI nd sc st s k) (nI (wSm wo s k)) 0 (nI k) (bI (s.testBit k)) (bI (okS nd s (k + 1))) 0 (NK th)
        rw [hG]
        unfold F_X7_kept_153
        cases hb : s.testBit k with
        | false =>
          rw [hb, if_neg (by decide)] at h179
          refine br_t rfl (s_scraped7 Y hl hlo (by omega) ?_)
          rw [hsc2]; exact h179
        | true =>
          rw [hb, if_pos rfl] at h179
          refine br_f (by decide) ⟨vp_nI (by omega) (by decide), ?_⟩
          rw [nI_clamp (by omega), hne]; exact h179
      have h148 : okS nd s (k + 1) = true → G (i + 3) 148 x3 x4 x5 (nI s) (lfI nd sc st s k) (nI (wSm wo s k)) 0 (nI k) (bI (s.testBit k)) 0 0 (NK th) := by
        intro e
        rw [GS]
        show F_X7_kept_148 hill now (nI n) (nI w) Q (wp_X7_kept hill now (nI n) (nI w) Q (i + 2)) x3 x4 x5 (nI s) (lfI nd sc st s k) (nI (wSm wo s k)) 0 (nI k) (bI (s.testBit k)) 0 0 (NK th)
        rw [hG]
        unfold F_X7_kept_148
        rw [e] at h153; exact h153
      have h152 : okS nd s (k + 1) = false → G (i + 3) 152 x3 x4 x5 (nI s) (lfI nd sc st s k) (nI (wSm wo s k)) 0 (nI k) (bI (s.testBit k)) 0 0 (NK th) := by
        intro e
        rw [GS]
        show F_X7_kept_152 hill now (nI n) (nI w) Q (wp_X7_kept hill now (nI n) (nI w) Q (i + 2)) x3 x4 x5 (nI s) (lfI nd sc st s k) (nI (wSm wo s k)) 0 (nI k) (bI (s.testBit k)) 0 0 (NK th)
        rw [hG]
        unfold F_X7_kept_152
        rw [e] at h153; exact h153
      have h124 : G (i + 4) 124 x3 x4 x5 (nI s) (lfI nd sc st s k) (nI (wSm wo s k)) (bI (okS nd s k)) (nI k) 0 (bI (s.testBit k)) 0 (NK th) := by
        rw [GS]
        show F_X7_kept_124 hill now (nI n) (nI w) Q (wp_X7_kept hill now (nI n) (nI w) Q (i + 3)) x3 x4 x5 (nI s) (lfI nd sc st s k) (nI (wSm wo s k)) (bI (okS nd s k)) (nI k) 0 (bI (s.testBit k)) 0 (NK th)
        rw [hG]
        unfold F_X7_kept_124
        refine p_z (fun hc => ?_) (fun hc => p_z (fun hb => ?_) (fun hb => ⟨vp_nI (by omega) (by decide), ?_⟩))
        · rw [hc, Bool.false_and] at eO
          exact h152 eO
        · rw [hc, hb] at eO
          exact h148 eO
        · rw [nI_clamp (by omega), hne]
          refine ⟨fun q => ?_, fun q => ?_⟩
          · rw [hc, hb, decide_eq_false (fun z => z q)] at eO
            exact h152 eO
          · rw [hc, hb, decide_eq_true q] at eO
            exact h148 eO
      refine ⟨i + 5, ?_⟩
      rw [GS]
      show F_X7_kept_97 hill now (nI n) (nI w) Q (wp_X7_kept hill now (nI n) (nI w) Q (i + 4)) x3 x4 x5 (nI s) (lfI nd sc st s k) (nI (wSm wo s k)) (bI (okS nd s k)) (nI k) 0 0 0 (NK th)
      rw [hG]
      unfold F_X7_kept_97
      rw [c2, eth]
      refine br_f (nI_ge (by omega) (by omega)) ?_
      cases hb : s.testBit k with
      | false =>
        rw [hb] at h124
        exact p_n (fun q => by rw [(bit1 (by omega) (by omega)).mp q] at hb; cases hb) h124
      | true =>
        rw [hb] at h124
        exact p_m ((bit1 (by omega) (by omega)).mpr hb) h124
  -- the end of one set
  have after : ∀ (s : Nat) (x3 x4 x5 a3 a4 a5 : Int32), s < 64 → ((okS nd s th = true ∧ ¬ lfI nd sc st s th < 0 ∧ ¬ nI (wSm wo s th) ≤ x4) → a3 = nI s ∧ a4 = nI (wSm wo s th) ∧ a5 = lfI nd sc st s th) → (¬ (okS nd s th = true ∧ ¬ lfI nd sc st s th < 0 ∧ ¬ nI (wSm wo s th) ≤ x4) → a3 = x3 ∧ a4 = x4 ∧ a5 = x5) → (∃ i, G i 67 a3 a4 a5 (nI (s + 1)) 0 0 0 0 0 0 0 (NK th)) → ∃ i, G i 97 x3 x4 x5 (nI s) (lfI nd sc st s th) (nI (wSm wo s th)) (bI (okS nd s th)) (nI th) 0 0 0 (NK th) := by
    intro s x3 x4 x5 a3 a4 a5 hs hy1 hn1 ⟨i, hi⟩
    have h230 : ∀ b : Bool, (b = true ↔ (okS nd s th = true ∧ ¬ lfI nd sc st s th < 0 ∧ ¬ nI (wSm wo s th) ≤ x4)) → G (i + 3) 230 x3 x4 x5 (nI s) (lfI nd sc st s th) (nI (wSm wo s th)) 0 0 0 (bI b) 0 (NK th) := by
      intro b hb
      rw [GS]
      show F_X7_kept_230 hill now (nI n) (nI w) Q (wp_X7_kept hill now (nI n) (nI w) Q (i + 2)) x3 x4 x5 (nI s) (lfI nd sc st s th) (nI (wSm wo s th)) 0 0 0 (bI b) 0 (NK th)
      unfold F_X7_kept_230
      cases b with
      | false =>
        obtain ⟨e3, e4, e5⟩ := hn1 (fun z => by have := hb.mpr z; cases this)
        refine br_t rfl ?_
        show F_X7_kept_243 hill now (nI n) (nI w) Q (wp_X7_kept hill now (nI n) (nI w) Q (i + 1)) 0 x4 x5 (nI s) (lfI nd sc st s th) (nI (wSm wo s th)) 0 (bI false) 0 x3 0 (NK th)
        unfold F_X7_kept_243
        refine br_t rfl ?_
        show F_X7_kept_256 hill now (nI n) (nI w) Q (wp_X7_kept hill now (nI n) (nI w) Q i) x3 x4 0 (nI s) 0 (nI (wSm wo s th)) 0 (bI false) 0 x5 0 (NK th)
        unfold F_X7_kept_256
        refine br_t rfl ?_
        rintro x rfl
        rw [hG, nI_1, ← e3, ← e4, ← e5]; exact hi
      | true =>
        obtain ⟨e3, e4, e5⟩ := hy1 (hb.mp rfl)
        refine br_f (by decide) ?_
        show F_X7_kept_243 hill now (nI n) (nI w) Q (wp_X7_kept hill now (nI n) (nI w) Q (i + 1)) 0 x4 x5 (nI s) (lfI nd sc st s th) (nI (wSm wo s th)) 0 (bI true) 0 (nI s) 0 (NK th)
        unfold F_X7_kept_243
        refine br_f (by decide) ?_
        show F_X7_kept_256 hill now (nI n) (nI w) Q (wp_X7_kept hill now (nI n) (nI w) Q i) (nI s) x4 0 (nI s) 0 (nI (wSm wo s th)) 0 (bI true) 0 (lfI nd sc st s th) 0 (NK th)
        unfold F_X7_kept_256
        refine br_f (by decide) ?_
        rintro x rfl
        rw [hG, nI_1, ← e3, ← e4, ← e5]; exact hi
    have h229 : ¬ (okS nd s th = true ∧ ¬ lfI nd sc st s th < 0 ∧ ¬ nI (wSm wo s th) ≤ x4) → G (i + 4) 229 x3 x4 x5 (nI s) (lfI nd sc st s th) (nI (wSm wo s th)) 0 0 0 0 0 (NK th) := by
      intro hno
      rw [GS]
      show F_X7_kept_229 hill now (nI n) (nI w) Q (wp_X7_kept hill now (nI n) (nI w) Q (i + 3)) x3 x4 x5 (nI s) (lfI nd sc st s th) (nI (wSm wo s th)) 0 0 0 0 0 (NK th)
      rw [hG]
      unfold F_X7_kept_229
      exact h230 false ⟨fun z => (Bool.false_ne_true z).elim, fun z => absurd z hno⟩
    by_cases hyes : okS nd s th = true ∧ ¬ lfI nd sc st s th < 0 ∧ ¬ nI (wSm wo s th) ≤ x4
    · refine ⟨i + 4, ?_⟩
      rw [GS]
      show F_X7_kept_97 hill now (nI n) (nI w) Q (wp_X7_kept hill now (nI n) (nI w) Q (i + 3)) x3 x4 x5 (nI s) (lfI nd sc st s th) (nI (wSm wo s th)) (bI (okS nd s th)) (nI th) 0 0 0 (NK th)
      rw [hG]
      unfold F_X7_kept_97
      rw [c2, eth]
      refine br_t (Int32.le_refl _) ?_
      rw [hyes.1]
      exact br_f (by decide) (br_f hyes.2.1 (br_f hyes.2.2 (h230 true ⟨fun _ => hyes, fun _ => rfl⟩)))
    · refine ⟨i + 5, ?_⟩
      rw [GS]
      show F_X7_kept_97 hill now (nI n) (nI w) Q (wp_X7_kept hill now (nI n) (nI w) Q (i + 4)) x3 x4 x5 (nI s) (lfI nd sc st s th) (nI (wSm wo s th)) (bI (okS nd s th)) (nI th) 0 0 0 (NK th)
      rw [hG]
      unfold F_X7_kept_97
      rw [c2, eth]
      exact br_t (Int32.le_refl _) (p_z (fun _ => h229 hyes) (fun hc => ⟨fun _ => h229 hyes, fun q => ⟨fun _ => h229 hyes, fun q2 => absurd ⟨hc, q, q2⟩ hyes⟩⟩))
  have one : ∀ (s : Nat) (x3 x4 x5 a3 a4 a5 : Int32), s < 2 ^ th → ((okS nd s th = true ∧ ¬ lfI nd sc st s th < 0 ∧ ¬ nI (wSm wo s th) ≤ x4) → a3 = nI s ∧ a4 = nI (wSm wo s th) ∧ a5 = lfI nd sc st s th) → (¬ (okS nd s th = true ∧ ¬ lfI nd sc st s th < 0 ∧ ¬ nI (wSm wo s th) ≤ x4) → a3 = x3 ∧ a4 = x4 ∧ a5 = x5) → (∃ i, G i 67 a3 a4 a5 (nI (s + 1)) 0 0 0 0 0 0 0 (NK th)) → ∃ i, G i 67 x3 x4 x5 (nI s) 0 0 0 0 0 0 0 (NK th) := by
    intro s x3 x4 x5 a3 a4 a5 hs hy1 hn1 hi
    obtain ⟨i, hi⟩ := inner s x3 x4 x5 (by omega) (after s x3 x4 x5 a3 a4 a5 (by omega) hy1 hn1 hi) th 0 (by omega)
    refine ⟨i + 1, ?_⟩
    rw [GS]
    show F_X7_kept_67 hill now (nI n) (nI w) Q (wp_X7_kept hill now (nI n) (nI w) Q i) x3 x4 x5 (nI s) 0 0 0 0 0 0 0 (NK th)
    rw [hG]
    unfold F_X7_kept_67
    rw [c2, eth, sh1 (by omega), c1, hst]
    refine br_f (nI_ge hs (by omega)) ?_
    rintro x rfl
    exact hi
  have L : ∀ d s : Nat, 1 ≤ s → s + d = 2 ^ th → ∃ i, G i 67 (nI (bk s).1) (nI (bk s).2) (lfI nd sc st (bk s).1 th) (nI s) 0 0 0 0 0 0 0 (NK th) := by
    intro d
    induction d with
    | zero =>
      intro s _ hs
      have hs : s = 2 ^ th := by omega
      subst hs
      refine ⟨1, ?_⟩
      rw [GS]
      show F_X7_kept_67 hill now (nI n) (nI w) Q (wp_X7_kept hill now (nI n) (nI w) Q 0) (nI (bk (2 ^ th)).1) (nI (bk (2 ^ th)).2) (lfI nd sc st (bk (2 ^ th)).1 th) (nI (2 ^ th)) 0 0 0 0 0 0 0 (NK th)
      unfold F_X7_kept_67
      rw [c2, eth, sh1 (by omega)]
      refine br_t (Int32.le_refl _) ?_
      rcases (show w = 0 ∨ w = 1 ∨ w = 2 by omega) with rfl | rfl | rfl
      · exact p_m rfl h
      · exact p_n (by decide) (p_m rfl h)
      · exact p_n (by decide) (p_n (by decide) h)
    | succ d ih =>
      intro s h1 hs
      have hwl := wSm_le (wo := wo) (fun t ht => (hw t ht).1) s th (Nat.le_refl _)
      have hb2 := b2 s
      have e := bs s
      refine one s _ _ _ (nI (bk (s + 1)).1) (nI (bk (s + 1)).2) (lfI nd sc st (bk (s + 1)).1 th) (by omega) (fun ⟨q1, q2, q3⟩ => ?_) (fun q => ?_) (ih (s + 1) (by omega) (by omega))
      · rw [if_neg (fun z => q3 (nI_le z (by omega))), show canK nd sc st th s = true by unfold canK; rw [q1, decide_eq_true q2]; rfl, if_pos rfl] at e
        rw [e]; exact ⟨rfl, rfl, rfl⟩
      · have e2 : bk (s + 1) = bk s := by
          rw [e]
          by_cases z : wSm wo s th ≤ (bk s).2
          · rw [if_pos z]
          · rw [if_neg z]
            have : canK nd sc st th s = false := by
              cases hc : canK nd sc st th s with
              | false => rfl
              | true =>
                unfold canK at hc
                rw [Bool.and_eq_true] at hc
                exact absurd ⟨hc.1, of_decide_eq_true hc.2, fun y => z ((nI_leI (by omega) (by omega)).mp y)⟩ q
            rw [this, if_neg (by decide)]
        rw [e2]; exact ⟨rfl, rfl, rfl⟩
  have e1 : bk 1 = (0, 0) := by
    have := bs 0
    rw [wSm_0, if_pos (Nat.zero_le _), b0] at this
    exact this
  have ok0 : ∀ k, okS nd 0 k = true := by
    intro k
    induction k with
    | zero => rfl
    | succ k ih => unfold okS; rw [ih, Nat.zero_testBit]; rfl
  have first : ∃ i, G i 67 0 (-1) 0 (nI 0) 0 0 0 0 0 0 0 (NK th) := by
    have L1 := L (2 ^ th - 1) 1 (Nat.le_refl _) (by omega)
    rw [e1] at L1
    refine one 0 0 (-1) 0 (nI 0) (nI 0) (lfI nd sc st 0 th) hpos (fun _ => ⟨rfl, by rw [wSm_0], rfl⟩) (fun q => ?_) L1
    exact absurd ⟨ok0 th, lf0_pos hsc3 hst2 h6, by rw [wSm_0]; decide⟩ q
  have N : ∀ d k : Nat, k + d = th → ∃ i, G i 28 (nI k) 0 0 0 0 0 0 0 0 0 0 (NK k) := by
    intro d
    induction d with
    | zero =>
      intro k hk
      have hk : k = th := by omega
      subst hk
      obtain ⟨i, hi⟩ := first
      refine ⟨i + 1, ?_⟩
      rw [GS]
      show F_X7_kept_28 hill now (nI n) (nI w) Q (wp_X7_kept hill now (nI n) (nI w) Q i) (nI k) 0 0 0 0 0 0 0 0 0 0 (NK k)
      rw [hG]
      unfold F_X7_kept_28
      rw [c2, eth]
      exact br_t (Int32.le_refl _) hi
    | succ d ih =>
      intro k hk
      obtain ⟨i, hi⟩ := ih (k + 1) (by omega)
      refine ⟨i + 1, ?_⟩
      rw [GS]
      show F_X7_kept_28 hill now (nI n) (nI w) Q (wp_X7_kept hill now (nI n) (nI w) Q i) (nI k) 0 0 0 0 0 0 0 0 0 0 (NK k)
      rw [hG]
      unfold F_X7_kept_28
      rw [c2, eth]
      refine br_f (nI_ge (by omega) (by omega)) (s_needsOf Y (by omega) hn ⟨vp_nI (by omega) (by decide), ?_⟩)
      rw [hnd2, nI_clamp (by omega)]
      rintro f rfl x rfl
      rw [nI_1]; exact hi
  obtain ⟨i, hi⟩ := N th 0 (by omega)
  rw [← hG] at hi
  refine ⟨i, ?_⟩
  unfold F_X7_kept_e
  refine s_in (b := 0) (c := 99) rfl rfl ?_
  rw [show decide ((0 : Int32) ≤ nI n ∧ nI n ≤ 99) = true from inR_nI (by decide) hn]
  refine br_f (by decide) (s_in (b := 0) (c := 2) rfl rfl ?_)
  rw [show decide ((0 : Int32) ≤ nI w ∧ nI w ≤ 2) = true from inR_nI (by decide) hw2]
  exact p_n (by decide) hi
theorem s_kept (X : cX th bo fa ye wh bound things fades rows) (hst : rows 1 = nI st) (hl : loss = nI lo) (hlo : lo ≤ 10) (hw : ∀ t, t < th → wo t ≤ 99 ∧ worth t = nI (wo t)) {n w : Nat} (hn : n ≤ 99) (hw2 : w ≤ 2) {Q : Int32 → Prop} (h : Q (if w = 0 then nI (bkp (fun t => nee bo (ye t) (wh t) (fa t) n) (fun t => scr (ye t) lo) wo st th (2 ^ th)).1 else if w = 1 then nI (bkp (fun t => nee bo (ye t) (wh t) (fa t) n) (fun t => scr (ye t) lo) wo st th (2 ^ th)).2 else lfI (fun t => nee bo (ye t) (wh t) (fa t) n) (fun t => scr (ye t) lo) st (bkp (fun t => nee bo (ye t) (wh t) (fa t) n) (fun t => scr (ye t) lo) wo st th (2 ^ th)).1 th)) : q_X6_kept bound loss things worth rows fades (nI n) (nI w) Q := by
  have h6 := X.1
  have eth := X.2.2.2.2.1
  have h64 := p64 h6
  have hb1 := bkp_ok (nd := fun t => nee bo (ye t) (wh t) (fa t) n) (sc := fun t => scr (ye t) lo) (wo := wo) (st := st) (th := th) (2 ^ th)
  have hb : (bkp (fun t => nee bo (ye t) (wh t) (fa t) n) (fun t => scr (ye t) lo) wo st th (2 ^ th)).1 < 64 := by
    have : ∀ s, (bkp (fun t => nee bo (ye t) (wh t) (fa t) n) (fun t => scr (ye t) lo) wo st th (s + 1)).1 ≤ s := by
      intro s
      induction s with
      | zero => unfold bkp; split <;> (try split) <;> first | exact Nat.le_refl _ | exact (bkp_ok 0).1
      | succ s ih =>
        unfold bkp
        split
        · omega
        · split
          · exact Nat.le_refl _
          · omega
    have h2 : 0 < 2 ^ th := Nat.pow_pos (by decide)
    have := this (2 ^ th - 1)
    rw [Nat.sub_add_cancel h2] at this
    omega
  unfold q_X6_kept F_X6_kept_e
  refine s_within ?_
  rw [show decide ((0 : Int32) ≤ nI n ∧ nI n ≤ 99) = true from inR_nI (by decide) hn]
  refine br_f (by decide) (s_within ?_)
  rw [show decide ((0 : Int32) ≤ nI w ∧ nI w ≤ 2) = true from inR_nI (by decide) hw2]
  refine p_n (by decide) (s_bestKept X hst hl hlo hw hn ?_)
  rcases (show w = 0 ∨ w = 1 ∨ w = 2 by omega) with rfl | rfl | rfl
  · exact ⟨fun _ => h, fun q => absurd q (by decide), fun q => absurd rfl q.1⟩
  · refine ⟨fun q => absurd q (by decide), fun _ => s_worthOf h6 eth hw hb ?_, fun q => absurd rfl q.2⟩
    rw [← hb1.2]; exact h
  · exact ⟨fun q => absurd q (by decide), fun q => absurd q (by decide), fun _ => s_leftOver X hst hl hlo hb hn h⟩
theorem pr_kept {cells B yr dg : Nat} {p p1 : Int32} (A : iA th bo lo fa wo bound loss things fades worth hill) (R : row0 th cells B dg st yr ye wh rows now) (hB : B ≤ 1000000) : ∃ (r : Int32) (u : Nat → Int32), (∀ Q : Int32 → Prop, Q r → q_X6_kept bound loss things worth rows fades p p1 Q) ∧ (∀ Q : Int32 → (Nat → Int32) → Prop, Q r u → q_X7_kept hill now need p p1 Q) := by
  obtain ⟨X, Y⟩ := mk_cXY A R
  have h6 := X.1
  by_cases hn : inR p 99 = true
  · obtain ⟨n, hn2, rfl⟩ := inR_t (by decide) hn
    by_cases hv : inR p1 2 = true
    · obtain ⟨w, hw2, rfl⟩ := inR_t (by decide) hv
      obtain ⟨u, hu⟩ := s_kept7 (need := need) Y R.2.2.2.2.2.2.2.1 (by have := R.2.1; omega) A.2.2.2.2.2.2.2.2.2.1 A.2.2.2.1 (fun t ht => ⟨(A.2.2.2.2.2.2.2.2.2.2 t ht).2.1, (A.2.2.2.2.2.2.2.2.2.2 t ht).2.2.2.2.2⟩) hn2 hw2
      exact ⟨_, u, fun Q h => s_kept X R.2.2.2.2.1 A.2.2.2.2.2.1 A.2.2.2.1 (fun t ht => ⟨(A.2.2.2.2.2.2.2.2.2.2 t ht).2.1, (A.2.2.2.2.2.2.2.2.2.2 t ht).2.2.2.1⟩) hn2 hw2 h, hu⟩
    · have hv : inR p1 2 = false := by simpa using hv
      refine ⟨-1, need, fun Q h => ?_, fun Q h => ⟨0, ?_⟩⟩
      · unfold q_X6_kept F_X6_kept_e
        refine s_within ?_
        rw [show decide ((0 : Int32) ≤ nI n ∧ nI n ≤ 99) = true from hn]
        refine br_f (by decide) (s_within ?_)
        rw [show decide ((0 : Int32) ≤ p1 ∧ p1 ≤ 2) = false from hv]
        exact p_m rfl h
      · unfold F_X7_kept_e
        refine s_in (b := 0) (c := 99) rfl rfl ?_
        rw [show decide ((0 : Int32) ≤ nI n ∧ nI n ≤ 99) = true from hn]
        refine br_f (by decide) (s_in (b := 0) (c := 2) rfl rfl ?_)
        rw [show decide ((0 : Int32) ≤ p1 ∧ p1 ≤ 2) = false from hv]
        exact p_m rfl h
  · have hn : inR p 99 = false := by simpa using hn
    refine ⟨-1, need, fun Q h => ?_, fun Q h => ⟨0, ?_⟩⟩
    · unfold q_X6_kept F_X6_kept_e
      refine s_within ?_
      rw [show decide ((0 : Int32) ≤ p ∧ p ≤ 99) = false from hn]
      exact br_t rfl h
    · unfold F_X7_kept_e
      refine s_in (b := 0) (c := 99) rfl rfl ?_
      rw [show decide ((0 : Int32) ≤ p ∧ p ≤ 99) = false from hn]
      exact br_t rfl h
end XY

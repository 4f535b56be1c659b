/-! ===== now, count ===== -/
section Now
variable {W H th bo lo B dg st yr : Nat} {pa fa wo ye wh : Nat → Nat} {w h all top left right bound loss things known undos p : Int32} {parts hill fades worth rows now undone : Nat → Int32}
theorem s_cells7 (e0 : hill 0 = nI W) (e1 : hill 1 = nI H) {Q : Int32 → Prop} (hq : Q (nI (W * H))) : q_X7_cells hill Q := by
  unfold q_X7_cells F_X7_cells_e
  rw [c0, c1, e0, e1, pk_mul]
  exact hq
theorem s_yellowOfAll (X : cX th bo fa ye wh bound things fades rows) {Q : Int32 → Prop} (hq : Q (nI (fb_sm ye th))) : q_X6_yellowOfAll things rows Q := by
  have h6 := X.1
  have eth := X.2.2.2.2.1
  have L : ∀ d k : Nat, k + d = th → ∃ n, wp_X6_yellowOfAll things rows Q n 4 (nI (fb_sm ye k)) (nI k) := by
    intro d
    induction d with
    | zero =>
      intro k hk
      have hk : k = th := by omega
      subst hk
      refine ⟨1, ?_⟩
      show F_X6_yellowOfAll_4 things rows Q (wp_X6_yellowOfAll things rows Q 0) (nI (fb_sm ye k)) (nI k)
      unfold F_X6_yellowOfAll_4
      rw [eth]
      exact br_t (Int32.le_refl _) hq
    | succ d ih =>
      intro k hk
      obtain ⟨n, hn⟩ := ih (k + 1) (by omega)
      refine ⟨n + 1, ?_⟩
      show F_X6_yellowOfAll_4 things rows Q (wp_X6_yellowOfAll things rows Q n) (nI (fb_sm ye k)) (nI k)
      unfold F_X6_yellowOfAll_4
      rw [eth]
      refine br_f (nI_ge (b := th) (by omega) (by omega)) (s_yellow X (by omega) ?_)
      rintro x rfl y rfl
      rw [nI_add, nI_1, ← eth]; exact hn
  obtain ⟨n, hn⟩ := L th 0 (by omega)
  exact ⟨n, hn⟩
/-- the answers of now: what they ask of p -/
def nowA (Q : Int32 → Prop) (p a0 a1 a2 a3 a4 a5 a6 : Int32) : Prop := (p = 0 → Q a0) ∧ (p = 1 → Q a1) ∧ (p = 2 → Q a2) ∧ (p = 3 → Q a3) ∧ (p = 4 → Q a4) ∧ (p = 5 → Q a5) ∧ (p = 6 → Q a6) ∧ ((¬ p = 0 ∧ ¬ p = 1 ∧ ¬ p = 2 ∧ ¬ p = 3 ∧ ¬ p = 4 ∧ ¬ p = 5 ∧ ¬ p = 6) → Q (-1))
theorem nowA_ex (p a0 a1 a2 a3 a4 a5 a6 : Int32) : ∃ r : Int32, ∀ Q : Int32 → Prop, Q r → nowA Q p a0 a1 a2 a3 a4 a5 a6 := by
  by_cases h0 : p = 0
  · subst h0; exact ⟨a0, fun Q hq => ⟨fun _ => hq, fun q => absurd q (by decide), fun q => absurd q (by decide), fun q => absurd q (by decide), fun q => absurd q (by decide), fun q => absurd q (by decide), fun q => absurd q (by decide), fun q => absurd rfl q.1⟩⟩
  by_cases h1 : p = 1
  · subst h1; exact ⟨a1, fun Q hq => ⟨fun q => absurd q (by decide), fun _ => hq, fun q => absurd q (by decide), fun q => absurd q (by decide), fun q => absurd q (by decide), fun q => absurd q (by decide), fun q => absurd q (by decide), fun q => absurd rfl q.2.1⟩⟩
  by_cases h2 : p = 2
  · subst h2; exact ⟨a2, fun Q hq => ⟨fun q => absurd q (by decide), fun q => absurd q (by decide), fun _ => hq, fun q => absurd q (by decide), fun q => absurd q (by decide), fun q => absurd q (by decide), fun q => absurd q (by decide), fun q => absurd rfl q.2.2.1⟩⟩
  by_cases h3 : p = 3
  · subst h3; exact ⟨a3, fun Q hq => ⟨fun q => absurd q (by decide), fun q => absurd q (by decide), fun q => absurd q (by decide), fun _ => hq, fun q => absurd q (by decide), fun q => absurd q (by decide), fun q => absurd q (by decide), fun q => absurd rfl q.2.2.2.1⟩⟩
  by_cases h4 : p = 4
  · subst h4; exact ⟨a4, fun Q hq => ⟨fun q => absurd q (by decide), fun q => absurd q (by decide), fun q => absurd q (by decide), fun q => absurd q (by decide), fun _ => hq, fun q => absurd q (by decide), fun q => absurd q (by decide), fun q => absurd rfl q.2.2.2.2.1⟩⟩
  by_cases h5 : p = 5
  · subst h5; exact ⟨a5, fun Q hq => ⟨fun q => absurd q (by decide), fun q => absurd q (by decide), fun q => absurd q (by decide), fun q => absurd q (by decide), fun q => absurd q (by decide), fun _ => hq, fun q => absurd q (by decide), fun q => absurd rfl q.2.2.2.2.2.1⟩⟩
  by_cases h6 : p = 6
  · subst h6; exact ⟨a6, fun Q hq => ⟨fun q => absurd q (by decide), fun q => absurd q (by decide), fun q => absurd q (by decide), fun q => absurd q (by decide), fun q => absurd q (by decide), fun q => absurd q (by decide), fun _ => hq, fun q => absurd rfl q.2.2.2.2.2.2⟩⟩
  exact ⟨-1, fun Q hq => ⟨fun q => absurd q h0, fun q => absurd q h1, fun q => absurd q h2, fun q => absurd q h3, fun q => absurd q h4, fun q => absurd q h5, fun q => absurd q h6, fun _ => hq⟩⟩
theorem pr_now (A : iA th bo lo fa wo bound loss things fades worth hill) (S : iS W H pa w h all top left right parts hill) (R : row0 th (W * H) B dg st yr ye wh rows now) : ∃ r : Int32, (∀ Q : Int32 → Prop, Q r → q_X6_now rows bound things fades worth all parts p Q) ∧ (∀ Q : Int32 → Prop, Q r → q_X7_now hill now p Q) := by
  obtain ⟨X, Y⟩ := mk_cXY A R
  obtain ⟨hW, hH, hWH, ew, eh, ea, et, el, er, e0, e1, ep⟩ := S
  obtain ⟨r1, r2, r3, r4, r5, r6, r7, r8, r9, r10⟩ := R
  obtain ⟨h6, b1, b2, l2, eb, elo, eth, ht7, hb7, hl7, hA⟩ := A
  have hcl := cells_le hW hH
  have h16 := p16 hW hH
  have hml : msk (fun t => cal bo (ye t) (wh t)) th < 64 := Nat.lt_of_lt_of_le (msk_lt _ th) (p64 h6)
  generalize hm : msk (fun t => cal bo (ye t) (wh t)) th = m at hml
  obtain ⟨r, hr⟩ := nowA_ex p (nI yr) (nI st) (nI dg) (nI m) (nI (wSm wo m th)) (nI (fb_sm ye th)) (nI (nSm pa dg (W * H)))
  refine ⟨r, fun Q hq => ?_, fun Q hq => ?_⟩
  · obtain ⟨a0, a1, a2, a3, a4, a5, a6, a7⟩ := hr Q hq
    unfold q_X6_now F_X6_now_e q_X2_year F_X2_year_e q_X2_store F_X2_store_e q_X2_dug F_X2_dug_e
    dsimp only
    rw [c0, c1, c2, r4, r5, r6]
    refine ⟨a0, a1, a2, fun q => s_calledSet X ?_, fun q => s_calledSet X ?_, fun q => s_yellowOfAll X (a5 q), fun q => ?_, a7⟩
    · rw [hm]; exact a3 q
    · rw [hm]
      exact s_worthOf h6 eth (fun t ht => ⟨(hA t ht).2.1, (hA t ht).2.2.2.1⟩) hml (a4 q)
    · have hf : 2 ^ (W * H) - 1 < 65536 := by omega
      rw [ea, dif_I hf]
      refine s_partsIn (fun c hc => (ep c hc).2.1) (dif_lt hf) ?_
      rw [wSm_dif hcl 16 (Nat.le_refl 16)]
      have : (if 16 ≤ W * H then 16 else W * H) = W * H := by
        by_cases g : 16 ≤ W * H
        · rw [if_pos g]; omega
        · rw [if_neg g]
      rw [this]; exact a6 q
  · obtain ⟨a0, a1, a2, a3, a4, a5, a6, a7⟩ := hr Q hq
    have L2 : ∀ d c : Nat, c + d = W * H → ∃ n, wp_X7_now hill now p Q n 70 (nI m) (nI (wSm wo m th)) (nI (fb_sm ye th)) (nI (nSm pa dg c)) (nI c) 0 0 := by
      intro d
      induction d with
      | zero =>
        intro c hc
        have hc : c = W * H := by omega
        subst hc
        refine ⟨1, ?_⟩
        show F_X7_now_70 hill now p Q (wp_X7_now hill now p Q 0) (nI m) (nI (wSm wo m th)) (nI (fb_sm ye th)) (nI (nSm pa dg (W * H))) (nI (W * H)) 0 0
        unfold F_X7_now_70
        refine s_cells7 e0 e1 (br_t (Int32.le_refl _) ⟨fun q => ?_, fun q => ?_, fun q => ?_, a3, a4, a5, a6, a7⟩)
        · subst q; refine ⟨vp_nI (k := 0) (by decide) (by decide), ?_⟩; rw [c0, r7]; exact a0 rfl
        · subst q; refine ⟨vp_nI (k := 1) (by decide) (by decide), ?_⟩; rw [c1, r8]; exact a1 rfl
        · subst q; refine ⟨vp_nI (k := 2) (by decide) (by decide), ?_⟩; rw [c2, r9]; exact a2 rfl
      | succ d ih =>
        intro c hc
        obtain ⟨n, hn⟩ := ih (c + 1) (by omega)
        refine ⟨n + 1, ?_⟩
        show F_X7_now_70 hill now p Q (wp_X7_now hill now p Q n) (nI m) (nI (wSm wo m th)) (nI (fb_sm ye th)) (nI (nSm pa dg c)) (nI c) 0 0
        unfold F_X7_now_70
        have e : nSm pa dg (c + 1) = nSm pa dg c + (if dg.testBit c then 0 else pa c) := rfl
        rw [e] at hn
        refine s_cells7 e0 e1 (br_f (nI_ge (b := W * H) (by omega) (by omega)) ?_)
        rw [c2, r9]
        cases hb : dg.testBit c with
        | false =>
          rw [hb] at hn
          refine p_m ((bit0 (by omega) (by omega)).mpr hb) ?_
          rw [show (6 : Int32) + nI c = nI (6 + c) from nI_add 6 c, nI_clamp (by omega), (ep c (by omega)).2.2]
          refine ⟨vp_nI (by omega) (by decide), ?_⟩
          rintro x rfl y rfl
          rw [nI_add, nI_1]; exact hn
        | true =>
          rw [hb] at hn
          refine p_n (fun q => by rw [(bit0 (by omega) (by omega)).mp q] at hb; cases hb) ?_
          rintro x rfl y rfl
          rw [show nI (nSm pa dg c) + 0 = nI (nSm pa dg c + 0) from nI_add _ 0, nI_1]; exact hn
    have L1 : ∀ d k : Nat, k + d = th → ∃ n, wp_X7_now hill now p Q n 16 (nI m) (nI (wSm wo m k)) (nI (fb_sm ye k)) 0 (nI k) 0 0 := by
      intro d
      induction d with
      | zero =>
        intro k hk
        have hk : k = th := by omega
        subst hk
        obtain ⟨n, hn⟩ := L2 (W * H) 0 (by omega)
        refine ⟨n + 1, ?_⟩
        show F_X7_now_16 hill now p Q (wp_X7_now hill now p Q n) (nI m) (nI (wSm wo m k)) (nI (fb_sm ye k)) 0 (nI k) 0 0
        unfold F_X7_now_16
        rw [c2, ht7]
        exact br_t (Int32.le_refl _) hn
      | succ d ih =>
        intro k hk
        obtain ⟨n, hn⟩ := ih (k + 1) (by omega)
        refine ⟨n + 2, ?_⟩
        show F_X7_now_16 hill now p Q (wp_X7_now hill now p Q (n + 1)) (nI m) (nI (wSm wo m k)) (nI (fb_sm ye k)) 0 (nI k) 0 0
        unfold F_X7_now_16
        rw [c2, ht7]
        refine br_f (nI_ge (b := th) (by omega) (by omega)) ?_
        have e : wSm wo m (k + 1) = wSm wo m k + (if m.testBit k then wo k else 0) := rfl
        rw [e] at hn
        have g48 : ∀ v : Nat, nI (wSm wo m k + v) = nI (wSm wo m k + (if m.testBit k then wo k else 0)) → wp_X7_now hill now p Q (n + 1) 48 (nI m) 0 (nI (fb_sm ye k)) 0 (nI k) (nI v) (nI (wSm wo m k)) := by
          intro v hv
          show F_X7_now_48 hill now p Q (wp_X7_now hill now p Q n) (nI m) 0 (nI (fb_sm ye k)) 0 (nI k) (nI v) (nI (wSm wo m k))
          unfold F_X7_now_48
          rintro x rfl
          refine s_yellow7 Y (by omega) ?_
          rintro y rfl z rfl
          rw [nI_add, nI_add, nI_1, hv]; exact hn
        cases hb : m.testBit k with
        | false =>
          rw [hb] at g48
          exact p_n (fun q => by rw [(bit1 (by omega) (by omega)).mp q] at hb; cases hb) (g48 0 rfl)
        | true =>
          rw [hb] at g48
          exact p_m ((bit1 (by omega) (by omega)).mpr hb) (s_worth7 h6 (fun t ht => (hA t ht).2.2.2.2.2) (by omega) (g48 _ rfl))
    obtain ⟨n, hn⟩ := L1 th 0 (by omega)
    refine ⟨n, ?_⟩
    unfold F_X7_now_e
    refine s_called7 Y ?_
    rw [hm]; exact hn
theorem pr_count {xl ys kl yl : Int32} {xb yt xp yp : Nat → Int32} (T : iT xl xb ys yt) (K : iK kl xp yl yp) (A : iA th bo lo fa wo bound loss things fades worth hill) (S : iS W H pa w h all top left right parts hill) (I : iC th (W * H) B rows known now undone undos) : ∃ r : Int32, (∀ Q : Int32 → Prop, Q r → q_X6_count bound loss things w h kl known xl p Q) ∧ (∀ Q : Int32 → Prop, Q r → q_X7_count ys undos yl hill p Q) := by
  obtain ⟨hW, hH, hWH, ew, eh, ea, et, el, er, e0, e1, ep⟩ := S
  obtain ⟨h6, b1, b2, l2, eb, elo, eth, ht7, hb7, hl7, hA⟩ := A
  obtain ⟨k, hk, rfl, rfl, -⟩ := I
  obtain ⟨n, hn, rfl, rfl, -⟩ := T
  obtain ⟨j, hj, rfl, rfl, -⟩ := K
  obtain ⟨r, hr⟩ := nowA_ex p w h things bound loss (nI j) (nI k)
  by_cases h7 : p = 7
  · subst h7
    refine ⟨nI n, fun Q hq => ?_, fun Q hq => ?_⟩
    · exact ⟨fun q => absurd q (by decide), fun q => absurd q (by decide), fun q => absurd q (by decide), fun q => absurd q (by decide), fun q => absurd q (by decide), fun q => absurd q (by decide), fun q => absurd q (by decide), fun _ => hq, fun q => absurd rfl q.2.2.2.2.2.2.2⟩
    · exact ⟨fun q => absurd q (by decide), fun q => absurd q (by decide), fun q => absurd q (by decide), fun q => absurd q (by decide), fun q => absurd q (by decide), fun q => absurd q (by decide), fun q => absurd q (by decide), fun _ => hq, fun q => absurd rfl q.2.2.2.2.2.2.2⟩
  · refine ⟨r, fun Q hq => ?_, fun Q hq => ?_⟩
    · obtain ⟨a0, a1, a2, a3, a4, a5, a6, a7⟩ := hr Q hq
      exact ⟨a0, a1, a2, a3, a4, a5, a6, fun q => absurd q h7, fun q => a7 ⟨q.1, q.2.1, q.2.2.1, q.2.2.2.1, q.2.2.2.2.1, q.2.2.2.2.2.1, q.2.2.2.2.2.2.1⟩⟩
    · obtain ⟨a0, a1, a2, a3, a4, a5, a6, a7⟩ := hr Q hq
      rw [ew, ← e0] at a0
      rw [eh, ← e1] at a1
      rw [eth, ← ht7] at a2
      rw [eb, ← hb7] at a3
      rw [elo, ← hl7] at a4
      refine ⟨fun q => ?_, fun q => ?_, fun q => ?_, fun q => ?_, fun q => ?_, a5, a6, fun q => absurd q h7, fun q => a7 ⟨q.1, q.2.1, q.2.2.1, q.2.2.2.1, q.2.2.2.2.1, q.2.2.2.2.2.1, q.2.2.2.2.2.2.1⟩⟩
      · subst q; exact ⟨vp_nI (k := 0) (by decide) (by decide), a0 rfl⟩
      · subst q; exact ⟨vp_nI (k := 1) (by decide) (by decide), a1 rfl⟩
      · subst q; exact ⟨vp_nI (k := 2) (by decide) (by decide), a2 rfl⟩
      · subst q; exact ⟨vp_nI (k := 3) (by decide) (by decide), a3 rfl⟩
      · subst q; exact ⟨vp_nI (k := 4) (by decide) (by decide), a4 rfl⟩
end Now

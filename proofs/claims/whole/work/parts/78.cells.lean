/-! ===== cell, digs, now ===== -/
def iS (W H : Nat) (pa : Nat → Nat) (w h all top left right : Int32) (parts hill : Nat → Int32) : Prop := W ≤ 4 ∧ H ≤ 4 ∧ (W = 0 ↔ H = 0) ∧ w = nI W ∧ h = nI H ∧ all = nI (2 ^ (W * H) - 1) ∧ top = nI (2 ^ W - 1) ∧ left = nI (lfm W H) ∧ right = nI (rgm W H) ∧ hill 0 = nI W ∧ hill 1 = nI H ∧ ∀ c, c < 16 → pa c ≤ 9 ∧ parts c = nI (pa c) ∧ hill (6 + c) = nI (pa c)
theorem s_partsIn {pa : Nat → Nat} {parts : Nat → Int32} (hp : ∀ c, c < 16 → parts c = nI (pa c)) {s : Nat} (hs : s < 65536) {Q : Int32 → Prop} (h : Q (nI (wSm pa s 16))) : q_X4_partsIn parts (nI s) Q := by
  have L : ∀ d k : Nat, k + d = 16 → ∃ n, wp_X4_partsIn parts (nI s) Q n 4 (nI (wSm pa s k)) (nI k) := by
    intro d
    induction d with
    | zero =>
      intro k hk
      have hk : k = 16 := by omega
      subst hk
      refine ⟨1, ?_⟩
      show F_X4_partsIn_4 parts (nI s) Q (wp_X4_partsIn parts (nI s) Q 0) (nI (wSm pa s 16)) (nI 16)
      exact br_t (Int32.le_refl _) h
    | succ d ih =>
      intro k hk
      obtain ⟨n, hn⟩ := ih (k + 1) (by omega)
      refine ⟨n + 1, ?_⟩
      show F_X4_partsIn_4 parts (nI s) Q (wp_X4_partsIn parts (nI s) Q n) (nI (wSm pa s k)) (nI k)
      unfold F_X4_partsIn_4
      refine br_f (nI_ge (b := 16) (by omega) (by decide)) ?_
      have e : wSm pa s (k + 1) = wSm pa s k + (if s.testBit k then pa k else 0) := rfl
      rw [e] at hn
      cases hb : s.testBit k with
      | false =>
        rw [hb] at hn
        refine br_t ((bit0 (by omega) (by omega)).mpr hb) ?_
        rintro x rfl
        rw [nI_1]; exact hn
      | true =>
        rw [hb] at hn
        refine br_f (fun q => by rw [(bit0 (by omega) (by omega)).mp q] at hb; cases hb) ⟨vp_nI (by omega) (by decide), ?_⟩
        rintro x rfl y rfl
        rw [nI_clamp (by omega), hp k (by omega), nI_add, nI_1]; exact hn
  obtain ⟨n, hn⟩ := L 16 0 (by omega)
  exact ⟨n, hn⟩
theorem wSm_one (pa : Nat → Nat) {c : Nat} : ∀ k, wSm pa (2 ^ c) k = if c < k then pa c else 0
  | 0 => by simp [wSm]
  | k + 1 => by
    have ih := wSm_one pa (c := c) k
    unfold wSm
    rw [ih, Nat.testBit_two_pow]
    by_cases e : c = k
    · subst e; simp
    · have h2 : (c < k) ↔ (c < k + 1) := by omega
      simp only [e, decide_false, Bool.false_eq_true, if_false, Nat.add_zero]
      by_cases g : c < k
      · rw [if_pos g, if_pos (by omega)]
      · rw [if_neg g, if_neg (by omega)]
/-- the parts of the first k cells that are not dug -/
def nSm (pa : Nat → Nat) (d : Nat) : Nat → Nat
  | 0 => 0
  | k + 1 => nSm pa d k + (if d.testBit k then 0 else pa k)
theorem wSm_dif {pa : Nat → Nat} {n d : Nat} (hn : n ≤ 16) : ∀ k, k ≤ 16 → wSm pa (dif (2 ^ n - 1) d) k = nSm pa d (if k ≤ n then k else n)
  | 0, _ => by simp [wSm, nSm]
  | k + 1, h => by
    have ih := wSm_dif (pa := pa) (d := d) hn k (by omega)
    have h16 : 2 ^ n ≤ 2 ^ 16 := Nat.pow_le_pow_right (by decide) hn
    have e : wSm pa (dif (2 ^ n - 1) d) (k + 1) = wSm pa (dif (2 ^ n - 1) d) k + (if (dif (2 ^ n - 1) d).testBit k then pa k else 0) := rfl
    rw [e, ih, dif_bit (by have : (2 : Nat) ^ 16 = 65536 := rfl; omega), tb_full]
    by_cases g : k < n
    · rw [if_pos (show k ≤ n by omega), if_pos (show k + 1 ≤ n by omega), decide_eq_true g]
      have e2 : nSm pa d (k + 1) = nSm pa d k + (if d.testBit k then 0 else pa k) := rfl
      rw [e2]
      cases d.testBit k <;> simp
    · rw [decide_eq_false g, Bool.false_and, if_neg (show ¬ k + 1 ≤ n by omega)]
      by_cases g2 : k ≤ n
      · have : k = n := by omega
        subst this
        rw [if_pos (Nat.le_refl k)]; simp
      · rw [if_neg g2]; simp
section Seam
variable {W H : Nat} {pa : Nat → Nat} {w h all top left right : Int32} {parts hill : Nat → Int32} {p p1 p2 : Int32}
theorem s_holds (S : iS W H pa w h all top left right parts hill) {Q : Int32 → Prop} (hq : Q (bI (isT p W && isT p1 H))) : q_X4_holds w h p p1 Q := by
  obtain ⟨-, -, -, ew, eh, -⟩ := S
  unfold q_X4_holds F_X4_holds_e
  refine s_within ?_
  rw [ew, show decide ((0 : Int32) ≤ p ∧ p ≤ nI W - 1) = isT p W from rfl]
  refine p_z (fun q => ?_) (fun q => s_within ?_)
  · rw [q] at hq; exact hq
  · rw [eh, show decide ((0 : Int32) ≤ p1 ∧ p1 ≤ nI H - 1) = isT p1 H from rfl]
    rw [q, Bool.true_and] at hq
    exact p_z (fun z => by rw [z] at hq; exact hq) (fun z => by rw [z] at hq; exact hq)
theorem s_isCell7 (S : iS W H pa w h all top left right parts hill) {Q : Int32 → Prop} (hq : Q (bI (isT p W && isT p1 H))) : q_X7_isCell hill p p1 Q := by
  obtain ⟨-, -, -, -, -, -, -, -, -, e0, e1, -⟩ := S
  unfold q_X7_isCell F_X7_isCell_e
  rw [c0, c1, e0, e1]
  refine s_in (b := 0) (c := nI W - 1) rfl rfl ?_
  rw [show decide ((0 : Int32) ≤ p ∧ p ≤ nI W - 1) = isT p W from rfl]
  refine p_z (fun q => ?_) (fun q => s_in (b := 0) (c := nI H - 1) rfl rfl ?_)
  · rw [q] at hq; exact hq
  · rw [show decide ((0 : Int32) ≤ p1 ∧ p1 ≤ nI H - 1) = isT p1 H from rfl]
    rw [q, Bool.true_and] at hq
    exact p_z (fun z => by rw [z] at hq; exact hq) (fun z => by rw [z] at hq; exact hq)
theorem cell_lt {x y : Nat} (hx : x < W) (hy : y < H) : W * y + x < W * H := by
  have : W * (y + 1) ≤ W * H := Nat.mul_le_mul_left W hy
  rw [Nat.mul_succ] at this
  omega
theorem s_bitOf {x y : Nat} (hW : W ≤ 4) (hH : H ≤ 4) (hx : x < W) (hy : y < H) {Q : Int32 → Prop} (hq : Q (nI (2 ^ (W * y + x)))) : q_X4_bitOf (nI W) (nI x) (nI y) Q := by
  have := cell_lt hx hy
  have := cells_le hW hH
  unfold q_X4_bitOf F_X4_bitOf_e
  rw [pk_mul, nI_add, sh1 (by omega)]
  exact hq
theorem s_canBeDugNow (S : iS W H pa w h all top left right parts hill) {rows : Nat → Int32} {d c : Nat} (hr : rows 0 = nI d) (hd : d < 2 ^ (W * H)) (hc : c < W * H) {Q : Int32 → Prop} (hq : Q (bI (mayN W H d c))) : q_X6_canBeDugNow rows w all top left right (nI (2 ^ c)) Q := by
  obtain ⟨hW, hH, -, ew, -, ea, et, el, er, -⟩ := S
  have := cells_le hW hH
  unfold q_X6_canBeDugNow F_X6_canBeDugNow_e q_X2_dug F_X2_dug_e
  rw [c0, hr]
  refine s_openFrom hW hH hd ew ea et el er ?_
  have key := opS_bit hW hH hd c
  rw [decide_eq_true hc, Bool.true_and] at key
  rw [← key] at hq
  refine ⟨fun q => ?_, fun q => ?_⟩
  · rw [(fa_bit (by omega)).mp q] at hq; exact hq
  · cases hb : (opS W H d).testBit c with
    | true => rw [hb] at hq; exact hq
    | false => exact absurd ((fa_bit (by omega)).mpr hb) q
variable {th bo lo B : Nat} {fa wo : Nat → Nat} {bound loss things known undos : Int32} {fades worth rows now undone : Nat → Int32}
theorem pr_digs (h6 : th ≤ 6) (S : iS W H pa w h all top left right parts hill) (I : iC th (W * H) B rows known now undone undos) : ∃ (r u : Int32) (v : Nat → Int32) (u2 : Int32) (v2 w2 : Nat → Int32), (∀ Q : Int32 → Int32 → (Nat → Int32) → Prop, Q r u v → q_X6_digs w h all top left right known rows parts p p1 Q) ∧ (∀ Q : Int32 → Int32 → (Nat → Int32) → (Nat → Int32) → Prop, Q r u2 v2 w2 → q_X7_digs undos hill now undone p p1 Q) ∧ iC th (W * H) (B + 1000) v u v2 w2 u2 := by
  have I0 := iC_mono (B' := B + 1000) h6 (by omega) I
  obtain ⟨k, hk, rfl, rfl, h0, hj⟩ := I
  obtain ⟨dg, st, yr, ye, wh, R⟩ := rR0.mp h0
  have S' := S
  obtain ⟨hW, hH, hWH, ew, eh, ea, et, el, er, e0, e1, ep⟩ := S'
  have hcl := cells_le hW hH
  by_cases hxy : (isT p W && isT p1 H) = true
  · have hx := hxy
    rw [Bool.and_eq_true] at hx
    obtain ⟨x, hx1, rfl⟩ := isT_t (by omega) hx.1
    obtain ⟨y, hy1, rfl⟩ := isT_t (by omega) hx.2
    have hc := cell_lt hx1 hy1
    generalize hce : W * y + x = c at hc
    have ec : nI W * nI y + nI x = nI c := by rw [pk_mul, nI_add, hce]
    obtain ⟨r1, r2, r3, r4, r5, r6, r7, r8, r9, r10⟩ := R
    cases hm : mayN W H dg c with
    | false =>
      refine ⟨-2, nI k, rows, nI k, now, undone, fun Q hq => ?_, fun Q hq => ?_, I0⟩
      · unfold q_X6_digs F_X6_digs_e
        refine s_holds S ?_
        rw [hxy]
        refine p_n (by decide) ?_
        rw [ew]
        refine s_bitOf hW hH hx1 hy1 ?_
        rw [hce, ← ew]
        refine s_canBeDugNow S r4 r1 hc ?_
        rw [hm]
        exact p_m rfl hq
      · unfold q_X7_digs F_X7_digs_e
        refine s_isCell7 S ?_
        rw [hxy]
        refine p_n (by decide) ?_
        rintro z rfl
        rw [c0, e0, ec, c2, r9]
        refine s_may7 hW hH r1 hc e0 e1 ?_
        rw [hm]
        exact p_m rfl hq
    | true =>
      have hpc := ep c (by omega)
      have hnb : dg.testBit c = false := by
        unfold mayN at hm
        rw [Bool.and_eq_true] at hm
        simpa using hm.1
      refine ⟨nI (st + pa c), nI (if k = 10 then 10 else k + 1), upd (upd (rmR rows) 0 (nI (dg ||| 2 ^ c))) 1 (nI (st + pa c)), nI (if k = 10 then 10 else k + 1), upd (upd now 2 (nI (dg ||| 2 ^ c))) 1 (nI (st + pa c)), ntU k now undone, fun Q hq => ?_, fun Q hq => ?_, ?_⟩
      · unfold q_X6_digs F_X6_digs_e
        refine s_holds S ?_
        rw [hxy]
        refine p_n (by decide) ?_
        rw [ew]
        refine s_bitOf hW hH hx1 hy1 ?_
        rw [hce, ← ew]
        refine s_canBeDugNow S r4 r1 hc ?_
        rw [hm]
        refine p_n (by decide) (s_remember hk ?_)
        unfold q_X2_dug F_X2_dug_e q_X2_setDug F_X2_setDug_e
        rw [c0, rm_lo rows (by omega), r4]
        dsimp only
        rw [fa_or]
        rintro g rfl
        have h2c : 2 ^ c < 65536 := by
          have : 2 ^ c ≤ 2 ^ 15 := Nat.pow_le_pow_right (by decide) (by omega)
          have : (2 : Nat) ^ 15 = 32768 := rfl
          omega
        refine s_partsIn (fun c hc => (ep c hc).2.1) h2c ?_
        rw [wSm_one, if_pos (by omega)]
        unfold q_X2_addStore F_X2_addStore_e
        rw [c1, upd_at, if_neg (by omega), rm_lo rows (by omega), r5, nI_add]
        rintro g rfl
        unfold q_X2_store F_X2_store_e
        rw [c1, upd_at, if_pos rfl]
        exact hq
      · unfold q_X7_digs F_X7_digs_e
        refine s_isCell7 S ?_
        rw [hxy]
        refine p_n (by decide) ?_
        rintro z rfl
        rw [c0, e0, ec, c2, r9]
        refine s_may7 hW hH r1 hc e0 e1 ?_
        rw [hm]
        refine p_n (by decide) (s_notes hk ?_)
        rw [sh1 (by omega), fa_or, c1, show (6 : Int32) + nI c = nI (6 + c) from nI_add 6 c, nI_clamp (by omega), hpc.2.2]
        rintro g rfl
        refine ⟨vp_nI (by omega) (by decide), ?_⟩
        rw [upd_at, if_neg (by omega), r8, nI_add]
        rintro g rfl
        rw [upd_at, if_pos rfl]
        exact hq
      · refine iC_step h6 (by omega) hk h0 hj (fun i hi => ?_) (rR0.mpr ⟨dg ||| 2 ^ c, st + pa c, yr, ye, wh, ?_⟩)
        · rw [upd_at, if_neg (by omega), upd_at, if_neg (by omega)]
        · refine ⟨Nat.or_lt_two_pow r1 (Nat.pow_lt_pow_right (by decide) hc), by omega, r3, ?_, ?_, ?_, ?_, ?_, ?_, fun s hs => ?_⟩
          · rw [upd_at, if_neg (by omega), upd_at, if_pos rfl]
          · rw [upd_at, if_pos rfl]
          · rw [upd_at, if_neg (by omega), upd_at, if_neg (by omega), rm_lo rows (by omega)]; exact r6
          · rw [upd_at, if_neg (by omega), upd_at, if_neg (by omega)]; exact r7
          · rw [upd_at, if_pos rfl]
          · rw [upd_at, if_neg (by omega), upd_at, if_pos rfl]
          · obtain ⟨s1, s2, s3, s4, s5, s6⟩ := r10 s hs
            refine ⟨s1, s2, ?_, ?_, ?_, ?_⟩
            · rw [upd_at, if_neg (by omega), upd_at, if_neg (by omega), rm_lo rows (by omega)]; exact s3
            · rw [upd_at, if_neg (by omega), upd_at, if_neg (by omega), rm_lo rows (by omega)]; exact s4
            · rw [upd_at, if_neg (by omega), upd_at, if_neg (by omega)]; exact s5
            · rw [upd_at, if_neg (by omega), upd_at, if_neg (by omega)]; exact s6
  · have hxy : (isT p W && isT p1 H) = false := by simpa using hxy
    refine ⟨-1, nI k, rows, nI k, now, undone, fun Q hq => ?_, fun Q hq => ?_, I0⟩
    · unfold q_X6_digs F_X6_digs_e
      refine s_holds S ?_
      rw [hxy]; exact p_m rfl hq
    · unfold q_X7_digs F_X7_digs_e
      refine s_isCell7 S ?_
      rw [hxy]; exact p_m rfl hq
theorem pr_cell {cellsB dg st yr : Nat} {ye wh : Nat → Nat} (S : iS W H pa w h all top left right parts hill) (R : row0 th (W * H) B dg st yr ye wh rows now) : ∃ r : Int32, (∀ Q : Int32 → Prop, Q r → q_X6_cell w h all top left right parts rows p p1 p2 Q) ∧ (∀ Q : Int32 → Prop, Q r → q_X7_cell hill now p p1 p2 Q) := by
  have S' := S
  obtain ⟨hW, hH, hWH, ew, eh, ea, et, el, er, e0, e1, ep⟩ := S'
  obtain ⟨r1, r2, r3, r4, r5, r6, r7, r8, r9, r10⟩ := R
  have hcl := cells_le hW hH
  have h16 := p16 hW hH
  by_cases hxy : (isT p W && isT p1 H) = true
  · have hx := hxy
    rw [Bool.and_eq_true] at hx
    obtain ⟨x, hx1, rfl⟩ := isT_t (by omega) hx.1
    obtain ⟨y, hy1, rfl⟩ := isT_t (by omega) hx.2
    have hc := cell_lt hx1 hy1
    generalize hce : W * y + x = c at hc
    have ec : nI W * nI y + nI x = nI c := by rw [pk_mul, nI_add, hce]
    have hpc := ep c (by omega)
    have sX : ∀ Q : Int32 → Prop, ((p2 = 0 → Q (nI (pa c))) ∧ (p2 = 1 → Q (bI (dg.testBit c))) ∧ (p2 = 2 → Q (bI (mayN W H dg c))) ∧ ((¬ p2 = 0 ∧ ¬ p2 = 1 ∧ ¬ p2 = 2) → Q (-1))) → q_X6_cell w h all top left right parts rows (nI x) (nI y) p2 Q := by
      intro Q ⟨a0, a1, a2, a3⟩
      refine ⟨1, ?_⟩
      unfold F_X6_cell_e
      refine s_holds S ?_
      rw [hxy]
      refine p_n (by decide) ?_
      rw [ew]
      refine s_bitOf hW hH hx1 hy1 ?_
      rw [hce, ← ew]
      have h2c : 2 ^ c < 65536 := by
        have : 2 ^ c ≤ 2 ^ 15 := Nat.pow_le_pow_right (by decide) (by omega)
        have : (2 : Nat) ^ 15 = 32768 := rfl
        omega
      refine ⟨fun q => s_partsIn (fun c hc => (ep c hc).2.1) h2c ?_, fun q => ?_, fun q => s_canBeDugNow S r4 r1 hc (s_oneIf (a2 q)), a3⟩
      · rw [wSm_one, if_pos (by omega)]; exact a0 q
      · unfold q_X2_dug F_X2_dug_e
        rw [c0, r4]
        have a1 := a1 q
        have g91 : ∀ b : Bool, Q (bI b) → wp_X6_cell w h all top left right parts rows (nI x) (nI y) p2 Q 1 91 (bI b) := by
          intro b hb
          show F_X6_cell_91 w h all top left right parts rows (nI x) (nI y) p2 Q (wp_X6_cell w h all top left right parts rows (nI x) (nI y) p2 Q 0) (bI b)
          unfold F_X6_cell_91
          exact s_oneIf hb
        refine ⟨fun z => ?_, fun z => ?_⟩
        · rw [(fa_bit (by omega)).mp z] at a1; exact g91 false a1
        · cases hb : dg.testBit c with
          | true => rw [hb] at a1; exact g91 true a1
          | false => exact absurd ((fa_bit (by omega)).mpr hb) z
    have sY : ∀ Q : Int32 → Prop, ((p2 = 0 → Q (nI (pa c))) ∧ (p2 = 1 → Q (bI (dg.testBit c))) ∧ (p2 = 2 → Q (bI (mayN W H dg c))) ∧ ((¬ p2 = 0 ∧ ¬ p2 = 1 ∧ ¬ p2 = 2) → Q (-1))) → q_X7_cell hill now (nI x) (nI y) p2 Q := by
      intro Q ⟨a0, a1, a2, a3⟩
      unfold q_X7_cell F_X7_cell_e
      refine s_isCell7 S ?_
      rw [hxy]
      refine br_f (by decide) (s_in (b := 0) (c := 2) rfl rfl (p_y (fun q => ?_) (fun q => ?_)))
      · obtain ⟨j, hj, e⟩ := inR_t (n := 2) (by decide) q
        rintro z rfl
        rw [c0, e0, ec, c2, r9]
        refine ⟨fun n0 => ⟨fun n1 => s_may7 hW hH r1 hc e0 e1 ?_, fun q1 => ?_⟩, fun q0 => ?_⟩
        · have e2 : p2 = 2 := by
            rw [e]
            rcases (show j = 0 ∨ j = 1 ∨ j = 2 by omega) with rfl | rfl | rfl
            · exact absurd e n0
            · exact absurd e n1
            · rfl
          have a2 := a2 e2
          exact p_z (fun z => by rw [z] at a2; exact a2) (fun z => by rw [z] at a2; exact a2)
        · have a1 := a1 q1
          rw [bitN (by omega) (by omega)]
          have := Nat.testBit_eq_decide_div_mod_eq (x := dg) (i := c)
          rw [this] at a1
          rcases Nat.mod_two_eq_zero_or_one (dg / 2 ^ c) with g | g
          · rw [g] at a1 ⊢; exact a1
          · rw [g] at a1 ⊢; exact a1
        · rw [show (6 : Int32) + nI c = nI (6 + c) from nI_add 6 c, nI_clamp (by omega), hpc.2.2]
          exact ⟨vp_nI (by omega) (by decide), a0 q0⟩
      · have q : inR p2 2 = false := q
        have nn : ∀ j : Nat, j ≤ 2 → ¬ p2 = nI j := fun j hj e => by rw [e, inR_nI (by decide) hj] at q; cases q
        exact a3 ⟨nn 0 (by omega), nn 1 (by omega), nn 2 (by omega)⟩
    have fin : ∃ r : Int32, ∀ Q : Int32 → Prop, Q r → ((p2 = 0 → Q (nI (pa c))) ∧ (p2 = 1 → Q (bI (dg.testBit c))) ∧ (p2 = 2 → Q (bI (mayN W H dg c))) ∧ ((¬ p2 = 0 ∧ ¬ p2 = 1 ∧ ¬ p2 = 2) → Q (-1))) := by
      by_cases h0 : p2 = 0
      · subst h0; exact ⟨_, fun Q hq => ⟨fun _ => hq, fun q => absurd q (by decide), fun q => absurd q (by decide), fun q => absurd rfl q.1⟩⟩
      by_cases h1 : p2 = 1
      · subst h1; exact ⟨_, fun Q hq => ⟨fun q => absurd q (by decide), fun _ => hq, fun q => absurd q (by decide), fun q => absurd rfl q.2.1⟩⟩
      by_cases h2 : p2 = 2
      · subst h2; exact ⟨_, fun Q hq => ⟨fun q => absurd q (by decide), fun q => absurd q (by decide), fun _ => hq, fun q => absurd rfl q.2.2⟩⟩
      exact ⟨_, fun Q hq => ⟨fun q => absurd q h0, fun q => absurd q h1, fun q => absurd q h2, fun _ => hq⟩⟩
    obtain ⟨r, hr⟩ := fin
    exact ⟨r, fun Q hq => sX Q (hr Q hq), fun Q hq => sY Q (hr Q hq)⟩
  · have hxy : (isT p W && isT p1 H) = false := by simpa using hxy
    refine ⟨-1, fun Q hq => ⟨0, ?_⟩, fun Q hq => ?_⟩
    · unfold F_X6_cell_e
      refine s_holds S ?_
      rw [hxy]; exact p_m rfl hq
    · unfold q_X7_cell F_X7_cell_e
      refine s_isCell7 S ?_
      rw [hxy]; exact br_t rfl hq
end Seam

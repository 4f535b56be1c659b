/-! ===== bestDig ===== -/
def vld (W H d s : Nat) : Prop := s < 2 ^ (W * H) ∧ (∀ c, s.testBit c = true → d.testBit c = false) ∧ okD W H d s
theorem vld_0 {W H d : Nat} : vld W H d 0 := by
  refine ⟨Nat.two_pow_pos _, fun c hc => ?_, fun T _ c hc => ?_⟩
  · rw [Nat.zero_testBit] at hc; cases hc
  · rw [Nat.zero_testBit] at hc; cases hc
def tabI (W H : Nat) (pa : Nat → Nat) (d m : Nat) (sums sets : Nat → Int32) : Prop := ∀ z, z ≤ 16 → (sums z = -1 ∧ ∀ s, s < m → vld W H d s → pop 16 s ≠ z) ∨ (∃ s, s < m ∧ vld W H d s ∧ pop 16 s = z ∧ sums z = nI (wSm pa s 16) ∧ sets z = nI s ∧ ∀ s', s' < m → vld W H d s' → pop 16 s' = z → wSm pa s' 16 < wSm pa s 16 ∨ (wSm pa s' 16 = wSm pa s 16 ∧ s ≤ s'))
theorem wSm_le9 {pa : Nat → Nat} (hp : ∀ c, c < 16 → pa c ≤ 9) (s : Nat) : ∀ k, k ≤ 16 → wSm pa s k ≤ 9 * k
  | 0, _ => Nat.le_refl 0
  | k + 1, hk => by
    have ih := wSm_le9 hp s k (by omega)
    have := hp k (by omega)
    have u : wSm pa s (k + 1) = wSm pa s k + (if s.testBit k then pa k else 0) := rfl
    rw [u]
    cases s.testBit k
    · simp only [Bool.false_eq_true, if_false]; omega
    · simp only [if_true]; omega
theorem vld_sub {W H d s : Nat} (hc : W * H ≤ 16) (h : vld W H d s) : sub s (dif (2 ^ (W * H) - 1) d) := by
  intro i hi
  have h16 : 2 ^ (W * H) ≤ 2 ^ 16 := Nat.pow_le_pow_right (by decide) hc
  rw [dif_bit (by have : (2 : Nat) ^ 16 = 65536 := rfl; omega), tb_full, h.2.1 i hi, Bool.not_false, Bool.and_true]
  rcases Nat.lt_or_ge i (W * H) with q | q
  · exact decide_eq_true q
  · rw [tb_big h.1 q] at hi; cases hi
theorem neg1_lt {n : Nat} (h : n < 2 ^ 31) : ¬ nI n ≤ -1 := by
  rw [fa_le, nI_toInt h]
  have : (-1 : Int32).toInt = -1 := by decide
  omega
section Best
variable {W H B dg st yr th : Nat} {pa ye wh : Nat → Nat} {w h all top left right p p1 : Int32} {parts hill rows now : Nat → Int32}
theorem s_weigh0 (S : iS W H pa w h all top left right parts hill) {d s : Nat} (hd : d < 2 ^ (W * H)) (hs : s < 2 ^ (W * H)) (hds : ∀ c, s.testBit c = true → d.testBit c = false) {lo hi : Nat → Int32} (hlo : ∀ s, s < 256 → lo s = nI (wSm pa s 8)) (hhi : ∀ s, s < 256 → hi s = nI (wSm (fun c => pa (8 + c)) s 8)) {sums sets : Nat → Int32} {b : Bool} (hb : b = true ↔ okD W H d s) {Q : (Nat → Int32) → (Nat → Int32) → Prop} (h1 : nI (wSm pa s 16) ≤ sums (pop 16 s) → Q sums sets) (h2 : ¬ nI (wSm pa s 16) ≤ sums (pop 16 s) → b = false → Q sums sets) (h3 : ¬ nI (wSm pa s 16) ≤ sums (pop 16 s) → b = true → Q (upd sums (pop 16 s) (nI (wSm pa s 16))) (upd sets (pop 16 s) (nI s))) : q_X0_weigh lo hi sums w all top left right sets (nI d) (nI s) Q := by
  obtain ⟨hW, hH, hWH, ew, eh, ea, et, el, er, e0, e1, ep⟩ := S
  have h16 := p16 hW hH
  have hpl := pop_le 16 s
  have hsl := wSm_le9 (fun c hc => (ep c hc).1) s 16 (Nat.le_refl 16)
  unfold q_X0_weigh F_X0_weigh_e
  refine s_bitCount (by omega) ?_
  rw [bc16 (by omega)]
  have ea1 : nI s &&& 255 = nI (s % 256) := fa_mask s 8
  have ea2 : (nI s >>> ((8 : Int32) &&& 31)) &&& 255 = nI (s / 256) := by
    rw [show (8 : Int32) = nI 8 from rfl, shrI (by omega) (by decide), Nat.shiftRight_eq_div_pow]
    have := fa_mask (s / 2 ^ 8) 8
    rw [show (2 : Nat) ^ 8 = 256 from rfl, Nat.mod_eq_of_lt (by omega)] at this
    exact this
  rw [ea1, ea2]
  refine ⟨vp_nI (by omega) (by decide), vp_nI (by omega) (by decide), ?_⟩
  rw [nI_clamp (by omega), nI_clamp (by omega), hlo _ (by omega), hhi _ (by omega), nI_add, ← wSm_split pa s 8 (Nat.le_refl 8), show 8 + 8 = 16 from rfl]
  rintro x rfl
  refine br_f (fun q => by rw [show (16 : Int32) = nI 16 from rfl, nI_ltI (by decide) (by omega)] at q; omega) ⟨vp_nI (by omega) (by decide), ?_⟩
  rw [nI_clamp (by omega)]
  refine ⟨h1, fun hle => s_canAll hW hH hd hs hds ew ea et el er hb (p_z (h2 hle) (fun q => ⟨vp_nI (by omega) (by decide), ?_⟩))⟩
  rintro x rfl
  refine ⟨vp_nI (by omega) (by decide), ?_⟩
  rintro y rfl
  exact h3 hle q
theorem s_weigh (S : iS W H pa w h all top left right parts hill) {d s : Nat} (hd : d < 2 ^ (W * H)) (hs : s < 2 ^ (W * H)) (hds : ∀ c, s.testBit c = true → d.testBit c = false) {lo hi : Nat → Int32} (hlo : ∀ s, s < 256 → lo s = nI (wSm pa s 8)) (hhi : ∀ s, s < 256 → hi s = nI (wSm (fun c => pa (8 + c)) s 8)) {sums sets : Nat → Int32} (T : tabI W H pa d s sums sets) : ∃ sums' sets', tabI W H pa d (s + 1) sums' sets' ∧ ∀ Q : (Nat → Int32) → (Nat → Int32) → Prop, Q sums' sets' → q_X0_weigh lo hi sums w all top left right sets (nI d) (nI s) Q := by
  have S' := S
  obtain ⟨hW, hH, hWH, ew, eh, ea, et, el, er, e0, e1, ep⟩ := S'
  have h16 := p16 hW hH
  have hpl := pop_le 16 s
  have hsl := wSm_le9 (fun c hc => (ep c hc).1) s 16 (Nat.le_refl 16)
  have noNew : (vld W H d s → ∃ s2, s2 < s ∧ vld W H d s2 ∧ pop 16 s2 = pop 16 s ∧ sums (pop 16 s) = nI (wSm pa s2 16) ∧ wSm pa s 16 ≤ wSm pa s2 16) → tabI W H pa d (s + 1) sums sets := by
    intro hv z hz
    rcases T z hz with ⟨a1, a2⟩ | ⟨s1, b1, b2, b3, b4, b5, b6⟩
    · refine .inl ⟨a1, fun s' hs' hv' => ?_⟩
      by_cases g : s' = s
      · subst g
        obtain ⟨s2, c1, c2, c3, c4, c5⟩ := hv hv'
        intro q
        exact a2 s2 c1 c2 (by rw [c3, q])
      · exact a2 s' (by omega) hv'
    · refine .inr ⟨s1, by omega, b2, b3, b4, b5, fun s' hs' hv' hp' => ?_⟩
      by_cases g : s' = s
      · subst g
        obtain ⟨s2, c1, c2, c3, c4, c5⟩ := hv hv'
        have l1 := wSm_le9 (fun c hc => (ep c hc).1) s1 16 (Nat.le_refl 16)
        have l2 := wSm_le9 (fun c hc => (ep c hc).1) s2 16 (Nat.le_refl 16)
        have e12 : wSm pa s1 16 = wSm pa s2 16 := by
          rw [hp', b4] at c4
          exact nI_inj (by omega) (by omega) c4
        have := Nat.le_of_lt b1
        omega
      · exact b6 s' (by omega) hv' hp'
  by_cases hle : nI (wSm pa s 16) ≤ sums (pop 16 s)
  · refine ⟨sums, sets, noNew fun hv => ?_, fun Q hq => ?_⟩
    · rcases T (pop 16 s) hpl with ⟨a1, a2⟩ | ⟨s1, b1, b2, b3, b4, b5, b6⟩
      · rw [a1] at hle
        exact absurd hle (neg1_lt (by omega))
      · refine ⟨s1, b1, b2, b3, b4, ?_⟩
        have l1 := wSm_le9 (fun c hc => (ep c hc).1) s1 16 (Nat.le_refl 16)
        rw [b4, nI_leI (by omega) (by omega)] at hle
        exact hle
    · classical
      exact s_weigh0 (b := decide (okD W H d s)) S hd hs hds hlo hhi decide_eq_true_iff (fun _ => hq) (fun q => absurd hle q) (fun q => absurd hle q)
  by_cases ok : okD W H d s
  · refine ⟨upd sums (pop 16 s) (nI (wSm pa s 16)), upd sets (pop 16 s) (nI s), fun z hz => ?_, fun Q hq => s_weigh0 (b := true) S hd hs hds hlo hhi ⟨fun _ => ok, fun _ => rfl⟩ (fun q => absurd q hle) (fun _ q => nomatch q) (fun _ _ => hq)⟩
    by_cases g : z = pop 16 s
    · refine .inr ⟨s, by omega, ⟨hs, hds, ok⟩, g.symm, ?_, ?_, fun s' hs' hv' hp' => ?_⟩
      · rw [upd_at, if_pos g]
      · rw [upd_at, if_pos g]
      · by_cases g2 : s' = s
        · subst g2; exact .inr ⟨rfl, Nat.le_refl _⟩
        · rcases T z hz with ⟨a1, a2⟩ | ⟨s1, b1, b2, b3, b4, b5, b6⟩
          · exact absurd hp' (a2 s' (by omega) hv')
          · have := b6 s' (by omega) hv' hp'
            rw [← g, b4] at hle
            have l1 := wSm_le9 (fun c hc => (ep c hc).1) s1 16 (Nat.le_refl 16)
            rw [nI_leI (by omega) (by omega)] at hle
            omega
    · rcases T z hz with ⟨a1, a2⟩ | ⟨s1, b1, b2, b3, b4, b5, b6⟩
      · refine .inl ⟨by rw [upd_at, if_neg g]; exact a1, fun s' hs' hv' => ?_⟩
        by_cases g2 : s' = s
        · subst g2; exact fun q => g q.symm
        · exact a2 s' (by omega) hv'
      · refine .inr ⟨s1, by omega, b2, b3, by rw [upd_at, if_neg g]; exact b4, by rw [upd_at, if_neg g]; exact b5, fun s' hs' hv' hp' => ?_⟩
        by_cases g2 : s' = s
        · subst g2; exact absurd hp'.symm g
        · exact b6 s' (by omega) hv' hp'
  · exact ⟨sums, sets, noNew fun hv => absurd hv.2.2 ok, fun Q hq => s_weigh0 (b := false) S hd hs hds hlo hhi ⟨fun q => (nomatch q), fun q => absurd q ok⟩ (fun q => absurd q hle) (fun _ _ => hq) (fun _ q => nomatch q)⟩
def caB (W H : Nat) (pa : Nat → Nat) (lf : Int32) (sums sets : Nat → Int32) : Prop := lf = -1 ∨ ∃ d, d < 2 ^ (W * H) ∧ lf = nI d ∧ tabI W H pa d (2 ^ (W * H)) sums sets
theorem s_lookB (S : iS W H pa w h all top left right parts hill) {d : Nat} (hd : d < 2 ^ (W * H)) {lf : Int32} {lo hi sums sets : Nat → Int32} (ca : caB W H pa lf sums sets) : ∃ lo' hi' sets' sums', tabI W H pa d (2 ^ (W * H)) sums' sets' ∧ ∀ Q : Int32 → (Nat → Int32) → (Nat → Int32) → (Nat → Int32) → (Nat → Int32) → Prop, Q (nI d) lo' hi' sets' sums' → q_X0_lookFrom lf w all top left right lo parts hi sets sums (nI d) Q := by
  have S' := S
  obtain ⟨hW, hH, hWH, ew, eh, ea, et, el, er, e0, e1, ep⟩ := S'
  have h16 := p16 hW hH
  have hcl := cells_le hW hH
  by_cases hlf : lf = nI d
  · refine ⟨lo, hi, sets, sums, ?_, fun Q hq => ⟨0, ?_⟩⟩
    · rcases ca with q | ⟨d2, a1, a2, a3⟩
      · rw [q] at hlf
        exact absurd (Int32.le_of_eq hlf.symm) (neg1_lt (by omega))
      · have : d2 = d := nI_inj (by omega) (by omega) (a2.symm.trans hlf)
        subst this
        exact a3
    · unfold F_X0_lookFrom_e
      refine p_m hlf ?_
      rw [hlf]; exact hq
  have hf : dif (2 ^ (W * H) - 1) d < 2 ^ (W * H) := dif_lt (by have := Nat.two_pow_pos (W * H); omega)
  have hfb : ∀ i, (dif (2 ^ (W * H) - 1) d).testBit i = (decide (i < W * H) && !d.testBit i) := fun i => by rw [dif_bit (by omega), tb_full]
  have hvs : ∀ s, vld W H d s → sub s (dif (2 ^ (W * H) - 1) d) := fun s hv => vld_sub hcl hv
  have hfI : all &&& (nI d ^^^ (-1)) = nI (dif (2 ^ (W * H) - 1) d) := by rw [ea, dif_I (by omega)]
  generalize hfe : dif (2 ^ (W * H) - 1) d = f at hf hfb hvs hfI
  obtain ⟨lo', hlo, hLo⟩ := s_addUp (pb := pa) (o := 0) (parts := parts) (by omega) (fun c hc => by rw [Nat.zero_add]; exact (ep c (by omega)).2.1) lo
  obtain ⟨hi', hhi, hHi⟩ := s_addUp (pb := fun c => pa (8 + c)) (o := 8) (parts := parts) (by omega) (fun c hc => (ep (8 + c) (by omega)).2.1) hi
  have L : ∀ N cur i (sums sets : Nat → Int32), f - cur < N → sub cur f → i ≤ cur → tabI W H pa d cur sums sets → ∃ sets' sums', tabI W H pa d (2 ^ (W * H)) sums' sets' ∧ ∀ Q : Int32 → (Nat → Int32) → (Nat → Int32) → (Nat → Int32) → (Nat → Int32) → Prop, Q (nI d) lo' hi' sets' sums' → ∃ n, wp_X0_lookFrom w all top left right parts (nI d) Q n 82 (nI f) (nI cur) (nI i) (nI d) lo' hi' sets sums := by
    intro N
    induction N with
    | zero => intro cur i sums sets hN; omega
    | succ N ih =>
      intro cur i sums sets hN hc hi2 T
      have hcf := sub_le 16 cur f (by omega) hc
      have hds : ∀ c, cur.testBit c = true → d.testBit c = false := fun c q => by
        have := hc c q
        rw [hfb, Bool.and_eq_true] at this
        simpa using this.2
      obtain ⟨sums1, sets1, T1, hW1⟩ := s_weigh S hd (s := cur) (by omega) hds hlo hhi T
      have mono : ∀ m, (∀ s, s < m → vld W H d s → s < cur + 1) → cur + 1 ≤ m → tabI W H pa d m sums1 sets1 := by
        intro m lt hm z hz
        rcases T1 z hz with ⟨a1, a2⟩ | ⟨s1, b1, b2, b3, b4, b5, b6⟩
        · exact .inl ⟨a1, fun s hs hv => a2 s (lt s hs hv) hv⟩
        · exact .inr ⟨s1, by omega, b2, b3, b4, b5, fun s hs hv => b6 s (lt s hs hv) hv⟩
      by_cases e : cur = f
      · refine ⟨sets1, sums1, mono _ (fun s _ hv => ?_) (by omega), fun Q hq => ⟨1, ?_⟩⟩
        · have := sub_le 16 s f (by omega) (hvs s hv); omega
        · show F_X0_lookFrom_82 w all top left right parts (nI d) Q (wp_X0_lookFrom w all top left right parts (nI d) Q 0) (nI f) (nI cur) (nI i) (nI d) lo' hi' sets sums
          unfold F_X0_lookFrom_82
          refine br_f (nI_ge (b := 65536) (by omega) (by decide)) (hW1 _ ?_)
          rw [nxt_I (by omega) hc, e, nxt_eq]
          rintro x rfl
          exact p_m rfl hq
      · obtain ⟨g1, g2⟩ := nxt_gt 16 f cur (by omega) hc e
        have hns := nxt_sub (f := f) (c := cur) (by omega) hc
        have hle := sub_le 16 (nxt 16 f cur) f (by omega) hns
        obtain ⟨sets2, sums2, T2, hN2⟩ := ih (nxt 16 f cur) (i + 1) sums1 sets1 (by omega) hns (by omega) (mono _ (fun s hs hv => by
            rcases Nat.lt_or_ge cur s with q | q
            · have := g2 s (hvs s hv) q; omega
            · omega) (by omega))
        refine ⟨sets2, sums2, T2, fun Q hq => ?_⟩
        obtain ⟨n, hn⟩ := hN2 Q hq
        refine ⟨n + 1, ?_⟩
        show F_X0_lookFrom_82 w all top left right parts (nI d) Q (wp_X0_lookFrom w all top left right parts (nI d) Q n) (nI f) (nI cur) (nI i) (nI d) lo' hi' sets sums
        unfold F_X0_lookFrom_82
        refine br_f (nI_ge (b := 65536) (by omega) (by decide)) (hW1 _ ?_)
        rw [nxt_I (by omega) hc]
        rintro x rfl
        refine p_n (nI_ne0 (by omega) (by omega)) ?_
        rintro y rfl
        rw [nI_1]; exact hn
  have L1 : ∀ m k (sums sets : Nat → Int32), k + m = 17 → (∀ z, z < k → sums z = -1) → ∃ sets' sums', tabI W H pa d (2 ^ (W * H)) sums' sets' ∧ ∀ Q : Int32 → (Nat → Int32) → (Nat → Int32) → (Nat → Int32) → (Nat → Int32) → Prop, Q (nI d) lo' hi' sets' sums' → ∃ n, wp_X0_lookFrom w all top left right parts (nI d) Q n 41 (nI k) 0 0 (nI d) lo' hi' sets sums := by
    intro m
    induction m with
    | zero =>
      intro k sums sets hk hz
      have : k = 17 := by omega
      subst this
      obtain ⟨sets2, sums2, T2, hN2⟩ := L (f + 1) 0 0 sums sets (by omega) (fun i hi => by rw [Nat.zero_testBit] at hi; cases hi) (Nat.le_refl 0) (fun z hz2 => .inl ⟨hz z (by omega), fun s hs => by omega⟩)
      refine ⟨sets2, sums2, T2, fun Q hq => ?_⟩
      obtain ⟨n, hn⟩ := hN2 Q hq
      refine ⟨n + 1, ?_⟩
      show F_X0_lookFrom_41 w all top left right parts (nI d) Q (wp_X0_lookFrom w all top left right parts (nI d) Q n) (nI 17) 0 0 (nI d) lo' hi' sets sums
      unfold F_X0_lookFrom_41
      refine br_t (by decide) ?_
      rw [hfI]
      rintro x rfl
      exact hn
    | succ m ih =>
      intro k sums sets hk hz
      obtain ⟨sets2, sums2, T2, hN2⟩ := ih (k + 1) (upd sums k (-1)) (upd sets k 0) (by omega) (fun z hz2 => by
        rw [upd_at]
        by_cases g : z = k
        · rw [if_pos g]
        · rw [if_neg g]; exact hz z (by omega))
      refine ⟨sets2, sums2, T2, fun Q hq => ?_⟩
      obtain ⟨n, hn⟩ := hN2 Q hq
      refine ⟨n + 1, ?_⟩
      show F_X0_lookFrom_41 w all top left right parts (nI d) Q (wp_X0_lookFrom w all top left right parts (nI d) Q n) (nI k) 0 0 (nI d) lo' hi' sets sums
      unfold F_X0_lookFrom_41
      refine br_f (fun q => by rw [show (16 : Int32) = nI 16 from rfl, nI_ltI (by decide) (by omega)] at q; omega) ⟨vp_nI (by omega) (by decide), ?_⟩
      rw [nI_clamp (by omega)]
      rintro x rfl
      refine ⟨vp_nI (by omega) (by decide), ?_⟩
      rintro y rfl z rfl
      rw [nI_1]; exact hn
  obtain ⟨sets2, sums2, T2, hN2⟩ := L1 17 0 sums sets (by omega) (fun z hz => by omega)
  refine ⟨lo', hi', sets2, sums2, T2, fun Q hq => ?_⟩
  obtain ⟨n, hn⟩ := hN2 Q hq
  refine ⟨n, ?_⟩
  unfold F_X0_lookFrom_e
  exact p_n hlf (hLo _ (hHi _ hn))
theorem s_bestSize {sums : Nat → Int32} {k : Nat} (hk : k ≤ 16) : ∃ z, z ≤ k ∧ (∀ y, y ≤ k → sums y ≤ sums z) ∧ (∀ y, y < z → sums y < sums z) ∧ ∀ Q : Int32 → Prop, Q (nI z) → q_X0_bestSize sums (nI k) Q := by
  have L : ∀ m j b, j + m = k + 1 → b < j → (∀ y, y < j → sums y ≤ sums b) → (∀ y, y < b → sums y < sums b) → ∃ z, z ≤ k ∧ (∀ y, y ≤ k → sums y ≤ sums z) ∧ (∀ y, y < z → sums y < sums z) ∧ ∀ Q : Int32 → Prop, Q (nI z) → ∃ n, wp_X0_bestSize sums (nI k) Q n 4 (nI b) (nI j) := by
    intro m
    induction m with
    | zero =>
      intro j b hj hb h1 h2
      refine ⟨b, by omega, fun y hy => h1 y (by omega), h2, fun Q hq => ⟨1, ?_⟩⟩
      show F_X0_bestSize_4 sums (nI k) Q (wp_X0_bestSize sums (nI k) Q 0) (nI b) (nI j)
      unfold F_X0_bestSize_4
      exact br_t (nI_lt (by omega) (by omega)) hq
    | succ m ih =>
      intro j b hj hb h1 h2
      have pre : ∀ Q n, ((sums j ≤ sums b → wp_X0_bestSize sums (nI k) Q n 4 (nI b) (nI (j + 1))) ∧ (¬ sums j ≤ sums b → wp_X0_bestSize sums (nI k) Q n 4 (nI j) (nI (j + 1)))) → wp_X0_bestSize sums (nI k) Q (n + 1) 4 (nI b) (nI j) := by
        intro Q n hn
        show F_X0_bestSize_4 sums (nI k) Q (wp_X0_bestSize sums (nI k) Q n) (nI b) (nI j)
        unfold F_X0_bestSize_4
        refine br_f (fun q => by rw [nI_ltI (by omega) (by omega)] at q; omega) (br_f (fun q => by rw [show (16 : Int32) = nI 16 from rfl, nI_ltI (by decide) (by omega)] at q; omega) ⟨vp_nI (by omega) (by decide), vp_nI (by omega) (by decide), ?_⟩)
        rw [nI_clamp (by omega), nI_clamp (by omega), nI_1]
        exact ⟨fun q x ex => ex ▸ hn.1 q, fun q x ex => ex ▸ hn.2 q⟩
      by_cases g : sums j ≤ sums b
      · obtain ⟨z, z1, z2, z3, hN⟩ := ih (j + 1) b (by omega) (by omega) (fun y hy => by
          by_cases e : y = j
          · rw [e]; exact g
          · exact h1 y (by omega)) h2
        refine ⟨z, z1, z2, z3, fun Q hq => ?_⟩
        obtain ⟨n, hn⟩ := hN Q hq
        exact ⟨n + 1, pre Q n (br_t g hn)⟩
      · have g' : sums b < sums j := fa_of_nle g
        obtain ⟨z, z1, z2, z3, hN⟩ := ih (j + 1) j (by omega) (by omega) (fun y hy => by
          by_cases e : y = j
          · rw [e]; exact Int32.le_refl _
          · have := h1 y (by omega)
            rw [fa_le] at this ⊢; rw [fa_lt] at g'; omega) (fun y hy => by
            have := h1 y (by omega)
            rw [fa_le] at this; rw [fa_lt] at g' ⊢; omega)
        refine ⟨z, z1, z2, z3, fun Q hq => ?_⟩
        obtain ⟨n, hn⟩ := hN Q hq
        exact ⟨n + 1, pre Q n (br_f g hn)⟩
  obtain ⟨z, z1, z2, z3, hN⟩ := L k 1 0 (by omega) (by omega) (fun y hy => by rw [show y = 0 by omega]; exact Int32.le_refl _) (fun y hy => by omega)
  refine ⟨z, z1, z2, z3, fun Q hq => ?_⟩
  obtain ⟨n, hn⟩ := hN Q hq
  exact ⟨n, hn⟩
/-- the best set of at most k cells, below m -/
def bstI (W H : Nat) (pa : Nat → Nat) (d k m b : Nat) : Prop := vld W H d b ∧ pop 16 b ≤ k ∧ ∀ s, s < m → vld W H d s → pop 16 s ≤ k → wSm pa s 16 < wSm pa b 16 ∨ (wSm pa s 16 = wSm pa b 16 ∧ (pop 16 b < pop 16 s ∨ (pop 16 b = pop 16 s ∧ b ≤ s)))
theorem bstI_one {d k b b' : Nat} (h : bstI W H pa d k (2 ^ (W * H)) b) (h' : bstI W H pa d k (2 ^ (W * H)) b') : b = b' := by
  have h1 := h.2.2 b' h'.1.1 h'.1 h'.2.1
  have h2 := h'.2.2 b h.1.1 h.1 h.2.1
  omega
theorem bst_of_tab (hp : ∀ c, c < 16 → pa c ≤ 9) {d k z : Nat} (hk : k ≤ 16) {sums sets : Nat → Int32} (T : tabI W H pa d (2 ^ (W * H)) sums sets) (z1 : z ≤ k) (z2 : ∀ y, y ≤ k → sums y ≤ sums z) (z3 : ∀ y, y < z → sums y < sums z) : ∃ b, bstI W H pa d k (2 ^ (W * H)) b ∧ sets z = nI b ∧ sums z = nI (wSm pa b 16) := by
  have sm := fun s => wSm_le9 hp s 16 (Nat.le_refl 16)
  have s0 : (0 : Int32) ≤ sums 0 := by
    rcases T 0 (by omega) with ⟨a1, a2⟩ | ⟨s1, b1, b2, b3, b4, b5, b6⟩
    · exact absurd (pop_0 16) (a2 0 (Nat.two_pow_pos _) vld_0)
    · rw [b4]; exact nI_pos' (by have := sm s1; omega)
  rcases T z (by omega) with ⟨a1, a2⟩ | ⟨s1, b1, b2, b3, b4, b5, b6⟩
  · have := z2 0 (by omega)
    rw [a1] at this
    rw [fa_le] at this s0
    have e : (-1 : Int32).toInt = -1 := by decide
    have e2 : (0 : Int32).toInt = 0 := by decide
    omega
  · refine ⟨s1, ⟨b2, by omega, fun s hs hv hps => ?_⟩, b5, b4⟩
    rcases T (pop 16 s) (by omega) with ⟨c1, c2⟩ | ⟨s2, d1, d2, d3, d4, d5, d6⟩
    · exact absurd rfl (c2 s hs hv)
    · have q1 := d6 s hs hv rfl
      have q2 := z2 (pop 16 s) (by omega)
      have l1 := sm s1
      have l2 := sm s2
      rw [d4, b4, nI_leI (by omega) (by omega)] at q2
      by_cases g : pop 16 s < z
      · have q3 := z3 (pop 16 s) g
        rw [d4, b4, nI_ltI (by omega) (by omega)] at q3
        omega
      · by_cases g2 : pop 16 s = z
        · have := b6 s hs hv g2
          omega
        · omega
end Best

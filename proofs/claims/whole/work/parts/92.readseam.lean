/-! ===== the seam is read ===== -/
theorem s_shape {W H : Nat} (hW : W ≤ 4) (hH : H ≤ 4) (hWH : W = 0 → H = 0) (w h all top left right : Int32) (parts : Nat → Int32) : ∃ parts' : Nat → Int32, (∀ c, c < 16 → parts' c = 0) ∧ ∀ Q : Int32 → Int32 → Int32 → Int32 → Int32 → Int32 → (Nat → Int32) → Prop, Q (nI W) (nI H) (nI (2 ^ (W * H) - 1)) (nI (2 ^ W - 1)) (nI (lfm W H)) (nI (rgm W H)) parts' → q_X4_shape w h all top left right parts (nI W) (nI H) Q := by
  have hcl := cells_le hW hH
  have L2 : ∀ (Q : Int32 → Int32 → Int32 → Int32 → Int32 → Int32 → (Nat → Int32) → Prop) (f : Nat → Int32), Q (nI W) (nI H) (nI (2 ^ (W * H) - 1)) (nI (2 ^ W - 1)) (nI (lfm W H)) (nI (rgm W H)) f → ∀ m y, y + m = H → ∃ n, wp_X4_shape (nI W) (nI H) Q n 72 (nI y) (nI W) (nI H) (nI (2 ^ (W * H) - 1)) (nI (2 ^ W - 1)) (nI (lfm W y)) (nI (rgm W y)) f := by
    intro Q f hq m
    induction m with
    | zero =>
      intro y hy
      have : y = H := by omega
      subst this
      refine ⟨1, ?_⟩
      show F_X4_shape_72 (nI W) (nI y) Q (wp_X4_shape (nI W) (nI y) Q 0) (nI y) (nI W) (nI y) (nI (2 ^ (W * y) - 1)) (nI (2 ^ W - 1)) (nI (lfm W y)) (nI (rgm W y)) f
      unfold F_X4_shape_72
      exact br_t (Int32.le_refl _) hq
    | succ m ih =>
      intro y hy
      obtain ⟨n, hn⟩ := ih (y + 1) (by omega)
      have hW0 : 0 < W := by
        rcases Nat.eq_zero_or_pos W with q | q
        · have := hWH q; omega
        · exact q
      refine ⟨n + 1, ?_⟩
      show F_X4_shape_72 (nI W) (nI H) Q (wp_X4_shape (nI W) (nI H) Q n) (nI y) (nI W) (nI H) (nI (2 ^ (W * H) - 1)) (nI (2 ^ W - 1)) (nI (lfm W y)) (nI (rgm W y)) f
      unfold F_X4_shape_72
      refine br_f (nI_ge (by omega) (by omega)) (s_bitOf (x := 0) hW hH hW0 (by omega) ?_)
      rw [fa_or]
      rintro x rfl
      rw [show nI W - 1 = nI (W - 1) from pk_sub (b := 1) hW0]
      refine s_bitOf hW hH (by omega) (by omega) ?_
      rw [fa_or]
      rintro x rfl z rfl
      rw [nI_1]; exact hn
  have L1 : ∀ m k (f : Nat → Int32), k + m = 16 → (∀ c, c < k → f c = 0) → ∃ parts' : Nat → Int32, (∀ c, c < 16 → parts' c = 0) ∧ ∀ Q : Int32 → Int32 → Int32 → Int32 → Int32 → Int32 → (Nat → Int32) → Prop, Q (nI W) (nI H) (nI (2 ^ (W * H) - 1)) (nI (2 ^ W - 1)) (nI (lfm W H)) (nI (rgm W H)) parts' → ∃ n, wp_X4_shape (nI W) (nI H) Q n 12 (nI k) (nI W) (nI H) all top left right f := by
    intro m
    induction m with
    | zero =>
      intro k f hk hf
      have : k = 16 := by omega
      subst this
      refine ⟨f, hf, fun Q hq => ?_⟩
      obtain ⟨n, hn⟩ := L2 Q f hq H 0 (by omega)
      refine ⟨n + 1, ?_⟩
      show F_X4_shape_12 (nI W) (nI H) Q (wp_X4_shape (nI W) (nI H) Q n) (nI 16) (nI W) (nI H) all top left right f
      unfold F_X4_shape_12
      refine br_t (Int32.le_refl _) ?_
      rw [pk_mul, sh1 (by omega), sh1 (by omega), show nI (2 ^ (W * H)) - 1 = nI (2 ^ (W * H) - 1) from pk_sub (b := 1) (Nat.two_pow_pos _), show nI (2 ^ W) - 1 = nI (2 ^ W - 1) from pk_sub (b := 1) (Nat.two_pow_pos _)]
      rintro x rfl y rfl
      exact hn
    | succ m ih =>
      intro k f hk hf
      obtain ⟨parts', hp, hN⟩ := ih (k + 1) (upd f k 0) (by omega) (fun c hc => by
        rw [upd_at]
        by_cases g : c = k
        · rw [if_pos g]
        · rw [if_neg g]; exact hf c (by omega))
      refine ⟨parts', hp, fun Q hq => ?_⟩
      obtain ⟨n, hn⟩ := hN Q hq
      refine ⟨n + 1, ?_⟩
      show F_X4_shape_12 (nI W) (nI H) Q (wp_X4_shape (nI W) (nI H) Q n) (nI k) (nI W) (nI H) all top left right f
      unfold F_X4_shape_12
      refine br_f (nI_ge (b := 16) (by omega) (by decide)) ⟨vp_nI (by omega) (by decide), ?_⟩
      rw [nI_clamp (by omega), nI_1]
      rintro x rfl y rfl
      exact hn
  obtain ⟨parts', hp, hN⟩ := L1 16 0 parts (by omega) (fun c hc => by omega)
  refine ⟨parts', hp, fun Q hq => ?_⟩
  obtain ⟨n, hn⟩ := hN Q hq
  exact ⟨n, hn⟩
section Rd
variable {n p : Nat} {t : Nat → Nat} {xb yt : Nat → Int32}
theorem pr_cells (T6 : tx n t xb) (T7 : tx n t yt) {W H : Nat} (hW : W ≤ 4) (hH : H ≤ 4) (al tp lf rg : Int32) (read : Nat → Int32) : ∀ m c p (ts bg tk td : Int32) (pa : Nat → Nat) (parts rd : Nat → Int32), c + m = W * H → p ≤ n → (∀ i, i < 16 → pa i ≤ 9 ∧ parts i = nI (pa i) ∧ rd (6 + i) = nI (pa i)) → rd 0 = nI W → rd 1 = nI H → (∀ k, (2 ≤ k ∧ k < 6) ∨ 22 ≤ k → rd k = read k) → ∃ (r pl ts' : Int32) (parts' : Nat → Int32) (a bg' tok td' : Int32) (rd' : Nat → Int32), (∀ Q : Int32 → Int32 → Int32 → Int32 → Int32 → Int32 → Int32 → Int32 → Int32 → Int32 → (Nat → Int32) → Prop, Q r pl ts' 1 (nI W) (nI H) al tp lf rg parts' → ∃ k, wp_X3_readSeam (nI n) xb Q k 54 (nI W) (nI H) (nI c) (nI p) ts 1 (nI W) (nI H) al tp lf rg parts) ∧ (∀ Q : Int32 → Int32 → Int32 → Int32 → Int32 → (Nat → Int32) → Prop, Q r a bg' tok td' rd' → ∃ k, wp_X7_readSeam (nI n) yt Q k 53 (nI c) (nI p) bg tk td rd) ∧ ((r = 1 ∧ okE n p pl a ∧ (∃ pa' : Nat → Nat, ∀ i, i < 16 → pa' i ≤ 9 ∧ parts' i = nI (pa' i) ∧ rd' (6 + i) = nI (pa' i)) ∧ rd' 0 = nI W ∧ rd' 1 = nI H ∧ (∀ k, (2 ≤ k ∧ k < 6) ∨ 22 ≤ k → rd' k = read k)) ∨ (r = 0 ∧ bad n ts' bg')) := by
  have hcl := cells_le hW hH
  have hn := T6.1
  intro m
  induction m with
  | zero =>
    intro c p ts bg tk td pa parts rd hc hp hpa h0 h1 hk
    have : c = W * H := by omega
    subst this
    obtain ⟨r, pl, ts', a, bg', tok, td', hcE, hrE, O⟩ := pr_end T6 T7 hp ts bg tk td
    refine ⟨r, pl, ts', parts, a, bg', tok, td', rd, fun Q hq => ⟨1, ?_⟩, fun Q hq => ⟨1, ?_⟩, ?_⟩
    · show F_X3_readSeam_54 (nI n) xb Q (wp_X3_readSeam (nI n) xb Q 0) (nI W) (nI H) (nI (W * H)) (nI p) ts 1 (nI W) (nI H) al tp lf rg parts
      unfold F_X3_readSeam_54
      rw [pk_mul]
      exact br_t (Int32.le_refl _) (hcE _ ⟨r01 O, hq⟩)
    · show F_X7_readSeam_53 (nI n) yt Q (wp_X7_readSeam (nI n) yt Q 0) (nI (W * H)) (nI p) bg tk td rd
      unfold F_X7_readSeam_53
      rw [c0, c1, h0, h1, pk_mul]
      exact br_t (Int32.le_refl _) (hrE _ ⟨r01 O, hq⟩)
    · rcases O with ⟨g, ok⟩ | ⟨g, hb⟩
      · exact .inl ⟨g, ok, ⟨pa, hpa⟩, h0, h1, hk⟩
      · exact .inr ⟨g, hb⟩
  | succ m ih =>
    intro c p ts bg tk td pa parts rd hc hp hpa h0 h1 hk
    obtain ⟨q, hb⟩ := blk_ex t hp
    have hb2 := hb
    obtain ⟨b1, b2, b3, b4⟩ := hb2
    have ngt : ¬ nI (W * H) ≤ nI c := nI_ge (by omega) (by omega)
    by_cases hd : q < n ∧ isD (t q) = true
    · have hv := isD_t hd.2
      have e48 : nI (t q) - 48 = nI (t q - 48) := pk_sub (b := 48) hv.1
      obtain ⟨r, pl, ts', parts', a, bg', tok, td', rd', hC, hR, O⟩ := ih (c + 1) (q + 1) (nI q) (nI q) tk td (upN pa c (t q - 48)) (upd parts c (nI (t q - 48))) (upd rd (6 + c) (nI (t q - 48))) (by omega) (by omega) (fun i hi => by
        rw [upd_at, upd_at]
        unfold upN
        by_cases g : i = c
        · rw [if_pos g, if_pos g, if_pos (by omega)]; exact ⟨by omega, rfl, rfl⟩
        · rw [if_neg g, if_neg g, if_neg (by omega)]; exact hpa i hi) (by rw [upd_at, if_neg (by omega)]; exact h0) (by rw [upd_at, if_neg (by omega)]; exact h1) (fun k hk2 => by rw [upd_at, if_neg (by omega)]; exact hk k hk2)
      refine ⟨r, pl, ts', parts', a, bg', tok, td', rd', fun Q hq => ?_, fun Q hq => ?_, ?_⟩
      · obtain ⟨k, hk⟩ := hC Q hq
        refine ⟨k + 1, ?_⟩
        show F_X3_readSeam_54 (nI n) xb Q (wp_X3_readSeam (nI n) xb Q k) (nI W) (nI H) (nI c) (nI p) ts 1 (nI W) (nI H) al tp lf rg parts
        unfold F_X3_readSeam_54
        rw [pk_mul]
        refine br_f ngt ?_
        unfold q_X3_readFigure F_X3_readFigure_e
        refine s_findToken T6 hb (s_isDigitAt T6 (by omega) ?_)
        rw [decide_eq_true hd.1, hd.2]
        refine p_n (by decide) ?_
        rw [nI_1, nI_clamp (n := q) (by omega), (T6.2 q hd.1).2, e48]
        rintro x rfl
        refine ⟨vp_nI (by omega) (by decide), p_n (not_m1 (by omega)) ⟨vp_nI (by omega) (by decide), ?_⟩⟩
        rw [nI_clamp (by omega), nI_1]
        rintro f rfl y rfl
        exact hk
      · obtain ⟨k, hk⟩ := hR Q hq
        refine ⟨k + 1, ?_⟩
        show F_X7_readSeam_53 (nI n) yt Q (wp_X7_readSeam (nI n) yt Q k) (nI c) (nI p) bg tk td rd
        unfold F_X7_readSeam_53
        rw [c0, c1, h0, h1, pk_mul]
        refine br_f ngt (s_blanks T7 hb (br_f (fun g => by have := nI_inj (by omega) (by omega) g; omega) ⟨vp_nI (by omega) (by decide), ?_⟩))
        rw [nI_clamp (n := q) (by omega), (T7.2 q hd.1).2]
        refine s_isFigure7 (T7.2 q hd.1).1 ?_
        rw [hd.2]
        refine p_n (by decide) ⟨vp_nI (by omega) (by decide), ?_⟩
        rw [show (6 : Int32) + nI c = nI (6 + c) from nI_add 6 c, nI_clamp (by omega), e48, nI_1, nI_1]
        refine ⟨vp_nI (by omega) (by decide), ?_⟩
        rintro f rfl x rfl y rfl
        exact hk
      · rcases O with ⟨g, ok, rest⟩ | ⟨g, hb⟩
        · exact .inl ⟨g, okE_up (by omega) ok, rest⟩
        · exact .inr ⟨g, hb⟩
    · have hdf : (decide (q < n) && isD (t q)) = false := by
        cases z : (decide (q < n) && isD (t q)) with
        | false => rfl
        | true =>
          rw [Bool.and_eq_true] at z
          exact absurd ⟨of_decide_eq_true z.1, z.2⟩ hd
      refine ⟨0, nI q, nI q, parts, nI q, nI q, tk, td, rd, fun Q hq => ⟨1, ?_⟩, fun Q hq => ⟨1, ?_⟩, .inr ⟨rfl, q, b2, rfl, rfl⟩⟩
      · show F_X3_readSeam_54 (nI n) xb Q (wp_X3_readSeam (nI n) xb Q 0) (nI W) (nI H) (nI c) (nI p) ts 1 (nI W) (nI H) al tp lf rg parts
        unfold F_X3_readSeam_54
        rw [pk_mul]
        refine br_f ngt ?_
        unfold q_X3_readFigure F_X3_readFigure_e
        refine s_findToken T6 hb (s_isDigitAt T6 (by omega) ?_)
        rw [hdf]
        exact p_m rfl (p_m rfl hq)
      · show F_X7_readSeam_53 (nI n) yt Q (wp_X7_readSeam (nI n) yt Q 0) (nI c) (nI p) bg tk td rd
        unfold F_X7_readSeam_53
        rw [c0, c1, h0, h1, pk_mul]
        refine br_f ngt (s_blanks T7 hb ?_)
        by_cases z : q = n
        · exact br_t (by rw [z]) hq
        · refine br_f (fun g => z (nI_inj (by omega) (by omega) g)) ⟨vp_nI (by omega) (by decide), ?_⟩
          rw [nI_clamp (n := q) (by omega), (T7.2 q (by omega)).2]
          refine s_isFigure7 (T7.2 q (by omega)).1 ?_
          rw [decide_eq_true (show q < n by omega), Bool.true_and] at hdf
          rw [hdf]
          exact p_m rfl hq
theorem pr_readSeam (T6 : tx n t xb) (T7 : tx n t yt) (hp : p ≤ n) {ts bg tk td : Int32} (hts : bad n ts bg) {st : Bool} {read : Nat → Int32} (hst : st = false → read 0 = 0 ∧ ∀ c, c < 16 → read (6 + c) = 0) (hst2 : st = true → 0 < read 0) (w h all top left right : Int32) (parts : Nat → Int32) : ∃ (r pl ts' sT' w' h' all' top' left' right' : Int32) (parts' : Nat → Int32) (a bg' tok td' : Int32) (read' : Nat → Int32), (∀ Q : Int32 → Int32 → Int32 → Int32 → Int32 → Int32 → Int32 → Int32 → Int32 → Int32 → (Nat → Int32) → Prop, Q r pl ts' sT' w' h' all' top' left' right' parts' → q_X3_readSeam (nI n) (nI p) ts (bI st) xb w h all top left right parts Q) ∧ (∀ Q : Int32 → Int32 → Int32 → Int32 → Int32 → (Nat → Int32) → Prop, Q r a bg' tok td' read' → q_X7_readSeam (nI n) (nI p) bg tk td read yt Q) ∧ ((r = 1 ∧ okE n p pl a ∧ st = false ∧ sT' = 1 ∧ ∃ (W H : Nat) (pa : Nat → Nat), 1 ≤ W ∧ W ≤ 4 ∧ 1 ≤ H ∧ H ≤ 4 ∧ w' = nI W ∧ h' = nI H ∧ all' = nI (2 ^ (W * H) - 1) ∧ top' = nI (2 ^ W - 1) ∧ left' = nI (lfm W H) ∧ right' = nI (rgm W H) ∧ (∀ i, i < 16 → pa i ≤ 9 ∧ parts' i = nI (pa i) ∧ read' (6 + i) = nI (pa i)) ∧ read' 0 = nI W ∧ read' 1 = nI H ∧ (∀ k, (2 ≤ k ∧ k < 6) ∨ 22 ≤ k → read' k = read k)) ∨ (r = 0 ∧ bad n ts' bg')) := by
  cases st with
  | true =>
    refine ⟨0, nI p, ts, 1, w, h, all, top, left, right, parts, nI p, bg, tk, td, read, fun Q hq => ⟨0, ?_⟩, fun Q hq => ⟨0, ?_⟩, .inr ⟨rfl, hts⟩⟩
    · unfold F_X3_readSeam_e
      exact br_f (by decide) hq
    · unfold F_X7_readSeam_e
      rw [c0]
      exact br_t (hst2 rfl) hq
  | false =>
    obtain ⟨hz0, hzc⟩ := hst rfl
    have n0 : ¬ (0 : Int32) < read 0 := by rw [hz0]; decide
    rcases pr_num T6 T7 hp (lo := 1) (hi := 4) (by decide) (by decide) ts bg tk td with ⟨W, e0, q0, w1, w4, pe0, en0, hc0, hr0⟩ | ⟨pl, ts', a, bg', tok, td', hbad, hc, hr⟩
    rotate_left
    · refine ⟨0, pl, ts', 0, w, h, all, top, left, right, parts, a, bg', tok, td', read, fun Q hq => ⟨0, ?_⟩, fun Q hq => ⟨0, ?_⟩, .inr ⟨rfl, hbad⟩⟩
      · unfold F_X3_readSeam_e
        exact br_t rfl (hc _ (p_m rfl hq))
      · unfold F_X7_readSeam_e
        rw [c0]
        exact br_f n0 (hr _ (p_m rfl hq))
    rcases pr_num T6 T7 en0 (lo := 1) (hi := 4) (by decide) (by decide) (nI q0) (nI q0) 2 (nI W) with ⟨H, e1, q1, h1, h4, pe1, en1, hc1, hr1⟩ | ⟨pl, ts', a, bg', tok, td', hbad, hc, hr⟩
    rotate_left
    · refine ⟨0, pl, ts', 0, w, h, all, top, left, right, parts, a, bg', tok, td', upd read 0 (nI W), fun Q hq => ⟨0, ?_⟩, fun Q hq => ⟨0, ?_⟩, .inr ⟨rfl, hbad⟩⟩
      · unfold F_X3_readSeam_e
        exact br_t rfl (hc0 _ (p_n (not_m1 (by omega)) (hc _ (p_m rfl hq))))
      · unfold F_X7_readSeam_e
        rw [c0]
        refine br_f n0 (hr0 _ (p_n (by decide) ?_))
        rintro f rfl
        exact hr _ (p_m rfl hq)
    obtain ⟨parts0, hp0, hS⟩ := s_shape w4 h4 (fun g => by omega) w h all top left right parts
    obtain ⟨r, pl, ts', parts', a, bg', tok, td', rd', hC, hR, O⟩ := pr_cells T6 T7 w4 h4 (nI (2 ^ (W * H) - 1)) (nI (2 ^ W - 1)) (nI (lfm W H)) (nI (rgm W H)) read (W * H) 0 e1 (nI q1) (nI q1) 2 (nI H) (fun _ => 0) parts0 (upd (upd read 0 (nI W)) 1 (nI H)) (by omega) en1 (fun i hi => ⟨by omega, hp0 i hi, by rw [upd_at, if_neg (by omega), upd_at, if_neg (by omega)]; exact hzc i hi⟩) (by rw [upd_at, if_neg (by omega), upd_at, if_pos rfl]) (by rw [upd_at, if_pos rfl]) (fun k hk => by rw [upd_at, if_neg (by omega), upd_at, if_neg (by omega)])
    refine ⟨r, pl, ts', 1, nI W, nI H, nI (2 ^ (W * H) - 1), nI (2 ^ W - 1), nI (lfm W H), nI (rgm W H), parts', a, bg', tok, td', rd', fun Q hq => ?_, fun Q hq => ?_, ?_⟩
    · obtain ⟨k, hk⟩ := hC Q hq
      refine ⟨k, ?_⟩
      unfold F_X3_readSeam_e
      exact br_t rfl (hc0 _ (p_n (not_m1 (by omega)) (hc1 _ (p_n (not_m1 (by omega)) (hS _ hk)))))
    · obtain ⟨k, hk⟩ := hR Q hq
      refine ⟨k, ?_⟩
      unfold F_X7_readSeam_e
      rw [c0, c1]
      refine br_f n0 (hr0 _ (p_n (by decide) ?_))
      rintro f rfl
      refine hr1 _ (p_n (by decide) ?_)
      rintro f rfl
      exact hk
    · rcases O with ⟨g, ok, ⟨pa', hpa⟩, k0, k1, kk⟩ | ⟨g, hb⟩
      · exact .inl ⟨g, okE_up (by omega) ok, rfl, rfl, W, H, pa', w1, w4, h1, h4, rfl, rfl, rfl, rfl, rfl, rfl, hpa, k0, k1, kk⟩
      · exact .inr ⟨g, hb⟩
end Rd

/-! ===== the next greater set, sums by halves ===== -/
theorem sub_half {x y : Nat} (h : sub x y) : sub (x / 2) (y / 2) ∧ (x % 2 = 1 → y % 2 = 1) := ⟨fun i hi => by
  have := h (i + 1)
  rw [Nat.testBit_add_one, Nat.testBit_add_one] at this
  exact this hi, fun q => by
  have := h 0
  rw [Nat.testBit_zero, Nat.testBit_zero] at this
  simpa [q] using this⟩
theorem sub_le : ∀ k x y, y < 2 ^ k → sub x y → x ≤ y
  | 0, x, y, hy, h => by
    have y0 : y = 0 := by simpa using hy
    subst y0
    have : x = 0 := Nat.eq_of_testBit_eq fun i => by
      rw [Nat.zero_testBit]
      cases q : x.testBit i with
      | false => rfl
      | true => have := h i q; rw [Nat.zero_testBit] at this; exact this.symm
    omega
  | k + 1, x, y, hy, h => by
    rw [Nat.pow_succ] at hy
    have := sub_le k (x / 2) (y / 2) (by omega) (sub_half h).1
    have := (sub_half h).2
    omega
theorem and2 (x y : Nat) : (x &&& y) / 2 = (x / 2 &&& y / 2) ∧ ((x &&& y) % 2 = 1 ↔ x % 2 = 1 ∧ y % 2 = 1) := ⟨Nat.and_div_two, Nat.and_mod_two_eq_one⟩
theorem nx_g : ∀ k f c, f < 2 ^ k → sub c f → (c + (2 ^ k - 1 - f)) &&& f = c
  | 0, f, c, hf, h => by
    have f0 : f = 0 := by simpa using hf
    have := sub_le 0 c f hf h
    subst f0
    have : c = 0 := by omega
    subst this
    rfl
  | k + 1, f, c, hf, h => by
    rw [Nat.pow_succ] at hf ⊢
    obtain ⟨h1, h2⟩ := sub_half h
    have ih := nx_g k (f / 2) (c / 2) (by omega) h1
    have hp : 0 < 2 ^ k := Nat.two_pow_pos k
    generalize hz : c + (2 ^ k * 2 - 1 - f) = z
    have e1 : z / 2 = c / 2 + (2 ^ k - 1 - f / 2) := by omega
    have e2 : z % 2 = c % 2 + 1 - f % 2 := by omega
    obtain ⟨a1, a2⟩ := and2 z f
    rw [e1, ih] at a1
    rw [e2] at a2
    omega
def nxt : Nat → Nat → Nat → Nat
  | 0, _, _ => 0
  | k + 1, f, c => if c % 2 = f % 2 then 2 * nxt k (f / 2) (c / 2) else c + 1
theorem nxt_val : ∀ k f c, f < 2 ^ k → sub c f → ((c + (2 ^ k - f)) % 2 ^ k) &&& f = nxt k f c
  | 0, f, c, hf, h => by
    have f0 : f = 0 := by simpa using hf
    subst f0
    rw [Nat.and_zero]; rfl
  | k + 1, f, c, hf, h => by
    rw [Nat.pow_succ] at hf ⊢
    obtain ⟨h1, h2⟩ := sub_half h
    have ih := nxt_val k (f / 2) (c / 2) (by omega) h1
    have hg := nx_g k (f / 2) (c / 2) (by omega) h1
    have hcl := sub_le k (c / 2) (f / 2) (by omega) h1
    have hp : 0 < 2 ^ k := Nat.two_pow_pos k
    have u : nxt (k + 1) f c = if c % 2 = f % 2 then 2 * nxt k (f / 2) (c / 2) else c + 1 := rfl
    rw [u]
    by_cases e : c % 2 = f % 2
    · rw [if_pos e, ← ih]
      have e1 : c + (2 ^ k * 2 - f) = 2 * (c / 2 + (2 ^ k - f / 2)) := by omega
      rw [e1, Nat.mul_comm (2 ^ k) 2, Nat.mul_mod_mul_left]
      generalize (c / 2 + (2 ^ k - f / 2)) % 2 ^ k = z
      obtain ⟨a1, a2⟩ := and2 (2 * z) f
      rw [show 2 * z / 2 = z by omega] at a1
      rw [show 2 * z % 2 = 0 by omega] at a2
      omega
    · rw [if_neg e]
      have e1 : c + (2 ^ k * 2 - f) = 2 * (c / 2 + (2 ^ k - 1 - f / 2)) + 1 := by omega
      rw [e1, Nat.mod_eq_of_lt (by omega)]
      generalize hz : c / 2 + (2 ^ k - 1 - f / 2) = z at hg
      obtain ⟨a1, a2⟩ := and2 (2 * z + 1) f
      rw [show (2 * z + 1) / 2 = z by omega, hg] at a1
      rw [show (2 * z + 1) % 2 = 1 by omega] at a2
      omega
theorem nxt_eq : ∀ k f, nxt k f f = 0
  | 0, f => rfl
  | k + 1, f => by
    have u : nxt (k + 1) f f = if f % 2 = f % 2 then 2 * nxt k (f / 2) (f / 2) else f + 1 := rfl
    rw [u, if_pos rfl, nxt_eq k]
theorem nxt_gt : ∀ k f c, f < 2 ^ k → sub c f → c ≠ f → c < nxt k f c ∧ ∀ s, sub s f → c < s → nxt k f c ≤ s
  | 0, f, c, hf, h, hne => by
    have := sub_le 0 c f hf h
    have f0 : f = 0 := by simpa using hf
    omega
  | k + 1, f, c, hf, h, hne => by
    rw [Nat.pow_succ] at hf
    obtain ⟨h1, h2⟩ := sub_half h
    have u : nxt (k + 1) f c = if c % 2 = f % 2 then 2 * nxt k (f / 2) (c / 2) else c + 1 := rfl
    rw [u]
    by_cases e : c % 2 = f % 2
    · rw [if_pos e]
      obtain ⟨a, b⟩ := nxt_gt k (f / 2) (c / 2) (by omega) h1 (by omega)
      refine ⟨by omega, fun s hs hcs => ?_⟩
      obtain ⟨s1, s2⟩ := sub_half hs
      by_cases g : c / 2 < s / 2
      · have := b (s / 2) s1 g; omega
      · omega
    · rw [if_neg e]
      exact ⟨by omega, fun s _ hcs => hcs⟩
theorem nxt_I {f c : Nat} (hf : f < 65536) (hc : sub c f) : (nI c - nI f) &&& nI f = nI (nxt 16 f c) := by
  have hcf := sub_le 16 c f hf hc
  have e : nI c = nI (c + (4294967296 - f)) + nI f := by
    rw [nI_add, show c + (4294967296 - f) + f = c + 4294967296 by omega, ← nI_add, show nI 4294967296 = 0 from rfl]
    exact (Int32.add_zero _).symm
  rw [e, Int32.add_sub_cancel, fa_and, ← nxt_val 16 f c hf hc]
  congr 1
  apply Nat.eq_of_testBit_eq
  intro i
  rw [Nat.testBit_and, Nat.testBit_and, show (c + (2 ^ 16 - f)) % 2 ^ 16 = (c + (4294967296 - f)) % 2 ^ 16 by omega, Nat.testBit_mod_two_pow]
  by_cases g : i < 16
  · rw [decide_eq_true g, Bool.true_and]
  · rw [tb_big (n := 16) hf (by omega), Bool.and_false, Bool.and_false]
theorem nxt_sub {f c : Nat} (hf : f < 65536) (hc : sub c f) : sub (nxt 16 f c) f := by
  intro i hi
  rw [← nxt_val 16 f c hf hc, Nat.testBit_and, Bool.and_eq_true] at hi
  exact hi.2
theorem wSm_set {pb : Nat → Nat} {c s : Nat} (hs : s < 2 ^ c) : ∀ k, wSm pb (2 ^ c + s) k = wSm pb s k + (if c < k then pb c else 0)
  | 0 => by simp [wSm]
  | k + 1 => by
    have ih := wSm_set (pb := pb) hs k
    have u1 : wSm pb (2 ^ c + s) (k + 1) = wSm pb (2 ^ c + s) k + (if (2 ^ c + s).testBit k then pb k else 0) := rfl
    have u2 : wSm pb s (k + 1) = wSm pb s k + (if s.testBit k then pb k else 0) := rfl
    have e : 2 ^ c + s = s ||| 2 ^ c := by
      have := Nat.two_pow_add_eq_or_of_lt hs 1
      rw [Nat.mul_one] at this
      rw [this, Nat.or_comm]
    rw [u1, u2, ih, e, fb_bit_set]
    by_cases g : k = c
    · subst g
      rw [tb_big hs (Nat.le_refl k), decide_eq_true rfl, if_neg (Nat.lt_irrefl k), if_pos (Nat.lt_succ_self k)]
      simp
    · rw [decide_eq_false g, Bool.or_false]
      by_cases g2 : c < k
      · rw [if_pos g2, if_pos (show c < k + 1 by omega)]; omega
      · rw [if_neg g2, if_neg (show ¬ c < k + 1 by omega)]; omega
theorem wSm_big {pa : Nat → Nat} {s n : Nat} (hs : s < 2 ^ n) : ∀ j, wSm pa s (n + j) = wSm pa s n
  | 0 => rfl
  | j + 1 => by
    have u : wSm pa s (n + j + 1) = wSm pa s (n + j) + (if s.testBit (n + j) then pa (n + j) else 0) := rfl
    rw [← Nat.add_assoc, u, wSm_big hs j, tb_big hs (by omega)]; simp
theorem wSm_split (pa : Nat → Nat) (s : Nat) : ∀ k, k ≤ 8 → wSm pa s (8 + k) = wSm pa (s % 256) 8 + wSm (fun c => pa (8 + c)) (s / 256) k
  | 0, _ => by
    have : ∀ j, j ≤ 8 → wSm pa s j = wSm pa (s % 256) j := by
      intro j
      induction j with
      | zero => intro _; rfl
      | succ j ih =>
        intro hj
        have u1 : wSm pa s (j + 1) = wSm pa s j + (if s.testBit j then pa j else 0) := rfl
        have u2 : wSm pa (s % 256) (j + 1) = wSm pa (s % 256) j + (if (s % 256).testBit j then pa j else 0) := rfl
        rw [u1, u2, ih (by omega), show s % 256 = s % 2 ^ 8 from rfl, Nat.testBit_mod_two_pow, decide_eq_true (show j < 8 by omega), Bool.true_and]
    exact this 8 (Nat.le_refl 8)
  | k + 1, hk => by
    have u1 : wSm pa s (8 + k + 1) = wSm pa s (8 + k) + (if s.testBit (8 + k) then pa (8 + k) else 0) := rfl
    have u2 : wSm (fun c => pa (8 + c)) (s / 256) (k + 1) = wSm (fun c => pa (8 + c)) (s / 256) k + (if (s / 256).testBit k then pa (8 + k) else 0) := rfl
    have e : (s / 256).testBit k = s.testBit (8 + k) := by rw [show s / 256 = s / 2 ^ 8 from rfl, Nat.testBit_div_two_pow, Nat.add_comm k 8]
    rw [← Nat.add_assoc, u1, u2, wSm_split pa s k (by omega), e]; omega
theorem s_addUp {pb : Nat → Nat} {parts : Nat → Int32} {o : Nat} (ho : o + 8 ≤ 16) (hp : ∀ c, c < 8 → parts (o + c) = nI (pb c)) (t : Nat → Int32) : ∃ t' : Nat → Int32, (∀ s, s < 256 → t' s = nI (wSm pb s 8)) ∧ ∀ Q : (Nat → Int32) → Prop, Q t' → q_X0_addUp t parts (nI o) Q := by
  have L : ∀ m c (t : Nat → Int32), c + m = 8 → (∀ s, s < 2 ^ c → t s = nI (wSm pb s 8)) → ∃ t' : Nat → Int32, (∀ s, s < 256 → t' s = nI (wSm pb s 8)) ∧ ∀ Q : (Nat → Int32) → Prop, Q t' → ∃ n, wp_X0_addUp parts (nI o) Q n 6 (nI c) 0 0 t := by
    intro m
    induction m with
    | zero =>
      intro c t hc ht
      have : c = 8 := by omega
      subst this
      refine ⟨t, ht, fun Q hq => ⟨1, ?_⟩⟩
      show F_X0_addUp_6 parts (nI o) Q (wp_X0_addUp parts (nI o) Q 0) (nI 8) 0 0 t
      unfold F_X0_addUp_6
      exact br_t (Int32.le_refl _) hq
    | succ m ih =>
      intro c t hc ht
      have h2c : 2 ^ c ≤ 2 ^ 7 := Nat.pow_le_pow_right (by decide) (by omega)
      rw [show (2 : Nat) ^ 7 = 128 from rfl] at h2c
      have P : ∀ m j (t : Nat → Int32), j + m = 2 ^ c → (∀ s, s < 2 ^ c + j → t s = nI (wSm pb s 8)) → ∃ t' : Nat → Int32, (∀ s, s < 256 → t' s = nI (wSm pb s 8)) ∧ ∀ Q : (Nat → Int32) → Prop, Q t' → ∃ n, wp_X0_addUp parts (nI o) Q n 28 (nI c) (nI (2 ^ c)) (nI j) t := by
        intro m
        induction m with
        | zero =>
          intro j t hj ht
          have : j = 2 ^ c := by omega
          subst this
          obtain ⟨t', ht', hN⟩ := ih (c + 1) t (by omega) (fun s hs => ht s (by rw [Nat.pow_succ] at hs; omega))
          refine ⟨t', ht', fun Q hq => ?_⟩
          obtain ⟨n, hn⟩ := hN Q hq
          refine ⟨n + 1, ?_⟩
          show F_X0_addUp_28 parts (nI o) Q (wp_X0_addUp parts (nI o) Q n) (nI c) (nI (2 ^ c)) (nI (2 ^ c)) t
          unfold F_X0_addUp_28
          refine br_t (Int32.le_refl _) ?_
          rintro x rfl
          rw [nI_1]; exact hn
        | succ m ih2 =>
          intro j t hj ht
          obtain ⟨t', ht', hN⟩ := ih2 (j + 1) (upd t (2 ^ c + j) (nI (wSm pb j 8 + pb c))) (by omega) (fun s hs => by
            rw [upd_at]
            by_cases g : s = 2 ^ c + j
            · rw [if_pos g, g, wSm_set (by omega), if_pos (by omega)]
            · rw [if_neg g]; exact ht s (by omega))
          refine ⟨t', ht', fun Q hq => ?_⟩
          obtain ⟨n, hn⟩ := hN Q hq
          refine ⟨n + 1, ?_⟩
          show F_X0_addUp_28 parts (nI o) Q (wp_X0_addUp parts (nI o) Q n) (nI c) (nI (2 ^ c)) (nI j) t
          unfold F_X0_addUp_28
          refine br_f (nI_ge (by omega) (by omega)) ?_
          rw [nI_add, nI_add]
          refine br_f (nI_ge (b := 256) (by omega) (by decide)) ⟨vp_nI (by omega) (by decide), vp_nI (by omega) (by decide), vp_nI (by omega) (by decide), ?_⟩
          rw [nI_clamp (by omega), nI_clamp (by omega), nI_clamp (by omega), ht j (by omega), hp c (by omega), nI_add]
          rintro x rfl y rfl
          rw [nI_1]; exact hn
      obtain ⟨t', ht', hN⟩ := P (2 ^ c) 0 t (by omega) (fun s hs => ht s (by omega))
      refine ⟨t', ht', fun Q hq => ?_⟩
      obtain ⟨n, hn⟩ := hN Q hq
      refine ⟨n + 1, ?_⟩
      show F_X0_addUp_6 parts (nI o) Q (wp_X0_addUp parts (nI o) Q n) (nI c) 0 0 t
      unfold F_X0_addUp_6
      refine br_f (nI_ge (b := 8) (by omega) (by decide)) ?_
      rw [nI_add]
      refine br_f (nI_ge (b := 16) (by omega) (by decide)) ?_
      rw [sh1 (by omega)]
      rintro x rfl
      exact hn
  obtain ⟨t', ht', hN⟩ := L 8 0 (upd t 0 0) (by omega) (fun s hs => by
    have : s = 0 := by simpa using hs
    subst this
    rw [upd_at, if_pos rfl, wSm_0]; rfl)
  refine ⟨t', ht', fun Q hq => ?_⟩
  obtain ⟨n, hn⟩ := hN Q hq
  refine ⟨n, ?_⟩
  unfold F_X0_addUp_e
  rw [c0]
  rintro x rfl
  exact hn

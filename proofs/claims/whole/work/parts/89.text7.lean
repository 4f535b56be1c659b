/-! ===== the reference reads ===== -/
section Tx
variable {n p q e : Nat} {t : Nat → Nat} {b : Nat → Int32}
def ac (t : Nat → Nat) (q : Nat) : Nat → Nat
  | 0 => 0
  | k + 1 => if 99 < ac t q k then ac t q k else 10 * ac t q k + (t (q + k) - 48)
theorem ac_1 (t : Nat → Nat) (q : Nat) : ac t q 1 = t q - 48 := by
  unfold ac
  rw [show ac t q 0 = 0 from rfl, if_neg (by omega), Nat.add_zero]; omega
theorem ac_2 {t : Nat → Nat} {q : Nat} (h : t q - 48 ≤ 9) : ac t q 2 = 10 * (t q - 48) + (t (q + 1) - 48) := by
  have u : ac t q 2 = if 99 < ac t q 1 then ac t q 1 else 10 * ac t q 1 + (t (q + 1) - 48) := rfl
  rw [u, ac_1, if_neg (by omega)]
theorem ac_le {t : Nat → Nat} {q : Nat} : ∀ k, (∀ i, i < k → t (q + i) - 48 ≤ 9) → ac t q k ≤ 999
  | 0, _ => by unfold ac; omega
  | k + 1, h => by
    have ih := ac_le k (fun i hi => h i (by omega))
    have := h k (by omega)
    have u : ac t q (k + 1) = if 99 < ac t q k then ac t q k else 10 * ac t q k + (t (q + k) - 48) := rfl
    rw [u]
    split <;> omega
theorem ac_big {t : Nat → Nat} {q : Nat} (h0 : 1 ≤ t q - 48) (h9 : t q - 48 ≤ 9) : ∀ k, 99 < ac t q (k + 3)
  | 0 => by
    have u : ac t q 3 = if 99 < ac t q 2 then ac t q 2 else 10 * ac t q 2 + (t (q + 2) - 48) := rfl
    rw [u, ac_2 h9]
    split <;> omega
  | k + 1 => by
    have ih := ac_big h0 h9 k
    have u : ac t q (k + 3 + 1) = if 99 < ac t q (k + 3) then ac t q (k + 3) else 10 * ac t q (k + 3) + (t (q + (k + 3)) - 48) := rfl
    rw [show k + 1 + 3 = k + 3 + 1 by omega, u, if_pos ih]; exact ih
theorem s_readNumber7 (T : tx n t b) (hr : run (fun i => isD (t i)) n q e) (hqe : q < e) {tk td : Int32} {Q : Int32 → Int32 → Int32 → Prop} (hv : ∀ v, numV t q e v → v ≤ 99 → Q (nI e) 2 (nI v)) (hno : (∀ v, ¬ numV t q e v) → Q (nI e) 4 (nI (ac t q (e - q)))) : q_X7_readNumber (nI n) (nI q) (nI q) tk td b Q := by
  have hn := T.1
  have ht := T.2
  obtain ⟨r1, r2, r3, r4⟩ := hr
  have dg : ∀ i, q + i < e → 48 ≤ t (q + i) ∧ t (q + i) ≤ 57 := fun i hi => isD_t (r3 (q + i) (by omega) hi)
  have hq := dg 0 (by omega)
  rw [Nat.add_zero] at hq
  have hal : ac t q (e - q) ≤ 999 := ac_le _ (fun i hi => by have := dg i (by omega); omega)
  have g69 : ∃ k, wp_X7_readNumber (nI n) (nI q) b Q k 69 (nI (ac t q (e - q))) 0 (nI e) tk td := by
    refine ⟨1, ?_⟩
    show F_X7_readNumber_69 (nI n) (nI q) b Q (wp_X7_readNumber (nI n) (nI q) b Q 0) (nI (ac t q (e - q))) 0 (nI e) tk td
    unfold F_X7_readNumber_69
    rw [show nI e - nI q = nI (e - q) from pk_sub r1, nI_clamp (by omega), (ht q (by omega)).2]
    have no99 : ac t q (e - q) ≤ 99 → ¬ (99 : Int32) < nI (ac t q (e - q)) := fun g g2 => by
      rw [show (99 : Int32) = nI 99 from rfl, nI_ltI (by decide) (by omega)] at g2; omega
    by_cases z1 : e = q + 1
    · have ea : ac t q (e - q) = t q - 48 := by rw [show e - q = 1 by omega]; exact ac_1 t q
      have := hv _ (.inl ⟨z1, rfl⟩) (by omega)
      rw [ea]
      exact br_f (by rw [← ea]; exact no99 (by omega)) (br_t (nI_le (b := 1) (by omega) (by decide)) this)
    have n1 : ¬ nI (e - q) ≤ 1 := fun g => by
      rw [show (1 : Int32) = nI 1 from rfl, nI_leI (by omega) (by decide)] at g; omega
    have ne48 : t q ≠ 48 → ¬ nI (t q) = 48 := fun g g2 => g (nI_inj (b := 48) (by omega) (by decide) g2)
    by_cases z2 : e = q + 2
    · have hq1 := dg 1 (by omega)
      have ea : ac t q (e - q) = 10 * (t q - 48) + (t (q + 1) - 48) := by rw [show e - q = 2 by omega]; exact ac_2 (by omega)
      refine br_f (no99 (by omega)) (br_f n1 ⟨vp_nI (by omega) (by decide), ?_⟩)
      by_cases z3 : t q = 48
      · refine p_m (by rw [z3]; rfl) (hno fun v g => ?_)
        rcases g with ⟨g, -⟩ | ⟨-, g, -⟩
        · omega
        · exact g z3
      · rw [ea]
        exact p_n (ne48 z3) (hv _ (.inr ⟨z2, z3, rfl⟩) (by omega))
    · have no : ∀ v, ¬ numV t q e v := fun v g => by
        rcases g with ⟨g, -⟩ | ⟨g, -⟩ <;> omega
      have h4 := hno no
      by_cases z : 99 < ac t q (e - q)
      · exact br_t (nI_lt (a := 99) z (by omega)) h4
      · refine br_f (no99 (by omega)) (br_f n1 ⟨vp_nI (by omega) (by decide), ?_⟩)
        by_cases z3 : t q = 48
        · exact p_m (by rw [z3]; rfl) h4
        · have := ac_big (t := t) (q := q) (by omega) (by omega) (e - q - 3)
          rw [show e - q - 3 + 3 = e - q by omega] at this
          omega
  have L : ∀ m i, q + i + m = e → ∃ k, wp_X7_readNumber (nI n) (nI q) b Q k 2 (nI (ac t q i)) 0 (nI (q + i)) tk td := by
    intro m
    induction m with
    | zero =>
      intro i hi
      have : i = e - q := by omega
      subst this
      obtain ⟨k, hk⟩ := g69
      refine ⟨k + 1, ?_⟩
      rw [show q + (e - q) = e by omega]
      show F_X7_readNumber_2 (nI n) (nI q) b Q (wp_X7_readNumber (nI n) (nI q) b Q k) (nI (ac t q (e - q))) 0 (nI e) tk td
      unfold F_X7_readNumber_2
      by_cases z : e = n
      · exact br_t (by rw [z]; exact Int32.le_refl _) hk
      · refine br_f (nI_ge (by omega) (by omega)) ⟨vp_nI (by omega) (by decide), ?_⟩
        rw [nI_clamp (by omega), (ht e (by omega)).2]
        refine s_isFigure7 (ht e (by omega)).1 ?_
        rw [show isD (t e) = false from r4 (by omega)]
        exact br_t rfl hk
    | succ m ih =>
      intro i hi
      obtain ⟨k, hk⟩ := ih (i + 1) (by omega)
      have hti := dg i (by omega)
      have hai : ac t q i ≤ 999 := ac_le _ (fun j hj => by have := dg j (by omega); omega)
      refine ⟨k + 2, ?_⟩
      show F_X7_readNumber_2 (nI n) (nI q) b Q (wp_X7_readNumber (nI n) (nI q) b Q (k + 1)) (nI (ac t q i)) 0 (nI (q + i)) tk td
      unfold F_X7_readNumber_2
      refine br_f (nI_ge (by omega) (by omega)) ⟨vp_nI (by omega) (by decide), ?_⟩
      rw [nI_clamp (by omega), (ht (q + i) (by omega)).2]
      refine s_isFigure7 (ht (q + i) (by omega)).1 ?_
      rw [show isD (t (q + i)) = true from r3 (q + i) (by omega) (by omega)]
      refine br_f (by decide) ?_
      have g55 : wp_X7_readNumber (nI n) (nI q) b Q (k + 1) 55 0 (nI (ac t q (i + 1))) (nI (q + i)) tk td := by
        show F_X7_readNumber_55 (nI n) (nI q) b Q (wp_X7_readNumber (nI n) (nI q) b Q k) 0 (nI (ac t q (i + 1))) (nI (q + i)) tk td
        unfold F_X7_readNumber_55
        rintro x rfl
        rw [nI_1]; exact hk
      have u : ac t q (i + 1) = if 99 < ac t q i then ac t q i else 10 * ac t q i + (t (q + i) - 48) := rfl
      rw [u] at g55
      by_cases z : 99 < ac t q i
      · rw [if_pos z] at g55
        exact br_f (nI_ge (a := 99) z (by omega) |> fun g => g) g55
      · rw [if_neg z] at g55
        refine br_t (nI_le (b := 99) (by omega) (by decide)) ⟨vp_nI (by omega) (by decide), ?_⟩
        rw [show (10 : Int32) * nI (ac t q i) = nI (10 * ac t q i) from pk_mul 10 _, nI_add, show nI (10 * ac t q i + t (q + i)) - 48 = nI (10 * ac t q i + t (q + i) - 48) from pk_sub (b := 48) (by omega), show 10 * ac t q i + t (q + i) - 48 = 10 * ac t q i + (t (q + i) - 48) by omega]
        exact g55
  obtain ⟨k, hk⟩ := L (e - q) 0 (by omega)
  exact ⟨k, hk⟩
def inS (x : Nat) : Prop := x = 115 ∨ x = 116 ∨ x = 98 ∨ x = 108
theorem s_readLetters7 (T : tx n t b) (hr : run (fun i => isL (t i)) n q e) (hqe : q < e) {tk td : Int32} {Q : Int32 → Int32 → Int32 → Prop} (h1 : e = q + 1 ∧ inS (t q) → Q (nI e) 1 (nI (t q))) (h2 : ¬ (e = q + 1 ∧ inS (t q)) → Q (nI e) 4 (nI (t q))) : q_X7_readLetters (nI n) (nI q) (nI q) tk td b Q := by
  have hn := T.1
  have ht := T.2
  obtain ⟨r1, r2, r3, r4⟩ := hr
  have htq := (ht q (by omega)).1
  have ne : ∀ c : Nat, c < 256 → t q ≠ c → ¬ nI (t q) = nI c := fun c hc g g2 => g (nI_inj (by omega) (by omega) g2)
  have g52 : ∃ k, wp_X7_readLetters (nI n) (nI q) b Q k 52 (nI e) tk (nI (t q)) := by
    refine ⟨1, ?_⟩
    show F_X7_readLetters_52 (nI n) (nI q) b Q (wp_X7_readLetters (nI n) (nI q) b Q 0) (nI e) tk (nI (t q))
    unfold F_X7_readLetters_52
    rw [show nI e - nI q = nI (e - q) from pk_sub r1]
    by_cases z : e = q + 1
    · refine p_m (by rw [show e - q = 1 by omega]; rfl) ?_
      by_cases a1 : t q = 115
      · exact br_t (by rw [a1]; rfl) (h1 ⟨z, .inl a1⟩)
      refine br_f (ne 115 (by decide) a1) ?_
      by_cases a2 : t q = 116
      · exact br_t (by rw [a2]; rfl) (h1 ⟨z, .inr (.inl a2)⟩)
      refine br_f (ne 116 (by decide) a2) ?_
      by_cases a3 : t q = 98
      · exact br_t (by rw [a3]; rfl) (h1 ⟨z, .inr (.inr (.inl a3))⟩)
      refine br_f (ne 98 (by decide) a3) ?_
      by_cases a4 : t q = 108
      · exact p_m (by rw [a4]; rfl) (h1 ⟨z, .inr (.inr (.inr a4))⟩)
      refine p_n (ne 108 (by decide) a4) (h2 fun g => ?_)
      rcases g.2 with g | g | g | g
      · exact a1 g
      · exact a2 g
      · exact a3 g
      · exact a4 g
    · exact p_n (fun g => by have := nI_inj (b := 1) (by omega) (by decide) g; omega) (h2 fun g => z g.1)
  have L : ∀ m i, i + m = e → q ≤ i → ∃ k, wp_X7_readLetters (nI n) (nI q) b Q k 13 (nI i) tk (nI (t q)) := by
    intro m
    induction m with
    | zero =>
      intro i hi hqi
      have : i = e := by omega
      subst this
      obtain ⟨k, hk⟩ := g52
      refine ⟨k + 1, ?_⟩
      show F_X7_readLetters_13 (nI n) (nI q) b Q (wp_X7_readLetters (nI n) (nI q) b Q k) (nI i) tk (nI (t q))
      unfold F_X7_readLetters_13
      by_cases z : i = n
      · exact br_t (by rw [z]; exact Int32.le_refl _) hk
      · refine br_f (nI_ge (by omega) (by omega)) ⟨vp_nI (by omega) (by decide), ?_⟩
        rw [nI_clamp (by omega), (ht i (by omega)).2]
        refine s_isLetter7 (ht i (by omega)).1 ?_
        rw [show isL (t i) = false from r4 (by omega)]
        exact br_t rfl hk
    | succ m ih =>
      intro i hi hqi
      obtain ⟨k, hk⟩ := ih (i + 1) (by omega) (by omega)
      refine ⟨k + 1, ?_⟩
      show F_X7_readLetters_13 (nI n) (nI q) b Q (wp_X7_readLetters (nI n) (nI q) b Q k) (nI i) tk (nI (t q))
      unfold F_X7_readLetters_13
      refine br_f (nI_ge (by omega) (by omega)) ⟨vp_nI (by omega) (by decide), ?_⟩
      rw [nI_clamp (by omega), (ht i (by omega)).2]
      refine s_isLetter7 (ht i (by omega)).1 ?_
      rw [show isL (t i) = true from r3 i hqi (by omega)]
      refine br_f (by decide) ?_
      rintro x rfl
      rw [nI_1]; exact hk
  obtain ⟨k, hk⟩ := L (e - q) q (by omega) (Nat.le_refl q)
  refine ⟨k, ?_⟩
  unfold F_X7_readLetters_e
  refine ⟨vp_nI (by omega) (by decide), ?_⟩
  rw [nI_clamp (by omega), (ht q (by omega)).2]
  rintro x rfl
  exact hk
/-- what reads answers at p, the token at q -/
def tkO (n : Nat) (t : Nat → Nat) (q : Nat) (a tok td : Int32) : Prop := (q = n ∧ tok = 0) ∨ (q < n ∧ isL (t q) = true ∧ ((tok = 1 ∧ a = nI (q + 1) ∧ td = nI (t q) ∧ inS (t q) ∧ (q + 1 < n → isL (t (q + 1)) = false)) ∨ (tok = 4 ∧ ¬ (inS (t q) ∧ (q + 1 < n → isL (t (q + 1)) = false))))) ∨ (q < n ∧ isD (t q) = true ∧ ∃ e, run (fun i => isD (t i)) n q e ∧ ((∃ v, numV t q e v ∧ v ≤ 99 ∧ tok = 2 ∧ a = nI e ∧ td = nI v) ∨ ((∀ v, ¬ numV t q e v) ∧ tok = 4))) ∨ (q < n ∧ t q = 59 ∧ tok = 3 ∧ a = nI (q + 1)) ∨ (q < n ∧ isL (t q) = false ∧ isD (t q) = false ∧ t q ≠ 59 ∧ tok = 4)
theorem numV_dec (t : Nat → Nat) (q e : Nat) : (∃ v, numV t q e v) ∨ ∀ v, ¬ numV t q e v := by
  by_cases h : ∃ v, numV t q e v
  · exact .inl h
  · exact .inr fun v hv => h ⟨v, hv⟩
theorem numV_one {t : Nat → Nat} {q e v v' : Nat} (h : numV t q e v) (h' : numV t q e v') : v = v' := by
  rcases h with ⟨a, b⟩ | ⟨a, -, b⟩ <;> rcases h' with ⟨c, d⟩ | ⟨c, -, d⟩ <;> omega
theorem s_reads (T : tx n t b) (hb : blk n t p q) (bg tk td : Int32) : ∃ a tok td', tkO n t q a tok td' ∧ ∀ Q : Int32 → Int32 → Int32 → Int32 → Prop, Q a (nI q) tok td' → q_X7_reads (nI n) (nI p) bg tk td b Q := by
  have hn := T.1
  have ht := T.2
  have hqn := hb.2.1
  by_cases zn : q = n
  · refine ⟨nI q, 0, td, .inl ⟨zn, rfl⟩, fun Q hq => ⟨0, ?_⟩⟩
    unfold F_X7_reads_e
    exact s_blanks T hb (p_m (by rw [zn]) hq)
  have hlt : q < n := by omega
  have ne : ¬ nI q = nI n := fun g => zn (nI_inj (by omega) (by omega) g)
  have htq := (ht q hlt).1
  have pre : ∀ (Q : Int32 → Int32 → Int32 → Int32 → Prop) k, ((isL (t q) = true → q_X7_readLetters (nI n) (nI q) (nI q) tk td b (fun u15 u16 u17 => Q u15 (nI q) u16 u17)) ∧ (isL (t q) = false → isD (t q) = true → q_X7_readNumber (nI n) (nI q) (nI q) tk td b (fun u12 u13 u14 => Q u12 (nI q) u13 u14)) ∧ (isL (t q) = false → isD (t q) = false → ((¬ nI (t q) = 59 → wp_X7_reads (nI n) b Q k 87 4 0 (nI q) (nI q) tk td) ∧ (nI (t q) = 59 → wp_X7_reads (nI n) b Q k 87 3 0 (nI q) (nI q) tk td)))) → q_X7_reads (nI n) (nI p) bg tk td b Q := by
    intro Q k ⟨a1, a2, a3⟩
    refine ⟨k, ?_⟩
    unfold F_X7_reads_e
    refine s_blanks T hb (p_n ne ⟨vp_nI (by omega) (by decide), ?_⟩)
    rw [nI_clamp (by omega), (ht q hlt).2]
    refine s_isLetter7 htq (p_z (fun g => ⟨vp_nI (by omega) (by decide), s_isFigure7 htq (p_z (fun g2 => ⟨vp_nI (by omega) (by decide), a3 g g2⟩) (fun g2 => a2 g g2))⟩) a1)
  cases hL : isL (t q) with
  | true =>
    obtain ⟨e, hr⟩ := run_ex (fun i => isL (t i)) (n := n) (n - q) q (by omega)
    have hqe : q < e := by
      obtain ⟨r1, r2, r3, r4⟩ := hr
      rcases Nat.lt_or_ge q e with g | g
      · exact g
      · have : e = q := by omega
        subst this
        exact absurd (hL.symm.trans (r4 hlt)) (by decide)
    have hone : e = q + 1 ↔ (q + 1 < n → isL (t (q + 1)) = false) := by
      obtain ⟨r1, r2, r3, r4⟩ := hr
      constructor
      · intro z g
        subst z
        exact r4 g
      · intro g
        rcases Nat.lt_or_ge (q + 1) e with z | z
        · exact absurd ((g (by omega)).symm.trans (r3 (q + 1) (by omega) z)) (by decide)
        · omega
    by_cases z : e = q + 1 ∧ inS (t q)
    · refine ⟨nI e, 1, nI (t q), .inr (.inl ⟨hlt, hL, .inl ⟨rfl, by rw [z.1], rfl, z.2, hone.mp z.1⟩⟩), fun Q hq => pre Q 0 ⟨fun _ => s_readLetters7 T hr hqe (fun _ => hq) (fun g => absurd z g), fun g => absurd (hL.symm.trans g) (by decide), fun g => absurd (hL.symm.trans g) (by decide)⟩⟩
    · refine ⟨nI e, 4, nI (t q), .inr (.inl ⟨hlt, hL, .inr ⟨rfl, fun g => z ⟨hone.mpr g.2, g.1⟩⟩⟩), fun Q hq => pre Q 0 ⟨fun _ => s_readLetters7 T hr hqe (fun g => absurd g z) (fun _ => hq), fun g => absurd (hL.symm.trans g) (by decide), fun g => absurd (hL.symm.trans g) (by decide)⟩⟩
  | false =>
    cases hD : isD (t q) with
    | true =>
      obtain ⟨e, hr⟩ := run_ex (fun i => isD (t i)) (n := n) (n - q) q (by omega)
      have hqe : q < e := by
        obtain ⟨r1, r2, r3, r4⟩ := hr
        rcases Nat.lt_or_ge q e with g | g
        · exact g
        · have : e = q := by omega
          subst this
          exact absurd (hD.symm.trans (r4 hlt)) (by decide)
      have h57 := isD_t hD
      rcases numV_dec t q e with ⟨v, hv⟩ | hno
      · have hv99 : v ≤ 99 := by
          rcases hv with ⟨-, g⟩ | ⟨ge, -, g⟩
          · omega
          · have := isD_t (hr.2.2.1 (q + 1) (by omega) (by omega))
            omega
        exact ⟨nI e, 2, nI v, .inr (.inr (.inl ⟨hlt, hD, e, hr, .inl ⟨v, hv, hv99, rfl, rfl, rfl⟩⟩)), fun Q hq => pre Q 0 ⟨fun g => absurd (hL.symm.trans g) (by decide), fun _ _ => s_readNumber7 T hr hqe (fun v' hv' _ => numV_one hv hv' ▸ hq) (fun g => absurd hv (g v)), fun _ g => absurd (hD.symm.trans g) (by decide)⟩⟩
      · exact ⟨nI e, 4, nI (ac t q (e - q)), .inr (.inr (.inl ⟨hlt, hD, e, hr, .inr ⟨hno, rfl⟩⟩)), fun Q hq => pre Q 0 ⟨fun g => absurd (hL.symm.trans g) (by decide), fun _ _ => s_readNumber7 T hr hqe (fun v' hv' _ => absurd hv' (hno v')) (fun _ => hq), fun _ g => absurd (hD.symm.trans g) (by decide)⟩⟩
    | false =>
      by_cases z : t q = 59
      · refine ⟨nI (q + 1), 3, td, .inr (.inr (.inr (.inl ⟨hlt, z, rfl, rfl⟩))), fun Q hq => pre Q 1 ⟨fun g => absurd (hL.symm.trans g) (by decide), fun _ g => absurd (hD.symm.trans g) (by decide), fun _ _ => p_m (by rw [z]; rfl) ?_⟩⟩
        show F_X7_reads_87 (nI n) b Q (wp_X7_reads (nI n) b Q 0) 3 0 (nI q) (nI q) tk td
        unfold F_X7_reads_87
        refine p_m rfl ?_
        rintro x rfl
        rw [nI_1]; exact hq
      · refine ⟨nI q, 4, td, .inr (.inr (.inr (.inr ⟨hlt, hL, hD, z, rfl⟩))), fun Q hq => pre Q 1 ⟨fun g => absurd (hL.symm.trans g) (by decide), fun _ g => absurd (hD.symm.trans g) (by decide), fun _ _ => p_n (fun g => z (nI_inj (b := 59) (by omega) (by decide) g)) ?_⟩⟩
        show F_X7_reads_87 (nI n) b Q (wp_X7_reads (nI n) b Q 0) 4 0 (nI q) (nI q) tk td
        unfold F_X7_reads_87
        refine p_n (by decide) ?_
        rintro x rfl
        rw [show nI q + 0 = nI q from Int32.add_zero _]; exact hq
end Tx

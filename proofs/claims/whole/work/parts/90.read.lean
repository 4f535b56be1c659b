/-! ===== numbers, ends, bound and loss, both ===== -/
def okE (n p : Nat) (pl a : Int32) : Prop := ∃ e, p < e ∧ e ≤ n ∧ pl = nI e ∧ a = nI e
def bad (n : Nat) (ts bg : Int32) : Prop := ∃ q, q ≤ n ∧ ts = nI q ∧ bg = nI q
section Rd
variable {n p : Nat} {t : Nat → Nat} {xb yt : Nat → Int32}
theorem okE_up {p' : Nat} {pl a : Int32} (h : p ≤ p') (g : okE n p' pl a) : okE n p pl a := by
  obtain ⟨e, a1, a2, a3, a4⟩ := g
  exact ⟨e, by omega, a2, a3, a4⟩
theorem num_no {q e : Nat} (hr : run (fun i => isD (t i)) n q e) (h : q = n ∨ isD (t q) = false) : ∀ v, ¬ numV t q e v := by
  obtain ⟨r1, r2, r3, r4⟩ := hr
  intro v hv
  have hqe : q < e := by rcases hv with ⟨g, -⟩ | ⟨g, -⟩ <;> omega
  rcases h with g | g
  · omega
  · exact absurd (g.symm.trans (r3 q (Nat.le_refl q) hqe)) (by decide)
theorem pr_num (T6 : tx n t xb) (T7 : tx n t yt) (hp : p ≤ n) {lo hi : Nat} (hlo : lo < 200) (hhi : hi < 200) (ts bg tk td : Int32) : (∃ v e q, lo ≤ v ∧ v ≤ hi ∧ p < e ∧ e ≤ n ∧ (∀ Q : Int32 → Int32 → Int32 → Prop, Q (nI v) (nI e) (nI q) → q_X3_readNumber (nI n) (nI p) ts xb (nI lo) (nI hi) Q) ∧ (∀ Q : Int32 → Int32 → Int32 → Int32 → Int32 → Prop, Q 1 (nI e) (nI q) 2 (nI v) → q_X7_number (nI n) (nI p) bg tk td yt (nI lo) (nI hi) Q)) ∨ (∃ (pl ts' a bg' tok td' : Int32), bad n ts' bg' ∧ (∀ Q : Int32 → Int32 → Int32 → Prop, Q (-1) pl ts' → q_X3_readNumber (nI n) (nI p) ts xb (nI lo) (nI hi) Q) ∧ (∀ Q : Int32 → Int32 → Int32 → Int32 → Int32 → Prop, Q 0 a bg' tok td' → q_X7_number (nI n) (nI p) bg tk td yt (nI lo) (nI hi) Q)) := by
  obtain ⟨q, hb⟩ := blk_ex t hp
  have hb2 := hb
  obtain ⟨b1, b2, b3, b4⟩ := hb2
  obtain ⟨a, tok, td', O, hR⟩ := s_reads T7 hb bg tk td
  have cls : ∀ e, run (fun i => isD (t i)) n q e → (∀ v, ¬ numV t q e v) → ∀ Q : Int32 → Int32 → Int32 → Prop, Q (-1) (nI e) (nI q) → q_X3_readNumber (nI n) (nI p) ts xb (nI lo) (nI hi) Q := fun e hr hno Q hq => s_readNumber T6 hb hr (fun v hv => absurd hv (hno v)) (fun _ => hq)
  have ref : ¬ tok = 2 → ∀ Q : Int32 → Int32 → Int32 → Int32 → Int32 → Prop, Q 0 a (nI q) tok td' → q_X7_number (nI n) (nI p) bg tk td yt (nI lo) (nI hi) Q := fun g Q hq => by
    unfold q_X7_number F_X7_number_e
    exact hR _ (p_n g hq)
  obtain ⟨e0, hr0⟩ := run_ex (fun i => isD (t i)) (n := n) (n - q) q (by omega)
  have fin : ¬ tok = 2 → (q = n ∨ isD (t q) = false) → (∃ (pl ts' a bg' tok td' : Int32), bad n ts' bg' ∧ (∀ Q : Int32 → Int32 → Int32 → Prop, Q (-1) pl ts' → q_X3_readNumber (nI n) (nI p) ts xb (nI lo) (nI hi) Q) ∧ (∀ Q : Int32 → Int32 → Int32 → Int32 → Int32 → Prop, Q 0 a bg' tok td' → q_X7_number (nI n) (nI p) bg tk td yt (nI lo) (nI hi) Q)) := fun g1 g2 => ⟨nI e0, nI q, a, nI q, tok, td', ⟨q, b2, rfl, rfl⟩, cls e0 hr0 (num_no hr0 g2), ref g1⟩
  have dl : ∀ x, isL x = true → isD x = false := fun x g => by
    have g := of_decide_eq_true g
    exact decide_eq_false (fun g2 => by omega)
  rcases O with ⟨g1, g2⟩ | ⟨g1, g2, g3⟩ | ⟨g1, g2, e, hr, g3⟩ | ⟨g1, g2, g3, g4⟩ | ⟨g1, g2, g3, g4, g5⟩
  · exact .inr (fin (by rw [g2]; decide) (.inl g1))
  · refine .inr (fin ?_ (.inr (dl _ g2)))
    rcases g3 with ⟨g, -⟩ | ⟨g, -⟩ <;> rw [g] <;> decide
  · rcases g3 with ⟨v, hv, h99, g4, g5, g6⟩ | ⟨hno, g4⟩
    · have hqe : q < e := by rcases hv with ⟨g, -⟩ | ⟨g, -⟩ <;> omega
      have hen := hr.2.1
      by_cases hin : lo ≤ v ∧ v ≤ hi
      · have hd : decide (nI lo ≤ nI v ∧ nI v ≤ nI hi) = true := decide_eq_true ⟨nI_le hin.1 (by omega), nI_le hin.2 (by omega)⟩
        refine .inl ⟨v, e, q, hin.1, hin.2, by omega, hen, fun Q hq => s_readNumber T6 hb hr (fun v' hv' _ => ?_) (fun g => absurd hv (g v)), fun Q hq => ?_⟩
        · rw [← numV_one hv hv', hd]; exact hq
        · unfold q_X7_number F_X7_number_e
          refine hR _ (p_m g4 ?_)
          rw [g6]
          refine s_in (b := nI lo) (c := nI hi) rfl rfl ?_
          rw [hd, g5, g4]
          exact br_f (by decide) hq
      · have hd : decide (nI lo ≤ nI v ∧ nI v ≤ nI hi) = false := decide_eq_false (fun g => hin ⟨(nI_leI (by omega) (by omega)).mp g.1, (nI_leI (by omega) (by omega)).mp g.2⟩)
        refine .inr ⟨nI e, nI q, a, nI q, tok, td', ⟨q, b2, rfl, rfl⟩, fun Q hq => s_readNumber T6 hb hr (fun v' hv' _ => ?_) (fun g => absurd hv (g v)), fun Q hq => ?_⟩
        · rw [← numV_one hv hv', hd]; exact hq
        · unfold q_X7_number F_X7_number_e
          refine hR _ (p_m g4 ?_)
          rw [g6]
          refine s_in (b := nI lo) (c := nI hi) rfl rfl ?_
          rw [hd, ← g6]
          exact br_t rfl hq
    · exact .inr ⟨nI e, nI q, a, nI q, tok, td', ⟨q, b2, rfl, rfl⟩, cls e hr hno, ref (by rw [g4]; decide)⟩
  · refine .inr (fin (by rw [g3]; decide) (.inr ?_))
    rw [g2]; rfl
  · exact .inr (fin (by rw [g5]; decide) (.inr g3))
theorem pr_end (T6 : tx n t xb) (T7 : tx n t yt) (hp : p ≤ n) (ts bg tk td : Int32) : ∃ (r pl ts' a bg' tok td' : Int32), (∀ Q : Int32 → Int32 → Int32 → Prop, Q r pl ts' → q_X3_readEnd (nI n) (nI p) ts xb Q) ∧ (∀ Q : Int32 → Int32 → Int32 → Int32 → Int32 → Prop, Q r a bg' tok td' → q_X7_ends (nI n) (nI p) bg tk td yt Q) ∧ ((r = 1 ∧ okE n p pl a) ∨ (r = 0 ∧ bad n ts' bg')) := by
  obtain ⟨q, hb⟩ := blk_ex t hp
  have hb2 := hb
  obtain ⟨b1, b2, b3, b4⟩ := hb2
  obtain ⟨a, tok, td', O, hR⟩ := s_reads T7 hb bg tk td
  have hn := T6.1
  have ht := T6.2
  have no : ¬ tok = 3 → (q = n ∨ t q ≠ 59) → ∃ (r pl ts' a bg' tok td' : Int32), (∀ Q : Int32 → Int32 → Int32 → Prop, Q r pl ts' → q_X3_readEnd (nI n) (nI p) ts xb Q) ∧ (∀ Q : Int32 → Int32 → Int32 → Int32 → Int32 → Prop, Q r a bg' tok td' → q_X7_ends (nI n) (nI p) bg tk td yt Q) ∧ ((r = 1 ∧ okE n p pl a) ∨ (r = 0 ∧ bad n ts' bg')) := by
    intro g1 g2
    refine ⟨0, nI q, nI q, a, nI q, tok, td', fun Q hq => ?_, fun Q hq => ?_, .inr ⟨rfl, q, b2, rfl, rfl⟩⟩
    · unfold q_X3_readEnd F_X3_readEnd_e
      refine s_findToken T6 hb ?_
      by_cases z : q = n
      · exact br_t (by rw [z]; exact Int32.le_refl _) hq
      · refine br_f (nI_ge (by omega) (by omega)) ⟨vp_nI (by omega) (by decide), ?_⟩
        rw [nI_clamp (by omega), (ht q (by omega)).2]
        have := (ht q (by omega)).1
        refine br_f (fun g => ?_) hq
        rcases g2 with g2 | g2
        · exact z g2
        · exact g2 (nI_inj (b := 59) (by omega) (by decide) g)
    · unfold q_X7_ends F_X7_ends_e
      exact hR _ (p_n g1 hq)
  have l59 : ∀ x, isL x = true ∨ isD x = true → x ≠ 59 := fun x g g2 => by
    subst g2
    rcases g with g | g <;> exact absurd g (by decide)
  rcases O with ⟨g1, g2⟩ | ⟨g1, g2, g3⟩ | ⟨g1, g2, e, hr, g3⟩ | ⟨g1, g2, g3, g4⟩ | ⟨g1, g2, g3, g4, g5⟩
  · exact no (by rw [g2]; decide) (.inl g1)
  · refine no ?_ (.inr (l59 _ (.inl g2)))
    rcases g3 with ⟨g, -⟩ | ⟨g, -⟩ <;> rw [g] <;> decide
  · refine no ?_ (.inr (l59 _ (.inr g2)))
    rcases g3 with ⟨v, -, -, g, -⟩ | ⟨-, g⟩ <;> rw [g] <;> decide
  · refine ⟨1, nI (q + 1), nI q, nI (q + 1), nI q, tok, td', fun Q hq => ?_, fun Q hq => ?_, .inl ⟨rfl, q + 1, by omega, by omega, rfl, rfl⟩⟩
    · unfold q_X3_readEnd F_X3_readEnd_e
      refine s_findToken T6 hb (br_f (nI_ge (by omega) (by omega)) ⟨vp_nI (by omega) (by decide), ?_⟩)
      rw [nI_clamp (by omega), (ht q (by omega)).2, g2]
      refine br_t rfl ?_
      rintro x rfl
      rw [nI_1]; exact hq
    · unfold q_X7_ends F_X7_ends_e
      refine hR _ (p_m g3 ?_)
      rw [g4]; exact hq
  · exact no (by rw [g5]; decide) (.inr g4)
theorem r01 {r : Int32} {P R : Prop} (h : (r = 1 ∧ P) ∨ (r = 0 ∧ R)) : narrow .boolean (.int r) = .int r := by
  rcases h with ⟨g, -⟩ | ⟨g, -⟩
  · rw [g]; exact nar_bI true
  · rw [g]; exact nar_bI false
theorem not_m1 {v : Nat} (h : v < 2 ^ 31) : ¬ nI v = -1 := fun g => absurd (Int32.le_of_eq g) (neg1_lt h)
theorem pr_bound (T6 : tx n t xb) (T7 : tx n t yt) (hp : p ≤ n) {ts bg tk td bo : Int32} (hts : bad n ts bg) {bt : Bool} {read : Nat → Int32} (h5 : (read 5 &&& 1) = 0 ↔ bt = false) : ∃ (r pl ts' bT' bo' a bg' tok td' : Int32) (read' : Nat → Int32), (∀ Q : Int32 → Int32 → Int32 → Int32 → Int32 → Prop, Q r pl ts' bT' bo' → q_X3_readBound (nI n) (nI p) ts (bI bt) bo xb Q) ∧ (∀ Q : Int32 → Int32 → Int32 → Int32 → Int32 → (Nat → Int32) → Prop, Q r a bg' tok td' read' → q_X7_once (nI n) (nI p) bg tk td read yt 1 3 1 Q) ∧ ((r = 1 ∧ okE n p pl a ∧ bt = false ∧ bT' = 1 ∧ ∃ v, 1 ≤ v ∧ v ≤ 10 ∧ bo' = nI v ∧ read' = upd (upd read 5 (read 5 ||| 1)) 3 (nI v)) ∨ (r = 0 ∧ bad n ts' bg')) := by
  cases bt with
  | true =>
    refine ⟨0, nI p, ts, 1, bo, nI p, bg, tk, td, read, fun Q hq => ?_, fun Q hq => ?_, .inr ⟨rfl, hts⟩⟩
    · unfold q_X3_readBound F_X3_readBound_e
      exact br_f (by decide) hq
    · unfold q_X7_once F_X7_once_e
      exact p_n (fun g => absurd (h5.mp g) (by decide)) hq
  | false =>
    have h50 := h5.mpr rfl
    rcases pr_num T6 T7 hp (lo := 1) (hi := 10) (by decide) (by decide) ts bg tk td with ⟨v, e, q, v1, v2, pe, en, hc, hr⟩ | ⟨pl, ts', a, bg', tok, td', hbad, hc, hr⟩
    · obtain ⟨r, pl, ts', a, bg', tok, td', hc2, hr2, O⟩ := pr_end T6 T7 en (nI q) (nI q) 2 (nI v)
      refine ⟨r, pl, ts', 1, nI v, a, bg', tok, td', upd (upd read 5 (read 5 ||| 1)) 3 (nI v), fun Q hq => ?_, fun Q hq => ?_, ?_⟩
      · unfold q_X3_readBound F_X3_readBound_e
        exact br_t rfl (hc _ (p_n (not_m1 (by omega)) (hc2 _ ⟨r01 O, hq⟩)))
      · unfold q_X7_once F_X7_once_e
        refine p_m h50 (hr _ (p_n (by decide) ?_))
        rintro x rfl
        refine ⟨vp_nI (k := 3) (by decide) (by decide), ?_⟩
        rintro y rfl
        exact hr2 _ ⟨r01 O, hq⟩
      · rcases O with ⟨g, ok⟩ | ⟨g, hb⟩
        · exact .inl ⟨g, okE_up (by omega) ok, rfl, rfl, v, v1, v2, rfl, rfl⟩
        · exact .inr ⟨g, hb⟩
    · refine ⟨0, pl, ts', 0, bo, a, bg', tok, td', read, fun Q hq => ?_, fun Q hq => ?_, .inr ⟨rfl, hbad⟩⟩
      · unfold q_X3_readBound F_X3_readBound_e
        exact br_t rfl (hc _ (p_m rfl hq))
      · unfold q_X7_once F_X7_once_e
        exact p_m h50 (hr _ (p_m rfl hq))
theorem pr_loss (T6 : tx n t xb) (T7 : tx n t yt) (hp : p ≤ n) {ts bg tk td bo : Int32} (hts : bad n ts bg) {bt : Bool} {read : Nat → Int32} (h5 : (read 5 &&& 2) = 0 ↔ bt = false) : ∃ (r pl ts' bT' bo' a bg' tok td' : Int32) (read' : Nat → Int32), (∀ Q : Int32 → Int32 → Int32 → Int32 → Int32 → Prop, Q r pl ts' bT' bo' → q_X3_readLoss (nI n) (nI p) ts (bI bt) bo xb Q) ∧ (∀ Q : Int32 → Int32 → Int32 → Int32 → Int32 → (Nat → Int32) → Prop, Q r a bg' tok td' read' → q_X7_once (nI n) (nI p) bg tk td read yt 2 4 0 Q) ∧ ((r = 1 ∧ okE n p pl a ∧ bt = false ∧ bT' = 1 ∧ ∃ v, 0 ≤ v ∧ v ≤ 10 ∧ bo' = nI v ∧ read' = upd (upd read 5 (read 5 ||| 2)) 4 (nI v)) ∨ (r = 0 ∧ bad n ts' bg')) := by
  cases bt with
  | true =>
    refine ⟨0, nI p, ts, 1, bo, nI p, bg, tk, td, read, fun Q hq => ?_, fun Q hq => ?_, .inr ⟨rfl, hts⟩⟩
    · unfold q_X3_readLoss F_X3_readLoss_e
      exact br_f (by decide) hq
    · unfold q_X7_once F_X7_once_e
      exact p_n (fun g => absurd (h5.mp g) (by decide)) hq
  | false =>
    have h50 := h5.mpr rfl
    rcases pr_num T6 T7 hp (lo := 0) (hi := 10) (by decide) (by decide) ts bg tk td with ⟨v, e, q, v1, v2, pe, en, hc, hr⟩ | ⟨pl, ts', a, bg', tok, td', hbad, hc, hr⟩
    · obtain ⟨r, pl, ts', a, bg', tok, td', hc2, hr2, O⟩ := pr_end T6 T7 en (nI q) (nI q) 2 (nI v)
      refine ⟨r, pl, ts', 1, nI v, a, bg', tok, td', upd (upd read 5 (read 5 ||| 2)) 4 (nI v), fun Q hq => ?_, fun Q hq => ?_, ?_⟩
      · unfold q_X3_readLoss F_X3_readLoss_e
        exact br_t rfl (hc _ (p_n (not_m1 (by omega)) (hc2 _ ⟨r01 O, hq⟩)))
      · unfold q_X7_once F_X7_once_e
        refine p_m h50 (hr _ (p_n (by decide) ?_))
        rintro x rfl
        refine ⟨vp_nI (k := 4) (by decide) (by decide), ?_⟩
        rintro y rfl
        exact hr2 _ ⟨r01 O, hq⟩
      · rcases O with ⟨g, ok⟩ | ⟨g, hb⟩
        · exact .inl ⟨g, okE_up (by omega) ok, rfl, rfl, v, v1, v2, rfl, rfl⟩
        · exact .inr ⟨g, hb⟩
    · refine ⟨0, pl, ts', 0, bo, a, bg', tok, td', read, fun Q hq => ?_, fun Q hq => ?_, .inr ⟨rfl, hbad⟩⟩
      · unfold q_X3_readLoss F_X3_readLoss_e
        exact br_t rfl (hc _ (p_m rfl hq))
      · unfold q_X7_once F_X7_once_e
        exact p_m h50 (hr _ (p_m rfl hq))
end Rd

/-! ===== hill ===== -/
section Rd
variable {n : Nat} {t : Nat → Nat} {xb yt : Nat → Int32}
theorem pr_loop (T6 : tx n t xb) (T7 : tx n t yt) : ∀ m p i (ts bg tk td sT bT lT bound loss things w h all top left right : Int32) (parts yl wl fl ol read : Nat → Int32), n - p < m → p ≤ n → i ≤ p → dR sT bT lT bound loss things w h all top left right parts yl wl fl ol read →
    (∃ (i' : Nat) (pl ts' sT' bT' lT' bo' lo' th' w' h' all' top' left' right' : Int32) (parts' yl' wl' fl' ol' : Nat → Int32) (a bg' td' : Int32) (read' : Nat → Int32), i' ≤ 150 ∧ dR sT' bT' lT' bo' lo' th' w' h' all' top' left' right' parts' yl' wl' fl' ol' read' ∧ (∀ Q : Int32 → Int32 → Int32 → Int32 → Int32 → Int32 → Int32 → Int32 → Int32 → Int32 → Int32 → Int32 → Int32 → Int32 → Int32 → (Nat → Int32) → (Nat → Int32) → (Nat → Int32) → (Nat → Int32) → (Nat → Int32) → Prop, Q (nI i') pl ts' sT' bT' lT' bo' lo' th' w' h' all' top' left' right' parts' yl' wl' fl' ol' → ∃ k, wp_X3_readInto (nI n) xb Q k 13 (nI i) (nI i) (nI p) ts sT bT lT bound loss things w h all top left right parts yl wl fl ol) ∧ (∀ (Q : Int32 → Int32 → Int32 → Int32 → Int32 → Int32 → Int32 → Int32 → (Nat → Int32) → (Nat → Int32) → (Nat → Int32) → (Nat → Int32) → Prop) (undos cames : Int32) (hill now kept : Nat → Int32), q_X7_takes undos cames read' hill now kept (fun u7 u8 u9 u10 u11 => Q (nI i') 0 a bg' 0 td' u7 u8 read' u9 u10 u11) → ∃ k, q_X7_reads (nI n) (nI p) bg tk td yt (fun u2 u3 u4 u5 => wp_X7_hill yt Q k 15 (nI i) (nI n) u2 u3 u4 u5 undos cames read hill now kept))) ∨
    (∃ (q : Nat) (pl sT' bT' lT' bo' lo' th' w' h' all' top' left' right' : Int32) (parts' yl' wl' fl' ol' : Nat → Int32) (a tok td' : Int32) (read' : Nat → Int32), q ≤ 150 ∧ (∀ Q : Int32 → Int32 → Int32 → Int32 → Int32 → Int32 → Int32 → Int32 → Int32 → Int32 → Int32 → Int32 → Int32 → Int32 → Int32 → (Nat → Int32) → (Nat → Int32) → (Nat → Int32) → (Nat → Int32) → (Nat → Int32) → Prop, Q (-10 - nI q) pl (nI q) sT' bT' lT' bo' lo' th' w' h' all' top' left' right' parts' yl' wl' fl' ol' → ∃ k, wp_X3_readInto (nI n) xb Q k 13 (nI i) (nI i) (nI p) ts sT bT lT bound loss things w h all top left right parts yl wl fl ol) ∧ (∀ (Q : Int32 → Int32 → Int32 → Int32 → Int32 → Int32 → Int32 → Int32 → (Nat → Int32) → (Nat → Int32) → (Nat → Int32) → (Nat → Int32) → Prop) (undos cames : Int32) (hill now kept : Nat → Int32), Q (-10 - nI q) (nI n) a (nI q) tok td' undos cames read' hill now kept → ∃ k, q_X7_reads (nI n) (nI p) bg tk td yt (fun u2 u3 u4 u5 => wp_X7_hill yt Q k 15 (nI i) (nI n) u2 u3 u4 u5 undos cames read hill now kept))) := by
  have hn := T6.1
  intro m
  induction m with
  | zero => intro p i ts bg tk td sT bT lT bound loss things w h all top left right parts yl wl fl ol read hm; omega
  | succ m ih =>
    intro p i ts bg tk td sT bT lT bound loss things w h all top left right parts yl wl fl ol read hm hp hip D
    obtain ⟨q, hb⟩ := blk_ex t hp
    have hb2 := hb
    obtain ⟨b1, b2, b3, b4⟩ := hb2
    obtain ⟨a0, tok0, td0, O, hR0⟩ := s_reads T7 hb bg tk td
    have n150 : ¬ (150 : Int32) < nI i := fun g => by
      rw [show (150 : Int32) = nI 150 from rfl, nI_ltI (by decide) (by omega)] at g; omega
    by_cases zq : q = n
    · -- the end of the text
      have et : tok0 = 0 := by
        rcases O with ⟨-, g⟩ | ⟨g, -⟩ | ⟨g, -⟩ | ⟨g, -⟩ | ⟨g, -⟩
        · exact g
        all_goals omega
      subst et
      refine .inl ⟨i, nI q, nI q, sT, bT, lT, bound, loss, things, w, h, all, top, left, right, parts, yl, wl, fl, ol, a0, nI q, td0, read, by omega, D, fun Q hQ => ⟨1, ?_⟩, fun Q undos cames hill now kept hQ => ⟨1, hR0 _ ?_⟩⟩
      · show F_X3_readInto_13 (nI n) xb Q (wp_X3_readInto (nI n) xb Q 0) (nI i) (nI i) (nI p) ts sT bT lT bound loss things w h all top left right parts yl wl fl ol
        unfold F_X3_readInto_13
        refine br_f n150 (s_findToken T6 hb (br_f (fun g => ?_) hQ))
        rw [nI_ltI (by omega) (by omega)] at g
        omega
      · show F_X7_hill_15 yt Q (wp_X7_hill yt Q 0) (nI i) (nI n) a0 (nI q) 0 td0 undos cames read hill now kept
        unfold F_X7_hill_15
        exact br_t rfl hQ
    · have hqn : q < n := by omega
      have nt : ¬ tok0 = 0 := by
        rcases O with ⟨g, -⟩ | ⟨-, -, g⟩ | ⟨-, -, e, -, g⟩ | ⟨-, -, g, -⟩ | ⟨-, -, -, -, g⟩
        · exact absurd g zq
        · rcases g with ⟨g, -⟩ | ⟨g, -⟩ <;> rw [g] <;> decide
        · rcases g with ⟨v, -, -, g, -⟩ | ⟨-, g⟩ <;> rw [g] <;> decide
        · rw [g]; decide
        · rw [g]; decide
      obtain ⟨r, pl, ts', sT', bT', lT', bo', lo', th', w', h', all', top', left', right', parts', yl', wl', fl', ol', a, bg', tok, td', read', hC, hR, OO⟩ := pr_item T6 T7 hqn D O
      rcases OO with ⟨rfl, ⟨e, e1, e2, rfl, rfl⟩, D'⟩ | ⟨rfl, q2, h2, rfl, rfl⟩
      · -- the next item
        rcases ih e (i + 1) ts' bg' tok td' sT' bT' lT' bo' lo' th' w' h' all' top' left' right' parts' yl' wl' fl' ol' read' (by omega) e2 (by omega) D' with ⟨i2, pl2, ts2, sT2, bT2, lT2, bo2, lo2, th2, w2, h2, all2, top2, left2, right2, parts2, yl2, wl2, fl2, ol2, a2, bg2, td2, read2, hi2, D2, hC2, hR2⟩ | ⟨q2, pl2, sT2, bT2, lT2, bo2, lo2, th2, w2, h2, all2, top2, left2, right2, parts2, yl2, wl2, fl2, ol2, a2, tok2, td2, read2, hq2, hC2, hR2⟩
        · refine .inl ⟨i2, pl2, ts2, sT2, bT2, lT2, bo2, lo2, th2, w2, h2, all2, top2, left2, right2, parts2, yl2, wl2, fl2, ol2, a2, bg2, td2, read2, hi2, D2, fun Q hQ => ?_, fun Q undos cames hill now kept hQ => ?_⟩
          · obtain ⟨k, hk⟩ := hC2 Q hQ
            refine ⟨k + 1, ?_⟩
            show F_X3_readInto_13 (nI n) xb Q (wp_X3_readInto (nI n) xb Q k) (nI i) (nI i) (nI p) ts sT bT lT bound loss things w h all top left right parts yl wl fl ol
            unfold F_X3_readInto_13
            refine br_f n150 (s_findToken T6 hb (br_t (nI_lt hqn (by omega)) (hC _ (p_n (by decide) ?_))))
            rintro x rfl y rfl
            rw [nI_1]; exact hk
          · obtain ⟨k, hk⟩ := hR2 Q undos cames hill now kept hQ
            refine ⟨k + 1, hR0 _ ?_⟩
            show F_X7_hill_15 yt Q (wp_X7_hill yt Q k) (nI i) (nI n) a0 (nI q) tok0 td0 undos cames read hill now kept
            unfold F_X7_hill_15
            refine br_f nt (hR _ (p_n (by decide) ?_))
            rintro x rfl
            rw [nI_1]; exact hk
        · refine .inr ⟨q2, pl2, sT2, bT2, lT2, bo2, lo2, th2, w2, h2, all2, top2, left2, right2, parts2, yl2, wl2, fl2, ol2, a2, tok2, td2, read2, hq2, fun Q hQ => ?_, fun Q undos cames hill now kept hQ => ?_⟩
          · obtain ⟨k, hk⟩ := hC2 Q hQ
            refine ⟨k + 1, ?_⟩
            show F_X3_readInto_13 (nI n) xb Q (wp_X3_readInto (nI n) xb Q k) (nI i) (nI i) (nI p) ts sT bT lT bound loss things w h all top left right parts yl wl fl ol
            unfold F_X3_readInto_13
            refine br_f n150 (s_findToken T6 hb (br_t (nI_lt hqn (by omega)) (hC _ (p_n (by decide) ?_))))
            rintro x rfl y rfl
            rw [nI_1]; exact hk
          · obtain ⟨k, hk⟩ := hR2 Q undos cames hill now kept hQ
            refine ⟨k + 1, hR0 _ ?_⟩
            show F_X7_hill_15 yt Q (wp_X7_hill yt Q k) (nI i) (nI n) a0 (nI q) tok0 td0 undos cames read hill now kept
            unfold F_X7_hill_15
            refine br_f nt (hR _ (p_n (by decide) ?_))
            rintro x rfl
            rw [nI_1]; exact hk
      · -- a fault
        refine .inr ⟨q2, pl, sT', bT', lT', bo', lo', th', w', h', all', top', left', right', parts', yl', wl', fl', ol', a, tok, td', read', by omega, fun Q hQ => ⟨1, ?_⟩, fun Q undos cames hill now kept hQ => ⟨1, hR0 _ ?_⟩⟩
        · show F_X3_readInto_13 (nI n) xb Q (wp_X3_readInto (nI n) xb Q 0) (nI i) (nI i) (nI p) ts sT bT lT bound loss things w h all top left right parts yl wl fl ol
          unfold F_X3_readInto_13
          exact br_f n150 (s_findToken T6 hb (br_t (nI_lt hqn (by omega)) (hC _ (p_m rfl hQ))))
        · show F_X7_hill_15 yt Q (wp_X7_hill yt Q 0) (nI i) (nI n) a0 (nI q) tok0 td0 undos cames read hill now kept
          unfold F_X7_hill_15
          exact br_f nt (hR _ (p_m rfl hQ))
end Rd
def pln (k : Nat) : Int32 := if k = 3 then 5 else if k = 4 then 3 else 0
theorem s_plain (read : Nat → Int32) : ∃ read' : Nat → Int32, (∀ k, k < 46 → read' k = pln k) ∧ ∀ Q : (Nat → Int32) → Prop, Q read' → q_X7_plain read Q := by
  have L : ∀ m k (f : Nat → Int32), k + m = 46 → (∀ j, j < k → f j = 0) → ∃ read' : Nat → Int32, (∀ k, k < 46 → read' k = pln k) ∧ ∀ Q : (Nat → Int32) → Prop, Q read' → ∃ n, wp_X7_plain Q n 2 (nI k) f := by
    intro m
    induction m with
    | zero =>
      intro k f hk hf
      have : k = 46 := by omega
      subst this
      refine ⟨upd (upd f 3 5) 4 3, fun k hk => ?_, fun Q hq => ⟨1, ?_⟩⟩
      · unfold pln
        rw [upd_at, upd_at]
        by_cases z3 : k = 3
        · rw [if_pos z3, if_neg (by omega), if_pos z3]
        · rw [if_neg z3, if_neg z3]
          by_cases z4 : k = 4
          · rw [if_pos z4, if_pos z4]
          · rw [if_neg z4, if_neg z4]; exact hf k hk
      · show F_X7_plain_2 Q (wp_X7_plain Q 0) (nI 46) f
        unfold F_X7_plain_2
        refine br_t (Int32.le_refl _) ?_
        rintro x rfl y rfl
        exact hq
    | succ m ih =>
      intro k f hk hf
      obtain ⟨r', h1, hN⟩ := ih (k + 1) (upd f k 0) (by omega) (fun j hj => by
        rw [upd_at]
        by_cases g : j = k
        · rw [if_pos g]
        · rw [if_neg g]; exact hf j (by omega))
      refine ⟨r', h1, fun Q hq => ?_⟩
      obtain ⟨n, hn⟩ := hN Q hq
      refine ⟨n + 1, ?_⟩
      show F_X7_plain_2 Q (wp_X7_plain Q n) (nI k) f
      unfold F_X7_plain_2
      refine br_f (nI_ge (b := 46) (by omega) (by decide)) ⟨vp_nI (by omega) (by decide), ?_⟩
      rw [nI_clamp (by omega), nI_1]
      rintro x rfl y rfl
      exact hn
  obtain ⟨r', h1, hN⟩ := L 46 0 read (by omega) (fun j hj => by omega)
  refine ⟨r', h1, fun Q hq => ?_⟩
  obtain ⟨n, hn⟩ := hN Q hq
  exact ⟨n, hn⟩
theorem s_takes {th : Nat} (h6 : th ≤ 6) {read : Nat → Int32} (h2 : read 2 = nI th) (undos cames : Int32) (hill now kept : Nat → Int32) : ∃ hill' now' kept' : Nat → Int32, (∀ k, k < 46 → hill' k = read k) ∧ (now' 0 = 0 ∧ now' 1 = 0 ∧ now' 2 = 0) ∧ (∀ s, s < th → now' (3 + 2 * s) = read (22 + 4 * s) ∧ now' (4 + 2 * s) = read (23 + 4 * s)) ∧ kept' 0 = 0 ∧ kept' 167 = 0 ∧ ∀ Q : Int32 → Int32 → (Nat → Int32) → (Nat → Int32) → (Nat → Int32) → Prop, Q 0 0 hill' now' kept' → q_X7_takes undos cames read hill now kept Q := by
  -- the things
  have L3 : ∀ (hl : Nat → Int32), (∀ k, k < 46 → hl k = read k) → ∀ m s (nw : Nat → Int32), s + m = th → (nw 0 = 0 ∧ nw 1 = 0 ∧ nw 2 = 0) → (∀ j, j < s → nw (3 + 2 * j) = read (22 + 4 * j) ∧ nw (4 + 2 * j) = read (23 + 4 * j)) → ∃ now' kept' : Nat → Int32, (now' 0 = 0 ∧ now' 1 = 0 ∧ now' 2 = 0) ∧ (∀ s, s < th → now' (3 + 2 * s) = read (22 + 4 * s) ∧ now' (4 + 2 * s) = read (23 + 4 * s)) ∧ kept' 0 = 0 ∧ kept' 167 = 0 ∧ ∀ Q : Int32 → Int32 → (Nat → Int32) → (Nat → Int32) → (Nat → Int32) → Prop, Q 0 0 hl now' kept' → ∃ n, wp_X7_takes read Q n 49 (nI s) undos cames hl nw kept := by
    intro hl hhl m
    induction m with
    | zero =>
      intro s nw hs h0 hj
      have : s = th := by omega
      subst this
      refine ⟨nw, upd (upd kept 0 0) 167 0, h0, hj, ?_, ?_, fun Q hq => ⟨1, ?_⟩⟩
      · rw [upd_at, if_neg (by omega), upd_at, if_pos rfl]
      · rw [upd_at, if_pos rfl]
      · show F_X7_takes_49 read Q (wp_X7_takes read Q 0) (nI s) undos cames hl nw kept
        unfold F_X7_takes_49
        rw [c2, hhl 2 (by omega), h2]
        refine br_t (Int32.le_refl _) ?_
        rintro x rfl y rfl
        exact hq
    | succ m ih =>
      intro s nw hs h0 hj
      obtain ⟨now', kept', k1, k2, k3, k4, hN⟩ := ih (s + 1) (upd (upd nw (3 + 2 * s) (read (22 + 4 * s))) (4 + 2 * s) (read (23 + 4 * s))) (by omega) (by
        refine ⟨?_, ?_, ?_⟩ <;> rw [upd_at, if_neg (by omega), upd_at, if_neg (by omega)]
        · exact h0.1
        · exact h0.2.1
        · exact h0.2.2) (fun j hj2 => by
        by_cases z : j = s
        · subst z
          refine ⟨?_, ?_⟩
          · rw [upd_at, if_neg (by omega), upd_at, if_pos rfl]
          · rw [upd_at, if_pos rfl]
        · refine ⟨?_, ?_⟩
          · rw [upd_at, if_neg (by omega), upd_at, if_neg (by omega)]; exact (hj j (by omega)).1
          · rw [upd_at, if_neg (by omega), upd_at, if_neg (by omega)]; exact (hj j (by omega)).2)
      refine ⟨now', kept', k1, k2, k3, k4, fun Q hq => ?_⟩
      obtain ⟨n, hn⟩ := hN Q hq
      refine ⟨n + 1, ?_⟩
      show F_X7_takes_49 read Q (wp_X7_takes read Q n) (nI s) undos cames hl nw kept
      unfold F_X7_takes_49
      rw [c2, hhl 2 (by omega), h2]
      refine br_f (nI_ge (by omega) (by omega)) ?_
      have e4 : (4 : Int32) * nI s = nI (4 * s) := pk_mul 4 s
      have e2 : (2 : Int32) * nI s = nI (2 * s) := pk_mul 2 s
      rw [e4, e2, show (22 : Int32) + nI (4 * s) = nI (22 + 4 * s) from nI_add 22 _, show (3 : Int32) + nI (2 * s) = nI (3 + 2 * s) from nI_add 3 _, show (4 : Int32) + nI (2 * s) = nI (4 + 2 * s) from nI_add 4 _, nI_1, nI_1, nI_clamp (n := 22 + 4 * s) (by omega), nI_clamp (n := 3 + 2 * s) (by omega), nI_clamp (n := 4 + 2 * s) (by omega), nI_clamp (n := 22 + 4 * s + 1) (by omega), hhl (22 + 4 * s) (by omega), hhl (22 + 4 * s + 1) (by omega), show 22 + 4 * s + 1 = 23 + 4 * s by omega]
      refine ⟨vp_nI (by omega) (by decide), vp_nI (by omega) (by decide), ?_⟩
      rintro x rfl
      refine ⟨vp_nI (by omega) (by decide), vp_nI (by omega) (by decide), ?_⟩
      rintro x rfl y rfl
      exact hn
  have L2 : ∀ (hl : Nat → Int32), (∀ k, k < 46 → hl k = read k) → ∀ m k (nw : Nat → Int32), k + m = 15 → (∀ j, j < k → nw j = 0) → ∃ now' kept' : Nat → Int32, (now' 0 = 0 ∧ now' 1 = 0 ∧ now' 2 = 0) ∧ (∀ s, s < th → now' (3 + 2 * s) = read (22 + 4 * s) ∧ now' (4 + 2 * s) = read (23 + 4 * s)) ∧ kept' 0 = 0 ∧ kept' 167 = 0 ∧ ∀ Q : Int32 → Int32 → (Nat → Int32) → (Nat → Int32) → (Nat → Int32) → Prop, Q 0 0 hl now' kept' → ∃ n, wp_X7_takes read Q n 28 (nI k) undos cames hl nw kept := by
    intro hl hhl m
    induction m with
    | zero =>
      intro k nw hk hf
      have : k = 15 := by omega
      subst this
      obtain ⟨now', kept', k1, k2, k3, k4, hN⟩ := L3 hl hhl th 0 nw (by omega) ⟨hf 0 (by omega), hf 1 (by omega), hf 2 (by omega)⟩ (fun j hj => by omega)
      refine ⟨now', kept', k1, k2, k3, k4, fun Q hq => ?_⟩
      obtain ⟨n, hn⟩ := hN Q hq
      refine ⟨n + 1, ?_⟩
      show F_X7_takes_28 read Q (wp_X7_takes read Q n) (nI 15) undos cames hl nw kept
      unfold F_X7_takes_28
      exact br_t (Int32.le_refl _) hn
    | succ m ih =>
      intro k nw hk hf
      obtain ⟨now', kept', k1, k2, k3, k4, hN⟩ := ih (k + 1) (upd nw k 0) (by omega) (fun j hj => by
        rw [upd_at]
        by_cases g : j = k
        · rw [if_pos g]
        · rw [if_neg g]; exact hf j (by omega))
      refine ⟨now', kept', k1, k2, k3, k4, fun Q hq => ?_⟩
      obtain ⟨n, hn⟩ := hN Q hq
      refine ⟨n + 1, ?_⟩
      show F_X7_takes_28 read Q (wp_X7_takes read Q n) (nI k) undos cames hl nw kept
      unfold F_X7_takes_28
      refine br_f (nI_ge (b := 15) (by omega) (by decide)) ⟨vp_nI (by omega) (by decide), ?_⟩
      rw [nI_clamp (by omega), nI_1]
      rintro x rfl y rfl
      exact hn
  have L1 : ∀ m k (hl : Nat → Int32), k + m = 46 → (∀ j, j < k → hl j = read j) → ∃ hill' now' kept' : Nat → Int32, (∀ k, k < 46 → hill' k = read k) ∧ (now' 0 = 0 ∧ now' 1 = 0 ∧ now' 2 = 0) ∧ (∀ s, s < th → now' (3 + 2 * s) = read (22 + 4 * s) ∧ now' (4 + 2 * s) = read (23 + 4 * s)) ∧ kept' 0 = 0 ∧ kept' 167 = 0 ∧ ∀ Q : Int32 → Int32 → (Nat → Int32) → (Nat → Int32) → (Nat → Int32) → Prop, Q 0 0 hill' now' kept' → ∃ n, wp_X7_takes read Q n 2 (nI k) undos cames hl now kept := by
    intro m
    induction m with
    | zero =>
      intro k hl hk hf
      have : k = 46 := by omega
      subst this
      obtain ⟨now', kept', k1, k2, k3, k4, hN⟩ := L2 hl hf 15 0 now (by omega) (fun j hj => by omega)
      refine ⟨hl, now', kept', hf, k1, k2, k3, k4, fun Q hq => ?_⟩
      obtain ⟨n, hn⟩ := hN Q hq
      refine ⟨n + 1, ?_⟩
      show F_X7_takes_2 read Q (wp_X7_takes read Q n) (nI 46) undos cames hl now kept
      unfold F_X7_takes_2
      exact br_t (Int32.le_refl _) hn
    | succ m ih =>
      intro k hl hk hf
      obtain ⟨hill', now', kept', k0, k1, k2, k3, k4, hN⟩ := ih (k + 1) (upd hl k (read k)) (by omega) (fun j hj => by
        rw [upd_at]
        by_cases g : j = k
        · rw [if_pos g, g]
        · rw [if_neg g]; exact hf j (by omega))
      refine ⟨hill', now', kept', k0, k1, k2, k3, k4, fun Q hq => ?_⟩
      obtain ⟨n, hn⟩ := hN Q hq
      refine ⟨n + 1, ?_⟩
      show F_X7_takes_2 read Q (wp_X7_takes read Q n) (nI k) undos cames hl now kept
      unfold F_X7_takes_2
      refine br_f (nI_ge (b := 46) (by omega) (by decide)) ⟨vp_nI (by omega) (by decide), vp_nI (by omega) (by decide), ?_⟩
      rw [nI_clamp (by omega), nI_1]
      rintro x rfl y rfl
      exact hn
  obtain ⟨hill', now', kept', k0, k1, k2, k3, k4, hN⟩ := L1 46 0 hill (by omega) (fun j hj => by omega)
  refine ⟨hill', now', kept', k0, k1, k2, k3, k4, fun Q hq => ?_⟩
  obtain ⟨n, hn⟩ := hN Q hq
  exact ⟨n, hn⟩
theorem s_begin {th : Nat} (h6 : th ≤ 6) (known : Int32) (rows yl wl : Nat → Int32) : ∃ rows' : Nat → Int32, (rows' 0 = 0 ∧ rows' 1 = 0 ∧ rows' 2 = 0) ∧ (∀ s, s < th → rows' (3 + s) = yl s ∧ rows' (9 + s) = wl s) ∧ ∀ Q : Int32 → (Nat → Int32) → Prop, Q 0 rows' → q_X2_begin known rows (nI th) yl wl Q := by
  have L : ∀ m s (f : Nat → Int32), s + m = th → (f 0 = 0 ∧ f 1 = 0 ∧ f 2 = 0) → (∀ j, j < s → f (3 + j) = yl j ∧ f (9 + j) = wl j) → ∃ rows' : Nat → Int32, (rows' 0 = 0 ∧ rows' 1 = 0 ∧ rows' 2 = 0) ∧ (∀ s, s < th → rows' (3 + s) = yl s ∧ rows' (9 + s) = wl s) ∧ ∀ Q : Int32 → (Nat → Int32) → Prop, Q 0 rows' → ∃ n, wp_X2_begin (nI th) yl wl Q n 23 (nI s) known f := by
    intro m
    induction m with
    | zero =>
      intro s f hs h0 hj
      have : s = th := by omega
      subst this
      refine ⟨f, h0, hj, fun Q hq => ⟨1, ?_⟩⟩
      show F_X2_begin_23 (nI s) yl wl Q (wp_X2_begin (nI s) yl wl Q 0) (nI s) known f
      unfold F_X2_begin_23
      exact br_t (Int32.le_refl _) hq
    | succ m ih =>
      intro s f hs h0 hj
      obtain ⟨rows', k1, k2, hN⟩ := ih (s + 1) (upd (upd f (3 + s) (yl s)) (9 + s) (wl s)) (by omega) (by
        refine ⟨?_, ?_, ?_⟩ <;> rw [upd_at, if_neg (by omega), upd_at, if_neg (by omega)]
        · exact h0.1
        · exact h0.2.1
        · exact h0.2.2) (fun j hj2 => by
        by_cases z : j = s
        · subst z
          refine ⟨?_, ?_⟩
          · rw [upd_at, if_neg (by omega), upd_at, if_pos rfl]
          · rw [upd_at, if_pos rfl]
        · refine ⟨?_, ?_⟩
          · rw [upd_at, if_neg (by omega), upd_at, if_neg (by omega)]; exact (hj j (by omega)).1
          · rw [upd_at, if_neg (by omega), upd_at, if_neg (by omega)]; exact (hj j (by omega)).2)
      refine ⟨rows', k1, k2, fun Q hq => ?_⟩
      obtain ⟨n, hn⟩ := hN Q hq
      refine ⟨n + 1, ?_⟩
      show F_X2_begin_23 (nI th) yl wl Q (wp_X2_begin (nI th) yl wl Q n) (nI s) known f
      unfold F_X2_begin_23
      refine br_f (nI_ge (by omega) (by omega)) ⟨vp_nI (by omega) (by decide), ?_⟩
      unfold q_X2_setYellow F_X2_setYellow_e q_X2_setWhite F_X2_setWhite_e
      obtain ⟨a1, a2, a3⟩ := i3 (t := s) (by omega)
      obtain ⟨c1', c2', c3'⟩ := i9 (t := s) (by omega)
      rw [a1, c1', a2, c2', nI_clamp (n := s) (by omega)]
      refine ⟨a3, ?_⟩
      rintro x rfl
      refine ⟨vp_nI (by omega) (by decide), c3', ?_⟩
      rintro x rfl y rfl
      rw [nI_1]; exact hn
  obtain ⟨rows', k1, k2, hN⟩ := L th 0 (upd (upd (upd rows 0 0) 1 0) 2 0) (by omega) ⟨rfl, rfl, rfl⟩ (fun j hj => by omega)
  refine ⟨rows', k1, k2, fun Q hq => ?_⟩
  obtain ⟨n, hn⟩ := hN Q hq
  refine ⟨n, ?_⟩
  unfold F_X2_begin_e
  rintro x rfl y rfl z rfl
  exact hn

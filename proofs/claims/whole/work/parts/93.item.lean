/-! ===== an item is read ===== -/
theorem iS_hill {W H : Nat} {pa : Nat → Nat} {w h all top left right : Int32} {parts hill hill' : Nat → Int32} (S : iS W H pa w h all top left right parts hill) (e : ∀ k, k < 2 ∨ (6 ≤ k ∧ k < 22) → hill' k = hill k) : iS W H pa w h all top left right parts hill' := by
  obtain ⟨hW, hH, hWH, ew, eh, ea, et, el, er, e0, e1, ep⟩ := S
  exact ⟨hW, hH, hWH, ew, eh, ea, et, el, er, by rw [e 0 (by omega)]; exact e0, by rw [e 1 (by omega)]; exact e1, fun c hc => ⟨(ep c hc).1, (ep c hc).2.1, by rw [e (6 + c) (by omega)]; exact (ep c hc).2.2⟩⟩
theorem iA_hill {th bo lo : Nat} {fa wo : Nat → Nat} {bound loss things : Int32} {fades worth hill hill' : Nat → Int32} (A : iA th bo lo fa wo bound loss things fades worth hill) (e : ∀ k, (2 ≤ k ∧ k ≤ 4) ∨ (22 ≤ k ∧ k < 46) → hill' k = hill k) : iA th bo lo fa wo bound loss things fades worth hill' := by
  obtain ⟨h6, b1, b2, l2, eb, elo, eth, ht7, hb7, hl7, hA⟩ := A
  refine ⟨h6, b1, b2, l2, eb, elo, eth, by rw [e 2 (by omega)]; exact ht7, by rw [e 3 (by omega)]; exact hb7, by rw [e 4 (by omega)]; exact hl7, fun t ht => ?_⟩
  obtain ⟨a1, a2, a3, a4, a5, a6⟩ := hA t ht
  exact ⟨a1, a2, a3, a4, by rw [e (24 + 4 * t) (by omega)]; exact a5, by rw [e (25 + 4 * t) (by omega)]; exact a6⟩
def dR (sT bT lT bound loss things w h all top left right : Int32) (parts yl wl fl ol read : Nat → Int32) : Prop := ∃ (W H th bo lo : Nat) (bt lt : Bool) (pa fa wo ye wh : Nat → Nat), iS W H pa w h all top left right parts read ∧ (W = 0 → ∀ c, c < 16 → pa c = 0) ∧ sT = bI (decide (0 < W)) ∧ bT = bI bt ∧ lT = bI lt ∧ read 5 = nI (bt.toNat + 2 * lt.toNat) ∧ iA th bo lo fa wo bound loss things fl ol read ∧ ∀ t, t < th → ye t ≤ 60 ∧ wh t ≤ 60 ∧ yl t = nI (ye t) ∧ wl t = nI (wh t) ∧ read (22 + 4 * t) = nI (ye t) ∧ read (23 + 4 * t) = nI (wh t)
section Rd
variable {n p q : Nat} {t : Nat → Nat} {xb yt : Nat → Int32}
theorem s_letter (T : tx n t xb) (hq : q < n) (hL : isL (t q) = true) (hn1 : q + 1 < n → isL (t (q + 1)) = false) {Q : Int32 → Int32 → Prop} (h : Q (nI (t q)) (nI (q + 1))) : q_X3_readLetter (nI n) (nI q) (nI q) xb Q := by
  have hn := T.1
  unfold q_X3_readLetter F_X3_readLetter_e
  refine s_isLetterAt T (by omega) ?_
  rw [decide_eq_true hq, hL]
  refine br_f (by decide) ?_
  rw [nI_1]
  refine s_isLetterAt T (by omega) ?_
  have e : (decide (q + 1 < n) && isL (t (q + 1))) = false := by
    by_cases z : q + 1 < n
    · rw [hn1 z, Bool.and_false]
    · rw [decide_eq_false z, Bool.false_and]
  rw [e]
  refine br_t rfl ?_
  rintro x rfl
  refine ⟨vp_nI (by omega) (by decide), ?_⟩
  rw [nI_clamp (by omega), (T.2 q hq).2]
  exact h
theorem s_letterF (T : tx n t xb) (hq : q < n) (hF : isL (t q) = false ∨ (q + 1 < n ∧ isL (t (q + 1)) = true)) {Q : Int32 → Int32 → Prop} (h : Q (-1) (nI q)) : q_X3_readLetter (nI n) (nI q) (nI q) xb Q := by
  have hn := T.1
  unfold q_X3_readLetter F_X3_readLetter_e
  refine s_isLetterAt T (by omega) ?_
  rw [decide_eq_true hq, Bool.true_and]
  cases hL : isL (t q) with
  | false => exact br_t rfl h
  | true =>
    refine br_f (by decide) ?_
    rw [nI_1]
    refine s_isLetterAt T (by omega) ?_
    rcases hF with g | ⟨g1, g2⟩
    · rw [hL] at g; cases g
    · rw [decide_eq_true g1, g2]
      exact br_f (by decide) h
theorem pr_item (T6 : tx n t xb) (T7 : tx n t yt) (hq : q < n) {sT bT lT bound loss things w h all top left right : Int32} {parts yl wl fl ol read : Nat → Int32} (D : dR sT bT lT bound loss things w h all top left right parts yl wl fl ol read) {a0 tok0 td0 : Int32} (O : tkO n t q a0 tok0 td0) : ∃ (r pl ts' sT' bT' lT' bo' lo' th' w' h' all' top' left' right' : Int32) (parts' yl' wl' fl' ol' : Nat → Int32) (a bg' tok td' : Int32) (read' : Nat → Int32), (∀ Q : Int32 → Int32 → Int32 → Int32 → Int32 → Int32 → Int32 → Int32 → Int32 → Int32 → Int32 → Int32 → Int32 → Int32 → Int32 → (Nat → Int32) → (Nat → Int32) → (Nat → Int32) → (Nat → Int32) → (Nat → Int32) → Prop, Q r pl ts' sT' bT' lT' bo' lo' th' w' h' all' top' left' right' parts' yl' wl' fl' ol' → q_X3_readItem (nI n) (nI q) (nI q) xb sT bT lT bound loss things w h all top left right parts yl wl fl ol Q) ∧ (∀ Q : Int32 → Int32 → Int32 → Int32 → Int32 → (Nat → Int32) → Prop, Q r a bg' tok td' read' → q_X7_readItem (nI n) a0 (nI q) tok0 td0 read yt Q) ∧ ((r = 1 ∧ okE n q pl a ∧ dR sT' bT' lT' bo' lo' th' w' h' all' top' left' right' parts' yl' wl' fl' ol' read') ∨ (r = 0 ∧ bad n ts' bg')) := by
  have hbq : bad n (nI q) (nI q) := ⟨q, by omega, rfl, rfl⟩
  have htq := (T6.2 q hq).1
  -- refused
  have no : ¬ tok0 = 1 → (¬ (isL (t q) = true ∧ (q + 1 < n → isL (t (q + 1)) = false)) ∨ ¬ inS (t q)) → ∃ (r pl ts' sT' bT' lT' bo' lo' th' w' h' all' top' left' right' : Int32) (parts' yl' wl' fl' ol' : Nat → Int32) (a bg' tok td' : Int32) (read' : Nat → Int32), (∀ Q : Int32 → Int32 → Int32 → Int32 → Int32 → Int32 → Int32 → Int32 → Int32 → Int32 → Int32 → Int32 → Int32 → Int32 → Int32 → (Nat → Int32) → (Nat → Int32) → (Nat → Int32) → (Nat → Int32) → (Nat → Int32) → Prop, Q r pl ts' sT' bT' lT' bo' lo' th' w' h' all' top' left' right' parts' yl' wl' fl' ol' → q_X3_readItem (nI n) (nI q) (nI q) xb sT bT lT bound loss things w h all top left right parts yl wl fl ol Q) ∧ (∀ Q : Int32 → Int32 → Int32 → Int32 → Int32 → (Nat → Int32) → Prop, Q r a bg' tok td' read' → q_X7_readItem (nI n) a0 (nI q) tok0 td0 read yt Q) ∧ ((r = 1 ∧ okE n q pl a ∧ dR sT' bT' lT' bo' lo' th' w' h' all' top' left' right' parts' yl' wl' fl' ol' read') ∨ (r = 0 ∧ bad n ts' bg')) := by
    intro g1 g2
    have ref : ∀ Q : Int32 → Int32 → Int32 → Int32 → Int32 → (Nat → Int32) → Prop, Q 0 a0 (nI q) tok0 td0 read → q_X7_readItem (nI n) a0 (nI q) tok0 td0 read yt Q := fun Q hq => by
      unfold q_X7_readItem F_X7_readItem_e
      exact br_f g1 hq
    by_cases z : isL (t q) = true ∧ (q + 1 < n → isL (t (q + 1)) = false)
    · have nS : ¬ inS (t q) := g2.elim (fun g => absurd z g) id
      refine ⟨0, nI (q + 1), nI q, sT, bT, lT, bound, loss, things, w, h, all, top, left, right, parts, yl, wl, fl, ol, a0, nI q, tok0, td0, read, fun Q hQ => ?_, ref, .inr ⟨rfl, hbq⟩⟩
      unfold q_X3_readItem F_X3_readItem_e
      have n98 : ¬ nI (t q) = 98 := fun g => nS (.inr (.inr (.inl (nI_inj (b := 98) (by omega) (by decide) g))))
      have n108 : ¬ nI (t q) = 108 := fun g => nS (.inr (.inr (.inr (nI_inj (b := 108) (by omega) (by decide) g))))
      have n115 : ¬ nI (t q) = 115 := fun g => nS (.inl (nI_inj (b := 115) (by omega) (by decide) g))
      have n116 : ¬ nI (t q) = 116 := fun g => nS (.inr (.inl (nI_inj (b := 116) (by omega) (by decide) g)))
      exact s_letter T6 hq z.1 z.2 ⟨fun g => absurd g n98, fun g => absurd g n108, fun g => absurd g n115, fun g => absurd g n116, fun _ => hQ⟩
    · refine ⟨0, nI q, nI q, sT, bT, lT, bound, loss, things, w, h, all, top, left, right, parts, yl, wl, fl, ol, a0, nI q, tok0, td0, read, fun Q hQ => ?_, ref, .inr ⟨rfl, hbq⟩⟩
      unfold q_X3_readItem F_X3_readItem_e
      refine s_letterF T6 hq ?_ ⟨fun g => absurd g (by decide), fun g => absurd g (by decide), fun g => absurd g (by decide), fun g => absurd g (by decide), fun _ => hQ⟩
      cases hL : isL (t q) with
      | false => exact .inl rfl
      | true =>
        refine .inr (Classical.byContradiction fun g => z ⟨hL, fun g1 => ?_⟩)
        cases hL1 : isL (t (q + 1)) with
        | false => rfl
        | true => exact absurd ⟨g1, hL1⟩ g
  have dl : ∀ x, isD x = true → isL x = false := fun x g => by
    have g := of_decide_eq_true g
    exact decide_eq_false (fun g2 => by omega)
  rcases O with ⟨g1, g2⟩ | ⟨g1, g2, g3⟩ | ⟨g1, g2, e, hr, g3⟩ | ⟨g1, g2, g3, g4⟩ | ⟨g1, g2, g3, g4, g5⟩
  · omega
  rotate_left
  · refine no ?_ (.inl fun g => absurd (g.1.symm.trans (dl _ g2)) (by decide))
    rcases g3 with ⟨v, -, -, g, -⟩ | ⟨-, g⟩ <;> rw [g] <;> decide
  · refine no (by rw [g3]; decide) (.inl fun g => ?_)
    rw [g2] at g
    exact absurd g.1 (by decide)
  · exact no (by rw [g5]; decide) (.inl fun g => absurd (g.1.symm.trans g2) (by decide))
  rcases g3 with ⟨et, ea, ed, hS, hN1⟩ | ⟨et, hno⟩
  rotate_left
  · refine no (by rw [et]; decide) ?_
    by_cases z : inS (t q)
    · exact .inl fun g => hno ⟨z, g.2⟩
    · exact .inr z
  -- a letter that begins an item
  clear no
  subst et; subst ea; subst ed
  obtain ⟨W, H, th, bo, lo, bt, lt, pa, fa, wo, ye, wh, S, hW0, rfl, rfl, rfl, h5, A, hY⟩ := D
  have S' := S
  obtain ⟨hW, hH, hWH, ew, eh, ea, et, el, er, e0, e1, ep⟩ := S'
  have A' := A
  obtain ⟨h6, b1, b2, l2, eb, elo, eth, ht7, hb7, hl7, hA⟩ := A'
  rcases hS with hc | hc | hc | hc
  · -- s
    obtain ⟨r, pl, ts', sT', w', h', all', top', left', right', parts', a, bg', tok, td', read', hC, hR, O⟩ := pr_readSeam (p := q + 1) T6 T7 (by omega) (tk := 1) (td := nI (t q)) hbq (st := decide (0 < W)) (read := read) (fun g => by
      have g := of_decide_eq_false g
      have w0 : W = 0 := by omega
      exact ⟨by rw [e0, w0]; rfl, fun c hc => by rw [(ep c hc).2.2, hW0 w0 c hc]; rfl⟩) (fun g => by
      have g := of_decide_eq_true g
      rw [e0]; exact nI_lt (a := 0) g (by omega)) w h all top left right parts
    refine ⟨r, pl, ts', sT', bI bt, bI lt, bound, loss, things, w', h', all', top', left', right', parts', yl, wl, fl, ol, a, bg', tok, td', read', fun Q hQ => ?_, fun Q hQ => ?_, ?_⟩
    · unfold q_X3_readItem F_X3_readItem_e
      refine s_letter T6 hq g2 hN1 ?_
      rw [hc]
      exact ⟨fun g => absurd g (by decide), fun g => absurd g (by decide), fun _ => hC _ ⟨r01 O, hQ⟩, fun g => absurd g (by decide), fun g => absurd rfl g.2.2.1⟩
    · unfold q_X7_readItem F_X7_readItem_e
      refine br_t rfl ?_
      rw [hc] at hR ⊢
      exact ⟨fun g => absurd g (by decide), fun _ => hR _ ⟨r01 O, hQ⟩, fun g => absurd g (by decide), fun g => absurd rfl g.2.1⟩
    · rcases O with ⟨g, ok, gw, rfl, W', H', pa', w1, w4, h1, h4, rfl, rfl, rfl, rfl, rfl, rfl, hp', k0, k1, kk⟩ | ⟨g, hb⟩
      · refine .inl ⟨g, okE_up (by omega) ok, W', H', th, bo, lo, bt, lt, pa', fa, wo, ye, wh, ⟨w4, h4, by omega, rfl, rfl, rfl, rfl, rfl, rfl, k0, k1, hp'⟩, fun z => by omega, ?_, rfl, rfl, by rw [kk 5 (by omega)]; exact h5, iA_hill A (fun k hk => kk k (by omega)), fun s hs => ?_⟩
        · rw [decide_eq_true (show 0 < W' by omega)]; rfl
        · obtain ⟨y1, y2, y3, y4, y5, y6⟩ := hY s hs
          exact ⟨y1, y2, y3, y4, by rw [kk _ (by omega)]; exact y5, by rw [kk _ (by omega)]; exact y6⟩
      · exact .inr ⟨g, hb⟩
  · -- t
    obtain ⟨r, pl, ts', th', yl', wl', fl', ol', a, bg', tok, td', read', hC, hR, O⟩ := pr_readThing (p := q + 1) T6 T7 (by omega) (tk := 1) (td := nI (t q)) hbq h6 (read := read) (yl := yl) (wl := wl) (fl := fl) (ol := ol) ht7
    refine ⟨r, pl, ts', bI (decide (0 < W)), bI bt, bI lt, bound, loss, th', w, h, all, top, left, right, parts, yl', wl', fl', ol', a, bg', tok, td', read', fun Q hQ => ?_, fun Q hQ => ?_, ?_⟩
    · unfold q_X3_readItem F_X3_readItem_e
      refine s_letter T6 hq g2 hN1 ?_
      rw [hc, eth]
      exact ⟨fun g => absurd g (by decide), fun g => absurd g (by decide), fun g => absurd g (by decide), fun _ => hC _ ⟨r01 O, hQ⟩, fun g => absurd rfl g.2.2.2⟩
    · unfold q_X7_readItem F_X7_readItem_e
      refine br_t rfl ?_
      rw [hc] at hR ⊢
      exact ⟨fun g => absurd g (by decide), fun g => absurd g (by decide), fun _ => hR _ ⟨r01 O, hQ⟩, fun g => absurd rfl g.2.2⟩
    · rcases O with ⟨g, ok, h6', rfl, v0, v1, v2, v3, u0, u1, u2, u3, rfl, rfl, rfl, rfl, rfl⟩ | ⟨g, hb⟩
      · have lowk : ∀ k, k < 22 → k ≠ 2 → upd (upd (upd (upd (upd read (22 + 4 * th) (nI v0)) (22 + 4 * th + 1) (nI v1)) (22 + 4 * th + 2) (nI v2)) (22 + 4 * th + 3) (nI v3)) 2 (nI (th + 1)) k = read k := fun k hk hk2 => by
          rw [upd_at, if_neg hk2, upd_at, if_neg (by omega), upd_at, if_neg (by omega), upd_at, if_neg (by omega), upd_at, if_neg (by omega)]
        have oth : ∀ s, s < th → ∀ j, j < 4 → upd (upd (upd (upd (upd read (22 + 4 * th) (nI v0)) (22 + 4 * th + 1) (nI v1)) (22 + 4 * th + 2) (nI v2)) (22 + 4 * th + 3) (nI v3)) 2 (nI (th + 1)) (22 + 4 * s + j) = read (22 + 4 * s + j) := fun s hs j hj => by
          rw [upd_at, if_neg (by omega), upd_at, if_neg (by omega), upd_at, if_neg (by omega), upd_at, if_neg (by omega), upd_at, if_neg (by omega)]
        refine .inl ⟨g, okE_up (by omega) ok, W, H, th + 1, bo, lo, bt, lt, pa, upN fa th v2, upN wo th v3, upN ye th v0, upN wh th v1, iS_hill S (fun k hk => lowk k (by omega) (by omega)), hW0, rfl, rfl, rfl, by rw [lowk 5 (by omega) (by omega)]; exact h5, ⟨by omega, b1, b2, l2, eb, elo, rfl, by rw [upd_at, if_pos rfl], by rw [lowk 3 (by omega) (by omega)]; exact hb7, by rw [lowk 4 (by omega) (by omega)]; exact hl7, fun s hs => ?_⟩, fun s hs => ?_⟩
        · unfold upN
          by_cases z : s = th
          · subst z
            rw [if_pos rfl, if_pos rfl, upd_at, if_pos rfl, upd_at, if_pos rfl]
            refine ⟨u2, u3, rfl, rfl, ?_, ?_⟩
            · rw [upd_at, if_neg (by omega), upd_at, if_neg (by omega), upd_at, if_pos (by omega)]
            · rw [upd_at, if_neg (by omega), upd_at, if_pos (by omega)]
          · obtain ⟨a1, a2, a3, a4, a5, a6⟩ := hA s (by omega)
            rw [if_neg z, if_neg z, upd_at, if_neg z, upd_at, if_neg z]
            have o2 := oth s (by omega) 2 (by omega)
            have o3 := oth s (by omega) 3 (by omega)
            rw [show 22 + 4 * s + 2 = 24 + 4 * s by omega] at o2
            rw [show 22 + 4 * s + 3 = 25 + 4 * s by omega] at o3
            exact ⟨a1, a2, a3, a4, by rw [o2]; exact a5, by rw [o3]; exact a6⟩
        · unfold upN
          by_cases z : s = th
          · subst z
            rw [if_pos rfl, if_pos rfl, upd_at, if_pos rfl, upd_at, if_pos rfl]
            refine ⟨u0, u1, rfl, rfl, ?_, ?_⟩
            · rw [upd_at, if_neg (by omega), upd_at, if_neg (by omega), upd_at, if_neg (by omega), upd_at, if_neg (by omega), upd_at, if_pos rfl]
            · rw [upd_at, if_neg (by omega), upd_at, if_neg (by omega), upd_at, if_neg (by omega), upd_at, if_pos (by omega)]
          · obtain ⟨y1, y2, y3, y4, y5, y6⟩ := hY s (by omega)
            rw [if_neg z, if_neg z, upd_at, if_neg z, upd_at, if_neg z]
            have o0 := oth s (by omega) 0 (by omega)
            have o1 := oth s (by omega) 1 (by omega)
            rw [show 22 + 4 * s + 0 = 22 + 4 * s by omega] at o0
            rw [show 22 + 4 * s + 1 = 23 + 4 * s by omega] at o1
            exact ⟨y1, y2, y3, y4, by rw [o0]; exact y5, by rw [o1]; exact y6⟩
      · exact .inr ⟨g, hb⟩
  · -- b
    obtain ⟨r, pl, ts', bT', bo', a, bg', tok, td', read', hC, hR, O⟩ := pr_bound (p := q + 1) T6 T7 (by omega) (tk := 1) (td := nI (t q)) (bo := bound) hbq (bt := bt) (read := read) (by rw [h5]; cases bt <;> cases lt <;> decide)
    refine ⟨r, pl, ts', bI (decide (0 < W)), bT', bI lt, bo', loss, things, w, h, all, top, left, right, parts, yl, wl, fl, ol, a, bg', tok, td', read', fun Q hQ => ?_, fun Q hQ => ?_, ?_⟩
    · unfold q_X3_readItem F_X3_readItem_e
      refine s_letter T6 hq g2 hN1 ?_
      rw [hc]
      exact ⟨fun _ => hC _ ⟨r01 O, hQ⟩, fun g => absurd g (by decide), fun g => absurd g (by decide), fun g => absurd g (by decide), fun g => absurd rfl g.1⟩
    · unfold q_X7_readItem F_X7_readItem_e
      refine br_t rfl ?_
      rw [hc] at hR ⊢
      exact ⟨fun _ => hR _ ⟨r01 O, hQ⟩, fun g => absurd g (by decide), fun g => absurd g (by decide), fun g => absurd rfl g.1⟩
    · rcases O with ⟨g, ok, gb, rfl, v, v1, v2, rfl, rfl⟩ | ⟨g, hb⟩
      · have oth : ∀ k, k ≠ 3 → k ≠ 5 → upd (upd read 5 (read 5 ||| 1)) 3 (nI v) k = read k := fun k k3 k5 => by rw [upd_at, if_neg k3, upd_at, if_neg k5]
        refine .inl ⟨g, okE_up (by omega) ok, W, H, th, v, lo, true, lt, pa, fa, wo, ye, wh, iS_hill S (fun k hk => oth k (by omega) (by omega)), hW0, rfl, rfl, rfl, ?_, ⟨h6, v1, v2, l2, rfl, elo, eth, by rw [oth 2 (by omega) (by omega)]; exact ht7, by rw [upd_at, if_pos rfl], by rw [oth 4 (by omega) (by omega)]; exact hl7, fun s hs => ?_⟩, fun s hs => ?_⟩
        · rw [upd_at, if_neg (by omega), upd_at, if_pos rfl, h5, gb]
          cases lt <;> rfl
        · obtain ⟨a1, a2, a3, a4, a5, a6⟩ := hA s hs
          exact ⟨a1, a2, a3, a4, by rw [oth _ (by omega) (by omega)]; exact a5, by rw [oth _ (by omega) (by omega)]; exact a6⟩
        · obtain ⟨y1, y2, y3, y4, y5, y6⟩ := hY s hs
          exact ⟨y1, y2, y3, y4, by rw [oth _ (by omega) (by omega)]; exact y5, by rw [oth _ (by omega) (by omega)]; exact y6⟩
      · exact .inr ⟨g, hb⟩
  · -- l
    obtain ⟨r, pl, ts', bT', bo', a, bg', tok, td', read', hC, hR, O⟩ := pr_loss (p := q + 1) T6 T7 (by omega) (tk := 1) (td := nI (t q)) (bo := loss) hbq (bt := lt) (read := read) (by rw [h5]; cases bt <;> cases lt <;> decide)
    refine ⟨r, pl, ts', bI (decide (0 < W)), bI bt, bT', bound, bo', things, w, h, all, top, left, right, parts, yl, wl, fl, ol, a, bg', tok, td', read', fun Q hQ => ?_, fun Q hQ => ?_, ?_⟩
    · unfold q_X3_readItem F_X3_readItem_e
      refine s_letter T6 hq g2 hN1 ?_
      rw [hc]
      exact ⟨fun g => absurd g (by decide), fun _ => hC _ ⟨r01 O, hQ⟩, fun g => absurd g (by decide), fun g => absurd g (by decide), fun g => absurd rfl g.2.1⟩
    · unfold q_X7_readItem F_X7_readItem_e
      refine br_t rfl ?_
      rw [hc] at hR ⊢
      exact ⟨fun g => absurd g (by decide), fun g => absurd g (by decide), fun g => absurd g (by decide), fun _ => hR _ ⟨r01 O, hQ⟩⟩
    · rcases O with ⟨g, ok, gb, rfl, v, v1, v2, rfl, rfl⟩ | ⟨g, hb⟩
      · have oth : ∀ k, k ≠ 4 → k ≠ 5 → upd (upd read 5 (read 5 ||| 2)) 4 (nI v) k = read k := fun k k3 k5 => by rw [upd_at, if_neg k3, upd_at, if_neg k5]
        refine .inl ⟨g, okE_up (by omega) ok, W, H, th, bo, v, bt, true, pa, fa, wo, ye, wh, iS_hill S (fun k hk => oth k (by omega) (by omega)), hW0, rfl, rfl, rfl, ?_, ⟨h6, b1, b2, v2, eb, rfl, eth, by rw [oth 2 (by omega) (by omega)]; exact ht7, by rw [oth 3 (by omega) (by omega)]; exact hb7, by rw [upd_at, if_pos rfl], fun s hs => ?_⟩, fun s hs => ?_⟩
        · rw [upd_at, if_neg (by omega), upd_at, if_pos rfl, h5, gb]
          cases bt <;> rfl
        · obtain ⟨a1, a2, a3, a4, a5, a6⟩ := hA s hs
          exact ⟨a1, a2, a3, a4, by rw [oth _ (by omega) (by omega)]; exact a5, by rw [oth _ (by omega) (by omega)]; exact a6⟩
        · obtain ⟨y1, y2, y3, y4, y5, y6⟩ := hY s hs
          exact ⟨y1, y2, y3, y4, by rw [oth _ (by omega) (by omega)]; exact y5, by rw [oth _ (by omega) (by omega)]; exact y6⟩
      · exact .inr ⟨g, hb⟩
end Rd

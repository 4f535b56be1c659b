/-! ===== bestDig, both ===== -/
section Best
variable {W H B dg st yr th : Nat} {pa ye wh : Nat → Nat} {w h all top left right p p1 : Int32} {parts hill rows now : Nat → Int32}
theorem and_0 {s d : Nat} : s &&& d = 0 ↔ ∀ c, s.testBit c = true → d.testBit c = false := by
  constructor
  · intro h c hc
    have : (s &&& d).testBit c = false := by rw [h, Nat.zero_testBit]
    rw [Nat.testBit_and, hc, Bool.true_and] at this
    exact this
  · intro h
    refine Nat.eq_of_testBit_eq fun c => ?_
    rw [Nat.zero_testBit, Nat.testBit_and]
    cases hc : s.testBit c with
    | false => rfl
    | true => rw [h c hc]; rfl
theorem s_best7 (S : iS W H pa w h all top left right parts hill) {d k wh1 : Nat} (hd : d < 2 ^ (W * H)) (en : now 2 = nI d) (hk : k ≤ 16) (hw1 : wh1 ≤ 1) : ∃ b, bstI W H pa d k (2 ^ (W * H)) b ∧ ∀ Q : Int32 → Prop, Q (if wh1 = 0 then nI b else nI (wSm pa b 16)) → q_X7_bestDig hill now (nI k) (nI wh1) Q := by
  obtain ⟨hW, hH, hWH, ew, eh, ea, et, el, er, e0, e1, ep⟩ := S
  have h16 := p16 hW hH
  have hcl := cells_le hW hH
  have sm := fun s => wSm_le9 (fun c hc => (ep c hc).1) s 16 (Nat.le_refl 16)
  have wn : ∀ s, s < 2 ^ (W * H) → wSm pa s 16 = wSm pa s (W * H) := fun s hs => by
    have := wSm_big (pa := pa) hs (16 - W * H)
    rw [show W * H + (16 - W * H) = 16 by omega] at this
    exact this
  have L : ∀ m s b, s + m = 2 ^ (W * H) → 0 < s → bstI W H pa d k s b → b < s → ∃ b', bstI W H pa d k (2 ^ (W * H)) b' ∧ ∀ Q : Int32 → Prop, Q (if wh1 = 0 then nI b' else nI (wSm pa b' 16)) → ∃ n, wp_X7_bestDig hill now (nI k) (nI wh1) Q n 32 (nI b) (nI (wSm pa b 16)) (nI s) 0 0 0 := by
    intro m
    induction m with
    | zero =>
      intro s b hs hs0 hI hb
      have : s = 2 ^ (W * H) := by omega
      subst this
      refine ⟨b, hI, fun Q hq => ⟨1, ?_⟩⟩
      show F_X7_bestDig_32 hill now (nI k) (nI wh1) Q (wp_X7_bestDig hill now (nI k) (nI wh1) Q 0) (nI b) (nI (wSm pa b 16)) (nI (2 ^ (W * H))) 0 0 0
      unfold F_X7_bestDig_32
      refine s_cells7 e0 e1 ?_
      rw [sh1 (by omega)]
      refine br_t (Int32.le_refl _) ?_
      rcases (show wh1 = 0 ∨ wh1 = 1 by omega) with rfl | rfl
      · exact p_m rfl hq
      · exact p_n (by decide) hq
    | succ m ih =>
      intro s b hs hs0 hI hb
      obtain ⟨v1, v2, v3⟩ := hI
      have smb := sm b
      have sms := sm s
      have skip : (vld W H d s → pop 16 s ≤ k → wSm pa s 16 < wSm pa b 16 ∨ (wSm pa s 16 = wSm pa b 16 ∧ pop 16 b ≤ pop 16 s)) → ∃ b', bstI W H pa d k (2 ^ (W * H)) b' ∧ ∀ Q : Int32 → Prop, Q (if wh1 = 0 then nI b' else nI (wSm pa b' 16)) → ∃ n, wp_X7_bestDig hill now (nI k) (nI wh1) Q n 32 (nI b) (nI (wSm pa b 16)) (nI (s + 1)) 0 0 0 := by
        intro hno
        refine ih (s + 1) b (by omega) (by omega) ⟨v1, v2, fun s' hs' hv hp => ?_⟩ (by omega)
        by_cases e : s' = s
        · subst e
          have := hno hv hp
          omega
        · exact v3 s' (by omega) hv hp
      by_cases hand : s &&& d = 0
      · have hds := and_0.mp hand
        by_cases hpk : pop 16 s ≤ k
        · -- the sum of the parts, then the choice
          have P : ∀ Q n, (wp_X7_bestDig hill now (nI k) (nI wh1) Q n 70 (nI b) (nI (wSm pa b 16)) (nI s) (nI (wSm pa s (W * H))) (nI (W * H)) 0) → ∃ n, wp_X7_bestDig hill now (nI k) (nI wh1) Q n 32 (nI b) (nI (wSm pa b 16)) (nI s) 0 0 0 := by
            intro Q n0 hn0
            have PL : ∀ m c, c + m = W * H → ∃ n, wp_X7_bestDig hill now (nI k) (nI wh1) Q n 70 (nI b) (nI (wSm pa b 16)) (nI s) (nI (wSm pa s c)) (nI c) 0 := by
              intro m
              induction m with
              | zero =>
                intro c hc
                have : c = W * H := by omega
                subst this
                exact ⟨n0, hn0⟩
              | succ m ih2 =>
                intro c hc
                obtain ⟨n, hn⟩ := ih2 (c + 1) (by omega)
                have u : wSm pa s (c + 1) = wSm pa s c + (if s.testBit c then pa c else 0) := rfl
                rw [u] at hn
                refine ⟨n + 1, ?_⟩
                show F_X7_bestDig_70 hill now (nI k) (nI wh1) Q (wp_X7_bestDig hill now (nI k) (nI wh1) Q n) (nI b) (nI (wSm pa b 16)) (nI s) (nI (wSm pa s c)) (nI c) 0
                unfold F_X7_bestDig_70
                refine s_cells7 e0 e1 (br_f (nI_ge (b := W * H) (by omega) (by omega)) ?_)
                cases hb : s.testBit c with
                | false =>
                  rw [hb] at hn
                  refine p_n (fun q => by rw [(bit1 (by omega) (by omega)).mp q] at hb; cases hb) ?_
                  rintro x rfl y rfl
                  rw [show nI (wSm pa s c) + 0 = nI (wSm pa s c + 0) from nI_add _ 0, nI_1]; exact hn
                | true =>
                  rw [hb] at hn
                  refine p_m ((bit1 (by omega) (by omega)).mpr hb) ?_
                  rw [show (6 : Int32) + nI c = nI (6 + c) from nI_add 6 c, nI_clamp (by omega), (ep c (by omega)).2.2]
                  refine ⟨vp_nI (by omega) (by decide), ?_⟩
                  rintro x rfl y rfl
                  rw [nI_add, nI_1]; exact hn
            obtain ⟨n, hn⟩ := PL (W * H) 0 (by omega)
            refine ⟨n + 1, ?_⟩
            show F_X7_bestDig_32 hill now (nI k) (nI wh1) Q (wp_X7_bestDig hill now (nI k) (nI wh1) Q n) (nI b) (nI (wSm pa b 16)) (nI s) 0 0 0
            unfold F_X7_bestDig_32
            refine s_cells7 e0 e1 ?_
            rw [sh1 (by omega), c2, en, fa_and, hand]
            refine br_f (nI_ge (by omega) (by omega)) (p_m rfl (s_many (by omega) ?_))
            exact br_f (fun q => by rw [nI_ltI (by omega) (by have := pop_le 16 s; omega)] at q; omega) hn
          have ws := wn s (by omega)
          have hpb := pop_le 16 b
          have hps := pop_le 16 s
          by_cases bet : wSm pa b 16 < wSm pa s 16 ∨ (wSm pa s 16 = wSm pa b 16 ∧ pop 16 s < pop 16 b)
          · -- better: asked whether it can be dug
            have P2 : ∀ Q n, (wp_X7_bestDig hill now (nI k) (nI wh1) Q n 146 (nI b) (nI (wSm pa b 16)) (nI s) (nI (wSm pa s 16)) 0 1) → ∃ n, wp_X7_bestDig hill now (nI k) (nI wh1) Q n 32 (nI b) (nI (wSm pa b 16)) (nI s) 0 0 0 := by
              intro Q n hn
              refine P Q (n + 2) ?_
              rw [← ws]
              show F_X7_bestDig_70 hill now (nI k) (nI wh1) Q (wp_X7_bestDig hill now (nI k) (nI wh1) Q (n + 1)) (nI b) (nI (wSm pa b 16)) (nI s) (nI (wSm pa s 16)) (nI (W * H)) 0
              unfold F_X7_bestDig_70
              have h141 : wp_X7_bestDig hill now (nI k) (nI wh1) Q (n + 1) 141 (nI b) (nI (wSm pa b 16)) (nI s) (nI (wSm pa s 16)) 0 0 := hn
              refine s_cells7 e0 e1 (br_t (Int32.le_refl _) ?_)
              rcases bet with g | ⟨g, g2⟩
              · exact br_t (nI_lt g (by omega)) h141
              · refine br_f (fun q => by rw [nI_ltI (by omega) (by omega)] at q; omega) (p_m (by rw [g]) (s_many (by omega) (s_many (by omega) ?_)))
                exact br_f (nI_ge g2 (by omega)) h141
            by_cases ok : okD W H d s
            · obtain ⟨b', hb', hN⟩ := ih (s + 1) s (by omega) (by omega) ⟨⟨by omega, hds, ok⟩, hpk, fun s' hs' hv hp => by
                by_cases e : s' = s
                · subst e; exact .inr ⟨rfl, .inr ⟨rfl, Nat.le_refl _⟩⟩
                · have := v3 s' (by omega) hv hp
                  omega⟩ (by omega)
              refine ⟨b', hb', fun Q hq => ?_⟩
              obtain ⟨n, hn⟩ := hN Q hq
              refine P2 Q (n + 1) ?_
              show F_X7_bestDig_146 hill now (nI k) (nI wh1) Q (wp_X7_bestDig hill now (nI k) (nI wh1) Q n) (nI b) (nI (wSm pa b 16)) (nI s) (nI (wSm pa s 16)) 0 1
              unfold F_X7_bestDig_146
              refine br_f (by decide) (s_isDigging (b := true) hW hH hd (by omega) hs0 hds e0 e1 en ⟨fun _ => ok, fun _ => rfl⟩ ?_)
              refine br_f (by decide) ?_
              rintro x rfl
              rw [nI_1]; exact hn
            · obtain ⟨b', hb', hN⟩ := skip (fun hv => absurd hv.2.2 ok)
              refine ⟨b', hb', fun Q hq => ?_⟩
              obtain ⟨n, hn⟩ := hN Q hq
              refine P2 Q (n + 1) ?_
              show F_X7_bestDig_146 hill now (nI k) (nI wh1) Q (wp_X7_bestDig hill now (nI k) (nI wh1) Q n) (nI b) (nI (wSm pa b 16)) (nI s) (nI (wSm pa s 16)) 0 1
              unfold F_X7_bestDig_146
              refine br_f (by decide) (s_isDigging (b := false) hW hH hd (by omega) hs0 hds e0 e1 en ⟨fun q => (nomatch q), fun q => absurd q ok⟩ ?_)
              refine br_t rfl ?_
              rintro x rfl
              rw [nI_1]; exact hn
          · obtain ⟨b', hb', hN⟩ := skip (fun _ _ => by omega)
            refine ⟨b', hb', fun Q hq => ?_⟩
            obtain ⟨n, hn⟩ := hN Q hq
            refine P Q (n + 3) ?_
            rw [← ws]
            show F_X7_bestDig_70 hill now (nI k) (nI wh1) Q (wp_X7_bestDig hill now (nI k) (nI wh1) Q (n + 2)) (nI b) (nI (wSm pa b 16)) (nI s) (nI (wSm pa s 16)) (nI (W * H)) 0
            unfold F_X7_bestDig_70
            have h145 : wp_X7_bestDig hill now (nI k) (nI wh1) Q (n + 2) 145 (nI b) (nI (wSm pa b 16)) (nI s) (nI (wSm pa s 16)) 0 0 := by
              show F_X7_bestDig_146 hill now (nI k) (nI wh1) Q (wp_X7_bestDig hill now (nI k) (nI wh1) Q n) (nI b) (nI (wSm pa b 16)) (nI s) (nI (wSm pa s 16)) 0 0
              unfold F_X7_bestDig_146
              refine br_t rfl ?_
              rintro x rfl
              rw [nI_1]; exact hn
            refine s_cells7 e0 e1 (br_t (Int32.le_refl _) (br_f (fun q => by rw [nI_ltI (by omega) (by omega)] at q; omega) ?_))
            by_cases g : wSm pa s 16 = wSm pa b 16
            · refine p_m (by rw [g]) (s_many (by omega) (s_many (by omega) (br_t (nI_le (by omega) (by omega)) h145)))
            · exact p_n (fun q => g (nI_inj (by omega) (by omega) q)) h145
        · obtain ⟨b', hb', hN⟩ := skip (fun _ q => absurd q hpk)
          refine ⟨b', hb', fun Q hq => ?_⟩
          obtain ⟨n, hn⟩ := hN Q hq
          refine ⟨n + 1, ?_⟩
          show F_X7_bestDig_32 hill now (nI k) (nI wh1) Q (wp_X7_bestDig hill now (nI k) (nI wh1) Q n) (nI b) (nI (wSm pa b 16)) (nI s) 0 0 0
          unfold F_X7_bestDig_32
          refine s_cells7 e0 e1 ?_
          rw [sh1 (by omega), c2, en, fa_and, hand]
          refine br_f (nI_ge (by omega) (by omega)) (p_m rfl (s_many (by omega) ?_))
          have hps := pop_le 16 s
          refine br_t (nI_lt (by omega) (by omega)) ?_
          rintro x rfl
          rw [nI_1]; exact hn
      · obtain ⟨b', hb', hN⟩ := skip (fun hv => absurd (and_0.mpr hv.2.1) hand)
        refine ⟨b', hb', fun Q hq => ?_⟩
        obtain ⟨n, hn⟩ := hN Q hq
        refine ⟨n + 1, ?_⟩
        show F_X7_bestDig_32 hill now (nI k) (nI wh1) Q (wp_X7_bestDig hill now (nI k) (nI wh1) Q n) (nI b) (nI (wSm pa b 16)) (nI s) 0 0 0
        unfold F_X7_bestDig_32
        refine s_cells7 e0 e1 ?_
        rw [sh1 (by omega), c2, en, fa_and]
        have hle : s &&& d ≤ s := Nat.and_le_left
        refine br_f (nI_ge (by omega) (by omega)) (p_n (nI_ne0 (by omega) (by omega)) ?_)
        rintro x rfl
        rw [nI_1]; exact hn
  have hp0 := Nat.two_pow_pos (W * H)
  obtain ⟨b, hb, hN⟩ := L (2 ^ (W * H) - 1) 1 0 (by omega) (by omega) ⟨vld_0, by rw [pop_0]; omega, fun s hs hv hp => by
    have : s = 0 := by omega
    subst this
    exact .inr ⟨rfl, .inr ⟨rfl, Nat.le_refl _⟩⟩⟩ (by omega)
  refine ⟨b, hb, fun Q hq => ?_⟩
  obtain ⟨n, hn⟩ := hN Q hq
  rw [wSm_0] at hn
  refine ⟨n, ?_⟩
  unfold F_X7_bestDig_e
  refine s_in (b := 0) (c := 16) rfl rfl ?_
  rw [show decide ((0 : Int32) ≤ nI k ∧ nI k ≤ 16) = inR (nI k) 16 from rfl, inR_nI (by decide) hk]
  refine br_f (by decide) (s_in (b := 0) (c := 1) rfl rfl ?_)
  rw [show decide ((0 : Int32) ≤ nI wh1 ∧ nI wh1 ≤ 1) = inR (nI wh1) 1 from rfl, inR_nI (by decide) hw1]
  exact p_n (by decide) hn
theorem pr_bestDig {lf : Int32} {lo hi sums sets : Nat → Int32} (S : iS W H pa w h all top left right parts hill) (R : row0 th (W * H) B dg st yr ye wh rows now) (ca : caB W H pa lf sums sets) : ∃ (r lf' : Int32) (lo' hi' sets' sums' : Nat → Int32), (∀ Q : Int32 → Int32 → (Nat → Int32) → (Nat → Int32) → (Nat → Int32) → (Nat → Int32) → Prop, Q r lf' lo' hi' sets' sums' → q_X6_bestDig rows lf w all top left right lo parts hi sets sums p p1 Q) ∧ (∀ Q : Int32 → Prop, Q r → q_X7_bestDig hill now p p1 Q) ∧ caB W H pa lf' sums' sets' := by
  obtain ⟨r1, r2, r3, r4, r5, r6, r7, r8, r9, r10⟩ := R
  cases hk : inR p 16 with
  | false =>
    refine ⟨-1, lf, lo, hi, sets, sums, fun Q hq => ?_, fun Q hq => ⟨0, ?_⟩, ca⟩
    · unfold q_X6_bestDig F_X6_bestDig_e
      refine s_within ?_
      rw [show decide ((0 : Int32) ≤ p ∧ p ≤ 16) = inR p 16 from rfl, hk]
      exact br_t rfl hq
    · unfold F_X7_bestDig_e
      refine s_in (b := 0) (c := 16) rfl rfl ?_
      rw [show decide ((0 : Int32) ≤ p ∧ p ≤ 16) = inR p 16 from rfl, hk]
      exact br_t rfl hq
  | true =>
    cases hw : inR p1 1 with
    | false =>
      refine ⟨-1, lf, lo, hi, sets, sums, fun Q hq => ?_, fun Q hq => ⟨0, ?_⟩, ca⟩
      · unfold q_X6_bestDig F_X6_bestDig_e
        refine s_within ?_
        rw [show decide ((0 : Int32) ≤ p ∧ p ≤ 16) = inR p 16 from rfl, hk]
        refine br_f (by decide) (s_within ?_)
        rw [show decide ((0 : Int32) ≤ p1 ∧ p1 ≤ 1) = inR p1 1 from rfl, hw]
        exact p_m rfl hq
      · unfold F_X7_bestDig_e
        refine s_in (b := 0) (c := 16) rfl rfl ?_
        rw [show decide ((0 : Int32) ≤ p ∧ p ≤ 16) = inR p 16 from rfl, hk]
        refine br_f (by decide) (s_in (b := 0) (c := 1) rfl rfl ?_)
        rw [show decide ((0 : Int32) ≤ p1 ∧ p1 ≤ 1) = inR p1 1 from rfl, hw]
        exact p_m rfl hq
    | true =>
      have hk2 := hk
      have hw2 := hw
      obtain ⟨k, hk1, rfl⟩ := inR_t (by decide) hk
      obtain ⟨wh1, hw1, rfl⟩ := inR_t (by decide) hw
      obtain ⟨lo', hi', sets', sums', T, hL⟩ := s_lookB (lo := lo) (hi := hi) S r1 ca
      obtain ⟨z, z1, z2, z3, hZ⟩ := s_bestSize (sums := sums') hk1
      obtain ⟨b, hb, es, eu⟩ := bst_of_tab (fun c hc => (S.2.2.2.2.2.2.2.2.2.2.2 c hc).1) hk1 T z1 z2 z3
      obtain ⟨b2, hb2, hN⟩ := s_best7 S r1 r9 hk1 hw1
      have := bstI_one hb hb2
      subst this
      refine ⟨if wh1 = 0 then nI b else nI (wSm pa b 16), nI dg, lo', hi', sets', sums', fun Q hq => ?_, hN, .inr ⟨dg, r1, rfl, T⟩⟩
      unfold q_X6_bestDig F_X6_bestDig_e
      refine s_within ?_
      rw [show decide ((0 : Int32) ≤ nI k ∧ nI k ≤ 16) = inR (nI k) 16 from rfl, hk2]
      refine br_f (by decide) (s_within ?_)
      rw [show decide ((0 : Int32) ≤ nI wh1 ∧ nI wh1 ≤ 1) = inR (nI wh1) 1 from rfl, hw2]
      refine p_n (by decide) ?_
      unfold q_X2_dug F_X2_dug_e
      rw [c0, r4]
      refine hL _ (hZ _ ?_)
      rw [nI_clamp (by omega), es, eu]
      rcases (show wh1 = 0 ∨ wh1 = 1 by omega) with rfl | rfl
      · exact p_m rfl ⟨vp_nI (by omega) (by decide), hq⟩
      · exact p_n (by decide) ⟨vp_nI (by omega) (by decide), hq⟩
end Best

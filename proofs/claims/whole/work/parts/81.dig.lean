/-! ===== what can all be dug ===== -/
def sub (x y : Nat) : Prop := ∀ i, x.testBit i = true → y.testBit i = true
theorem pop_sub : ∀ k x y, x < 2 ^ k → y < 2 ^ k → sub x y → pop k x ≤ pop k y ∧ (x ≠ y → pop k x < pop k y)
  | 0, x, y, hx, hy, h => by
    have : x = y := by simp at hx hy; omega
    subst this
    exact ⟨Nat.le_refl _, fun q => absurd rfl q⟩
  | k + 1, x, y, hx, hy, h => by
    rw [Nat.pow_succ] at hx hy
    have ih := pop_sub k (x / 2) (y / 2) (by omega) (by omega) (fun i hi => by
      have := h (i + 1)
      rw [Nat.testBit_add_one, Nat.testBit_add_one] at this
      exact this hi)
    have h0 : x % 2 = 1 → y % 2 = 1 := fun q => by
      have := h 0
      rw [Nat.testBit_zero, Nat.testBit_zero] at this
      simpa [q] using this
    have ux : pop (k + 1) x = x % 2 + pop k (x / 2) := rfl
    have uy : pop (k + 1) y = y % 2 + pop k (y / 2) := rfl
    rw [ux, uy]
    refine ⟨by omega, fun q => ?_⟩
    by_cases e : x / 2 = y / 2
    · rw [e]; omega
    · have := ih.2 e; omega
theorem nbr_mono {W H x y c : Nat} (h : sub x y) (hx : nbr W H x c = true) : nbr W H y c = true := by
  unfold nbr at hx ⊢
  simp only [Bool.or_eq_true, Bool.and_eq_true] at hx ⊢
  rcases hx with ((⟨a, b⟩ | ⟨a, b⟩) | ⟨a, b⟩) | ⟨a, b⟩
  · exact .inl (.inl (.inl ⟨a, h _ b⟩))
  · exact .inl (.inl (.inr ⟨a, h _ b⟩))
  · exact .inl (.inr ⟨a, h _ b⟩)
  · exact .inr ⟨a, h _ b⟩
theorem nbr_or {W H x y z c : Nat} (h : ∀ i, z.testBit i = true → x.testBit i = true ∨ y.testBit i = true) (hx : nbr W H z c = true) : nbr W H x c = true ∨ nbr W H y c = true := by
  unfold nbr at hx ⊢
  simp only [Bool.or_eq_true, Bool.and_eq_true] at hx ⊢
  rcases hx with ((⟨a, b⟩ | ⟨a, b⟩) | ⟨a, b⟩) | ⟨a, b⟩
  · rcases h _ b with q | q
    · exact .inl (.inl (.inl (.inl ⟨a, q⟩)))
    · exact .inr (.inl (.inl (.inl ⟨a, q⟩)))
  · rcases h _ b with q | q
    · exact .inl (.inl (.inl (.inr ⟨a, q⟩)))
    · exact .inr (.inl (.inl (.inr ⟨a, q⟩)))
  · rcases h _ b with q | q
    · exact .inl (.inl (.inr ⟨a, q⟩))
    · exact .inr (.inl (.inr ⟨a, q⟩))
  · rcases h _ b with q | q
    · exact .inl (.inr ⟨a, q⟩)
    · exact .inr (.inr ⟨a, q⟩)
def clo (W H d s T : Nat) : Prop := ∀ c, c < W * H → s.testBit c = true → (c < W ∨ nbr W H d c = true ∨ nbr W H T c = true) → T.testBit c = true
def okD (W H d s : Nat) : Prop := ∀ T, clo W H d s T → sub s T
theorem may_of {W H d c : Nat} (h1 : d.testBit c = false) (h2 : c < W ∨ nbr W H d c = true) : mayN W H d c = true := by
  unfold mayN
  rw [h1]
  rcases h2 with q | q
  · rw [decide_eq_true q]; rfl
  · rw [q, Bool.or_true]; rfl
theorem of_may {W H d c : Nat} (h : mayN W H d c = true) : d.testBit c = false ∧ (c < W ∨ nbr W H d c = true) := by
  unfold mayN at h
  rw [Bool.and_eq_true, Bool.or_eq_true] at h
  exact ⟨by simpa using h.1, h.2.imp (fun q => of_decide_eq_true q) id⟩
theorem s_canAll {W H d s : Nat} (hW : W ≤ 4) (hH : H ≤ 4) (hd : d < 2 ^ (W * H)) (hs : s < 2 ^ (W * H)) (hds : ∀ c, s.testBit c = true → d.testBit c = false) {w all top left right : Int32} (ew : w = nI W) (ea : all = nI (2 ^ (W * H) - 1)) (et : top = nI (2 ^ W - 1)) (el : left = nI (lfm W H)) (er : right = nI (rgm W H)) {b : Bool} (hb : b = true ↔ okD W H d s) {Q : Int32 → Prop} (hq : Q (bI b)) : q_X4_canAllBeDug w all top left right (nI s) (nI d) Q := by
  have h16 := p16 hW hH
  have hc16 := cells_le hW hH
  have fin : ∀ R, R < 65536 → (R = s ↔ okD W H d s) → ∃ n, wp_X4_canAllBeDug w all top left right (nI s) (nI d) Q n 47 (nI R) 0 := by
    intro R hR he
    refine ⟨1, ?_⟩
    show F_X4_canAllBeDug_47 w all top left right (nI s) (nI d) Q (wp_X4_canAllBeDug w all top left right (nI s) (nI d) Q 0) (nI R) 0
    unfold F_X4_canAllBeDug_47
    by_cases e : R = s
    · refine p_m (by rw [e]) ?_
      have : b = true := hb.mpr (he.mp e)
      rw [this] at hq; exact hq
    · refine p_n (fun q => e (nI_inj (by omega) (by omega) q)) ?_
      have : b = false := by
        rw [← Bool.not_eq_true]
        exact fun q => e (he.mpr (hb.mp q))
      rw [this] at hq; exact hq
  have bits : ∀ R, R < 2 ^ (W * H) → ∀ c, (R ||| (s &&& bsN W H R)).testBit c = (R.testBit c || (s.testBit c && (decide (c < W * H) && nbr W H R c))) := by
    intro R hR c
    rw [Nat.testBit_or, Nat.testBit_and, bsN_bit hW hH hR]
  have hsc : ∀ c, s.testBit c = true → c < W * H := by
    intro c hc
    rcases Nat.lt_or_ge c (W * H) with q | q
    · exact q
    · rw [tb_big hs q] at hc; cases hc
  have L : ∀ m R i, i + m = 16 → R < 2 ^ (W * H) → sub R s → (∀ c, s.testBit c = true → mayN W H d c = true → R.testBit c = true) → (∀ T, clo W H d s T → sub R T) → i ≤ pop 16 R → ∃ n, wp_X4_canAllBeDug w all top left right (nI s) (nI d) Q n 11 (nI R) (nI i) := by
    intro m
    induction m with
    | zero =>
      intro R i hi hR h1 h2 h3 h4
      have : i = 16 := by omega
      subst this
      have hRs : R = s := Classical.byContradiction fun q => by
        have := (pop_sub 16 R s (by omega) (by omega) h1).2 q
        have := pop_le 16 s; omega
      obtain ⟨n, hn⟩ := fin R (by omega) ⟨fun _ T hT => hRs ▸ h3 T hT, fun _ => hRs⟩
      refine ⟨n + 1, ?_⟩
      show F_X4_canAllBeDug_11 w all top left right (nI s) (nI d) Q (wp_X4_canAllBeDug w all top left right (nI s) (nI d) Q n) (nI R) (nI 16)
      unfold F_X4_canAllBeDug_11
      exact br_t (Int32.le_refl _) hn
    | succ m ih =>
      intro R i hi hR h1 h2 h3 h4
      by_cases e : R ||| (s &&& bsN W H R) = R
      · have cl : clo W H d s R := by
          intro c hc hsb hor
          rcases hor with q | q | q
          · exact h2 c hsb (may_of (hds c hsb) (.inl q))
          · exact h2 c hsb (may_of (hds c hsb) (.inr q))
          · have := bits R hR c
            rw [e, hsb, decide_eq_true hc, q] at this
            rw [this]; simp
        obtain ⟨n, hn⟩ := fin R (by omega) ⟨fun q T hT => q ▸ h3 T hT, fun q => Nat.eq_of_testBit_eq fun i => by
          rw [Bool.eq_iff_iff]
          exact ⟨h1 i, q R cl i⟩⟩
        refine ⟨n + 1, ?_⟩
        show F_X4_canAllBeDug_11 w all top left right (nI s) (nI d) Q (wp_X4_canAllBeDug w all top left right (nI s) (nI d) Q n) (nI R) (nI i)
        unfold F_X4_canAllBeDug_11
        refine br_f (nI_ge (b := 16) (by omega) (by decide)) (s_beside hW hH hR ew ea el er ?_)
        rw [fa_and, fa_or, e]
        rintro x rfl
        exact p_m rfl hn
      · have hR2 : R ||| (s &&& bsN W H R) < 2 ^ (W * H) := Nat.or_lt_two_pow hR (Nat.and_lt_two_pow _ bsN_lt)
        have hsub : sub R (R ||| (s &&& bsN W H R)) := fun c hc => by rw [bits R hR, hc]; rfl
        obtain ⟨n, hn⟩ := ih (R ||| (s &&& bsN W H R)) (i + 1) (by omega) hR2 (fun c hc => by
            rw [bits R hR, Bool.or_eq_true, Bool.and_eq_true] at hc
            exact hc.elim (h1 c) (fun q => q.1)) (fun c a b => hsub c (h2 c a b)) (fun T hT c hc => by
            rw [bits R hR, Bool.or_eq_true, Bool.and_eq_true, Bool.and_eq_true] at hc
            rcases hc with q | ⟨q1, q2, q3⟩
            · exact h3 T hT c q
            · exact hT c (of_decide_eq_true q2) q1 (.inr (.inr (nbr_mono (h3 T hT) q3)))) (by
            have := (pop_sub 16 R _ (by omega) (by omega) hsub).2 (fun q => e q.symm)
            omega)
        refine ⟨n + 1, ?_⟩
        show F_X4_canAllBeDug_11 w all top left right (nI s) (nI d) Q (wp_X4_canAllBeDug w all top left right (nI s) (nI d) Q n) (nI R) (nI i)
        unfold F_X4_canAllBeDug_11
        refine br_f (nI_ge (b := 16) (by omega) (by decide)) (s_beside hW hH hR ew ea el er ?_)
        rw [fa_and, fa_or]
        rintro x rfl
        refine p_n (fun q => e (nI_inj (by omega) (by omega) q)) ?_
        rintro y rfl
        rw [nI_1]; exact hn
  obtain ⟨n, hn⟩ := L 16 (s &&& opS W H d) 0 (by omega) (Nat.and_lt_two_pow _ opS_lt) (fun c hc => by
    rw [Nat.testBit_and, Bool.and_eq_true] at hc
    exact hc.1) (fun c a b => by
    rw [Nat.testBit_and, opS_bit hW hH hd, a, b, decide_eq_true (hsc c a)]; rfl) (fun T hT c hc => by
    rw [Nat.testBit_and, opS_bit hW hH hd, Bool.and_eq_true, Bool.and_eq_true] at hc
    obtain ⟨q1, q2, q3⟩ := hc
    exact hT c (of_decide_eq_true q2) q1 ((of_may q3).2.imp id .inl)) (by omega)
  refine ⟨n, ?_⟩
  unfold F_X4_canAllBeDug_e
  refine s_openFrom hW hH hd ew ea et el er ?_
  rw [fa_and]
  rintro x rfl
  exact hn
def dgI (W H d s l D : Nat) : Prop := l < 65536 ∧ sub l s ∧ D < 2 ^ (W * H) ∧ (∀ c, D.testBit c = (d.testBit c || (s.testBit c && !l.testBit c))) ∧ (∀ T, clo W H d s T → ∀ c, s.testBit c = true → l.testBit c = false → T.testBit c = true)
theorem s_isDigging {W H d s : Nat} (hW : W ≤ 4) (hH : H ≤ 4) (hd : d < 2 ^ (W * H)) (hs : s < 2 ^ (W * H)) (hs0 : 0 < s) (hds : ∀ c, s.testBit c = true → d.testBit c = false) {hill now : Nat → Int32} (e0 : hill 0 = nI W) (e1 : hill 1 = nI H) (en : now 2 = nI d) {b : Bool} (hb : b = true ↔ okD W H d s) {Q : Int32 → Prop} (hq : Q (bI b)) : q_X7_isDigging now hill (nI s) Q := by
  have h16 := p16 hW hH
  have hc16 := cells_le hW hH
  have hsc : ∀ c, s.testBit c = true → c < W * H := by
    intro c hc
    rcases Nat.lt_or_ge c (W * H) with q | q
    · exact q
    · rw [tb_big hs q] at hc; cases hc
  have M : ∀ N l D was, l < N → dgI W H d s l D → was < 65536 → was ≠ l → ∃ n, wp_X7_isDigging now hill (nI s) Q n 12 (nI D) (nI l) (nI was) 0 := by
    intro N
    induction N with
    | zero => intro l D was hl; omega
    | succ N ihN =>
      intro l D was hl hI hw hne
      have P : ∀ m c D' l', c + m = W * H → dgI W H d s l' D' → ((l' = l ∧ D' = D ∧ ∀ c', c' < c → l.testBit c' = true → mayN W H D c' = false) ∨ l' < l) → ∃ n, wp_X7_isDigging now hill (nI s) Q n 24 (nI D') (nI l') (nI l) (nI c) := by
        intro m
        induction m with
        | zero =>
          intro c D' l' hc hI' hor
          have hc : c = W * H := by omega
          subst hc
          rcases hor with ⟨ea, eb, hno⟩ | hlt
          · subst ea; subst eb
            obtain ⟨i1, i2, i3, i4, i5⟩ := hI'
            refine ⟨2, ?_⟩
            show F_X7_isDigging_24 now hill (nI s) Q (wp_X7_isDigging now hill (nI s) Q 1) (nI D') (nI l') (nI l') (nI (W * H))
            unfold F_X7_isDigging_24
            refine s_cells7 e0 e1 (br_t (Int32.le_refl _) ?_)
            show F_X7_isDigging_12 now hill (nI s) Q (wp_X7_isDigging now hill (nI s) Q 0) (nI D') (nI l') (nI l') 0
            unfold F_X7_isDigging_12
            refine br_t rfl ?_
            have key : l' = 0 ↔ okD W H d s := by
              constructor
              · intro z T hT c hc
                subst z
                exact i5 T hT c hc (Nat.zero_testBit c)
              · intro ok
                have cl : clo W H d s (dif s l') := by
                  intro c hc hsb hor
                  rw [dif_bit (by omega), hsb]
                  cases hlc : l'.testBit c with
                  | false => rfl
                  | true =>
                    exfalso
                    have hDc : D'.testBit c = false := by rw [i4, hds c hsb, hsb, hlc]; rfl
                    have hmay : mayN W H D' c = true := by
                      refine may_of hDc ?_
                      rcases hor with q | q | q
                      · exact .inl q
                      · exact .inr (nbr_mono (fun i hi => by rw [i4, hi]; rfl) q)
                      · refine .inr (nbr_mono (fun i hi => ?_) q)
                        rw [dif_bit (by omega)] at hi
                        rw [i4, hi, Bool.or_true]
                    rw [hno c hc hlc] at hmay
                    cases hmay
                have hsub := ok _ cl
                refine Nat.eq_of_testBit_eq fun i => ?_
                rw [Nat.zero_testBit]
                cases hli : l'.testBit i with
                | false => rfl
                | true =>
                  have := hsub i (i2 i hli)
                  rw [dif_bit (by omega), hli] at this
                  simp at this
            by_cases z : l' = 0
            · refine p_m (by rw [z]; rfl) ?_
              rw [hb.mpr (key.mp z)] at hq; exact hq
            · refine p_n (nI_ne0 (by omega) (by omega)) ?_
              have : b = false := by
                rw [← Bool.not_eq_true]
                exact fun q => z (key.mpr (hb.mp q))
              rw [this] at hq; exact hq
          · obtain ⟨n, hn⟩ := ihN l' D' l (by omega) hI' (by have := hI.1; omega) (by omega)
            refine ⟨n + 1, ?_⟩
            show F_X7_isDigging_24 now hill (nI s) Q (wp_X7_isDigging now hill (nI s) Q n) (nI D') (nI l') (nI l) (nI (W * H))
            unfold F_X7_isDigging_24
            exact s_cells7 e0 e1 (br_t (Int32.le_refl _) hn)
        | succ m ih =>
          intro c D' l' hc hI' hor
          have hI2 := hI'
          obtain ⟨i1, i2, i3, i4, i5⟩ := hI2
          have skip : (l'.testBit c = true → mayN W H D' c = false) → ∃ n, wp_X7_isDigging now hill (nI s) Q n 24 (nI D') (nI l') (nI l) (nI (c + 1)) := by
            intro hs2
            refine ih (c + 1) D' l' (by omega) hI' ?_
            rcases hor with ⟨ea, eb, hno⟩ | hlt
            · refine .inl ⟨ea, eb, fun c' hc' hl' => ?_⟩
              by_cases ec : c' = c
              · subst ec; rw [← eb]; exact hs2 (by rw [ea]; exact hl')
              · exact hno c' (by omega) hl'
            · exact .inr hlt
          cases hlc : l'.testBit c with
          | false =>
            obtain ⟨n, hn⟩ := skip (fun q => by rw [hlc] at q; cases q)
            refine ⟨n + 1, ?_⟩
            show F_X7_isDigging_24 now hill (nI s) Q (wp_X7_isDigging now hill (nI s) Q n) (nI D') (nI l') (nI l) (nI c)
            unfold F_X7_isDigging_24
            refine s_cells7 e0 e1 (br_f (nI_ge (b := W * H) (by omega) (by omega)) ?_)
            refine p_n (fun q => by rw [(bit1 (by omega) (by omega)).mp q] at hlc; cases hlc) ?_
            rintro x rfl
            rw [nI_1]; exact hn
          | true =>
            cases hm : mayN W H D' c with
            | false =>
              obtain ⟨n, hn⟩ := skip (fun _ => hm)
              refine ⟨n + 1, ?_⟩
              show F_X7_isDigging_24 now hill (nI s) Q (wp_X7_isDigging now hill (nI s) Q n) (nI D') (nI l') (nI l) (nI c)
              unfold F_X7_isDigging_24
              refine s_cells7 e0 e1 (br_f (nI_ge (b := W * H) (by omega) (by omega)) ?_)
              refine p_m ((bit1 (by omega) (by omega)).mpr hlc) (s_may7 hW hH i3 (by omega) e0 e1 ?_)
              rw [hm]
              refine br_t rfl ?_
              rintro x rfl
              rw [nI_1]; exact hn
            | true =>
              have hlt2 : dif l' (2 ^ c) < l' := by
                have h1 : dif l' (2 ^ c) ≤ l' := Nat.and_le_left
                have h2 : dif l' (2 ^ c) ≠ l' := fun q => by
                  have := dif_bit (b := 2 ^ c) i1 c
                  rw [q, hlc, Nat.testBit_two_pow_self] at this
                  cases this
                omega
              have dbit : ∀ i, (dif l' (2 ^ c)).testBit i = (l'.testBit i && !decide (c = i)) := fun i => by rw [dif_bit i1, Nat.testBit_two_pow]
              obtain ⟨n, hn⟩ := ih (c + 1) (D' ||| 2 ^ c) (dif l' (2 ^ c)) (by omega) ⟨by omega, fun i hi => by
                  rw [dbit, Bool.and_eq_true] at hi
                  exact i2 i hi.1, Nat.or_lt_two_pow i3 (Nat.pow_lt_pow_right (by decide) (by omega)), fun i => by
                  rw [fb_bit_set, dbit, i4]
                  by_cases q : i = c
                  · subst q; rw [i2 i hlc]; simp
                  · rw [decide_eq_false q, decide_eq_false (fun z => q z.symm)]; simp, fun T hT i hsi hli => by
                  rw [dbit] at hli
                  by_cases q : i = c
                  · subst q
                    refine hT i (by omega) hsi ?_
                    rcases (of_may hm).2 with z | z
                    · exact .inl z
                    · refine .inr (nbr_or (fun j hj => ?_) z)
                      rw [i4, Bool.or_eq_true, Bool.and_eq_true] at hj
                      rcases hj with y | ⟨y1, y2⟩
                      · exact .inl y
                      · exact .inr (i5 T hT j y1 (by simpa using y2))
                  · rw [decide_eq_false (fun z => q z.symm)] at hli
                    exact i5 T hT i hsi (by simpa using hli)⟩ (.inr (by
                  rcases hor with ⟨ea, -, -⟩ | hlt
                  · omega
                  · omega))
              refine ⟨n + 1, ?_⟩
              show F_X7_isDigging_24 now hill (nI s) Q (wp_X7_isDigging now hill (nI s) Q n) (nI D') (nI l') (nI l) (nI c)
              unfold F_X7_isDigging_24
              refine s_cells7 e0 e1 (br_f (nI_ge (b := W * H) (by omega) (by omega)) ?_)
              refine p_m ((bit1 (by omega) (by omega)).mpr hlc) (s_may7 hW hH i3 (by omega) e0 e1 ?_)
              rw [hm]
              refine br_f (by decide) ?_
              rw [sh1 (by omega), fa_or, dif_I i1]
              rintro x rfl y rfl z rfl
              rw [nI_1]; exact hn
      obtain ⟨n, hn⟩ := P (W * H) 0 D l (by omega) hI (.inl ⟨rfl, rfl, fun c' hc' => by omega⟩)
      refine ⟨n + 1, ?_⟩
      show F_X7_isDigging_12 now hill (nI s) Q (wp_X7_isDigging now hill (nI s) Q n) (nI D) (nI l) (nI was) 0
      unfold F_X7_isDigging_12
      have := hI.1
      exact br_f (fun q => hne (nI_inj (by omega) (by omega) q)) hn
  obtain ⟨n, hn⟩ := M (s + 1) s d 0 (by omega) ⟨by omega, fun _ h => h, hd, fun c => by
      cases d.testBit c <;> cases s.testBit c <;> rfl, fun T hT c h1 h2 => by rw [h1] at h2; cases h2⟩ (by omega) (by omega)
  refine ⟨n, ?_⟩
  unfold F_X7_isDigging_e
  rw [c2, en]
  rintro x rfl
  exact hn

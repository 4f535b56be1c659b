/-! ===== kept ===== -/
def wSm (wo : Nat → Nat) (s : Nat) : Nat → Nat
  | 0 => 0
  | k + 1 => wSm wo s k + (if s.testBit k then wo k else 0)
theorem wSm_le {wo : Nat → Nat} {th : Nat} (hw : ∀ t, t < th → wo t ≤ 99) (s : Nat) : ∀ k, k ≤ th → wSm wo s k ≤ 99 * k
  | 0, _ => by simp [wSm]
  | k + 1, h => by
    have ih := wSm_le hw s k (by omega)
    have := hw k (by omega)
    unfold wSm; split <;> omega
def lfI (nd : Nat → Int32) (sc : Nat → Nat) (st s : Nat) : Nat → Int32
  | 0 => nI st
  | k + 1 => if s.testBit k then lfI nd sc st s k - nd k else lfI nd sc st s k + nI (sc k)
def okS (nd : Nat → Int32) (s : Nat) : Nat → Bool
  | 0 => true
  | k + 1 => okS nd s k && (!s.testBit k || decide (¬ nd k = -9))
def canK (nd : Nat → Int32) (sc : Nat → Nat) (st th s : Nat) : Bool := okS nd s th && decide (¬ lfI nd sc st s th < 0)
def bkp (nd : Nat → Int32) (sc wo : Nat → Nat) (st th : Nat) : Nat → Nat × Nat
  | 0 => (0, 0)
  | s + 1 => if wSm wo s th ≤ (bkp nd sc wo st th s).2 then bkp nd sc wo st th s else if canK nd sc st th s then (s, wSm wo s th) else bkp nd sc wo st th s
theorem wSm_0 (wo : Nat → Nat) : ∀ k, wSm wo 0 k = 0
  | 0 => rfl
  | k + 1 => by unfold wSm; rw [wSm_0 wo k, Nat.zero_testBit]; rfl
theorem bkp_ok {nd : Nat → Int32} {sc wo : Nat → Nat} {st th : Nat} : ∀ s, (bkp nd sc wo st th s).1 ≤ s ∧ (bkp nd sc wo st th s).2 = wSm wo (bkp nd sc wo st th s).1 th
  | 0 => ⟨Nat.le_refl _, (wSm_0 wo th).symm⟩
  | s + 1 => by
    have ih := bkp_ok (nd := nd) (sc := sc) (wo := wo) (st := st) (th := th) s
    unfold bkp
    split
    · exact ⟨by omega, ih.2⟩
    · split
      · exact ⟨by simp, rfl⟩
      · exact ⟨by omega, ih.2⟩
section XY
variable {th bo lo st : Nat} {fa ye wh wo : Nat → Nat} {bound things loss : Int32} {fades rows hill now worth : Nat → Int32} {Q : Int32 → Prop}
theorem s_worthOf (h6 : th ≤ 6) (eth : things = nI th) (hw : ∀ t, t < th → wo t ≤ 99 ∧ worth t = nI (wo t)) {s : Nat} (hs : s < 64) (h : Q (nI (wSm wo s th))) : q_X6_worthOf things worth (nI s) Q := by
  have L : ∀ d k : Nat, k + d = th → ∃ n, wp_X6_worthOf things worth (nI s) Q n 4 (nI (wSm wo s k)) (nI k) := by
    intro d
    induction d with
    | zero =>
      intro k hk
      have hk : k = th := by omega
      subst hk
      refine ⟨1, ?_⟩
      show F_X6_worthOf_4 things worth (nI s) Q (wp_X6_worthOf things worth (nI s) Q 0) (nI (wSm wo s k)) (nI k)
      unfold F_X6_worthOf_4
      rw [eth]
      exact br_t (Int32.le_refl _) h
    | succ d ih =>
      intro k hk
      obtain ⟨n, hn⟩ := ih (k + 1) (by omega)
      refine ⟨n + 1, ?_⟩
      show F_X6_worthOf_4 things worth (nI s) Q (wp_X6_worthOf things worth (nI s) Q n) (nI (wSm wo s k)) (nI k)
      unfold F_X6_worthOf_4
      refine br_f (by rw [eth]; exact nI_ge (by omega) (by omega)) ?_
      have e : wSm wo s (k + 1) = wSm wo s k + (if s.testBit k then wo k else 0) := rfl
      rw [e] at hn
      cases hb : s.testBit k with
      | false =>
        rw [hb] at hn
        refine br_t ((bit0 (by omega) (by omega)).mpr hb) ?_
        rintro x rfl
        rw [nI_1]; exact hn
      | true =>
        rw [hb] at hn
        refine br_f (fun q => by rw [(bit0 (by omega) (by omega)).mp q] at hb; cases hb) ⟨vp_nI (by omega) (by decide), ?_⟩
        rintro x rfl y rfl
        rw [nI_clamp (by omega), (hw k (by omega)).2, nI_add, nI_1]; exact hn
  obtain ⟨n, hn⟩ := L th 0 (by omega)
  exact ⟨n, hn⟩
theorem s_leftOver (X : cX th bo fa ye wh bound things fades rows) (hst : rows 1 = nI st) (hl : loss = nI lo) (hlo : lo ≤ 10) {s n : Nat} (hs : s < 64) (hn : n ≤ 99) (h : Q (lfI (fun t => nee bo (ye t) (wh t) (fa t) n) (fun t => scr (ye t) lo) st s th)) : q_X6_leftOver rows bound loss things fades (nI s) (nI n) Q := by
  have h6 := X.1
  have eth := X.2.2.2.2.1
  generalize hnd : (fun t => nee bo (ye t) (wh t) (fa t) n) = nd at h
  generalize hsc : (fun t => scr (ye t) lo) = sc at h
  have hnd2 : ∀ t, nee bo (ye t) (wh t) (fa t) n = nd t := fun t => by rw [← hnd]
  have hsc2 : ∀ t, scr (ye t) lo = sc t := fun t => by rw [← hsc]
  have L : ∀ d k : Nat, k + d = th → ∃ i, wp_X6_leftOver rows bound loss things fades (nI s) (nI n) Q i 11 (lfI nd sc st s k) (nI k) := by
    intro d
    induction d with
    | zero =>
      intro k hk
      have hk : k = th := by omega
      subst hk
      refine ⟨1, ?_⟩
      show F_X6_leftOver_11 rows bound loss things fades (nI s) (nI n) Q (wp_X6_leftOver rows bound loss things fades (nI s) (nI n) Q 0) (lfI nd sc st s k) (nI k)
      unfold F_X6_leftOver_11
      exact br_t (by rw [eth]; exact Int32.le_refl _) h
    | succ d ih =>
      intro k hk
      obtain ⟨i, hi⟩ := ih (k + 1) (by omega)
      refine ⟨i + 1, ?_⟩
      show F_X6_leftOver_11 rows bound loss things fades (nI s) (nI n) Q (wp_X6_leftOver rows bound loss things fades (nI s) (nI n) Q i) (lfI nd sc st s k) (nI k)
      unfold F_X6_leftOver_11
      refine br_f (by rw [eth]; exact nI_ge (by omega) (by omega)) ?_
      have e : lfI nd sc st s (k + 1) = if s.testBit k then lfI nd sc st s k - nd k else lfI nd sc st s k + nI (sc k) := rfl
      rw [e] at hi
      cases hb : s.testBit k with
      | false =>
        rw [hb, if_neg (by decide)] at hi
        refine p_m ((bit0 (by omega) (by omega)).mpr hb) (s_scrapedFrom X hl hlo (by omega) ?_)
        rw [hsc2]
        rintro x rfl y rfl
        rw [nI_1]; exact hi
      | true =>
        rw [hb, if_pos rfl] at hi
        refine p_n (fun q => by rw [(bit0 (by omega) (by omega)).mp q] at hb; cases hb) (s_paintFor X (by omega) hn ?_)
        rw [hnd2]
        rintro x rfl y rfl
        rw [nI_1]; exact hi
  obtain ⟨i, hi⟩ := L th 0 (by omega)
  refine ⟨i, ?_⟩
  unfold F_X6_leftOver_e q_X2_store F_X2_store_e
  rw [c1, hst]
  exact hi
theorem okS_false {nd : Nat → Int32} {s k : Nat} (h : okS nd s k = false) : ∀ j, k ≤ j → okS nd s j = false := by
  intro j hj
  induction j with
  | zero => have : k = 0 := by omega
            subst this; exact h
  | succ j ih =>
    rcases Nat.eq_or_lt_of_le hj with q | q
    · rw [← q]; exact h
    · unfold okS; rw [ih (by omega)]; rfl
theorem s_canBeKept (X : cX th bo fa ye wh bound things fades rows) (hst : rows 1 = nI st) (hl : loss = nI lo) (hlo : lo ≤ 10) {s n : Nat} (hs : s < 64) (hn : n ≤ 99) (h : Q (bI (canK (fun t => nee bo (ye t) (wh t) (fa t) n) (fun t => scr (ye t) lo) st th s))) : q_X6_canBeKept bound loss things rows fades (nI s) (nI n) Q := by
  have h6 := X.1
  have eth := X.2.2.2.2.1
  have L : ∀ d k : Nat, k + d = th → okS (fun t => nee bo (ye t) (wh t) (fa t) n) s k = true → ∃ i, wp_X6_canBeKept bound loss things rows fades (nI s) (nI n) Q i 2 (nI k) := by
    intro d
    induction d with
    | zero =>
      intro k hk hok
      have hk : k = th := by omega
      subst hk
      refine ⟨1, ?_⟩
      show F_X6_canBeKept_2 bound loss things rows fades (nI s) (nI n) Q (wp_X6_canBeKept bound loss things rows fades (nI s) (nI n) Q 0) (nI k)
      unfold F_X6_canBeKept_2
      refine br_t (by rw [eth]; exact Int32.le_refl _) (s_leftOver X hst hl hlo hs hn ?_)
      unfold canK at h
      rw [hok, Bool.true_and] at h
      refine ⟨fun q => ?_, fun q => ?_⟩
      · rw [decide_eq_false (fun z => z q)] at h; exact h
      · rw [decide_eq_true q] at h; exact h
    | succ d ih =>
      intro k hk hok
      have e : okS (fun t => nee bo (ye t) (wh t) (fa t) n) s (k + 1) = (okS (fun t => nee bo (ye t) (wh t) (fa t) n) s k && (!s.testBit k || decide (¬ nee bo (ye k) (wh k) (fa k) n = -9))) := rfl
      rw [hok, Bool.true_and] at e
      by_cases hbad : s.testBit k = true ∧ nee bo (ye k) (wh k) (fa k) n = -9
      · refine ⟨1, ?_⟩
        show F_X6_canBeKept_2 bound loss things rows fades (nI s) (nI n) Q (wp_X6_canBeKept bound loss things rows fades (nI s) (nI n) Q 0) (nI k)
        unfold F_X6_canBeKept_2
        refine br_f (by rw [eth]; exact nI_ge (by omega) (by omega)) (br_f (fun q => by rw [(bit0 (by omega) (by omega)).mp q] at hbad; cases hbad.1) (s_paintFor X (by omega) hn (p_m hbad.2 ?_)))
        rw [hbad.1, decide_eq_false (fun z => z hbad.2)] at e
        have := okS_false e th (by omega)
        unfold canK at h
        rw [this] at h
        exact h
      · have e1 : okS (fun t => nee bo (ye t) (wh t) (fa t) n) s (k + 1) = true := by
          rw [e]
          cases hb : s.testBit k with
          | false => rfl
          | true => rw [decide_eq_true (show ¬ nee bo (ye k) (wh k) (fa k) n = -9 from fun z => hbad ⟨hb, z⟩)]; rfl
        obtain ⟨i, hi⟩ := ih (k + 1) (by omega) e1
        refine ⟨i + 1, ?_⟩
        show F_X6_canBeKept_2 bound loss things rows fades (nI s) (nI n) Q (wp_X6_canBeKept bound loss things rows fades (nI s) (nI n) Q i) (nI k)
        unfold F_X6_canBeKept_2
        refine br_f (by rw [eth]; exact nI_ge (by omega) (by omega)) ?_
        cases hb : s.testBit k with
        | false =>
          refine br_t ((bit0 (by omega) (by omega)).mpr hb) ?_
          rintro x rfl
          rw [nI_1]; exact hi
        | true =>
          refine br_f (fun q => by rw [(bit0 (by omega) (by omega)).mp q] at hb; cases hb) (s_paintFor X (by omega) hn (p_n (fun z => hbad ⟨hb, z⟩) ?_))
          rintro x rfl
          rw [nI_1]; exact hi
  obtain ⟨i, hi⟩ := L th 0 (by omega) rfl
  exact ⟨i, hi⟩
theorem p64 {th : Nat} (h : th ≤ 6) : 2 ^ th ≤ 64 := Nat.pow_le_pow_right (n := 2) (by decide) h
theorem s_bestKept (X : cX th bo fa ye wh bound things fades rows) (hst : rows 1 = nI st) (hl : loss = nI lo) (hlo : lo ≤ 10) (hw : ∀ t, t < th → wo t ≤ 99 ∧ worth t = nI (wo t)) {n : Nat} (hn : n ≤ 99) (h : Q (nI (bkp (fun t => nee bo (ye t) (wh t) (fa t) n) (fun t => scr (ye t) lo) wo st th (2 ^ th)).1)) : q_X6_bestKept bound loss things worth rows fades (nI n) Q := by
  have h6 := X.1
  have eth := X.2.2.2.2.1
  have h64 := p64 h6
  have hpos : 0 < 2 ^ th := Nat.pow_pos (by decide)
  generalize hB : bkp (fun t => nee bo (ye t) (wh t) (fa t) n) (fun t => scr (ye t) lo) wo st th = bk at h
  have bs : ∀ s, bk (s + 1) = if wSm wo s th ≤ (bk s).2 then bk s else if canK (fun t => nee bo (ye t) (wh t) (fa t) n) (fun t => scr (ye t) lo) st th s then (s, wSm wo s th) else bk s := fun s => by rw [← hB]; rfl
  have b2 : ∀ s, (bk s).2 ≤ 594 := fun s => by
    rw [← hB, (bkp_ok s).2]
    have := wSm_le (wo := wo) (fun t ht => (hw t ht).1) (bkp (fun t => nee bo (ye t) (wh t) (fa t) n) (fun t => scr (ye t) lo) wo st th s).1 th (Nat.le_refl _)
    omega
  have L : ∀ d s : Nat, s + d = 2 ^ th → ∃ i, wp_X6_bestKept bound loss things worth rows fades (nI n) Q i 18 (nI (bk s).1) (nI (bk s).2) (nI (2 ^ th)) (nI s) := by
    intro d
    induction d with
    | zero =>
      intro s hs
      have hs : s = 2 ^ th := by omega
      subst hs
      refine ⟨1, ?_⟩
      show F_X6_bestKept_18 bound loss things worth rows fades (nI n) Q (wp_X6_bestKept bound loss things worth rows fades (nI n) Q 0) (nI (bk (2 ^ th)).1) (nI (bk (2 ^ th)).2) (nI (2 ^ th)) (nI (2 ^ th))
      unfold F_X6_bestKept_18
      exact br_t (Int32.le_refl _) h
    | succ d ih =>
      intro s hs
      obtain ⟨i, hi⟩ := ih (s + 1) (by omega)
      have hwl := wSm_le (wo := wo) (fun t ht => (hw t ht).1) s th (Nat.le_refl _)
      have hb2 := b2 s
      refine ⟨i + 1, ?_⟩
      show F_X6_bestKept_18 bound loss things worth rows fades (nI n) Q (wp_X6_bestKept bound loss things worth rows fades (nI n) Q i) (nI (bk s).1) (nI (bk s).2) (nI (2 ^ th)) (nI s)
      unfold F_X6_bestKept_18
      have e := bs s
      refine br_f (nI_ge (by omega) (by omega)) (s_worthOf h6 eth hw (by omega) ⟨fun q => ?_, fun q => s_canBeKept X hst hl hlo (by omega) hn (p_z (fun hc => ?_) (fun hc => s_worthOf h6 eth hw (by omega) ?_))⟩)
      · rw [if_pos ((nI_leI (by omega) (by omega)).mp q)] at e
        rw [e] at hi
        rintro x rfl
        rw [nI_1]; exact hi
      · rw [if_neg (fun z => q (nI_le z (by omega))), hc, if_neg (by decide)] at e
        rw [e] at hi
        rintro x rfl
        rw [nI_1]; exact hi
      · rw [if_neg (fun z => q (nI_le z (by omega))), hc, if_pos rfl] at e
        rw [e] at hi
        rintro x rfl
        rw [nI_1]; exact hi
  have e1 : bk 1 = (0, 0) := by
    have := bs 0
    rw [wSm_0, if_pos (Nat.zero_le _)] at this
    rw [this, ← hB]; rfl
  obtain ⟨i, hi⟩ := L (2 ^ th - 1) 1 (by omega)
  rw [e1] at hi
  refine ⟨i, ?_⟩
  unfold F_X6_bestKept_e
  rintro x rfl
  rw [eth, sh1 (by omega)]
  rw [eth] at hi
  exact hi
end XY

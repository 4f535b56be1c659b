/-! ===== sets as bits ===== -/
theorem bt_nI (n : Nat) {i : Nat} (hi : i < 32) : bt (nI n) i = n.testBit i := by
  unfold bt nI
  rw [show (Int32.ofNat n).toBitVec = BitVec.ofNat 32 n from rfl, BitVec.getLsbD_ofNat]
  simp [hi]
theorem sh1 {t : Nat} (ht : t < 31) : (1 : Int32) <<< (nI t &&& 31) = nI (2 ^ t) := by
  have := pk_shlN (n := 1) (nI t &&& 31) t (s_l t (by omega)) (by rw [Nat.one_mul]; exact Nat.pow_lt_pow_right (by decide) (by omega))
  rw [Nat.one_mul] at this
  exact this
theorem bitN {s t : Nat} (hs : s < 2 ^ 31) (ht : t < 32) : ((nI s >>> (nI t &&& 31)) &&& 1) = nI (s / 2 ^ t % 2) := by
  rw [pk_shrN hs _ t (s_l t ht)]
  have := pk_andN (n := s / 2 ^ t) (Nat.lt_of_le_of_lt (Nat.div_le_self _ _) (by omega)) (m := 1) 1 rfl
  rw [this]
theorem bit0 {s t : Nat} (hs : s < 2 ^ 31) (ht : t < 32) : ((nI s >>> (nI t &&& 31)) &&& 1) = 0 ↔ s.testBit t = false := by
  rw [bitN hs ht, Nat.testBit_eq_decide_div_mod_eq]
  constructor
  · intro h
    have h1 := nI_inj (a := s / 2 ^ t % 2) (b := 0) (by omega) (by decide) h
    simp [h1]
  · intro h
    have h1 : s / 2 ^ t % 2 = 0 := by
      have := of_decide_eq_false h; omega
    rw [h1]; rfl
theorem bit1 {s t : Nat} (hs : s < 2 ^ 31) (ht : t < 32) : ((nI s >>> (nI t &&& 31)) &&& 1) = 1 ↔ s.testBit t = true := by
  rw [bitN hs ht, Nat.testBit_eq_decide_div_mod_eq]
  constructor
  · intro h
    have h1 := nI_inj (a := s / 2 ^ t % 2) (b := 1) (by omega) (by decide) h
    simp [h1]
  · intro h
    have h1 : s / 2 ^ t % 2 = 1 := of_decide_eq_true h
    rw [h1]; rfl
def msk (p : Nat → Bool) : Nat → Nat
  | 0 => 0
  | k + 1 => msk p k + (if p k then 2 ^ k else 0)
theorem msk_lt (p : Nat → Bool) : ∀ k, msk p k < 2 ^ k
  | 0 => by simp [msk]
  | k + 1 => by
    have ih := msk_lt p k
    unfold msk
    rw [Nat.pow_succ]
    split <;> omega
theorem msk_bit (p : Nat → Bool) : ∀ k t, (msk p k).testBit t = (decide (t < k) && p t)
  | 0, t => by simp [msk]
  | k + 1, t => by
    have ih := msk_bit p k t
    have hl := msk_lt p k
    unfold msk
    cases hp : p k with
    | false =>
      simp only [Bool.false_eq_true, if_false, Nat.add_zero, ih]
      by_cases h : t = k
      · subst h; simp [hp]
      · have : (t < k) ↔ (t < k + 1) := by omega
        simp [this]
    | true =>
      simp only [if_true]
      have e : msk p k + 2 ^ k = msk p k ||| 2 ^ k := by
        have := Nat.two_pow_add_eq_or_of_lt hl 1
        rw [Nat.mul_one] at this
        rw [Nat.or_comm, ← this, Nat.add_comm]
      rw [e, fb_bit_set, ih]
      by_cases h : t = k
      · subst h; simp [hp]
      · have : (t < k) ↔ (t < k + 1) := by omega
        simp [this, h]
theorem msk_or {p : Nat → Bool} {k : Nat} : nI (msk p k) ||| nI (2 ^ k) = nI (msk p k + 2 ^ k) := by
  have h := fa_or_sum (k := k) 1 (msk_lt p k)
  rw [Nat.mul_one] at h
  rw [fa_or, Nat.or_comm, ← fa_or, h, Nat.add_comm]
/-! counting bits -/
def pop : Nat → Nat → Nat
  | 0, _ => 0
  | k + 1, x => x % 2 + pop k (x / 2)
def bcN (x : Nat) : Nat :=
  let a := x - (x / 2 &&& 1431655765)
  let b := (a &&& 858993459) + (a / 4 &&& 858993459)
  let c := (b + b / 16) &&& 252645135
  let d := c + c / 256
  let e := d + d / 65536
  e &&& 63
theorem bc64 : ∀ a : Fin 64, bcN a.val = pop 16 a.val := by decide +kernel
theorem pop_0 : ∀ k, pop k 0 = 0
  | 0 => rfl
  | k + 1 => by unfold pop; rw [show 0 / 2 = 0 from rfl, pop_0 k]
theorem pop_dn : ∀ k x, 0 < x → x < 2 ^ k → pop k (x &&& (x - 1)) + 1 = pop k x
  | 0, x, h, h2 => by simp at h2; omega
  | k + 1, x, h, h2 => by
    rw [Nat.pow_succ] at h2
    have e1 : (x &&& (x - 1)) / 2 = x / 2 &&& (x - 1) / 2 := Nat.and_div_two
    have e2 : (x &&& (x - 1)) % 2 = 0 := by
      have := @Nat.and_mod_two_eq_one x (x - 1)
      rcases Nat.mod_two_eq_zero_or_one (x &&& (x - 1)) with q | q
      · exact q
      · have := this.mp q; omega
    unfold pop
    rw [e1, e2]
    rcases Nat.mod_two_eq_zero_or_one x with q | q
    · have e3 : (x - 1) / 2 = x / 2 - 1 := by omega
      have := pop_dn k (x / 2) (by omega) (by omega)
      rw [e3, q]; omega
    · have e3 : (x - 1) / 2 = x / 2 := by omega
      rw [e3, Nat.and_self, q]; omega
theorem pop_le : ∀ k x, pop k x ≤ k
  | 0, _ => Nat.le_refl _
  | k + 1, x => by
    have := pop_le k (x / 2)
    unfold pop; omega
theorem s_many {x : Nat} (hx : x < 65536) {Q : Int32 → Prop} (h : Q (nI (pop 16 x))) : q_X7_many (nI x) Q := by
  have L : ∀ m z n : Nat, z < 65536 → pop 16 z = m → n + m = pop 16 x → ∃ i, wp_X7_many (nI x) Q i 4 (nI n) (nI z) := by
    intro m
    induction m with
    | zero =>
      intro z n hz hp hn
      have z0 : z = 0 := by
        rcases Nat.eq_zero_or_pos z with q | q
        · exact q
        · have := pop_dn 16 z q hz; omega
      subst z0
      refine ⟨1, ?_⟩
      show F_X7_many_4 (nI x) Q (wp_X7_many (nI x) Q 0) (nI n) (nI 0)
      unfold F_X7_many_4
      rw [show n = pop 16 x by omega]
      exact br_t rfl h
    | succ m ih =>
      intro z n hz hp hn
      have hz0 : 0 < z := by
        rcases Nat.eq_zero_or_pos z with q | q
        · subst q; rw [pop_0] at hp; omega
        · exact q
      have hd := pop_dn 16 z hz0 hz
      have hle : z &&& (z - 1) ≤ z := Nat.and_le_left
      obtain ⟨i, hi⟩ := ih (z &&& (z - 1)) (n + 1) (by omega) (by omega) (by omega)
      refine ⟨i + 1, ?_⟩
      show F_X7_many_4 (nI x) Q (wp_X7_many (nI x) Q i) (nI n) (nI z)
      unfold F_X7_many_4
      refine br_f (nI_ne0 hz0 (by omega)) ?_
      rintro u rfl v rfl
      rw [show nI z - 1 = nI (z - 1) from pk_sub (b := 1) hz0, fa_and, nI_1]
      exact hi
  obtain ⟨i, hi⟩ := L (pop 16 x) x 0 hx rfl (by omega)
  exact ⟨i, hi⟩
theorem ushrN {x : Nat} (hx : x < 2 ^ 32) (k : Nat) (hk : k < 32) : ((nI x).toUInt32 >>> ((nI k).toUInt32 &&& Int32.toUInt32 31)).toInt32 = nI (x / 2 ^ k) := pk_ushrN hx (nI k) k (s_u k hk)
theorem s_bitCount {x : Nat} (hx : x < 65536) {Q : Int32 → Prop} (h : Q (nI (bcN x))) : q_J6_bitCount_0f7a4 (nI x) Q := by
  unfold q_J6_bitCount_0f7a4 F_J6_bitCount_0f7a4_e
  rintro a rfl
  have h1 : x / 2 &&& 1431655765 ≤ x / 2 := Nat.and_le_left
  have ea : nI x - (((nI x).toUInt32 >>> ((1 : Int32).toUInt32 &&& Int32.toUInt32 31)).toInt32 &&& 1431655765) = nI (x - (x / 2 &&& 1431655765)) := by
    rw [show ((nI x).toUInt32 >>> ((1 : Int32).toUInt32 &&& Int32.toUInt32 31)).toInt32 = nI (x / 2) from ushrN (by omega) 1 (by decide), show (1431655765 : Int32) = nI 1431655765 from rfl, fa_and, pk_sub (by omega)]
  rw [ea]
  unfold bcN at h
  dsimp only at h
  generalize ha : x - (x / 2 &&& 1431655765) = a at h ⊢
  have ha2 : a < 65536 := by omega
  rintro b rfl
  have eb : (nI a &&& 858993459) + (((nI a).toUInt32 >>> ((2 : Int32).toUInt32 &&& Int32.toUInt32 31)).toInt32 &&& 858993459) = nI ((a &&& 858993459) + (a / 4 &&& 858993459)) := by
    rw [show ((nI a).toUInt32 >>> ((2 : Int32).toUInt32 &&& Int32.toUInt32 31)).toInt32 = nI (a / 4) from ushrN (by omega) 2 (by decide), show (858993459 : Int32) = nI 858993459 from rfl, fa_and, fa_and, nI_add]
  rw [eb]
  have hb1 : a &&& 858993459 ≤ a := Nat.and_le_left
  have hb2 : a / 4 &&& 858993459 ≤ a / 4 := Nat.and_le_left
  generalize hb : (a &&& 858993459) + (a / 4 &&& 858993459) = b at h ⊢
  rintro c rfl
  have ec : (nI b + ((nI b).toUInt32 >>> ((4 : Int32).toUInt32 &&& Int32.toUInt32 31)).toInt32) &&& 252645135 = nI ((b + b / 16) &&& 252645135) := by
    rw [show ((nI b).toUInt32 >>> ((4 : Int32).toUInt32 &&& Int32.toUInt32 31)).toInt32 = nI (b / 16) from ushrN (by omega) 4 (by decide), show (252645135 : Int32) = nI 252645135 from rfl, nI_add, fa_and]
  rw [ec]
  have hc1 : (b + b / 16) &&& 252645135 ≤ b + b / 16 := Nat.and_le_left
  generalize hc : (b + b / 16) &&& 252645135 = c at h ⊢
  rintro d rfl
  have ed : nI c + ((nI c).toUInt32 >>> ((8 : Int32).toUInt32 &&& Int32.toUInt32 31)).toInt32 = nI (c + c / 256) := by
    rw [show ((nI c).toUInt32 >>> ((8 : Int32).toUInt32 &&& Int32.toUInt32 31)).toInt32 = nI (c / 256) from ushrN (by omega) 8 (by decide), nI_add]
  rw [ed]
  generalize hd : c + c / 256 = d at h ⊢
  rintro f rfl
  have ef : nI d + ((nI d).toUInt32 >>> ((16 : Int32).toUInt32 &&& Int32.toUInt32 31)).toInt32 = nI (d + d / 65536) := by
    rw [show ((nI d).toUInt32 >>> ((16 : Int32).toUInt32 &&& Int32.toUInt32 31)).toInt32 = nI (d / 65536) from ushrN (by omega) 16 (by decide), nI_add]
  rw [ef, show (63 : Int32) = nI 63 from rfl, fa_and]
  exact h
section XY
variable {th bo : Nat} {fa ye wh wo : Nat → Nat} {bound things : Int32} {fades rows hill now worth : Nat → Int32} {t : Nat} {Q : Int32 → Prop}
theorem s_calledSet (X : cX th bo fa ye wh bound things fades rows) (h : Q (nI (msk (fun t => cal bo (ye t) (wh t)) th))) : q_X6_calledSet bound things rows fades Q := by
  have h6 := X.1
  have eth := X.2.2.2.2.1
  have L : ∀ d k : Nat, k + d = th → ∃ n, wp_X6_calledSet bound things rows fades Q n 4 (nI (msk (fun t => cal bo (ye t) (wh t)) k)) (nI k) := by
    intro d
    induction d with
    | zero =>
      intro k hk
      have hk : k = th := by omega
      subst hk
      refine ⟨1, ?_⟩
      show F_X6_calledSet_4 bound things rows fades Q (wp_X6_calledSet bound things rows fades Q 0) (nI (msk (fun t => cal bo (ye t) (wh t)) k)) (nI k)
      unfold F_X6_calledSet_4
      rw [eth]
      exact br_t (Int32.le_refl _) h
    | succ d ih =>
      intro k hk
      obtain ⟨n, hn⟩ := ih (k + 1) (by omega)
      refine ⟨n + 1, ?_⟩
      show F_X6_calledSet_4 bound things rows fades Q (wp_X6_calledSet bound things rows fades Q n) (nI (msk (fun t => cal bo (ye t) (wh t)) k)) (nI k)
      unfold F_X6_calledSet_4
      refine br_f (by rw [eth]; exact nI_ge (by omega) (by omega)) (s_called0 X (by omega) ?_)
      have e : msk (fun t => cal bo (ye t) (wh t)) (k + 1) = msk (fun t => cal bo (ye t) (wh t)) k + (if cal bo (ye k) (wh k) then 2 ^ k else 0) := rfl
      rw [e] at hn
      refine p_z (fun hc => ?_) (fun hc => ?_)
      · rw [hc] at hn
        rintro x rfl
        rw [nI_1]; exact hn
      · rw [hc] at hn
        rintro x rfl y rfl
        rw [sh1 (by omega), msk_or, nI_1]; exact hn
  obtain ⟨n, hn⟩ := L th 0 (by omega)
  exact ⟨n, hn⟩
theorem s_called7 (Y : cY th bo fa ye wh hill now) (h : Q (nI (msk (fun t => cal bo (ye t) (wh t)) th))) : q_X7_called hill now Q := by
  have h6 := Y.1
  have eth := Y.2.2.2.1
  have L : ∀ d k : Nat, k + d = th → ∃ n, wp_X7_called hill now Q n 4 (nI (msk (fun t => cal bo (ye t) (wh t)) k)) (nI k) := by
    intro d
    induction d with
    | zero =>
      intro k hk
      have hk : k = th := by omega
      subst hk
      refine ⟨1, ?_⟩
      show F_X7_called_4 hill now Q (wp_X7_called hill now Q 0) (nI (msk (fun t => cal bo (ye t) (wh t)) k)) (nI k)
      unfold F_X7_called_4
      rw [c2, eth]
      exact br_t (Int32.le_refl _) h
    | succ d ih =>
      intro k hk
      obtain ⟨n, hn⟩ := ih (k + 1) (by omega)
      refine ⟨n + 1, ?_⟩
      show F_X7_called_4 hill now Q (wp_X7_called hill now Q n) (nI (msk (fun t => cal bo (ye t) (wh t)) k)) (nI k)
      unfold F_X7_called_4
      rw [c2, eth]
      refine br_f (nI_ge (by omega) (by omega)) (s_then0 Y (by omega) ?_)
      have e : msk (fun t => cal bo (ye t) (wh t)) (k + 1) = msk (fun t => cal bo (ye t) (wh t)) k + (if cal bo (ye k) (wh k) then 2 ^ k else 0) := rfl
      rw [e] at hn
      refine p_z (fun hc => ?_) (fun hc => ?_)
      · rw [hc] at hn
        rintro x rfl y rfl
        rw [show nI (msk (fun t => cal bo (ye t) (wh t)) k) ||| 0 = nI (msk (fun t => cal bo (ye t) (wh t)) k) by rw [show (0 : Int32) = nI 0 from rfl, fa_or, Nat.or_zero], nI_1]; exact hn
      · rw [hc] at hn
        rintro x rfl y rfl
        rw [sh1 (by omega), msk_or, nI_1]; exact hn
  obtain ⟨n, hn⟩ := L th 0 (by omega)
  exact ⟨n, hn⟩
end XY

/-! ===== the seam: neighbours as bits ===== -/
def dif (a b : Nat) : Nat := a &&& (65535 ^^^ b)
theorem tb_big {x n i : Nat} (h : x < 2 ^ n) (hi : n ≤ i) : x.testBit i = false := Nat.testBit_lt_two_pow (Nat.lt_of_lt_of_le h (Nat.pow_le_pow_right (by decide) hi))
theorem tb_full (n i : Nat) : (2 ^ n - 1).testBit i = decide (i < n) := Nat.testBit_two_pow_sub_one n i
theorem dif_bit {a b : Nat} (ha : a < 65536) (i : Nat) : (dif a b).testBit i = (a.testBit i && !b.testBit i) := by
  unfold dif
  rw [Nat.testBit_and, Nat.testBit_xor, show (65535 : Nat) = 2 ^ 16 - 1 from rfl, tb_full]
  by_cases h : i < 16
  · simp [h]
  · rw [tb_big (n := 16) ha (by omega)]; rfl
theorem dif_lt {a b : Nat} {n : Nat} (ha : a < n) : dif a b < n := Nat.lt_of_le_of_lt Nat.and_le_left ha
theorem dif_I {a b : Nat} (ha : a < 65536) : nI a &&& (nI b ^^^ (-1)) = nI (dif a b) := by
  refine b_ext (fun i hi => ?_)
  rw [b_and, b_xor, bt_nI _ hi, bt_nI _ hi, b_m1 i hi, bt_nI _ hi, dif_bit ha]
  cases b.testBit i <;> simp
theorem shrI {x k : Nat} (hx : x < 2 ^ 31) (hk : k < 32) : nI x >>> (nI k &&& 31) = nI (x >>> k) := by rw [pk_shrN hx _ k (s_l k hk), Nat.shiftRight_eq_div_pow]
theorem shlI {x k : Nat} (hk : k < 32) (h : x * 2 ^ k < 2 ^ 32) : nI x <<< (nI k &&& 31) = nI (x <<< k) := by rw [pk_shlN _ k (s_l k hk) h, Nat.shiftLeft_eq]
/-- the left, the right column -/
def lfm (W : Nat) : Nat → Nat
  | 0 => 0
  | y + 1 => lfm W y ||| 2 ^ (W * y)
def rgm (W : Nat) : Nat → Nat
  | 0 => 0
  | y + 1 => rgm W y ||| 2 ^ (W * y + (W - 1))
theorem lfm_bit : ∀ W : Fin 5, ∀ H : Fin 5, ∀ i : Fin 20, W.val ≠ 0 → (lfm W.val H.val).testBit i.val = (decide (i.val < W.val * H.val) && decide (i.val % W.val = 0)) := by decide +kernel
theorem rgm_bit : ∀ W : Fin 5, ∀ H : Fin 5, ∀ i : Fin 20, W.val ≠ 0 → (rgm W.val H.val).testBit i.val = (decide (i.val < W.val * H.val) && decide (i.val % W.val = W.val - 1)) := by decide +kernel
theorem lfm_lt : ∀ W : Fin 5, ∀ H : Fin 5, lfm W.val H.val < 65536 ∧ rgm W.val H.val < 65536 ∧ 2 ^ (W.val * H.val) ≤ 65536 := by decide +kernel
def bsN (W H x : Nat) : Nat := (2 ^ (W * H) - 1) &&& (((x >>> W) ||| (x <<< W)) ||| ((dif x (lfm W H) >>> 1) ||| (dif x (rgm W H) <<< 1)))
def nbr (W H x c : Nat) : Bool := (decide (c + W < W * H) && x.testBit (c + W)) || (decide (W ≤ c) && x.testBit (c - W)) || (decide (c % W < W - 1) && x.testBit (c + 1)) || (decide (0 < c % W) && x.testBit (c - 1))
theorem cells_le {W H : Nat} (hW : W ≤ 4) (hH : H ≤ 4) : W * H ≤ 16 := Nat.mul_le_mul hW hH
theorem p16 {W H : Nat} (hW : W ≤ 4) (hH : H ≤ 4) : 2 ^ (W * H) ≤ 65536 := (lfm_lt ⟨W, by omega⟩ ⟨H, by omega⟩).2.2
theorem bsN_bit {W H x : Nat} (hW : W ≤ 4) (hH : H ≤ 4) (hx : x < 2 ^ (W * H)) (c : Nat) : (bsN W H x).testBit c = (decide (c < W * H) && nbr W H x c) := by
  unfold bsN
  rw [Nat.testBit_and, tb_full]
  by_cases hc : c < W * H
  · have hcl := cells_le hW hH
    have h16 := p16 hW hH
    have hx16 : x < 65536 := by omega
    have hW0 : W ≠ 0 := fun e => by subst e; simp at hc
    rw [decide_eq_true hc, Bool.true_and, Bool.true_and]
    rw [Nat.testBit_or, Nat.testBit_or, Nat.testBit_or, Nat.testBit_shiftRight, Nat.testBit_shiftLeft, Nat.testBit_shiftRight, Nat.testBit_shiftLeft, dif_bit hx16, dif_bit hx16]
    unfold nbr
    have e1 : x.testBit (W + c) = (decide (c + W < W * H) && x.testBit (c + W)) := by
      rw [Nat.add_comm W c]
      by_cases h : c + W < W * H
      · rw [decide_eq_true h, Bool.true_and]
      · rw [decide_eq_false h, Bool.false_and]; exact tb_big hx (by omega)
    have e3 : (x.testBit (1 + c) && !(lfm W H).testBit (1 + c)) = (decide (c % W < W - 1) && x.testBit (c + 1)) := by
      rw [Nat.add_comm 1 c]
      by_cases h : c + 1 < W * H
      · rw [lfm_bit ⟨W, by omega⟩ ⟨H, by omega⟩ ⟨c + 1, by omega⟩ hW0]
        show (x.testBit (c + 1) && !(decide (c + 1 < W * H) && decide ((c + 1) % W = 0))) = _
        rw [decide_eq_true h, Bool.true_and, Bool.and_comm]
        congr 1
        have hm : c % W < W := Nat.mod_lt _ (by omega)
        by_cases q : c % W < W - 1
        · have : (c + 1) % W = c % W + 1 := by
            rw [Nat.add_mod, Nat.mod_eq_of_lt (a := 1) (by omega), Nat.mod_eq_of_lt (by omega)]
          rw [decide_eq_true q, decide_eq_false (by omega)]; rfl
        · have e : c % W = W - 1 := by omega
          have : (c + 1) % W = 0 := by
            rcases Nat.lt_or_ge 1 W with g | g
            · rw [Nat.add_mod, e, Nat.mod_eq_of_lt (a := 1) g, show W - 1 + 1 = W by omega, Nat.mod_self]
            · have : W = 1 := by omega
              subst this; exact Nat.mod_one _
          rw [decide_eq_false q, decide_eq_true this]; rfl
      · have : x.testBit (c + 1) = false := tb_big hx (by omega)
        rw [this]; simp
    have e4 : (decide (c ≥ 1) && (x.testBit (c - 1) && !(rgm W H).testBit (c - 1))) = (decide (0 < c % W) && x.testBit (c - 1)) := by
      rcases Nat.eq_zero_or_pos c with q | q
      · subst q; simp
      · rw [decide_eq_true (show c ≥ 1 from q), Bool.true_and, rgm_bit ⟨W, by omega⟩ ⟨H, by omega⟩ ⟨c - 1, by omega⟩ hW0]
        show (x.testBit (c - 1) && !(decide (c - 1 < W * H) && decide ((c - 1) % W = W - 1))) = _
        rw [decide_eq_true (by omega), Bool.true_and, Bool.and_comm]
        congr 1
        have hm : (c - 1) % W < W := Nat.mod_lt _ (by omega)
        have ec : c = c - 1 + 1 := by omega
        by_cases z : (c - 1) % W = W - 1
        · have : c % W = 0 := by
            rw [ec]
            rcases Nat.lt_or_ge 1 W with g | g
            · rw [Nat.add_mod, z, Nat.mod_eq_of_lt (a := 1) g, show W - 1 + 1 = W by omega, Nat.mod_self]
            · have : W = 1 := by omega
              subst this; exact Nat.mod_one _
          rw [decide_eq_true z, decide_eq_false (by omega)]; rfl
        · have : c % W = (c - 1) % W + 1 := by
            have e : (c - 1 + 1) % W = (c - 1) % W + 1 := by
              rw [Nat.add_mod, Nat.mod_eq_of_lt (a := 1) (by omega), Nat.mod_eq_of_lt (by omega)]
            rw [← ec] at e; exact e
          rw [decide_eq_false z, decide_eq_true (by omega)]; rfl
    rw [e1, e3, e4]
    simp only [ge_iff_le, Bool.or_assoc]
  · rw [decide_eq_false hc, Bool.false_and, Bool.false_and]
theorem bsN_lt {W H x : Nat} : bsN W H x < 2 ^ (W * H) := by
  have h : 0 < 2 ^ (W * H) := Nat.pow_pos (by decide)
  unfold bsN
  exact Nat.lt_of_le_of_lt Nat.and_le_left (by omega)
theorem s_beside {W H x : Nat} (hW : W ≤ 4) (hH : H ≤ 4) (hx : x < 2 ^ (W * H)) {w all left right : Int32} (ew : w = nI W) (ea : all = nI (2 ^ (W * H) - 1)) (el : left = nI (lfm W H)) (er : right = nI (rgm W H)) {Q : Int32 → Prop} (h : Q (nI (bsN W H x))) : q_X4_beside w all left right (nI x) Q := by
  have h16 := p16 hW hH
  have hd1 : dif x (lfm W H) < 65536 := dif_lt (by omega)
  have hd2 : dif x (rgm W H) < 65536 := dif_lt (by omega)
  have hWp : 2 ^ W ≤ 16 := Nat.pow_le_pow_right (n := 2) (by decide) hW
  have hxW : x * 2 ^ W ≤ 65535 * 16 := Nat.mul_le_mul (by omega) hWp
  unfold q_X4_beside F_X4_beside_e
  rintro y rfl
  rw [ew, ea, el, er, dif_I (by omega), dif_I (by omega), shrI (by omega) (by omega), shlI (by omega) (by omega), show nI (dif x (lfm W H)) >>> ((1 : Int32) &&& 31) = nI (dif x (lfm W H) >>> 1) from shrI (k := 1) (by omega) (by decide), show nI (dif x (rgm W H)) <<< ((1 : Int32) &&& 31) = nI (dif x (rgm W H) <<< 1) from shlI (k := 1) (by decide) (by omega), fa_or, fa_or, fa_or, fa_and]
  exact h
/-- the cells that can be dug -/
def mayN (W H d c : Nat) : Bool := !d.testBit c && (decide (c < W) || nbr W H d c)
def opS (W H d : Nat) : Nat := (dif (2 ^ (W * H) - 1) d) &&& ((2 ^ W - 1) ||| bsN W H d)
theorem opS_bit {W H d : Nat} (hW : W ≤ 4) (hH : H ≤ 4) (hd : d < 2 ^ (W * H)) (c : Nat) : (opS W H d).testBit c = (decide (c < W * H) && mayN W H d c) := by
  have h16 := p16 hW hH
  unfold opS mayN
  rw [Nat.testBit_and, dif_bit (by omega), tb_full, Nat.testBit_or, tb_full, bsN_bit hW hH hd]
  by_cases hc : c < W * H
  · rw [decide_eq_true hc]; simp
  · rw [decide_eq_false hc]; simp
theorem opS_lt {W H d : Nat} : opS W H d < 2 ^ (W * H) := by
  have h : 0 < 2 ^ (W * H) := Nat.pow_pos (by decide)
  unfold opS
  exact Nat.lt_of_le_of_lt Nat.and_le_left (dif_lt (by omega))
theorem s_openFrom {W H d : Nat} (hW : W ≤ 4) (hH : H ≤ 4) (hd : d < 2 ^ (W * H)) {w all top left right : Int32} (ew : w = nI W) (ea : all = nI (2 ^ (W * H) - 1)) (et : top = nI (2 ^ W - 1)) (el : left = nI (lfm W H)) (er : right = nI (rgm W H)) {Q : Int32 → Prop} (h : Q (nI (opS W H d))) : q_X4_openFrom w all top left right (nI d) Q := by
  have h16 := p16 hW hH
  unfold q_X4_openFrom F_X4_openFrom_e
  refine s_beside hW hH hd ew ea el er ?_
  rw [ea, et, dif_I (by omega), fa_or, fa_and]
  exact h
theorem bitX {d c : Nat} {b : Bool} (hd : d < 2 ^ 31) (hc : c < 32) : ((nI d >>> (nI c &&& 31)) &&& 1) = 1 ↔ d.testBit c = true := bit1 hd hc
/-- the reference's question -/
theorem s_may7 {W H d c : Nat} (hW : W ≤ 4) (hH : H ≤ 4) (hd : d < 2 ^ (W * H)) (hc : c < W * H) {hill : Nat → Int32} (e0 : hill 0 = nI W) (e1 : hill 1 = nI H) {Q : Int32 → Prop} (h : Q (bI (mayN W H d c))) : q_X7_may hill (nI c) (nI d) Q := by
  have h16 := p16 hW hH
  have hcl := cells_le hW hH
  have hW0 : 0 < W := by
    rcases Nat.eq_zero_or_pos W with q | q
    · subst q; simp at hc
    · exact q
  have h86 : ∀ (n : Nat) (b : Bool), Q (bI (!d.testBit c && b)) → wp_X7_may hill (nI c) (nI d) Q (n + 1) 86 0 (bI b) := by
    intro n b hq
    show F_X7_may_86 hill (nI c) (nI d) Q (wp_X7_may hill (nI c) (nI d) Q n) 0 (bI b)
    unfold F_X7_may_86
    refine ⟨fun q => ?_, fun q => p_z (fun z => ?_) (fun z => ?_)⟩
    · have : d.testBit c = true := by
        cases hb : d.testBit c with
        | true => rfl
        | false => exact absurd ((bit0 (by omega) (by omega)).mpr hb) q
      rw [this] at hq; exact hq
    · rw [z, Bool.and_false] at hq; exact hq
    · rw [(bit0 (by omega) (by omega)).mp q, z] at hq; exact hq
  have h81 : ∀ n : Nat, (decide (c < W) || nbr W H d c) = true → wp_X7_may hill (nI c) (nI d) Q (n + 2) 81 0 0 := by
    intro n e
    show F_X7_may_81 hill (nI c) (nI d) Q (wp_X7_may hill (nI c) (nI d) Q (n + 1)) 0 0
    unfold F_X7_may_81
    refine h86 n true ?_
    unfold mayN at h
    rw [e] at h; exact h
  have h85 : ∀ n : Nat, (decide (c < W) || nbr W H d c) = false → wp_X7_may hill (nI c) (nI d) Q (n + 2) 85 0 0 := by
    intro n e
    show F_X7_may_85 hill (nI c) (nI d) Q (wp_X7_may hill (nI c) (nI d) Q (n + 1)) 0 0
    unfold F_X7_may_85
    refine h86 n false ?_
    unfold mayN at h
    rw [e] at h; exact h
  have er : nI c - nI c / nI W * nI W = nI (c % W) := pk_rem (by omega) hW0 (by omega)
  have hm : c % W < W := Nat.mod_lt _ hW0
  have hml : c % W ≤ c := Nat.mod_le _ _
  have h61 : ∀ n : Nat, (decide (c < W) || (decide (c + W < W * H) && d.testBit (c + W)) || (decide (W ≤ c) && d.testBit (c - W)) || (decide (0 < c % W) && d.testBit (c - 1))) = false → wp_X7_may hill (nI c) (nI d) Q (n + 3) 61 (nI W) 0 := by
    intro n e
    simp only [Bool.or_eq_false_iff] at e
    obtain ⟨⟨⟨a1, a2⟩, a3⟩, a4⟩ := e
    have key : (decide (c < W) || nbr W H d c) = (decide (c % W < W - 1) && d.testBit (c + 1)) := by
      unfold nbr; rw [a1, a2, a3, a4]; simp
    show F_X7_may_61 hill (nI c) (nI d) Q (wp_X7_may hill (nI c) (nI d) Q (n + 2)) (nI W) 0
    unfold F_X7_may_61
    rw [er, show nI W - 1 = nI (W - 1) from pk_sub (b := 1) hW0, show nI c + 1 = nI (c + 1) from nI_1 c]
    refine ⟨nI_ne0 hW0 (by omega), fun q => ?_, fun q => ⟨fun z => ?_, fun z => ?_⟩⟩
    · have := (nI_leI (by omega) (by omega)).mp q
      refine h85 n ?_
      rw [key, decide_eq_false (by omega), Bool.false_and]
    · refine h85 n ?_
      have : d.testBit (c + 1) = false := by
        cases hb : d.testBit (c + 1) with
        | false => rfl
        | true => exact absurd ((bit1 (by omega) (by omega)).mpr hb) z
      rw [key, this, Bool.and_false]
    · refine h81 n ?_
      have q2 : ¬ W - 1 ≤ c % W := fun y => q (nI_le y (by omega))
      rw [key, (bit1 (by omega) (by omega)).mp z, decide_eq_true (by omega)]; rfl
  have h44 : ∀ n : Nat, (decide (c < W) || (decide (c + W < W * H) && d.testBit (c + W)) || (decide (W ≤ c) && d.testBit (c - W))) = false → wp_X7_may hill (nI c) (nI d) Q (n + 4) 44 (nI W) 0 := by
    intro n e
    show F_X7_may_44 hill (nI c) (nI d) Q (wp_X7_may hill (nI c) (nI d) Q (n + 3)) (nI W) 0
    unfold F_X7_may_44
    rw [er]
    refine ⟨nI_ne0 hW0 (by omega), fun q => ?_, fun q => ?_⟩
    · have : c % W ≤ 0 := (nI_leI (b := 0) (by omega) (by decide)).mp q
      exact h61 n (by rw [e, decide_eq_false (by omega)]; rfl)
    · have q2 : 0 < c % W := by
        rcases Nat.eq_zero_or_pos (c % W) with z | z
        · exact absurd (by rw [z]; exact Int32.le_refl _) q
        · exact z
      rw [show nI c - 1 = nI (c - 1) from pk_sub (b := 1) (by omega)]
      refine ⟨fun z => ?_, fun z => ?_⟩
      · refine h81 (n + 1) ?_
        have := (bit1 (by omega) (by omega)).mp z
        unfold nbr; rw [this, decide_eq_true q2]; simp
      · have : d.testBit (c - 1) = false := by
          cases hb : d.testBit (c - 1) with
          | false => rfl
          | true => exact absurd ((bit1 (by omega) (by omega)).mpr hb) z
        exact h61 n (by rw [e, this, Bool.and_false]; rfl)
  refine ⟨4, ?_⟩
  unfold F_X7_may_e
  rw [c0, e0]
  rintro x rfl
  refine ⟨fun q => ?_, fun q => ?_⟩
  · exact h81 2 (by rw [decide_eq_true ((nI_ltI (by omega) (by omega)).mp q)]; rfl)
  · have hWc : W ≤ c := by
      rcases Nat.lt_or_ge c W with z | z
      · exact absurd (nI_lt z (by omega)) q
      · exact z
    rw [pk_sub hWc, nI_add]
    refine ⟨fun z => h81 2 ?_, fun z => ?_⟩
    · have := (bit1 (by omega) (by omega)).mp z
      unfold nbr; rw [this, decide_eq_true hWc]; simp
    · have b2 : d.testBit (c - W) = false := by
        cases hb : d.testBit (c - W) with
        | false => rfl
        | true => exact absurd ((bit1 (by omega) (by omega)).mpr hb) z
      unfold q_X7_cells F_X7_cells_e
      rw [c0, show ((1 : Int32)).toNatClampNeg = 1 from rfl, e0, e1, pk_mul]
      refine ⟨fun y => h44 0 ?_, fun y => ⟨fun v => h81 2 ?_, fun v => h44 0 ?_⟩⟩
      · have := (nI_leI (by omega) (by omega)).mp y
        rw [decide_eq_false (show ¬ c < W by omega), decide_eq_false (show ¬ c + W < W * H by omega), b2]; simp
      · have y2 : c + W < W * H := by
          rcases Nat.lt_or_ge (c + W) (W * H) with g | g
          · exact g
          · exact absurd (nI_le g (by omega)) y
        have := (bit1 (by omega) (by omega)).mp v
        unfold nbr; rw [this, decide_eq_true y2]; simp
      · have : d.testBit (c + W) = false := by
          cases hb : d.testBit (c + W) with
          | false => rfl
          | true => exact absurd ((bit1 (by omega) (by omega)).mpr hb) v
        rw [decide_eq_false (show ¬ c < W by omega), this, b2]; simp

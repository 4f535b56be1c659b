def F_X7_readItem_e (v_size : Int32) (v_text : Nat → Int32) (Q : Int32 → Int32 → Int32 → Int32 → Int32 → (Nat → Int32) → Prop) (v_at : Int32) (v_begin : Int32) (v_token : Int32) (v_told : Int32) (v_read : Nat → Int32) : Prop :=
  (v_token = (1 : Int32) → ((v_told = (98 : Int32) → (q_X7_once v_size v_at v_begin v_token v_told v_read v_text (1 : Int32) (3 : Int32) (1 : Int32) (fun (r_3 : Int32) (u_4 : Int32) (u_5 : Int32) (u_6 : Int32) (u_7 : Int32) (u_8 : Nat → Int32) => narrow .boolean (.int r_3) = .int r_3 ∧ (Q r_3 u_4 u_5 u_6 u_7 u_8)))) ∧ (v_told = (115 : Int32) → (q_X7_readSeam v_size v_at v_begin v_token v_told v_read v_text (fun (r_11 : Int32) (u_12 : Int32) (u_13 : Int32) (u_14 : Int32) (u_15 : Int32) (u_16 : Nat → Int32) => narrow .boolean (.int r_11) = .int r_11 ∧ (Q r_11 u_12 u_13 u_14 u_15 u_16)))) ∧ (v_told = (116 : Int32) → (q_X7_readThing v_size v_at v_begin v_token v_told v_read v_text (fun (r_19 : Int32) (u_20 : Int32) (u_21 : Int32) (u_22 : Int32) (u_23 : Int32) (u_24 : Nat → Int32) => narrow .boolean (.int r_19) = .int r_19 ∧ (Q r_19 u_20 u_21 u_22 u_23 u_24)))) ∧ ((¬ v_told = (98 : Int32) ∧ ¬ v_told = (115 : Int32) ∧ ¬ v_told = (116 : Int32)) → (q_X7_once v_size v_at v_begin v_token v_told v_read v_text (2 : Int32) (4 : Int32) (0 : Int32) (fun (r_26 : Int32) (u_27 : Int32) (u_28 : Int32) (u_29 : Int32) (u_30 : Int32) (u_31 : Nat → Int32) => narrow .boolean (.int r_26) = .int r_26 ∧ (Q r_26 u_27 u_28 u_29 u_30 u_31)))))) ∧ (¬ v_token = (1 : Int32) → (Q (0 : Int32) v_at v_begin v_token v_told v_read))
def q_X7_readItem (v_size : Int32) (v_at : Int32) (v_begin : Int32) (v_token : Int32) (v_told : Int32) (v_read : Nat → Int32) (v_text : Nat → Int32) (Q : Int32 → Int32 → Int32 → Int32 → Int32 → (Nat → Int32) → Prop) : Prop := F_X7_readItem_e v_size v_text Q v_at v_begin v_token v_told v_read
theorem iwX7_readItem_X7 : ∀ w ∈ wsX70, w ∈ wsX7_readItem := by decide +kernel
theorem hdV_X7_readItem : yX7_readItem.cls = RX7 ∧ yX7_readItem.cls ≠ "java/lang/invoke/MethodHandle" ∧ yX7_readItem.cls ≠ "java/lang/invoke/VarHandle" ∧ (parseMethodDescriptor yX7_readItem.desc).map (fun d => d.parameters.length) = some 0 := by decide +kernel
set_option maxHeartbeats 4000000 in
set_option maxRecDepth 100000 in
theorem c_X7_readItem (l : Launch) (dC : Nat → ClassId) (dI : Nat → Nat → Nat) (cyC cyI cyZ : ClassId) (sz : Nat) (a a_text a_read a_hill a_now a_undone a_need a_cameOf a_places a_firstRow a_kept : Nat) (v_size : Int32) (v_at : Int32) (v_begin : Int32) (v_token : Int32) (v_told : Int32) (v_undos : Int32) (v_cames : Int32) (v_each : Int32) (v_trace : Int64) (v_read : Nat → Int32) (v_text : Nat → Int32) {Q : Int32 → Int32 → Int32 → Int32 → Int32 → (Nat → Int32) → Prop} (h : q_X7_readItem v_size v_at v_begin v_token v_told v_read v_text Q) : Met l yX7_readItem wsX7_readItem ({ frames := 6, cells := 0, slots := 0, locals := 131 }) (gPc [.ref a] (dC, dI) (gTy cyC cyI cyZ) sz [(a, .inr (7, [.ref a_text, .int v_size, .int v_at, .int v_begin, .int v_token, .int v_told, .ref a_read, .ref a_hill, .ref a_now, .ref a_undone, .int v_undos, .ref a_need, .int v_cames, .ref a_cameOf, .ref a_places, .ref a_firstRow, .int v_each, .long v_trace, .ref a_kept])), (a_read, .inl (cyI, 46, .inl v_read)), (a_text, .inl (cyI, 150, .inl v_text))]) (gQi5 Q (dC, dI) (va_A [(a, .inr (7, [.ref a_text, .int v_size, .int v_at, .int v_begin, .int v_token, .int v_told, .ref a_read, .ref a_hill, .ref a_now, .ref a_undone, .int v_undos, .ref a_need, .int v_cames, .ref a_cameOf, .ref a_places, .ref a_firstRow, .int v_each, .long v_trace, .ref a_kept])), (a_read, .inl (cyI, 46, .inl v_read)), (a_text, .inl (cyI, 150, .inl v_text))] sz) (fun (u1 : Int32) (u2 : Int32) (u3 : Int32) (u4 : Int32) (u5 : Nat → Int32) => [(a, .inr (7, [.ref a_text, .int v_size, .int u1, .int u2, .int u3, .int u4, .ref a_read, .ref a_hill, .ref a_now, .ref a_undone, .int v_undos, .ref a_need, .int v_cames, .ref a_cameOf, .ref a_places, .ref a_firstRow, .int v_each, .long v_trace, .ref a_kept])), (a_read, .inl (cyI, 46, .inl u5)), (a_text, .inl (cyI, 150, .inl v_text))])) 0 0 (va_A [(a, .inr (7, [.ref a_text, .int v_size, .int v_at, .int v_begin, .int v_token, .int v_told, .ref a_read, .ref a_hill, .ref a_now, .ref a_undone, .int v_undos, .ref a_need, .int v_cames, .ref a_cameOf, .ref a_places, .ref a_firstRow, .int v_each, .long v_trace, .ref a_kept])), (a_read, .inl (cyI, 46, .inl v_read)), (a_text, .inl (cyI, 150, .inl v_text))] sz) := by
  refine gMet (cc := cX7_readItem) (maxL := 1) (ret := (some .boolean)) (own := RX7) (fun A => gQi5 Q (dC, dI) A (fun (u1 : Int32) (u2 : Int32) (u3 : Int32) (u4 : Int32) (u5 : Nat → Int32) => [(a, .inr (7, [.ref a_text, .int v_size, .int u1, .int u2, .int u3, .int u4, .ref a_read, .ref a_hill, .ref a_now, .ref a_undone, .int v_undos, .ref a_need, .int v_cames, .ref a_cameOf, .ref a_places, .ref a_firstRow, .int v_each, .long v_trace, .ref a_kept])), (a_read, .inl (cyI, 46, .inl u5)), (a_text, .inl (cyI, 150, .inl v_text))])) (by decide) rfl rfl (Nat.le_of_ble_eq_true rfl) ?_
  intro p e s m below meth c A ls C0 _ hK hN hP hD hA hl
  obtain ⟨hx, hb, hr, hml, hown, hts, hlocks⟩ := id C0
  have f67 := hts (.fieldLink RX7 67 "LastOchreModel" "told" "I") (by decide +kernel)
  have f77 := hts (.fieldLink RX7 77 "LastOchreModel" "token" "I") (by decide +kernel)
  have hS : va_S A s.heap s.heap [] := va_S.rf
  replace hl : lv_has ls 1 [(0, .ref a)] := hl
  unfold q_X7_readItem at h
  unfold F_X7_readItem_e at h
  refine lv_aload_n hx hb dX7_readItem_0 rfl (lv_at hl 0 rfl) ?_
  refine va_get (D := (dC, dI)) (ci := 7) (v := .int v_token) (C := RX7) (T := TX7) (N := 19) hx hb hts iwX7_readItem_X7 hown hK hP 0 rfl rfl 4 (by decide) f77 (fun _ h9 => h9) rfl dX7_readItem_1 ?_
  refine lv_iconst (v := 1) hx hb dX7_readItem_4 (by decide) ?_
  refine lv_icmp_eq (tgt := 10) hx hb dX7_readItem_5 (by decide) (fun c_1 => ?_) (fun c_1 => ?_)
  · replace h := h.1 c_1
    refine lv_aload_n hx hb dX7_readItem_10 rfl (lv_at hl 0 rfl) ?_
    refine va_get (D := (dC, dI)) (ci := 7) (v := .int v_told) (C := RX7) (T := TX7) (N := 19) hx hb hts iwX7_readItem_X7 hown hK hP 0 rfl rfl 5 (by decide) f67 (fun _ h9 => h9) rfl dX7_readItem_11 ?_
    refine (Classical.em (v_told = (98 : Int32))).elim (fun c_2 => ?_) (fun c_2 => ?_)
    · replace h := h.1 c_2
      refine lv_lookup (off := 44) (tgt := 58) hx hb dX7_readItem_14 (by decide) (by rw [c_2]; rfl) (by decide) ?_
      refine lv_aload_n hx hb dX7_readItem_58 rfl (lv_at hl 0 rfl) ?_
      refine lv_iconst (v := 1) hx hb dX7_readItem_59 (by decide) ?_
      refine lv_iconst (v := 3) hx hb dX7_readItem_60 (by decide) ?_
      refine lv_iconst (v := 1) hx hb dX7_readItem_61 (by decide) ?_
      refine gV_i5 (As := [.int (1 : Int32), .int (3 : Int32), .int (1 : Int32)]) (rest := []) ⟨hx, hb, hml, hown, hts⟩ (c_X7_once l dC dI cyC cyI cyZ _ a a_text a_read a_hill a_now a_undone a_need a_cameOf a_places a_firstRow a_kept v_size v_at v_begin v_token v_told v_undos v_cames v_each v_trace v_read v_text (1 : Int32) (3 : Int32) (1 : Int32) h) (cwV 3 hts gX7_readItem_X7_once rfl rfl rfl hdV_X7_once ⟨Nat.le_of_ble_eq_true rfl, Nat.le_of_ble_eq_true rfl⟩) hK hN hP hD hS hA [0, 1, 2] (by decide) rfl (ci := 7) rfl rfl rfl hl.1 rfl (Nat.le_of_ble_eq_true rfl) dX7_readItem_62 ⟨Nat.zero_le _, Nat.zero_le _⟩ (wr := []) [] rfl (by decide) (by decide) (fun r_3 u_4 u_5 u_6 u_7 u_8 H locs h hP hD hS => ?_)
      replace hP : va_P (dC, dI) vwCl [(a, .inr (7, [.ref a_text, .int v_size, .int u_4, .int u_5, .int u_6, .int u_7, .ref a_read, .ref a_hill, .ref a_now, .ref a_undone, .int v_undos, .ref a_need, .int v_cames, .ref a_cameOf, .ref a_places, .ref a_firstRow, .int v_each, .long v_trace, .ref a_kept])), (a_read, .inl (cyI, 46, .inl u_8)), (a_text, .inl (cyI, 150, .inl v_text))] H := hP
      replace hD : va_D A [(a, .inr (7, [.ref a_text, .int v_size, .int u_4, .int u_5, .int u_6, .int u_7, .ref a_read, .ref a_hill, .ref a_now, .ref a_undone, .int v_undos, .ref a_need, .int v_cames, .ref a_cameOf, .ref a_places, .ref a_firstRow, .int v_each, .long v_trace, .ref a_kept])), (a_read, .inl (cyI, 46, .inl u_8)), (a_text, .inl (cyI, 150, .inl v_text))] := hD
      have g_9 := h.1
      replace h := h.2
      exact grz5 hx hb hr hlocks g_9 h hP hD hS dX7_readItem_65
    refine (Classical.em (v_told = (115 : Int32))).elim (fun c_10 => ?_) (fun c_10 => ?_)
    · replace h := h.2.1 c_10
      refine lv_lookup (off := 34) (tgt := 48) hx hb dX7_readItem_14 (by decide) (by rw [c_10]; rfl) (by decide) ?_
      refine lv_aload_n hx hb dX7_readItem_48 rfl (lv_at hl 0 rfl) ?_
      refine gV_i5 (As := []) (rest := []) ⟨hx, hb, hml, hown, hts⟩ (c_X7_readSeam l dC dI cyC cyI cyZ _ a a_text a_read a_hill a_now a_undone a_need a_cameOf a_places a_firstRow a_kept v_size v_at v_begin v_token v_told v_undos v_cames v_each v_trace v_read v_text h) (cwV 0 hts gX7_readItem_X7_readSeam rfl rfl rfl hdV_X7_readSeam ⟨Nat.le_of_ble_eq_true rfl, Nat.le_of_ble_eq_true rfl⟩) hK hN hP hD hS hA [0, 1, 2] (by decide) rfl (ci := 7) rfl rfl rfl hl.1 rfl (Nat.le_of_ble_eq_true rfl) dX7_readItem_49 ⟨Nat.zero_le _, Nat.zero_le _⟩ (wr := []) [] rfl (by decide) (by decide) (fun r_11 u_12 u_13 u_14 u_15 u_16 H locs h hP hD hS => ?_)
      replace hP : va_P (dC, dI) vwCl [(a, .inr (7, [.ref a_text, .int v_size, .int u_12, .int u_13, .int u_14, .int u_15, .ref a_read, .ref a_hill, .ref a_now, .ref a_undone, .int v_undos, .ref a_need, .int v_cames, .ref a_cameOf, .ref a_places, .ref a_firstRow, .int v_each, .long v_trace, .ref a_kept])), (a_read, .inl (cyI, 46, .inl u_16)), (a_text, .inl (cyI, 150, .inl v_text))] H := hP
      replace hD : va_D A [(a, .inr (7, [.ref a_text, .int v_size, .int u_12, .int u_13, .int u_14, .int u_15, .ref a_read, .ref a_hill, .ref a_now, .ref a_undone, .int v_undos, .ref a_need, .int v_cames, .ref a_cameOf, .ref a_places, .ref a_firstRow, .int v_each, .long v_trace, .ref a_kept])), (a_read, .inl (cyI, 46, .inl u_16)), (a_text, .inl (cyI, 150, .inl v_text))] := hD
      have g_17 := h.1
      replace h := h.2
      exact grz5 hx hb hr hlocks g_17 h hP hD hS dX7_readItem_52
    refine (Classical.em (v_told = (116 : Int32))).elim (fun c_18 => ?_) (fun c_18 => ?_)
    · replace h := h.2.2.1 c_18
      refine lv_lookup (off := 39) (tgt := 53) hx hb dX7_readItem_14 (by decide) (by rw [c_18]; rfl) (by decide) ?_
      refine lv_aload_n hx hb dX7_readItem_53 rfl (lv_at hl 0 rfl) ?_
      refine gV_i5 (As := []) (rest := []) ⟨hx, hb, hml, hown, hts⟩ (c_X7_readThing l dC dI cyC cyI cyZ _ a a_text a_read a_hill a_now a_undone a_need a_cameOf a_places a_firstRow a_kept v_size v_at v_begin v_token v_told v_undos v_cames v_each v_trace v_read v_text h) (cwV 0 hts gX7_readItem_X7_readThing rfl rfl rfl hdV_X7_readThing ⟨Nat.le_of_ble_eq_true rfl, Nat.le_of_ble_eq_true rfl⟩) hK hN hP hD hS hA [0, 1, 2] (by decide) rfl (ci := 7) rfl rfl rfl hl.1 rfl (Nat.le_of_ble_eq_true rfl) dX7_readItem_54 ⟨Nat.zero_le _, Nat.zero_le _⟩ (wr := []) [] rfl (by decide) (by decide) (fun r_19 u_20 u_21 u_22 u_23 u_24 H locs h hP hD hS => ?_)
      replace hP : va_P (dC, dI) vwCl [(a, .inr (7, [.ref a_text, .int v_size, .int u_20, .int u_21, .int u_22, .int u_23, .ref a_read, .ref a_hill, .ref a_now, .ref a_undone, .int v_undos, .ref a_need, .int v_cames, .ref a_cameOf, .ref a_places, .ref a_firstRow, .int v_each, .long v_trace, .ref a_kept])), (a_read, .inl (cyI, 46, .inl u_24)), (a_text, .inl (cyI, 150, .inl v_text))] H := hP
      replace hD : va_D A [(a, .inr (7, [.ref a_text, .int v_size, .int u_20, .int u_21, .int u_22, .int u_23, .ref a_read, .ref a_hill, .ref a_now, .ref a_undone, .int v_undos, .ref a_need, .int v_cames, .ref a_cameOf, .ref a_places, .ref a_firstRow, .int v_each, .long v_trace, .ref a_kept])), (a_read, .inl (cyI, 46, .inl u_24)), (a_text, .inl (cyI, 150, .inl v_text))] := hD
      have g_25 := h.1
      replace h := h.2
      exact grz5 hx hb hr hlocks g_25 h hP hD hS dX7_readItem_57
    replace h := h.2.2.2 ⟨c_2, c_10, c_18⟩
    refine lv_lookup (off := 52) (tgt := 66) hx hb dX7_readItem_14 (by decide) (by refine (lv_osw c_2 (by decide)).trans ?_; refine (lv_osw c_10 (by decide)).trans ?_; refine (lv_osw c_18 (by decide)).trans ?_; rfl) (by decide) ?_
    refine lv_aload_n hx hb dX7_readItem_66 rfl (lv_at hl 0 rfl) ?_
    refine lv_iconst (v := 2) hx hb dX7_readItem_67 (by decide) ?_
    refine lv_iconst (v := 4) hx hb dX7_readItem_68 (by decide) ?_
    refine lv_iconst (v := 0) hx hb dX7_readItem_69 (by decide) ?_
    refine gV_i5 (As := [.int (2 : Int32), .int (4 : Int32), .int (0 : Int32)]) (rest := []) ⟨hx, hb, hml, hown, hts⟩ (c_X7_once l dC dI cyC cyI cyZ _ a a_text a_read a_hill a_now a_undone a_need a_cameOf a_places a_firstRow a_kept v_size v_at v_begin v_token v_told v_undos v_cames v_each v_trace v_read v_text (2 : Int32) (4 : Int32) (0 : Int32) h) (cwV 3 hts gX7_readItem_X7_once rfl rfl rfl hdV_X7_once ⟨Nat.le_of_ble_eq_true rfl, Nat.le_of_ble_eq_true rfl⟩) hK hN hP hD hS hA [0, 1, 2] (by decide) rfl (ci := 7) rfl rfl rfl hl.1 rfl (Nat.le_of_ble_eq_true rfl) dX7_readItem_70 ⟨Nat.zero_le _, Nat.zero_le _⟩ (wr := []) [] rfl (by decide) (by decide) (fun r_26 u_27 u_28 u_29 u_30 u_31 H locs h hP hD hS => ?_)
    replace hP : va_P (dC, dI) vwCl [(a, .inr (7, [.ref a_text, .int v_size, .int u_27, .int u_28, .int u_29, .int u_30, .ref a_read, .ref a_hill, .ref a_now, .ref a_undone, .int v_undos, .ref a_need, .int v_cames, .ref a_cameOf, .ref a_places, .ref a_firstRow, .int v_each, .long v_trace, .ref a_kept])), (a_read, .inl (cyI, 46, .inl u_31)), (a_text, .inl (cyI, 150, .inl v_text))] H := hP
    replace hD : va_D A [(a, .inr (7, [.ref a_text, .int v_size, .int u_27, .int u_28, .int u_29, .int u_30, .ref a_read, .ref a_hill, .ref a_now, .ref a_undone, .int v_undos, .ref a_need, .int v_cames, .ref a_cameOf, .ref a_places, .ref a_firstRow, .int v_each, .long v_trace, .ref a_kept])), (a_read, .inl (cyI, 46, .inl u_31)), (a_text, .inl (cyI, 150, .inl v_text))] := hD
    have g_32 := h.1
    replace h := h.2
    exact grz5 hx hb hr hlocks g_32 h hP hD hS dX7_readItem_73
  · replace h := h.2 c_1
    refine lv_iconst (v := 0) hx hb dX7_readItem_8 (by decide) ?_
    exact grz5 hx hb hr hlocks rfl h hP hD hS dX7_readItem_9

def F_X7_takes_e (v_read : Nat → Int32) (Q : Int32 → Int32 → (Nat → Int32) → (Nat → Int32) → (Nat → Int32) → Prop) (rec : Nat → Int32 → Int32 → Int32 → (Nat → Int32) → (Nat → Int32) → (Nat → Int32) → Prop) (v_undos : Int32) (v_cames : Int32) (v_hill : Nat → Int32) (v_now : Nat → Int32) (v_kept : Nat → Int32) : Prop :=
  rec 2 (0 : Int32) v_undos v_cames v_hill v_now v_kept
def F_X7_takes_2 (v_read : Nat → Int32) (Q : Int32 → Int32 → (Nat → Int32) → (Nat → Int32) → (Nat → Int32) → Prop) (rec : Nat → Int32 → Int32 → Int32 → (Nat → Int32) → (Nat → Int32) → (Nat → Int32) → Prop) (x1 : Int32) (v_undos : Int32) (v_cames : Int32) (v_hill : Nat → Int32) (v_now : Nat → Int32) (v_kept : Nat → Int32) : Prop :=
  ((46 : Int32) ≤ x1 → (rec 28 (0 : Int32) v_undos v_cames v_hill v_now v_kept)) ∧ (¬ (46 : Int32) ≤ x1 → (vp_in x1 46 ∧ (vp_in x1 46 ∧ (∀ f_4 : Nat → Int32, f_4 = upd v_hill (x1).toNatClampNeg (v_read (x1).toNatClampNeg) → (∀ x1_6 : Int32, x1_6 = (x1 + (1 : Int32)) → (rec 2 x1_6 v_undos v_cames f_4 v_now v_kept))))))
def F_X7_takes_28 (v_read : Nat → Int32) (Q : Int32 → Int32 → (Nat → Int32) → (Nat → Int32) → (Nat → Int32) → Prop) (rec : Nat → Int32 → Int32 → Int32 → (Nat → Int32) → (Nat → Int32) → (Nat → Int32) → Prop) (x1 : Int32) (v_undos : Int32) (v_cames : Int32) (v_hill : Nat → Int32) (v_now : Nat → Int32) (v_kept : Nat → Int32) : Prop :=
  ((15 : Int32) ≤ x1 → (rec 49 (0 : Int32) v_undos v_cames v_hill v_now v_kept)) ∧ (¬ (15 : Int32) ≤ x1 → (vp_in x1 15 ∧ (∀ f_10 : Nat → Int32, f_10 = upd v_now (x1).toNatClampNeg (0 : Int32) → (∀ x1_12 : Int32, x1_12 = (x1 + (1 : Int32)) → (rec 28 x1_12 v_undos v_cames v_hill f_10 v_kept)))))
def F_X7_takes_49 (v_read : Nat → Int32) (Q : Int32 → Int32 → (Nat → Int32) → (Nat → Int32) → (Nat → Int32) → Prop) (rec : Nat → Int32 → Int32 → Int32 → (Nat → Int32) → (Nat → Int32) → (Nat → Int32) → Prop) (x1 : Int32) (v_undos : Int32) (v_cames : Int32) (v_hill : Nat → Int32) (v_now : Nat → Int32) (v_kept : Nat → Int32) : Prop :=
  ((v_hill ((2 : Int32)).toNatClampNeg) ≤ x1 → (∀ f_15 : Nat → Int32, f_15 = upd v_kept ((0 : Int32)).toNatClampNeg (0 : Int32) → (∀ f_17 : Nat → Int32, f_17 = upd f_15 ((167 : Int32)).toNatClampNeg (0 : Int32) → (Q (0 : Int32) (0 : Int32) v_hill v_now f_17)))) ∧ (¬ (v_hill ((2 : Int32)).toNatClampNeg) ≤ x1 → (vp_in ((22 : Int32) + ((4 : Int32) * x1)) 46 ∧ (vp_in ((3 : Int32) + ((2 : Int32) * x1)) 15 ∧ (∀ f_21 : Nat → Int32, f_21 = upd v_now (((3 : Int32) + ((2 : Int32) * x1))).toNatClampNeg (v_hill (((22 : Int32) + ((4 : Int32) * x1))).toNatClampNeg) → (vp_in (((22 : Int32) + ((4 : Int32) * x1)) + (1 : Int32)) 46 ∧ (vp_in ((4 : Int32) + ((2 : Int32) * x1)) 15 ∧ (∀ f_25 : Nat → Int32, f_25 = upd f_21 (((4 : Int32) + ((2 : Int32) * x1))).toNatClampNeg (v_hill ((((22 : Int32) + ((4 : Int32) * x1)) + (1 : Int32))).toNatClampNeg) → (∀ x1_27 : Int32, x1_27 = (x1 + (1 : Int32)) → (rec 49 x1_27 v_undos v_cames v_hill f_25 v_kept)))))))))
def wp_X7_takes (v_read : Nat → Int32) (Q : Int32 → Int32 → (Nat → Int32) → (Nat → Int32) → (Nat → Int32) → Prop) : Nat → Nat → Int32 → Int32 → Int32 → (Nat → Int32) → (Nat → Int32) → (Nat → Int32) → Prop
  | 0 => fun _ _ _ _ _ _ _ => False
  | n + 1 => fun t x1 v_undos v_cames v_hill v_now v_kept => if t = 2 then F_X7_takes_2 v_read Q (wp_X7_takes v_read Q n) x1 v_undos v_cames v_hill v_now v_kept else if t = 28 then F_X7_takes_28 v_read Q (wp_X7_takes v_read Q n) x1 v_undos v_cames v_hill v_now v_kept else if t = 49 then F_X7_takes_49 v_read Q (wp_X7_takes v_read Q n) x1 v_undos v_cames v_hill v_now v_kept else False
def q_X7_takes (v_undos : Int32) (v_cames : Int32) (v_read : Nat → Int32) (v_hill : Nat → Int32) (v_now : Nat → Int32) (v_kept : Nat → Int32) (Q : Int32 → Int32 → (Nat → Int32) → (Nat → Int32) → (Nat → Int32) → Prop) : Prop := ∃ n, F_X7_takes_e v_read Q (wp_X7_takes v_read Q n) v_undos v_cames v_hill v_now v_kept
theorem iwX7_takes_X7 : ∀ w ∈ wsX70, w ∈ wsX7_takes := by decide +kernel
theorem hdV_X7_takes : yX7_takes.cls = RX7 ∧ yX7_takes.cls ≠ "java/lang/invoke/MethodHandle" ∧ yX7_takes.cls ≠ "java/lang/invoke/VarHandle" ∧ (parseMethodDescriptor yX7_takes.desc).map (fun d => d.parameters.length) = some 0 := by decide +kernel
set_option maxHeartbeats 4000000 in
set_option maxRecDepth 100000 in
theorem w_X7_takes {p : Program} {l : Launch} {e : Env} {s : State} {m : MethodId} {args : Array Value} {below : List Frame} {meth : Method} {c : Code} {A : Nat → Prop} (dC : Nat → ClassId) (dI : Nat → Nat → Nat) (cyC cyI cyZ : ClassId) (a a_text a_read a_hill a_now a_undone a_need a_cameOf a_places a_firstRow a_kept : Nat) (v_size : Int32) (v_at : Int32) (v_begin : Int32) (v_token : Int32) (v_told : Int32) (v_each : Int32) (v_trace : Int64) (v_read : Nat → Int32) (Q : Int32 → Int32 → (Nat → Int32) → (Nat → Int32) → (Nat → Int32) → Prop) (C0 : gAt cX7_takes none 2 RX7 wsX7_takes p s m meth c args) (hK : va_K (dC, dI) vwCl (gTy cyC cyI cyZ) s) (hN : nU s) (hA : ∀ q, s.heap.size ≤ q → A q) : ∀ n : Nat, (∀ (x1 : Int32) (v_undos : Int32) (v_cames : Int32) (v_hill : Nat → Int32) (v_now : Nat → Int32) (v_kept : Nat → Int32) (H : Heap) (locs : List Loc) (ls : Array Slot), wp_X7_takes v_read Q n 2 x1 v_undos v_cames v_hill v_now v_kept → va_P (dC, dI) vwCl [(a, .inr (7, [.ref a_text, .int v_size, .int v_at, .int v_begin, .int v_token, .int v_told, .ref a_read, .ref a_hill, .ref a_now, .ref a_undone, .int v_undos, .ref a_need, .int v_cames, .ref a_cameOf, .ref a_places, .ref a_firstRow, .int v_each, .long v_trace, .ref a_kept])), (a_read, .inl (cyI, 46, .inl v_read)), (a_hill, .inl (cyI, 46, .inl v_hill)), (a_now, .inl (cyI, 15, .inl v_now)), (a_kept, .inl (cyI, 334, .inl v_kept))] H → va_D A [(a, .inr (7, [.ref a_text, .int v_size, .int v_at, .int v_begin, .int v_token, .int v_told, .ref a_read, .ref a_hill, .ref a_now, .ref a_undone, .int v_undos, .ref a_need, .int v_cames, .ref a_cameOf, .ref a_places, .ref a_firstRow, .int v_each, .long v_trace, .ref a_kept])), (a_read, .inl (cyI, 46, .inl v_read)), (a_hill, .inl (cyI, 46, .inl v_hill)), (a_now, .inl (cyI, 15, .inl v_now)), (a_kept, .inl (cyI, 334, .inl v_kept))] → va_S A s.heap H locs → lv_has ls 2 [(0, .ref a), (1, .int x1)] → W p l e { frames := 0, cells := 0, slots := 0, locals := 0 } s m args below meth c H locs 0 0 (MQ below (gQv5 Q (dC, dI) A (fun (u1 : Int32) (u2 : Int32) (u3 : Nat → Int32) (u4 : Nat → Int32) (u5 : Nat → Int32) => [(a, .inr (7, [.ref a_text, .int v_size, .int v_at, .int v_begin, .int v_token, .int v_told, .ref a_read, .ref a_hill, .ref a_now, .ref a_undone, .int u1, .ref a_need, .int u2, .ref a_cameOf, .ref a_places, .ref a_firstRow, .int v_each, .long v_trace, .ref a_kept])), (a_read, .inl (cyI, 46, .inl v_read)), (a_hill, .inl (cyI, 46, .inl u3)), (a_now, .inl (cyI, 15, .inl u4)), (a_kept, .inl (cyI, 334, .inl u5))])) args s 0 0 A) (F0 m 2 ls [])) ∧ (∀ (x1 : Int32) (v_undos : Int32) (v_cames : Int32) (v_hill : Nat → Int32) (v_now : Nat → Int32) (v_kept : Nat → Int32) (H : Heap) (locs : List Loc) (ls : Array Slot), wp_X7_takes v_read Q n 28 x1 v_undos v_cames v_hill v_now v_kept → va_P (dC, dI) vwCl [(a, .inr (7, [.ref a_text, .int v_size, .int v_at, .int v_begin, .int v_token, .int v_told, .ref a_read, .ref a_hill, .ref a_now, .ref a_undone, .int v_undos, .ref a_need, .int v_cames, .ref a_cameOf, .ref a_places, .ref a_firstRow, .int v_each, .long v_trace, .ref a_kept])), (a_read, .inl (cyI, 46, .inl v_read)), (a_hill, .inl (cyI, 46, .inl v_hill)), (a_now, .inl (cyI, 15, .inl v_now)), (a_kept, .inl (cyI, 334, .inl v_kept))] H → va_D A [(a, .inr (7, [.ref a_text, .int v_size, .int v_at, .int v_begin, .int v_token, .int v_told, .ref a_read, .ref a_hill, .ref a_now, .ref a_undone, .int v_undos, .ref a_need, .int v_cames, .ref a_cameOf, .ref a_places, .ref a_firstRow, .int v_each, .long v_trace, .ref a_kept])), (a_read, .inl (cyI, 46, .inl v_read)), (a_hill, .inl (cyI, 46, .inl v_hill)), (a_now, .inl (cyI, 15, .inl v_now)), (a_kept, .inl (cyI, 334, .inl v_kept))] → va_S A s.heap H locs → lv_has ls 2 [(0, .ref a), (1, .int x1)] → W p l e { frames := 0, cells := 0, slots := 0, locals := 0 } s m args below meth c H locs 0 0 (MQ below (gQv5 Q (dC, dI) A (fun (u1 : Int32) (u2 : Int32) (u3 : Nat → Int32) (u4 : Nat → Int32) (u5 : Nat → Int32) => [(a, .inr (7, [.ref a_text, .int v_size, .int v_at, .int v_begin, .int v_token, .int v_told, .ref a_read, .ref a_hill, .ref a_now, .ref a_undone, .int u1, .ref a_need, .int u2, .ref a_cameOf, .ref a_places, .ref a_firstRow, .int v_each, .long v_trace, .ref a_kept])), (a_read, .inl (cyI, 46, .inl v_read)), (a_hill, .inl (cyI, 46, .inl u3)), (a_now, .inl (cyI, 15, .inl u4)), (a_kept, .inl (cyI, 334, .inl u5))])) args s 0 0 A) (F0 m 28 ls [])) ∧ (∀ (x1 : Int32) (v_undos : Int32) (v_cames : Int32) (v_hill : Nat → Int32) (v_now : Nat → Int32) (v_kept : Nat → Int32) (H : Heap) (locs : List Loc) (ls : Array Slot), wp_X7_takes v_read Q n 49 x1 v_undos v_cames v_hill v_now v_kept → va_P (dC, dI) vwCl [(a, .inr (7, [.ref a_text, .int v_size, .int v_at, .int v_begin, .int v_token, .int v_told, .ref a_read, .ref a_hill, .ref a_now, .ref a_undone, .int v_undos, .ref a_need, .int v_cames, .ref a_cameOf, .ref a_places, .ref a_firstRow, .int v_each, .long v_trace, .ref a_kept])), (a_read, .inl (cyI, 46, .inl v_read)), (a_hill, .inl (cyI, 46, .inl v_hill)), (a_now, .inl (cyI, 15, .inl v_now)), (a_kept, .inl (cyI, 334, .inl v_kept))] H → va_D A [(a, .inr (7, [.ref a_text, .int v_size, .int v_at, .int v_begin, .int v_token, .int v_told, .ref a_read, .ref a_hill, .ref a_now, .ref a_undone, .int v_undos, .ref a_need, .int v_cames, .ref a_cameOf, .ref a_places, .ref a_firstRow, .int v_each, .long v_trace, .ref a_kept])), (a_read, .inl (cyI, 46, .inl v_read)), (a_hill, .inl (cyI, 46, .inl v_hill)), (a_now, .inl (cyI, 15, .inl v_now)), (a_kept, .inl (cyI, 334, .inl v_kept))] → va_S A s.heap H locs → lv_has ls 2 [(0, .ref a), (1, .int x1)] → W p l e { frames := 0, cells := 0, slots := 0, locals := 0 } s m args below meth c H locs 0 0 (MQ below (gQv5 Q (dC, dI) A (fun (u1 : Int32) (u2 : Int32) (u3 : Nat → Int32) (u4 : Nat → Int32) (u5 : Nat → Int32) => [(a, .inr (7, [.ref a_text, .int v_size, .int v_at, .int v_begin, .int v_token, .int v_told, .ref a_read, .ref a_hill, .ref a_now, .ref a_undone, .int u1, .ref a_need, .int u2, .ref a_cameOf, .ref a_places, .ref a_firstRow, .int v_each, .long v_trace, .ref a_kept])), (a_read, .inl (cyI, 46, .inl v_read)), (a_hill, .inl (cyI, 46, .inl u3)), (a_now, .inl (cyI, 15, .inl u4)), (a_kept, .inl (cyI, 334, .inl u5))])) args s 0 0 A) (F0 m 49 ls [])) := by
  obtain ⟨hx, hb, hr, hml, hown, hts, hlocks⟩ := id C0
  have f116 := hts (.fieldLink RX7 116 "LastOchreModel" "cames" "I") (by decide +kernel)
  have f119 := hts (.fieldLink RX7 119 "LastOchreModel" "undos" "I") (by decide +kernel)
  have f13 := hts (.fieldLink RX7 13 "LastOchreModel" "read" "[I") (by decide +kernel)
  have f16 := hts (.fieldLink RX7 16 "LastOchreModel" "hill" "[I") (by decide +kernel)
  have f19 := hts (.fieldLink RX7 19 "LastOchreModel" "now" "[I") (by decide +kernel)
  have f37 := hts (.fieldLink RX7 37 "LastOchreModel" "kept" "[I") (by decide +kernel)
  intro n
  induction n with
  | zero => exact ⟨fun _ _ _ _ _ _ _ _ _ h => absurd h id, fun _ _ _ _ _ _ _ _ _ h => absurd h id, fun _ _ _ _ _ _ _ _ _ h => absurd h id⟩
  | succ n ih =>
    obtain ⟨ih2, ih28, ih49⟩ := ih
    refine ⟨?_, ?_, ?_⟩
    · intro x1 v_undos v_cames v_hill v_now v_kept H locs ls h hP hD hS hl
      replace h : F_X7_takes_2 v_read Q (wp_X7_takes v_read Q n) x1 v_undos v_cames v_hill v_now v_kept := h
      unfold F_X7_takes_2 at h
      refine lv_iload_n hx hb dX7_takes_2 rfl (lv_at hl 1 rfl) ?_
      refine lv_bipush (v := 46) hx hb dX7_takes_3 (by decide) ?_
      refine lv_icmp_ge (tgt := 26) hx hb dX7_takes_5 (by decide) (fun c_1 => ?_) (fun c_1 => ?_)
      · replace h := h.1 c_1
        refine lv_iconst (v := 0) hx hb dX7_takes_26 (by decide) ?_
        refine lv_istore_n (lv' := [(1, .int (0 : Int32)), (0, .ref a)]) hx hb dX7_takes_27 rfl hl (by decide) rfl (fun ls hl => ?_)
        exact ih28 (0 : Int32) v_undos v_cames v_hill v_now v_kept _ _ _ h hP hD hS (lv_sub hl [1, 0] rfl)
      · replace h := h.2 c_1
        refine lv_aload_n hx hb dX7_takes_8 rfl (lv_at hl 0 rfl) ?_
        refine va_get (D := (dC, dI)) (ci := 7) (v := .ref a_hill) (C := RX7) (T := TX7) (N := 19) hx hb hts iwX7_takes_X7 hown hK hP 0 rfl rfl 7 (by decide) f16 (fun _ h9 => h9) rfl dX7_takes_9 ?_
        refine lv_iload_n hx hb dX7_takes_12 rfl (lv_at hl 1 rfl) ?_
        refine lv_aload_n hx hb dX7_takes_13 rfl (lv_at hl 0 rfl) ?_
        refine va_get (D := (dC, dI)) (ci := 7) (v := .ref a_read) (C := RX7) (T := TX7) (N := 19) hx hb hts iwX7_takes_X7 hown hK hP 0 rfl rfl 6 (by decide) f13 (fun _ h9 => h9) rfl dX7_takes_14 ?_
        refine lv_iload_n hx hb dX7_takes_17 rfl (lv_at hl 1 rfl) ?_
        have g_2 := h.1
        replace h := h.2
        refine va_iald hx hb hK hP 1 0 rfl rfl g_2 dX7_takes_18 ?_
        have g_3 := h.1
        replace h := h.2
        refine va_iast hx hb hK hP hD hS 2 0 rfl rfl g_3 dX7_takes_19 (fun H locs hP hD hS => ?_)
        obtain ⟨f_4, e_5⟩ : ∃ y : Nat → Int32, y = upd v_hill (x1).toNatClampNeg (v_read (x1).toNatClampNeg) := ⟨_, rfl⟩
        replace h := h f_4 e_5
        replace hP : va_P (dC, dI) vwCl [(a, .inr (7, [.ref a_text, .int v_size, .int v_at, .int v_begin, .int v_token, .int v_told, .ref a_read, .ref a_hill, .ref a_now, .ref a_undone, .int v_undos, .ref a_need, .int v_cames, .ref a_cameOf, .ref a_places, .ref a_firstRow, .int v_each, .long v_trace, .ref a_kept])), (a_read, .inl (cyI, 46, .inl v_read)), (a_hill, .inl (cyI, 46, .inl f_4)), (a_now, .inl (cyI, 15, .inl v_now)), (a_kept, .inl (cyI, 334, .inl v_kept))] H := by rw [e_5]; exact hP
        replace hD : va_D A [(a, .inr (7, [.ref a_text, .int v_size, .int v_at, .int v_begin, .int v_token, .int v_told, .ref a_read, .ref a_hill, .ref a_now, .ref a_undone, .int v_undos, .ref a_need, .int v_cames, .ref a_cameOf, .ref a_places, .ref a_firstRow, .int v_each, .long v_trace, .ref a_kept])), (a_read, .inl (cyI, 46, .inl v_read)), (a_hill, .inl (cyI, 46, .inl f_4)), (a_now, .inl (cyI, 15, .inl v_now)), (a_kept, .inl (cyI, 334, .inl v_kept))] := by rw [e_5]; exact hD
        obtain ⟨x1_6, e_7⟩ : ∃ y : Int32, y = (x1 + (1 : Int32)) := ⟨_, rfl⟩
        replace h := h x1_6 e_7
        refine lv_iinc (v := x1_6) (lv' := [(1, .int x1_6), (0, .ref a)]) hx hb dX7_takes_20 hl (k := 1) rfl (by rw [e_7]; rfl) (by decide) rfl (fun ls hl => ?_)
        refine lv_goto (tgt := 2) hx hb dX7_takes_23 (by decide) ?_
        exact ih2 x1_6 v_undos v_cames f_4 v_now v_kept _ _ _ h hP hD hS (lv_sub hl [1, 0] rfl)
    · intro x1 v_undos v_cames v_hill v_now v_kept H locs ls h hP hD hS hl
      replace h : F_X7_takes_28 v_read Q (wp_X7_takes v_read Q n) x1 v_undos v_cames v_hill v_now v_kept := h
      unfold F_X7_takes_28 at h
      refine lv_iload_n hx hb dX7_takes_28 rfl (lv_at hl 1 rfl) ?_
      refine lv_bipush (v := 15) hx hb dX7_takes_29 (by decide) ?_
      refine lv_icmp_ge (tgt := 47) hx hb dX7_takes_31 (by decide) (fun c_8 => ?_) (fun c_8 => ?_)
      · replace h := h.1 c_8
        refine lv_iconst (v := 0) hx hb dX7_takes_47 (by decide) ?_
        refine lv_istore_n (lv' := [(1, .int (0 : Int32)), (0, .ref a)]) hx hb dX7_takes_48 rfl hl (by decide) rfl (fun ls hl => ?_)
        exact ih49 (0 : Int32) v_undos v_cames v_hill v_now v_kept _ _ _ h hP hD hS (lv_sub hl [1, 0] rfl)
      · replace h := h.2 c_8
        refine lv_aload_n hx hb dX7_takes_34 rfl (lv_at hl 0 rfl) ?_
        refine va_get (D := (dC, dI)) (ci := 7) (v := .ref a_now) (C := RX7) (T := TX7) (N := 19) hx hb hts iwX7_takes_X7 hown hK hP 0 rfl rfl 8 (by decide) f19 (fun _ h9 => h9) rfl dX7_takes_35 ?_
        refine lv_iload_n hx hb dX7_takes_38 rfl (lv_at hl 1 rfl) ?_
        refine lv_iconst (v := 0) hx hb dX7_takes_39 (by decide) ?_
        have g_9 := h.1
        replace h := h.2
        refine va_iast hx hb hK hP hD hS 3 0 rfl rfl g_9 dX7_takes_40 (fun H locs hP hD hS => ?_)
        obtain ⟨f_10, e_11⟩ : ∃ y : Nat → Int32, y = upd v_now (x1).toNatClampNeg (0 : Int32) := ⟨_, rfl⟩
        replace h := h f_10 e_11
        replace hP : va_P (dC, dI) vwCl [(a, .inr (7, [.ref a_text, .int v_size, .int v_at, .int v_begin, .int v_token, .int v_told, .ref a_read, .ref a_hill, .ref a_now, .ref a_undone, .int v_undos, .ref a_need, .int v_cames, .ref a_cameOf, .ref a_places, .ref a_firstRow, .int v_each, .long v_trace, .ref a_kept])), (a_read, .inl (cyI, 46, .inl v_read)), (a_hill, .inl (cyI, 46, .inl v_hill)), (a_now, .inl (cyI, 15, .inl f_10)), (a_kept, .inl (cyI, 334, .inl v_kept))] H := by rw [e_11]; exact hP
        replace hD : va_D A [(a, .inr (7, [.ref a_text, .int v_size, .int v_at, .int v_begin, .int v_token, .int v_told, .ref a_read, .ref a_hill, .ref a_now, .ref a_undone, .int v_undos, .ref a_need, .int v_cames, .ref a_cameOf, .ref a_places, .ref a_firstRow, .int v_each, .long v_trace, .ref a_kept])), (a_read, .inl (cyI, 46, .inl v_read)), (a_hill, .inl (cyI, 46, .inl v_hill)), (a_now, .inl (cyI, 15, .inl f_10)), (a_kept, .inl (cyI, 334, .inl v_kept))] := by rw [e_11]; exact hD
        obtain ⟨x1_12, e_13⟩ : ∃ y : Int32, y = (x1 + (1 : Int32)) := ⟨_, rfl⟩
        replace h := h x1_12 e_13
        refine lv_iinc (v := x1_12) (lv' := [(1, .int x1_12), (0, .ref a)]) hx hb dX7_takes_41 hl (k := 1) rfl (by rw [e_13]; rfl) (by decide) rfl (fun ls hl => ?_)
        refine lv_goto (tgt := 28) hx hb dX7_takes_44 (by decide) ?_
        exact ih28 x1_12 v_undos v_cames v_hill f_10 v_kept _ _ _ h hP hD hS (lv_sub hl [1, 0] rfl)
    · intro x1 v_undos v_cames v_hill v_now v_kept H locs ls h hP hD hS hl
      replace h : F_X7_takes_49 v_read Q (wp_X7_takes v_read Q n) x1 v_undos v_cames v_hill v_now v_kept := h
      unfold F_X7_takes_49 at h
      refine lv_iload_n hx hb dX7_takes_49 rfl (lv_at hl 1 rfl) ?_
      refine lv_aload_n hx hb dX7_takes_50 rfl (lv_at hl 0 rfl) ?_
      refine va_get (D := (dC, dI)) (ci := 7) (v := .ref a_hill) (C := RX7) (T := TX7) (N := 19) hx hb hts iwX7_takes_X7 hown hK hP 0 rfl rfl 7 (by decide) f16 (fun _ h9 => h9) rfl dX7_takes_51 ?_
      refine lv_iconst (v := 2) hx hb dX7_takes_54 (by decide) ?_
      refine va_iald hx hb hK hP 2 0 rfl rfl (by unfold vp_in; decide) dX7_takes_55 ?_
      refine lv_icmp_ge (tgt := 109) hx hb dX7_takes_56 (by decide) (fun c_14 => ?_) (fun c_14 => ?_)
      · replace h := h.1 c_14
        refine lv_aload_n hx hb dX7_takes_109 rfl (lv_at hl 0 rfl) ?_
        refine lv_iconst (v := 0) hx hb dX7_takes_110 (by decide) ?_
        refine va_put (D := (dC, dI)) (ci := 7) (v := .int (0 : Int32)) (ty := .int) (C := RX7) (T := TX7) (N := 19) hx hb hts iwX7_takes_X7 tyX7 tyX7_ok nmX7 hown hK hP hD hS 0 rfl rfl 12 (by decide) f116 (fun _ h9 => h9) rfl (by decide +kernel) rfl rfl (Nat.le_of_ble_eq_true rfl) dX7_takes_111 (fun H locs hP hD hS => ?_)
        replace hP : va_P (dC, dI) vwCl [(a, .inr (7, [.ref a_text, .int v_size, .int v_at, .int v_begin, .int v_token, .int v_told, .ref a_read, .ref a_hill, .ref a_now, .ref a_undone, .int v_undos, .ref a_need, .int (0 : Int32), .ref a_cameOf, .ref a_places, .ref a_firstRow, .int v_each, .long v_trace, .ref a_kept])), (a_read, .inl (cyI, 46, .inl v_read)), (a_hill, .inl (cyI, 46, .inl v_hill)), (a_now, .inl (cyI, 15, .inl v_now)), (a_kept, .inl (cyI, 334, .inl v_kept))] H := hP
        replace hD : va_D A [(a, .inr (7, [.ref a_text, .int v_size, .int v_at, .int v_begin, .int v_token, .int v_told, .ref a_read, .ref a_hill, .ref a_now, .ref a_undone, .int v_undos, .ref a_need, .int (0 : Int32), .ref a_cameOf, .ref a_places, .ref a_firstRow, .int v_each, .long v_trace, .ref a_kept])), (a_read, .inl (cyI, 46, .inl v_read)), (a_hill, .inl (cyI, 46, .inl v_hill)), (a_now, .inl (cyI, 15, .inl v_now)), (a_kept, .inl (cyI, 334, .inl v_kept))] := hD
        refine lv_aload_n hx hb dX7_takes_114 rfl (lv_at hl 0 rfl) ?_
        refine lv_iconst (v := 0) hx hb dX7_takes_115 (by decide) ?_
        refine va_put (D := (dC, dI)) (ci := 7) (v := .int (0 : Int32)) (ty := .int) (C := RX7) (T := TX7) (N := 19) hx hb hts iwX7_takes_X7 tyX7 tyX7_ok nmX7 hown hK hP hD hS 0 rfl rfl 10 (by decide) f119 (fun _ h9 => h9) rfl (by decide +kernel) rfl rfl (Nat.le_of_ble_eq_true rfl) dX7_takes_116 (fun H locs hP hD hS => ?_)
        replace hP : va_P (dC, dI) vwCl [(a, .inr (7, [.ref a_text, .int v_size, .int v_at, .int v_begin, .int v_token, .int v_told, .ref a_read, .ref a_hill, .ref a_now, .ref a_undone, .int (0 : Int32), .ref a_need, .int (0 : Int32), .ref a_cameOf, .ref a_places, .ref a_firstRow, .int v_each, .long v_trace, .ref a_kept])), (a_read, .inl (cyI, 46, .inl v_read)), (a_hill, .inl (cyI, 46, .inl v_hill)), (a_now, .inl (cyI, 15, .inl v_now)), (a_kept, .inl (cyI, 334, .inl v_kept))] H := hP
        replace hD : va_D A [(a, .inr (7, [.ref a_text, .int v_size, .int v_at, .int v_begin, .int v_token, .int v_told, .ref a_read, .ref a_hill, .ref a_now, .ref a_undone, .int (0 : Int32), .ref a_need, .int (0 : Int32), .ref a_cameOf, .ref a_places, .ref a_firstRow, .int v_each, .long v_trace, .ref a_kept])), (a_read, .inl (cyI, 46, .inl v_read)), (a_hill, .inl (cyI, 46, .inl v_hill)), (a_now, .inl (cyI, 15, .inl v_now)), (a_kept, .inl (cyI, 334, .inl v_kept))] := hD
        refine lv_aload_n hx hb dX7_takes_119 rfl (lv_at hl 0 rfl) ?_
        refine va_get (D := (dC, dI)) (ci := 7) (v := .ref a_kept) (C := RX7) (T := TX7) (N := 19) hx hb hts iwX7_takes_X7 hown hK hP 0 rfl rfl 18 (by decide) f37 (fun _ h9 => h9) rfl dX7_takes_120 ?_
        refine lv_iconst (v := 0) hx hb dX7_takes_123 (by decide) ?_
        refine lv_iconst (v := 0) hx hb dX7_takes_124 (by decide) ?_
        refine va_iast hx hb hK hP hD hS 4 0 rfl rfl (by unfold vp_in; decide) dX7_takes_125 (fun H locs hP hD hS => ?_)
        obtain ⟨f_15, e_16⟩ : ∃ y : Nat → Int32, y = upd v_kept ((0 : Int32)).toNatClampNeg (0 : Int32) := ⟨_, rfl⟩
        replace h := h f_15 e_16
        replace hP : va_P (dC, dI) vwCl [(a, .inr (7, [.ref a_text, .int v_size, .int v_at, .int v_begin, .int v_token, .int v_told, .ref a_read, .ref a_hill, .ref a_now, .ref a_undone, .int (0 : Int32), .ref a_need, .int (0 : Int32), .ref a_cameOf, .ref a_places, .ref a_firstRow, .int v_each, .long v_trace, .ref a_kept])), (a_read, .inl (cyI, 46, .inl v_read)), (a_hill, .inl (cyI, 46, .inl v_hill)), (a_now, .inl (cyI, 15, .inl v_now)), (a_kept, .inl (cyI, 334, .inl f_15))] H := by rw [e_16]; exact hP
        replace hD : va_D A [(a, .inr (7, [.ref a_text, .int v_size, .int v_at, .int v_begin, .int v_token, .int v_told, .ref a_read, .ref a_hill, .ref a_now, .ref a_undone, .int (0 : Int32), .ref a_need, .int (0 : Int32), .ref a_cameOf, .ref a_places, .ref a_firstRow, .int v_each, .long v_trace, .ref a_kept])), (a_read, .inl (cyI, 46, .inl v_read)), (a_hill, .inl (cyI, 46, .inl v_hill)), (a_now, .inl (cyI, 15, .inl v_now)), (a_kept, .inl (cyI, 334, .inl f_15))] := by rw [e_16]; exact hD
        refine lv_aload_n hx hb dX7_takes_126 rfl (lv_at hl 0 rfl) ?_
        refine va_get (D := (dC, dI)) (ci := 7) (v := .ref a_kept) (C := RX7) (T := TX7) (N := 19) hx hb hts iwX7_takes_X7 hown hK hP 0 rfl rfl 18 (by decide) f37 (fun _ h9 => h9) rfl dX7_takes_127 ?_
        refine lv_sipush (v := 167) hx hb dX7_takes_130 (by decide) ?_
        refine lv_iconst (v := 0) hx hb dX7_takes_133 (by decide) ?_
        refine va_iast hx hb hK hP hD hS 4 0 rfl rfl (by unfold vp_in; decide) dX7_takes_134 (fun H locs hP hD hS => ?_)
        obtain ⟨f_17, e_18⟩ : ∃ y : Nat → Int32, y = upd f_15 ((167 : Int32)).toNatClampNeg (0 : Int32) := ⟨_, rfl⟩
        replace h := h f_17 e_18
        replace hP : va_P (dC, dI) vwCl [(a, .inr (7, [.ref a_text, .int v_size, .int v_at, .int v_begin, .int v_token, .int v_told, .ref a_read, .ref a_hill, .ref a_now, .ref a_undone, .int (0 : Int32), .ref a_need, .int (0 : Int32), .ref a_cameOf, .ref a_places, .ref a_firstRow, .int v_each, .long v_trace, .ref a_kept])), (a_read, .inl (cyI, 46, .inl v_read)), (a_hill, .inl (cyI, 46, .inl v_hill)), (a_now, .inl (cyI, 15, .inl v_now)), (a_kept, .inl (cyI, 334, .inl f_17))] H := by rw [e_18]; exact hP
        replace hD : va_D A [(a, .inr (7, [.ref a_text, .int v_size, .int v_at, .int v_begin, .int v_token, .int v_told, .ref a_read, .ref a_hill, .ref a_now, .ref a_undone, .int (0 : Int32), .ref a_need, .int (0 : Int32), .ref a_cameOf, .ref a_places, .ref a_firstRow, .int v_each, .long v_trace, .ref a_kept])), (a_read, .inl (cyI, 46, .inl v_read)), (a_hill, .inl (cyI, 46, .inl v_hill)), (a_now, .inl (cyI, 15, .inl v_now)), (a_kept, .inl (cyI, 334, .inl f_17))] := by rw [e_18]; exact hD
        exact grv5 hx hb hr hlocks h hP hD hS dX7_takes_135
      · replace h := h.2 c_14
        refine lv_aload_n hx hb dX7_takes_59 rfl (lv_at hl 0 rfl) ?_
        refine va_get (D := (dC, dI)) (ci := 7) (v := .ref a_now) (C := RX7) (T := TX7) (N := 19) hx hb hts iwX7_takes_X7 hown hK hP 0 rfl rfl 8 (by decide) f19 (fun _ h9 => h9) rfl dX7_takes_60 ?_
        refine lv_iconst (v := 3) hx hb dX7_takes_63 (by decide) ?_
        refine lv_iconst (v := 2) hx hb dX7_takes_64 (by decide) ?_
        refine lv_iload_n hx hb dX7_takes_65 rfl (lv_at hl 1 rfl) ?_
        refine lv_imul hx hb dX7_takes_66 ?_
        refine lv_iadd hx hb dX7_takes_67 ?_
        refine lv_aload_n hx hb dX7_takes_68 rfl (lv_at hl 0 rfl) ?_
        refine va_get (D := (dC, dI)) (ci := 7) (v := .ref a_hill) (C := RX7) (T := TX7) (N := 19) hx hb hts iwX7_takes_X7 hown hK hP 0 rfl rfl 7 (by decide) f16 (fun _ h9 => h9) rfl dX7_takes_69 ?_
        refine lv_bipush (v := 22) hx hb dX7_takes_72 (by decide) ?_
        refine lv_iconst (v := 4) hx hb dX7_takes_74 (by decide) ?_
        refine lv_iload_n hx hb dX7_takes_75 rfl (lv_at hl 1 rfl) ?_
        refine lv_imul hx hb dX7_takes_76 ?_
        refine lv_iadd hx hb dX7_takes_77 ?_
        have g_19 := h.1
        replace h := h.2
        refine va_iald hx hb hK hP 2 0 rfl rfl g_19 dX7_takes_78 ?_
        have g_20 := h.1
        replace h := h.2
        refine va_iast hx hb hK hP hD hS 3 0 rfl rfl g_20 dX7_takes_79 (fun H locs hP hD hS => ?_)
        obtain ⟨f_21, e_22⟩ : ∃ y : Nat → Int32, y = upd v_now (((3 : Int32) + ((2 : Int32) * x1))).toNatClampNeg (v_hill (((22 : Int32) + ((4 : Int32) * x1))).toNatClampNeg) := ⟨_, rfl⟩
        replace h := h f_21 e_22
        replace hP : va_P (dC, dI) vwCl [(a, .inr (7, [.ref a_text, .int v_size, .int v_at, .int v_begin, .int v_token, .int v_told, .ref a_read, .ref a_hill, .ref a_now, .ref a_undone, .int v_undos, .ref a_need, .int v_cames, .ref a_cameOf, .ref a_places, .ref a_firstRow, .int v_each, .long v_trace, .ref a_kept])), (a_read, .inl (cyI, 46, .inl v_read)), (a_hill, .inl (cyI, 46, .inl v_hill)), (a_now, .inl (cyI, 15, .inl f_21)), (a_kept, .inl (cyI, 334, .inl v_kept))] H := by rw [e_22]; exact hP
        replace hD : va_D A [(a, .inr (7, [.ref a_text, .int v_size, .int v_at, .int v_begin, .int v_token, .int v_told, .ref a_read, .ref a_hill, .ref a_now, .ref a_undone, .int v_undos, .ref a_need, .int v_cames, .ref a_cameOf, .ref a_places, .ref a_firstRow, .int v_each, .long v_trace, .ref a_kept])), (a_read, .inl (cyI, 46, .inl v_read)), (a_hill, .inl (cyI, 46, .inl v_hill)), (a_now, .inl (cyI, 15, .inl f_21)), (a_kept, .inl (cyI, 334, .inl v_kept))] := by rw [e_22]; exact hD
        refine lv_aload_n hx hb dX7_takes_80 rfl (lv_at hl 0 rfl) ?_
        refine va_get (D := (dC, dI)) (ci := 7) (v := .ref a_now) (C := RX7) (T := TX7) (N := 19) hx hb hts iwX7_takes_X7 hown hK hP 0 rfl rfl 8 (by decide) f19 (fun _ h9 => h9) rfl dX7_takes_81 ?_
        refine lv_iconst (v := 4) hx hb dX7_takes_84 (by decide) ?_
        refine lv_iconst (v := 2) hx hb dX7_takes_85 (by decide) ?_
        refine lv_iload_n hx hb dX7_takes_86 rfl (lv_at hl 1 rfl) ?_
        refine lv_imul hx hb dX7_takes_87 ?_
        refine lv_iadd hx hb dX7_takes_88 ?_
        refine lv_aload_n hx hb dX7_takes_89 rfl (lv_at hl 0 rfl) ?_
        refine va_get (D := (dC, dI)) (ci := 7) (v := .ref a_hill) (C := RX7) (T := TX7) (N := 19) hx hb hts iwX7_takes_X7 hown hK hP 0 rfl rfl 7 (by decide) f16 (fun _ h9 => h9) rfl dX7_takes_90 ?_
        refine lv_bipush (v := 22) hx hb dX7_takes_93 (by decide) ?_
        refine lv_iconst (v := 4) hx hb dX7_takes_95 (by decide) ?_
        refine lv_iload_n hx hb dX7_takes_96 rfl (lv_at hl 1 rfl) ?_
        refine lv_imul hx hb dX7_takes_97 ?_
        refine lv_iadd hx hb dX7_takes_98 ?_
        refine lv_iconst (v := 1) hx hb dX7_takes_99 (by decide) ?_
        refine lv_iadd hx hb dX7_takes_100 ?_
        have g_23 := h.1
        replace h := h.2
        refine va_iald hx hb hK hP 2 0 rfl rfl g_23 dX7_takes_101 ?_
        have g_24 := h.1
        replace h := h.2
        refine va_iast hx hb hK hP hD hS 3 0 rfl rfl g_24 dX7_takes_102 (fun H locs hP hD hS => ?_)
        obtain ⟨f_25, e_26⟩ : ∃ y : Nat → Int32, y = upd f_21 (((4 : Int32) + ((2 : Int32) * x1))).toNatClampNeg (v_hill ((((22 : Int32) + ((4 : Int32) * x1)) + (1 : Int32))).toNatClampNeg) := ⟨_, rfl⟩
        replace h := h f_25 e_26
        replace hP : va_P (dC, dI) vwCl [(a, .inr (7, [.ref a_text, .int v_size, .int v_at, .int v_begin, .int v_token, .int v_told, .ref a_read, .ref a_hill, .ref a_now, .ref a_undone, .int v_undos, .ref a_need, .int v_cames, .ref a_cameOf, .ref a_places, .ref a_firstRow, .int v_each, .long v_trace, .ref a_kept])), (a_read, .inl (cyI, 46, .inl v_read)), (a_hill, .inl (cyI, 46, .inl v_hill)), (a_now, .inl (cyI, 15, .inl f_25)), (a_kept, .inl (cyI, 334, .inl v_kept))] H := by rw [e_26]; exact hP
        replace hD : va_D A [(a, .inr (7, [.ref a_text, .int v_size, .int v_at, .int v_begin, .int v_token, .int v_told, .ref a_read, .ref a_hill, .ref a_now, .ref a_undone, .int v_undos, .ref a_need, .int v_cames, .ref a_cameOf, .ref a_places, .ref a_firstRow, .int v_each, .long v_trace, .ref a_kept])), (a_read, .inl (cyI, 46, .inl v_read)), (a_hill, .inl (cyI, 46, .inl v_hill)), (a_now, .inl (cyI, 15, .inl f_25)), (a_kept, .inl (cyI, 334, .inl v_kept))] := by rw [e_26]; exact hD
        obtain ⟨x1_27, e_28⟩ : ∃ y : Int32, y = (x1 + (1 : Int32)) := ⟨_, rfl⟩
        replace h := h x1_27 e_28
        refine lv_iinc (v := x1_27) (lv' := [(1, .int x1_27), (0, .ref a)]) hx hb dX7_takes_103 hl (k := 1) rfl (by rw [e_28]; rfl) (by decide) rfl (fun ls hl => ?_)
        refine lv_goto (tgt := 49) hx hb dX7_takes_106 (by decide) ?_
        exact ih49 x1_27 v_undos v_cames v_hill f_25 v_kept _ _ _ h hP hD hS (lv_sub hl [1, 0] rfl)
set_option maxHeartbeats 4000000 in
set_option maxRecDepth 100000 in
theorem c_X7_takes (l : Launch) (dC : Nat → ClassId) (dI : Nat → Nat → Nat) (cyC cyI cyZ : ClassId) (sz : Nat) (a a_text a_read a_hill a_now a_undone a_need a_cameOf a_places a_firstRow a_kept : Nat) (v_size : Int32) (v_at : Int32) (v_begin : Int32) (v_token : Int32) (v_told : Int32) (v_undos : Int32) (v_cames : Int32) (v_each : Int32) (v_trace : Int64) (v_read : Nat → Int32) (v_hill : Nat → Int32) (v_now : Nat → Int32) (v_kept : Nat → Int32) {Q : Int32 → Int32 → (Nat → Int32) → (Nat → Int32) → (Nat → Int32) → Prop} (h : q_X7_takes v_undos v_cames v_read v_hill v_now v_kept Q) : Met l yX7_takes wsX7_takes ({ frames := 0, cells := 0, slots := 0, locals := 0 }) (gPc [.ref a] (dC, dI) (gTy cyC cyI cyZ) sz [(a, .inr (7, [.ref a_text, .int v_size, .int v_at, .int v_begin, .int v_token, .int v_told, .ref a_read, .ref a_hill, .ref a_now, .ref a_undone, .int v_undos, .ref a_need, .int v_cames, .ref a_cameOf, .ref a_places, .ref a_firstRow, .int v_each, .long v_trace, .ref a_kept])), (a_read, .inl (cyI, 46, .inl v_read)), (a_hill, .inl (cyI, 46, .inl v_hill)), (a_now, .inl (cyI, 15, .inl v_now)), (a_kept, .inl (cyI, 334, .inl v_kept))]) (gQv5 Q (dC, dI) (va_A [(a, .inr (7, [.ref a_text, .int v_size, .int v_at, .int v_begin, .int v_token, .int v_told, .ref a_read, .ref a_hill, .ref a_now, .ref a_undone, .int v_undos, .ref a_need, .int v_cames, .ref a_cameOf, .ref a_places, .ref a_firstRow, .int v_each, .long v_trace, .ref a_kept])), (a_read, .inl (cyI, 46, .inl v_read)), (a_hill, .inl (cyI, 46, .inl v_hill)), (a_now, .inl (cyI, 15, .inl v_now)), (a_kept, .inl (cyI, 334, .inl v_kept))] sz) (fun (u1 : Int32) (u2 : Int32) (u3 : Nat → Int32) (u4 : Nat → Int32) (u5 : Nat → Int32) => [(a, .inr (7, [.ref a_text, .int v_size, .int v_at, .int v_begin, .int v_token, .int v_told, .ref a_read, .ref a_hill, .ref a_now, .ref a_undone, .int u1, .ref a_need, .int u2, .ref a_cameOf, .ref a_places, .ref a_firstRow, .int v_each, .long v_trace, .ref a_kept])), (a_read, .inl (cyI, 46, .inl v_read)), (a_hill, .inl (cyI, 46, .inl u3)), (a_now, .inl (cyI, 15, .inl u4)), (a_kept, .inl (cyI, 334, .inl u5))])) 0 0 (va_A [(a, .inr (7, [.ref a_text, .int v_size, .int v_at, .int v_begin, .int v_token, .int v_told, .ref a_read, .ref a_hill, .ref a_now, .ref a_undone, .int v_undos, .ref a_need, .int v_cames, .ref a_cameOf, .ref a_places, .ref a_firstRow, .int v_each, .long v_trace, .ref a_kept])), (a_read, .inl (cyI, 46, .inl v_read)), (a_hill, .inl (cyI, 46, .inl v_hill)), (a_now, .inl (cyI, 15, .inl v_now)), (a_kept, .inl (cyI, 334, .inl v_kept))] sz) := by
  refine gMet (cc := cX7_takes) (maxL := 2) (ret := none) (own := RX7) (fun A => gQv5 Q (dC, dI) A (fun (u1 : Int32) (u2 : Int32) (u3 : Nat → Int32) (u4 : Nat → Int32) (u5 : Nat → Int32) => [(a, .inr (7, [.ref a_text, .int v_size, .int v_at, .int v_begin, .int v_token, .int v_told, .ref a_read, .ref a_hill, .ref a_now, .ref a_undone, .int u1, .ref a_need, .int u2, .ref a_cameOf, .ref a_places, .ref a_firstRow, .int v_each, .long v_trace, .ref a_kept])), (a_read, .inl (cyI, 46, .inl v_read)), (a_hill, .inl (cyI, 46, .inl u3)), (a_now, .inl (cyI, 15, .inl u4)), (a_kept, .inl (cyI, 334, .inl u5))])) (by decide) rfl rfl (Nat.le_of_ble_eq_true rfl) ?_
  intro p e s m below meth c A ls C0 _ hK hN hP hD hA hl
  obtain ⟨hx, hb, hr, hml, hown, hts, hlocks⟩ := id C0
  have f116 := hts (.fieldLink RX7 116 "LastOchreModel" "cames" "I") (by decide +kernel)
  have f119 := hts (.fieldLink RX7 119 "LastOchreModel" "undos" "I") (by decide +kernel)
  have f13 := hts (.fieldLink RX7 13 "LastOchreModel" "read" "[I") (by decide +kernel)
  have f16 := hts (.fieldLink RX7 16 "LastOchreModel" "hill" "[I") (by decide +kernel)
  have f19 := hts (.fieldLink RX7 19 "LastOchreModel" "now" "[I") (by decide +kernel)
  have f37 := hts (.fieldLink RX7 37 "LastOchreModel" "kept" "[I") (by decide +kernel)
  have hS : va_S A s.heap s.heap [] := va_S.rf
  replace hl : lv_has ls 2 [(0, .ref a)] := hl
  unfold q_X7_takes at h
  obtain ⟨n, h⟩ := h
  obtain ⟨ih2, ih28, ih49⟩ := w_X7_takes (l := l) (e := e) (below := below) dC dI cyC cyI cyZ a a_text a_read a_hill a_now a_undone a_need a_cameOf a_places a_firstRow a_kept v_size v_at v_begin v_token v_told v_each v_trace v_read Q C0 hK hN hA n
  unfold F_X7_takes_e at h
  refine lv_iconst (v := 0) hx hb dX7_takes_0 (by decide) ?_
  refine lv_istore_n (lv' := [(1, .int (0 : Int32)), (0, .ref a)]) hx hb dX7_takes_1 rfl hl (by decide) rfl (fun ls hl => ?_)
  exact ih2 (0 : Int32) v_undos v_cames v_hill v_now v_kept _ _ _ h hP hD hS (lv_sub hl [1, 0] rfl)

def F_X7_hill_e (v_text : Nat → Int32) (Q : Int32 → Int32 → Int32 → Int32 → Int32 → Int32 → Int32 → Int32 → (Nat → Int32) → (Nat → Int32) → (Nat → Int32) → (Nat → Int32) → Prop) (rec : Nat → Int32 → Int32 → Int32 → Int32 → Int32 → Int32 → Int32 → Int32 → (Nat → Int32) → (Nat → Int32) → (Nat → Int32) → (Nat → Int32) → Prop) (v_size : Int32) (v_at : Int32) (v_begin : Int32) (v_token : Int32) (v_told : Int32) (v_undos : Int32) (v_cames : Int32) (v_read : Nat → Int32) (v_hill : Nat → Int32) (v_now : Nat → Int32) (v_kept : Nat → Int32) : Prop :=
  q_X7_plain v_read (fun (u_1 : Nat → Int32) => q_X7_reads v_size (0 : Int32) v_begin v_token v_told v_text (fun (u_2 : Int32) (u_3 : Int32) (u_4 : Int32) (u_5 : Int32) => rec 15 (0 : Int32) v_size u_2 u_3 u_4 u_5 v_undos v_cames u_1 v_hill v_now v_kept))
def F_X7_hill_15 (v_text : Nat → Int32) (Q : Int32 → Int32 → Int32 → Int32 → Int32 → Int32 → Int32 → Int32 → (Nat → Int32) → (Nat → Int32) → (Nat → Int32) → (Nat → Int32) → Prop) (rec : Nat → Int32 → Int32 → Int32 → Int32 → Int32 → Int32 → Int32 → Int32 → (Nat → Int32) → (Nat → Int32) → (Nat → Int32) → (Nat → Int32) → Prop) (x1 : Int32) (v_size : Int32) (v_at : Int32) (v_begin : Int32) (v_token : Int32) (v_told : Int32) (v_undos : Int32) (v_cames : Int32) (v_read : Nat → Int32) (v_hill : Nat → Int32) (v_now : Nat → Int32) (v_kept : Nat → Int32) : Prop :=
  (v_token = 0 → (q_X7_takes v_undos v_cames v_read v_hill v_now v_kept (fun (u_7 : Int32) (u_8 : Int32) (u_9 : Nat → Int32) (u_10 : Nat → Int32) (u_11 : Nat → Int32) => Q x1 (0 : Int32) v_at v_begin v_token v_told u_7 u_8 v_read u_9 u_10 u_11))) ∧ (¬ v_token = 0 → (q_X7_readItem v_size v_at v_begin v_token v_told v_read v_text (fun (r_12 : Int32) (u_13 : Int32) (u_14 : Int32) (u_15 : Int32) (u_16 : Int32) (u_17 : Nat → Int32) => (¬ r_12 = 0 → (∀ x1_19 : Int32, x1_19 = (x1 + (1 : Int32)) → (q_X7_reads v_size u_13 u_14 u_15 u_16 v_text (fun (u_21 : Int32) (u_22 : Int32) (u_23 : Int32) (u_24 : Int32) => rec 15 x1_19 v_size u_21 u_22 u_23 u_24 v_undos v_cames u_17 v_hill v_now v_kept)))) ∧ (r_12 = 0 → (Q ((-10 : Int32) - u_14) v_size u_13 u_14 u_15 u_16 v_undos v_cames u_17 v_hill v_now v_kept)))))
def wp_X7_hill (v_text : Nat → Int32) (Q : Int32 → Int32 → Int32 → Int32 → Int32 → Int32 → Int32 → Int32 → (Nat → Int32) → (Nat → Int32) → (Nat → Int32) → (Nat → Int32) → Prop) : Nat → Nat → Int32 → Int32 → Int32 → Int32 → Int32 → Int32 → Int32 → Int32 → (Nat → Int32) → (Nat → Int32) → (Nat → Int32) → (Nat → Int32) → Prop
  | 0 => fun _ _ _ _ _ _ _ _ _ _ _ _ _ => False
  | n + 1 => fun t x1 v_size v_at v_begin v_token v_told v_undos v_cames v_read v_hill v_now v_kept => if t = 15 then F_X7_hill_15 v_text Q (wp_X7_hill v_text Q n) x1 v_size v_at v_begin v_token v_told v_undos v_cames v_read v_hill v_now v_kept else False
def q_X7_hill (v_size : Int32) (v_at : Int32) (v_begin : Int32) (v_token : Int32) (v_told : Int32) (v_undos : Int32) (v_cames : Int32) (v_read : Nat → Int32) (v_text : Nat → Int32) (v_hill : Nat → Int32) (v_now : Nat → Int32) (v_kept : Nat → Int32) (Q : Int32 → Int32 → Int32 → Int32 → Int32 → Int32 → Int32 → Int32 → (Nat → Int32) → (Nat → Int32) → (Nat → Int32) → (Nat → Int32) → Prop) : Prop := ∃ n, F_X7_hill_e v_text Q (wp_X7_hill v_text Q n) v_size v_at v_begin v_token v_told v_undos v_cames v_read v_hill v_now v_kept
theorem iwX7_hill_X7 : ∀ w ∈ wsX70, w ∈ wsX7_hill := by decide +kernel
theorem hdV_X7_hill : yX7_hill.cls = RX7 ∧ yX7_hill.cls ≠ "java/lang/invoke/MethodHandle" ∧ yX7_hill.cls ≠ "java/lang/invoke/VarHandle" ∧ (parseMethodDescriptor yX7_hill.desc).map (fun d => d.parameters.length) = some 0 := by decide +kernel
set_option maxHeartbeats 4000000 in
set_option maxRecDepth 100000 in
theorem w_X7_hill {p : Program} {l : Launch} {e : Env} {s : State} {m : MethodId} {args : Array Value} {below : List Frame} {meth : Method} {c : Code} {A : Nat → Prop} (dC : Nat → ClassId) (dI : Nat → Nat → Nat) (cyC cyI cyZ : ClassId) (a a_text a_read a_hill a_now a_undone a_need a_cameOf a_places a_firstRow a_kept : Nat) (v_each : Int32) (v_trace : Int64) (v_text : Nat → Int32) (Q : Int32 → Int32 → Int32 → Int32 → Int32 → Int32 → Int32 → Int32 → (Nat → Int32) → (Nat → Int32) → (Nat → Int32) → (Nat → Int32) → Prop) (C0 : gAt cX7_hill (some .int) 2 RX7 wsX7_hill p s m meth c args) (hK : va_K (dC, dI) vwCl (gTy cyC cyI cyZ) s) (hN : nU s) (hA : ∀ q, s.heap.size ≤ q → A q) : ∀ n : Nat, (∀ (x1 : Int32) (v_size : Int32) (v_at : Int32) (v_begin : Int32) (v_token : Int32) (v_told : Int32) (v_undos : Int32) (v_cames : Int32) (v_read : Nat → Int32) (v_hill : Nat → Int32) (v_now : Nat → Int32) (v_kept : Nat → Int32) (H : Heap) (locs : List Loc) (ls : Array Slot), wp_X7_hill v_text Q n 15 x1 v_size v_at v_begin v_token v_told v_undos v_cames v_read v_hill v_now v_kept → va_P (dC, dI) vwCl [(a, .inr (7, [.ref a_text, .int v_size, .int v_at, .int v_begin, .int v_token, .int v_told, .ref a_read, .ref a_hill, .ref a_now, .ref a_undone, .int v_undos, .ref a_need, .int v_cames, .ref a_cameOf, .ref a_places, .ref a_firstRow, .int v_each, .long v_trace, .ref a_kept])), (a_read, .inl (cyI, 46, .inl v_read)), (a_text, .inl (cyI, 150, .inl v_text)), (a_hill, .inl (cyI, 46, .inl v_hill)), (a_now, .inl (cyI, 15, .inl v_now)), (a_kept, .inl (cyI, 334, .inl v_kept))] H → va_D A [(a, .inr (7, [.ref a_text, .int v_size, .int v_at, .int v_begin, .int v_token, .int v_told, .ref a_read, .ref a_hill, .ref a_now, .ref a_undone, .int v_undos, .ref a_need, .int v_cames, .ref a_cameOf, .ref a_places, .ref a_firstRow, .int v_each, .long v_trace, .ref a_kept])), (a_read, .inl (cyI, 46, .inl v_read)), (a_text, .inl (cyI, 150, .inl v_text)), (a_hill, .inl (cyI, 46, .inl v_hill)), (a_now, .inl (cyI, 15, .inl v_now)), (a_kept, .inl (cyI, 334, .inl v_kept))] → va_S A s.heap H locs → lv_has ls 2 [(0, .ref a), (1, .int x1)] → W p l e { frames := 7, cells := 0, slots := 0, locals := 151 } s m args below meth c H locs 0 0 (MQ below (gQi11 Q (dC, dI) A (fun (u1 : Int32) (u2 : Int32) (u3 : Int32) (u4 : Int32) (u5 : Int32) (u6 : Int32) (u7 : Int32) (u8 : Nat → Int32) (u9 : Nat → Int32) (u10 : Nat → Int32) (u11 : Nat → Int32) => [(a, .inr (7, [.ref a_text, .int u1, .int u2, .int u3, .int u4, .int u5, .ref a_read, .ref a_hill, .ref a_now, .ref a_undone, .int u6, .ref a_need, .int u7, .ref a_cameOf, .ref a_places, .ref a_firstRow, .int v_each, .long v_trace, .ref a_kept])), (a_read, .inl (cyI, 46, .inl u8)), (a_text, .inl (cyI, 150, .inl v_text)), (a_hill, .inl (cyI, 46, .inl u9)), (a_now, .inl (cyI, 15, .inl u10)), (a_kept, .inl (cyI, 334, .inl u11))])) args s 0 0 A) (F0 m 15 ls [])) := by
  obtain ⟨hx, hb, hr, hml, hown, hts, hlocks⟩ := id C0
  have f52 := hts (.fieldLink RX7 52 "LastOchreModel" "size" "I") (by decide +kernel)
  have f64 := hts (.fieldLink RX7 64 "LastOchreModel" "at" "I") (by decide +kernel)
  have f74 := hts (.fieldLink RX7 74 "LastOchreModel" "begin" "I") (by decide +kernel)
  have f77 := hts (.fieldLink RX7 77 "LastOchreModel" "token" "I") (by decide +kernel)
  intro n
  induction n with
  | zero => exact fun _ _ _ _ _ _ _ _ _ _ _ _ _ _ _ h => absurd h id
  | succ n ih =>
    have ih15 := ih
    · intro x1 v_size v_at v_begin v_token v_told v_undos v_cames v_read v_hill v_now v_kept H locs ls h hP hD hS hl
      replace h : F_X7_hill_15 v_text Q (wp_X7_hill v_text Q n) x1 v_size v_at v_begin v_token v_told v_undos v_cames v_read v_hill v_now v_kept := h
      unfold F_X7_hill_15 at h
      refine lv_aload_n hx hb dX7_hill_15 rfl (lv_at hl 0 rfl) ?_
      refine va_get (D := (dC, dI)) (ci := 7) (v := .int v_token) (C := RX7) (T := TX7) (N := 19) hx hb hts iwX7_hill_X7 hown hK hP 0 rfl rfl 4 (by decide) f77 (fun _ h9 => h9) rfl dX7_hill_16 ?_
      refine lv_if_eq (tgt := 47) hx hb dX7_hill_19 (by decide) (fun c_6 => ?_) (fun c_6 => ?_)
      · replace h := h.1 c_6
        refine lv_aload_n hx hb dX7_hill_47 rfl (lv_at hl 0 rfl) ?_
        refine lv_iconst (v := 0) hx hb dX7_hill_48 (by decide) ?_
        refine va_put (D := (dC, dI)) (ci := 7) (v := .int (0 : Int32)) (ty := .int) (C := RX7) (T := TX7) (N := 19) hx hb hts iwX7_hill_X7 tyX7 tyX7_ok nmX7 hown hK hP hD hS 0 rfl rfl 1 (by decide) f52 (fun _ h9 => h9) rfl (by decide +kernel) rfl rfl (Nat.le_of_ble_eq_true rfl) dX7_hill_49 (fun H locs hP hD hS => ?_)
        replace hP : va_P (dC, dI) vwCl [(a, .inr (7, [.ref a_text, .int (0 : Int32), .int v_at, .int v_begin, .int v_token, .int v_told, .ref a_read, .ref a_hill, .ref a_now, .ref a_undone, .int v_undos, .ref a_need, .int v_cames, .ref a_cameOf, .ref a_places, .ref a_firstRow, .int v_each, .long v_trace, .ref a_kept])), (a_read, .inl (cyI, 46, .inl v_read)), (a_text, .inl (cyI, 150, .inl v_text)), (a_hill, .inl (cyI, 46, .inl v_hill)), (a_now, .inl (cyI, 15, .inl v_now)), (a_kept, .inl (cyI, 334, .inl v_kept))] H := hP
        replace hD : va_D A [(a, .inr (7, [.ref a_text, .int (0 : Int32), .int v_at, .int v_begin, .int v_token, .int v_told, .ref a_read, .ref a_hill, .ref a_now, .ref a_undone, .int v_undos, .ref a_need, .int v_cames, .ref a_cameOf, .ref a_places, .ref a_firstRow, .int v_each, .long v_trace, .ref a_kept])), (a_read, .inl (cyI, 46, .inl v_read)), (a_text, .inl (cyI, 150, .inl v_text)), (a_hill, .inl (cyI, 46, .inl v_hill)), (a_now, .inl (cyI, 15, .inl v_now)), (a_kept, .inl (cyI, 334, .inl v_kept))] := hD
        refine lv_aload_n hx hb dX7_hill_52 rfl (lv_at hl 0 rfl) ?_
        refine gV_v5 (As := []) (rest := []) ⟨hx, hb, hml, hown, hts⟩ (c_X7_takes l dC dI cyC cyI cyZ _ a a_text a_read a_hill a_now a_undone a_need a_cameOf a_places a_firstRow a_kept (0 : Int32) v_at v_begin v_token v_told v_undos v_cames v_each v_trace v_read v_hill v_now v_kept h) (cwV 0 hts gX7_hill_X7_takes rfl rfl rfl hdV_X7_takes ⟨Nat.le_of_ble_eq_true rfl, Nat.le_of_ble_eq_true rfl⟩) hK hN hP hD hS hA [0, 1, 3, 4, 5] (by decide) rfl (ci := 7) rfl rfl rfl hl.1 rfl (Nat.le_of_ble_eq_true rfl) dX7_hill_53 ⟨Nat.zero_le _, Nat.zero_le _⟩ (wr := [(a_text, .inl (cyI, 150, .inl v_text))]) [2] rfl (by decide) (by decide) (fun u_7 u_8 u_9 u_10 u_11 H locs h hP hD hS => ?_)
        replace hP : va_P (dC, dI) vwCl [(a_text, .inl (cyI, 150, .inl v_text)), (a, .inr (7, [.ref a_text, .int (0 : Int32), .int v_at, .int v_begin, .int v_token, .int v_told, .ref a_read, .ref a_hill, .ref a_now, .ref a_undone, .int u_7, .ref a_need, .int u_8, .ref a_cameOf, .ref a_places, .ref a_firstRow, .int v_each, .long v_trace, .ref a_kept])), (a_read, .inl (cyI, 46, .inl v_read)), (a_hill, .inl (cyI, 46, .inl u_9)), (a_now, .inl (cyI, 15, .inl u_10)), (a_kept, .inl (cyI, 334, .inl u_11))] H := hP
        replace hD : va_D A [(a_text, .inl (cyI, 150, .inl v_text)), (a, .inr (7, [.ref a_text, .int (0 : Int32), .int v_at, .int v_begin, .int v_token, .int v_told, .ref a_read, .ref a_hill, .ref a_now, .ref a_undone, .int u_7, .ref a_need, .int u_8, .ref a_cameOf, .ref a_places, .ref a_firstRow, .int v_each, .long v_trace, .ref a_kept])), (a_read, .inl (cyI, 46, .inl v_read)), (a_hill, .inl (cyI, 46, .inl u_9)), (a_now, .inl (cyI, 15, .inl u_10)), (a_kept, .inl (cyI, 334, .inl u_11))] := hD
        refine lv_iload_n hx hb dX7_hill_56 rfl (lv_at hl 1 rfl) ?_
        exact gri11 hx hb hr hlocks h (hP.sub (ws' := [(a, .inr (7, [.ref a_text, .int (0 : Int32), .int v_at, .int v_begin, .int v_token, .int v_told, .ref a_read, .ref a_hill, .ref a_now, .ref a_undone, .int u_7, .ref a_need, .int u_8, .ref a_cameOf, .ref a_places, .ref a_firstRow, .int v_each, .long v_trace, .ref a_kept])), (a_read, .inl (cyI, 46, .inl v_read)), (a_text, .inl (cyI, 150, .inl v_text)), (a_hill, .inl (cyI, 46, .inl u_9)), (a_now, .inl (cyI, 15, .inl u_10)), (a_kept, .inl (cyI, 334, .inl u_11))]) [1, 2, 0, 3, 4, 5] rfl) (hD.sub (ws' := [(a, .inr (7, [.ref a_text, .int (0 : Int32), .int v_at, .int v_begin, .int v_token, .int v_told, .ref a_read, .ref a_hill, .ref a_now, .ref a_undone, .int u_7, .ref a_need, .int u_8, .ref a_cameOf, .ref a_places, .ref a_firstRow, .int v_each, .long v_trace, .ref a_kept])), (a_read, .inl (cyI, 46, .inl v_read)), (a_text, .inl (cyI, 150, .inl v_text)), (a_hill, .inl (cyI, 46, .inl u_9)), (a_now, .inl (cyI, 15, .inl u_10)), (a_kept, .inl (cyI, 334, .inl u_11))]) [1, 2, 0, 3, 4, 5] (by decide) rfl) hS dX7_hill_57
      · replace h := h.2 c_6
        refine lv_aload_n hx hb dX7_hill_22 rfl (lv_at hl 0 rfl) ?_
        refine gV_i5 (As := []) (rest := []) ⟨hx, hb, hml, hown, hts⟩ (c_X7_readItem l dC dI cyC cyI cyZ _ a a_text a_read a_hill a_now a_undone a_need a_cameOf a_places a_firstRow a_kept v_size v_at v_begin v_token v_told v_undos v_cames v_each v_trace v_read v_text h) (cwV 0 hts gX7_hill_X7_readItem rfl rfl rfl hdV_X7_readItem ⟨Nat.le_of_ble_eq_true rfl, Nat.le_of_ble_eq_true rfl⟩) hK hN hP hD hS hA [0, 1, 2] (by decide) rfl (ci := 7) rfl rfl rfl hl.1 rfl (Nat.le_of_ble_eq_true rfl) dX7_hill_23 ⟨Nat.zero_le _, Nat.zero_le _⟩ (wr := [(a_hill, .inl (cyI, 46, .inl v_hill)), (a_now, .inl (cyI, 15, .inl v_now)), (a_kept, .inl (cyI, 334, .inl v_kept))]) [3, 4, 5] rfl (by decide) (by decide) (fun r_12 u_13 u_14 u_15 u_16 u_17 H locs h hP hD hS => ?_)
        replace hP : va_P (dC, dI) vwCl [(a_hill, .inl (cyI, 46, .inl v_hill)), (a_now, .inl (cyI, 15, .inl v_now)), (a_kept, .inl (cyI, 334, .inl v_kept)), (a, .inr (7, [.ref a_text, .int v_size, .int u_13, .int u_14, .int u_15, .int u_16, .ref a_read, .ref a_hill, .ref a_now, .ref a_undone, .int v_undos, .ref a_need, .int v_cames, .ref a_cameOf, .ref a_places, .ref a_firstRow, .int v_each, .long v_trace, .ref a_kept])), (a_read, .inl (cyI, 46, .inl u_17)), (a_text, .inl (cyI, 150, .inl v_text))] H := hP
        replace hD : va_D A [(a_hill, .inl (cyI, 46, .inl v_hill)), (a_now, .inl (cyI, 15, .inl v_now)), (a_kept, .inl (cyI, 334, .inl v_kept)), (a, .inr (7, [.ref a_text, .int v_size, .int u_13, .int u_14, .int u_15, .int u_16, .ref a_read, .ref a_hill, .ref a_now, .ref a_undone, .int v_undos, .ref a_need, .int v_cames, .ref a_cameOf, .ref a_places, .ref a_firstRow, .int v_each, .long v_trace, .ref a_kept])), (a_read, .inl (cyI, 46, .inl u_17)), (a_text, .inl (cyI, 150, .inl v_text))] := hD
        refine lv_if_ne (tgt := 37) hx hb dX7_hill_26 (by decide) (fun c_18 => ?_) (fun c_18 => ?_)
        · replace h := h.1 c_18
          obtain ⟨x1_19, e_20⟩ : ∃ y : Int32, y = (x1 + (1 : Int32)) := ⟨_, rfl⟩
          replace h := h x1_19 e_20
          refine lv_iinc (v := x1_19) (lv' := [(1, .int x1_19), (0, .ref a)]) hx hb dX7_hill_37 hl (k := 1) rfl (by rw [e_20]; rfl) (by decide) rfl (fun ls hl => ?_)
          refine lv_aload_n hx hb dX7_hill_40 rfl (lv_at hl 1 rfl) ?_
          refine gV_v4 (As := []) (rest := []) ⟨hx, hb, hml, hown, hts⟩ (c_X7_reads l dC dI cyC cyI cyZ _ a a_text a_read a_hill a_now a_undone a_need a_cameOf a_places a_firstRow a_kept v_size u_13 u_14 u_15 u_16 v_undos v_cames v_each v_trace v_text h) (cwV 0 hts gX7_hill_X7_reads rfl rfl rfl hdV_X7_reads ⟨Nat.le_of_ble_eq_true rfl, Nat.le_of_ble_eq_true rfl⟩) hK hN hP hD hS hA [3, 5] (by decide) rfl (ci := 7) rfl rfl rfl hl.1 rfl (Nat.le_of_ble_eq_true rfl) dX7_hill_41 ⟨Nat.zero_le _, Nat.zero_le _⟩ (wr := [(a_hill, .inl (cyI, 46, .inl v_hill)), (a_now, .inl (cyI, 15, .inl v_now)), (a_kept, .inl (cyI, 334, .inl v_kept)), (a_read, .inl (cyI, 46, .inl u_17))]) [0, 1, 2, 4] rfl (by decide) (by decide) (fun u_21 u_22 u_23 u_24 H locs h hP hD hS => ?_)
          replace hP : va_P (dC, dI) vwCl [(a_hill, .inl (cyI, 46, .inl v_hill)), (a_now, .inl (cyI, 15, .inl v_now)), (a_kept, .inl (cyI, 334, .inl v_kept)), (a_read, .inl (cyI, 46, .inl u_17)), (a, .inr (7, [.ref a_text, .int v_size, .int u_21, .int u_22, .int u_23, .int u_24, .ref a_read, .ref a_hill, .ref a_now, .ref a_undone, .int v_undos, .ref a_need, .int v_cames, .ref a_cameOf, .ref a_places, .ref a_firstRow, .int v_each, .long v_trace, .ref a_kept])), (a_text, .inl (cyI, 150, .inl v_text))] H := hP
          replace hD : va_D A [(a_hill, .inl (cyI, 46, .inl v_hill)), (a_now, .inl (cyI, 15, .inl v_now)), (a_kept, .inl (cyI, 334, .inl v_kept)), (a_read, .inl (cyI, 46, .inl u_17)), (a, .inr (7, [.ref a_text, .int v_size, .int u_21, .int u_22, .int u_23, .int u_24, .ref a_read, .ref a_hill, .ref a_now, .ref a_undone, .int v_undos, .ref a_need, .int v_cames, .ref a_cameOf, .ref a_places, .ref a_firstRow, .int v_each, .long v_trace, .ref a_kept])), (a_text, .inl (cyI, 150, .inl v_text))] := hD
          refine lv_goto (tgt := 15) hx hb dX7_hill_44 (by decide) ?_
          exact ih15 x1_19 v_size u_21 u_22 u_23 u_24 v_undos v_cames u_17 v_hill v_now v_kept _ _ _ h (hP.sub (ws' := [(a, .inr (7, [.ref a_text, .int v_size, .int u_21, .int u_22, .int u_23, .int u_24, .ref a_read, .ref a_hill, .ref a_now, .ref a_undone, .int v_undos, .ref a_need, .int v_cames, .ref a_cameOf, .ref a_places, .ref a_firstRow, .int v_each, .long v_trace, .ref a_kept])), (a_read, .inl (cyI, 46, .inl u_17)), (a_text, .inl (cyI, 150, .inl v_text)), (a_hill, .inl (cyI, 46, .inl v_hill)), (a_now, .inl (cyI, 15, .inl v_now)), (a_kept, .inl (cyI, 334, .inl v_kept))]) [4, 3, 5, 0, 1, 2] rfl) (hD.sub (ws' := [(a, .inr (7, [.ref a_text, .int v_size, .int u_21, .int u_22, .int u_23, .int u_24, .ref a_read, .ref a_hill, .ref a_now, .ref a_undone, .int v_undos, .ref a_need, .int v_cames, .ref a_cameOf, .ref a_places, .ref a_firstRow, .int v_each, .long v_trace, .ref a_kept])), (a_read, .inl (cyI, 46, .inl u_17)), (a_text, .inl (cyI, 150, .inl v_text)), (a_hill, .inl (cyI, 46, .inl v_hill)), (a_now, .inl (cyI, 15, .inl v_now)), (a_kept, .inl (cyI, 334, .inl v_kept))]) [4, 3, 5, 0, 1, 2] (by decide) rfl) hS (lv_sub hl [1, 0] rfl)
        · replace h := h.2 c_18
          refine lv_bipush (v := -10) hx hb dX7_hill_29 (by decide) ?_
          refine lv_aload_n hx hb dX7_hill_31 rfl (lv_at hl 0 rfl) ?_
          refine va_get (D := (dC, dI)) (ci := 7) (v := .int u_14) (C := RX7) (T := TX7) (N := 19) hx hb hts iwX7_hill_X7 hown hK hP 3 rfl rfl 3 (by decide) f74 (fun _ h9 => h9) rfl dX7_hill_32 ?_
          refine lv_isub hx hb dX7_hill_35 ?_
          exact gri11 hx hb hr hlocks h (hP.sub (ws' := [(a, .inr (7, [.ref a_text, .int v_size, .int u_13, .int u_14, .int u_15, .int u_16, .ref a_read, .ref a_hill, .ref a_now, .ref a_undone, .int v_undos, .ref a_need, .int v_cames, .ref a_cameOf, .ref a_places, .ref a_firstRow, .int v_each, .long v_trace, .ref a_kept])), (a_read, .inl (cyI, 46, .inl u_17)), (a_text, .inl (cyI, 150, .inl v_text)), (a_hill, .inl (cyI, 46, .inl v_hill)), (a_now, .inl (cyI, 15, .inl v_now)), (a_kept, .inl (cyI, 334, .inl v_kept))]) [3, 4, 5, 0, 1, 2] rfl) (hD.sub (ws' := [(a, .inr (7, [.ref a_text, .int v_size, .int u_13, .int u_14, .int u_15, .int u_16, .ref a_read, .ref a_hill, .ref a_now, .ref a_undone, .int v_undos, .ref a_need, .int v_cames, .ref a_cameOf, .ref a_places, .ref a_firstRow, .int v_each, .long v_trace, .ref a_kept])), (a_read, .inl (cyI, 46, .inl u_17)), (a_text, .inl (cyI, 150, .inl v_text)), (a_hill, .inl (cyI, 46, .inl v_hill)), (a_now, .inl (cyI, 15, .inl v_now)), (a_kept, .inl (cyI, 334, .inl v_kept))]) [3, 4, 5, 0, 1, 2] (by decide) rfl) hS dX7_hill_36
set_option maxHeartbeats 4000000 in
set_option maxRecDepth 100000 in
theorem c_X7_hill (l : Launch) (dC : Nat → ClassId) (dI : Nat → Nat → Nat) (cyC cyI cyZ : ClassId) (sz : Nat) (a a_text a_read a_hill a_now a_undone a_need a_cameOf a_places a_firstRow a_kept : Nat) (v_size : Int32) (v_at : Int32) (v_begin : Int32) (v_token : Int32) (v_told : Int32) (v_undos : Int32) (v_cames : Int32) (v_each : Int32) (v_trace : Int64) (v_read : Nat → Int32) (v_text : Nat → Int32) (v_hill : Nat → Int32) (v_now : Nat → Int32) (v_kept : Nat → Int32) {Q : Int32 → Int32 → Int32 → Int32 → Int32 → Int32 → Int32 → Int32 → (Nat → Int32) → (Nat → Int32) → (Nat → Int32) → (Nat → Int32) → Prop} (h : q_X7_hill v_size v_at v_begin v_token v_told v_undos v_cames v_read v_text v_hill v_now v_kept Q) : Met l yX7_hill wsX7_hill ({ frames := 7, cells := 0, slots := 0, locals := 151 }) (gPc [.ref a] (dC, dI) (gTy cyC cyI cyZ) sz [(a, .inr (7, [.ref a_text, .int v_size, .int v_at, .int v_begin, .int v_token, .int v_told, .ref a_read, .ref a_hill, .ref a_now, .ref a_undone, .int v_undos, .ref a_need, .int v_cames, .ref a_cameOf, .ref a_places, .ref a_firstRow, .int v_each, .long v_trace, .ref a_kept])), (a_read, .inl (cyI, 46, .inl v_read)), (a_text, .inl (cyI, 150, .inl v_text)), (a_hill, .inl (cyI, 46, .inl v_hill)), (a_now, .inl (cyI, 15, .inl v_now)), (a_kept, .inl (cyI, 334, .inl v_kept))]) (gQi11 Q (dC, dI) (va_A [(a, .inr (7, [.ref a_text, .int v_size, .int v_at, .int v_begin, .int v_token, .int v_told, .ref a_read, .ref a_hill, .ref a_now, .ref a_undone, .int v_undos, .ref a_need, .int v_cames, .ref a_cameOf, .ref a_places, .ref a_firstRow, .int v_each, .long v_trace, .ref a_kept])), (a_read, .inl (cyI, 46, .inl v_read)), (a_text, .inl (cyI, 150, .inl v_text)), (a_hill, .inl (cyI, 46, .inl v_hill)), (a_now, .inl (cyI, 15, .inl v_now)), (a_kept, .inl (cyI, 334, .inl v_kept))] sz) (fun (u1 : Int32) (u2 : Int32) (u3 : Int32) (u4 : Int32) (u5 : Int32) (u6 : Int32) (u7 : Int32) (u8 : Nat → Int32) (u9 : Nat → Int32) (u10 : Nat → Int32) (u11 : Nat → Int32) => [(a, .inr (7, [.ref a_text, .int u1, .int u2, .int u3, .int u4, .int u5, .ref a_read, .ref a_hill, .ref a_now, .ref a_undone, .int u6, .ref a_need, .int u7, .ref a_cameOf, .ref a_places, .ref a_firstRow, .int v_each, .long v_trace, .ref a_kept])), (a_read, .inl (cyI, 46, .inl u8)), (a_text, .inl (cyI, 150, .inl v_text)), (a_hill, .inl (cyI, 46, .inl u9)), (a_now, .inl (cyI, 15, .inl u10)), (a_kept, .inl (cyI, 334, .inl u11))])) 0 0 (va_A [(a, .inr (7, [.ref a_text, .int v_size, .int v_at, .int v_begin, .int v_token, .int v_told, .ref a_read, .ref a_hill, .ref a_now, .ref a_undone, .int v_undos, .ref a_need, .int v_cames, .ref a_cameOf, .ref a_places, .ref a_firstRow, .int v_each, .long v_trace, .ref a_kept])), (a_read, .inl (cyI, 46, .inl v_read)), (a_text, .inl (cyI, 150, .inl v_text)), (a_hill, .inl (cyI, 46, .inl v_hill)), (a_now, .inl (cyI, 15, .inl v_now)), (a_kept, .inl (cyI, 334, .inl v_kept))] sz) := by
  refine gMet (cc := cX7_hill) (maxL := 2) (ret := (some .int)) (own := RX7) (fun A => gQi11 Q (dC, dI) A (fun (u1 : Int32) (u2 : Int32) (u3 : Int32) (u4 : Int32) (u5 : Int32) (u6 : Int32) (u7 : Int32) (u8 : Nat → Int32) (u9 : Nat → Int32) (u10 : Nat → Int32) (u11 : Nat → Int32) => [(a, .inr (7, [.ref a_text, .int u1, .int u2, .int u3, .int u4, .int u5, .ref a_read, .ref a_hill, .ref a_now, .ref a_undone, .int u6, .ref a_need, .int u7, .ref a_cameOf, .ref a_places, .ref a_firstRow, .int v_each, .long v_trace, .ref a_kept])), (a_read, .inl (cyI, 46, .inl u8)), (a_text, .inl (cyI, 150, .inl v_text)), (a_hill, .inl (cyI, 46, .inl u9)), (a_now, .inl (cyI, 15, .inl u10)), (a_kept, .inl (cyI, 334, .inl u11))])) (by decide) rfl rfl (Nat.le_of_ble_eq_true rfl) ?_
  intro p e s m below meth c A ls C0 _ hK hN hP hD hA hl
  obtain ⟨hx, hb, hr, hml, hown, hts, hlocks⟩ := id C0
  have f52 := hts (.fieldLink RX7 52 "LastOchreModel" "size" "I") (by decide +kernel)
  have f64 := hts (.fieldLink RX7 64 "LastOchreModel" "at" "I") (by decide +kernel)
  have f74 := hts (.fieldLink RX7 74 "LastOchreModel" "begin" "I") (by decide +kernel)
  have f77 := hts (.fieldLink RX7 77 "LastOchreModel" "token" "I") (by decide +kernel)
  have hS : va_S A s.heap s.heap [] := va_S.rf
  replace hl : lv_has ls 2 [(0, .ref a)] := hl
  unfold q_X7_hill at h
  obtain ⟨n, h⟩ := h
  have ih15 := w_X7_hill (l := l) (e := e) (below := below) dC dI cyC cyI cyZ a a_text a_read a_hill a_now a_undone a_need a_cameOf a_places a_firstRow a_kept v_each v_trace v_text Q C0 hK hN hA n
  unfold F_X7_hill_e at h
  refine lv_aload_n hx hb dX7_hill_0 rfl (lv_at hl 0 rfl) ?_
  refine gV_v1 (As := []) (rest := []) ⟨hx, hb, hml, hown, hts⟩ (c_X7_plain l dC dI cyC cyI cyZ _ a a_text a_read a_hill a_now a_undone a_need a_cameOf a_places a_firstRow a_kept v_size v_at v_begin v_token v_told v_undos v_cames v_each v_trace v_read h) (cwV 0 hts gX7_hill_X7_plain rfl rfl rfl hdV_X7_plain ⟨Nat.le_of_ble_eq_true rfl, Nat.le_of_ble_eq_true rfl⟩) hK hN hP hD hS hA [0, 1] (by decide) rfl (ci := 7) rfl rfl rfl hl.1 rfl (Nat.le_of_ble_eq_true rfl) dX7_hill_1 ⟨Nat.zero_le _, Nat.zero_le _⟩ (wr := [(a_text, .inl (cyI, 150, .inl v_text)), (a_hill, .inl (cyI, 46, .inl v_hill)), (a_now, .inl (cyI, 15, .inl v_now)), (a_kept, .inl (cyI, 334, .inl v_kept))]) [2, 3, 4, 5] rfl (by decide) (by decide) (fun u_1 H locs h hP hD hS => ?_)
  replace hP : va_P (dC, dI) vwCl [(a_text, .inl (cyI, 150, .inl v_text)), (a_hill, .inl (cyI, 46, .inl v_hill)), (a_now, .inl (cyI, 15, .inl v_now)), (a_kept, .inl (cyI, 334, .inl v_kept)), (a, .inr (7, [.ref a_text, .int v_size, .int v_at, .int v_begin, .int v_token, .int v_told, .ref a_read, .ref a_hill, .ref a_now, .ref a_undone, .int v_undos, .ref a_need, .int v_cames, .ref a_cameOf, .ref a_places, .ref a_firstRow, .int v_each, .long v_trace, .ref a_kept])), (a_read, .inl (cyI, 46, .inl u_1))] H := hP
  replace hD : va_D A [(a_text, .inl (cyI, 150, .inl v_text)), (a_hill, .inl (cyI, 46, .inl v_hill)), (a_now, .inl (cyI, 15, .inl v_now)), (a_kept, .inl (cyI, 334, .inl v_kept)), (a, .inr (7, [.ref a_text, .int v_size, .int v_at, .int v_begin, .int v_token, .int v_told, .ref a_read, .ref a_hill, .ref a_now, .ref a_undone, .int v_undos, .ref a_need, .int v_cames, .ref a_cameOf, .ref a_places, .ref a_firstRow, .int v_each, .long v_trace, .ref a_kept])), (a_read, .inl (cyI, 46, .inl u_1))] := hD
  refine lv_aload_n hx hb dX7_hill_4 rfl (lv_at hl 0 rfl) ?_
  refine lv_iconst (v := 0) hx hb dX7_hill_5 (by decide) ?_
  refine va_put (D := (dC, dI)) (ci := 7) (v := .int (0 : Int32)) (ty := .int) (C := RX7) (T := TX7) (N := 19) hx hb hts iwX7_hill_X7 tyX7 tyX7_ok nmX7 hown hK hP hD hS 4 rfl rfl 2 (by decide) f64 (fun _ h9 => h9) rfl (by decide +kernel) rfl rfl (Nat.le_of_ble_eq_true rfl) dX7_hill_6 (fun H locs hP hD hS => ?_)
  replace hP : va_P (dC, dI) vwCl [(a_text, .inl (cyI, 150, .inl v_text)), (a_hill, .inl (cyI, 46, .inl v_hill)), (a_now, .inl (cyI, 15, .inl v_now)), (a_kept, .inl (cyI, 334, .inl v_kept)), (a, .inr (7, [.ref a_text, .int v_size, .int (0 : Int32), .int v_begin, .int v_token, .int v_told, .ref a_read, .ref a_hill, .ref a_now, .ref a_undone, .int v_undos, .ref a_need, .int v_cames, .ref a_cameOf, .ref a_places, .ref a_firstRow, .int v_each, .long v_trace, .ref a_kept])), (a_read, .inl (cyI, 46, .inl u_1))] H := hP
  replace hD : va_D A [(a_text, .inl (cyI, 150, .inl v_text)), (a_hill, .inl (cyI, 46, .inl v_hill)), (a_now, .inl (cyI, 15, .inl v_now)), (a_kept, .inl (cyI, 334, .inl v_kept)), (a, .inr (7, [.ref a_text, .int v_size, .int (0 : Int32), .int v_begin, .int v_token, .int v_told, .ref a_read, .ref a_hill, .ref a_now, .ref a_undone, .int v_undos, .ref a_need, .int v_cames, .ref a_cameOf, .ref a_places, .ref a_firstRow, .int v_each, .long v_trace, .ref a_kept])), (a_read, .inl (cyI, 46, .inl u_1))] := hD
  refine lv_iconst (v := 0) hx hb dX7_hill_9 (by decide) ?_
  refine lv_istore_n (lv' := [(1, .int (0 : Int32)), (0, .ref a)]) hx hb dX7_hill_10 rfl hl (by decide) rfl (fun ls hl => ?_)
  refine lv_aload_n hx hb dX7_hill_11 rfl (lv_at hl 1 rfl) ?_
  refine gV_v4 (As := []) (rest := []) ⟨hx, hb, hml, hown, hts⟩ (c_X7_reads l dC dI cyC cyI cyZ _ a a_text a_read a_hill a_now a_undone a_need a_cameOf a_places a_firstRow a_kept v_size (0 : Int32) v_begin v_token v_told v_undos v_cames v_each v_trace v_text h) (cwV 0 hts gX7_hill_X7_reads rfl rfl rfl hdV_X7_reads ⟨Nat.le_of_ble_eq_true rfl, Nat.le_of_ble_eq_true rfl⟩) hK hN hP hD hS hA [4, 0] (by decide) rfl (ci := 7) rfl rfl rfl hl.1 rfl (Nat.le_of_ble_eq_true rfl) dX7_hill_12 ⟨Nat.zero_le _, Nat.zero_le _⟩ (wr := [(a_hill, .inl (cyI, 46, .inl v_hill)), (a_now, .inl (cyI, 15, .inl v_now)), (a_kept, .inl (cyI, 334, .inl v_kept)), (a_read, .inl (cyI, 46, .inl u_1))]) [1, 2, 3, 5] rfl (by decide) (by decide) (fun u_2 u_3 u_4 u_5 H locs h hP hD hS => ?_)
  replace hP : va_P (dC, dI) vwCl [(a_hill, .inl (cyI, 46, .inl v_hill)), (a_now, .inl (cyI, 15, .inl v_now)), (a_kept, .inl (cyI, 334, .inl v_kept)), (a_read, .inl (cyI, 46, .inl u_1)), (a, .inr (7, [.ref a_text, .int v_size, .int u_2, .int u_3, .int u_4, .int u_5, .ref a_read, .ref a_hill, .ref a_now, .ref a_undone, .int v_undos, .ref a_need, .int v_cames, .ref a_cameOf, .ref a_places, .ref a_firstRow, .int v_each, .long v_trace, .ref a_kept])), (a_text, .inl (cyI, 150, .inl v_text))] H := hP
  replace hD : va_D A [(a_hill, .inl (cyI, 46, .inl v_hill)), (a_now, .inl (cyI, 15, .inl v_now)), (a_kept, .inl (cyI, 334, .inl v_kept)), (a_read, .inl (cyI, 46, .inl u_1)), (a, .inr (7, [.ref a_text, .int v_size, .int u_2, .int u_3, .int u_4, .int u_5, .ref a_read, .ref a_hill, .ref a_now, .ref a_undone, .int v_undos, .ref a_need, .int v_cames, .ref a_cameOf, .ref a_places, .ref a_firstRow, .int v_each, .long v_trace, .ref a_kept])), (a_text, .inl (cyI, 150, .inl v_text))] := hD
  exact ih15 (0 : Int32) v_size u_2 u_3 u_4 u_5 v_undos v_cames u_1 v_hill v_now v_kept _ _ _ h (hP.sub (ws' := [(a, .inr (7, [.ref a_text, .int v_size, .int u_2, .int u_3, .int u_4, .int u_5, .ref a_read, .ref a_hill, .ref a_now, .ref a_undone, .int v_undos, .ref a_need, .int v_cames, .ref a_cameOf, .ref a_places, .ref a_firstRow, .int v_each, .long v_trace, .ref a_kept])), (a_read, .inl (cyI, 46, .inl u_1)), (a_text, .inl (cyI, 150, .inl v_text)), (a_hill, .inl (cyI, 46, .inl v_hill)), (a_now, .inl (cyI, 15, .inl v_now)), (a_kept, .inl (cyI, 334, .inl v_kept))]) [4, 3, 5, 0, 1, 2] rfl) (hD.sub (ws' := [(a, .inr (7, [.ref a_text, .int v_size, .int u_2, .int u_3, .int u_4, .int u_5, .ref a_read, .ref a_hill, .ref a_now, .ref a_undone, .int v_undos, .ref a_need, .int v_cames, .ref a_cameOf, .ref a_places, .ref a_firstRow, .int v_each, .long v_trace, .ref a_kept])), (a_read, .inl (cyI, 46, .inl u_1)), (a_text, .inl (cyI, 150, .inl v_text)), (a_hill, .inl (cyI, 46, .inl v_hill)), (a_now, .inl (cyI, 15, .inl v_now)), (a_kept, .inl (cyI, 334, .inl v_kept))]) [4, 3, 5, 0, 1, 2] (by decide) rfl) hS (lv_sub hl [1, 0] rfl)

def F_X7_isThing_e (v_hill : Nat → Int32) (p0 : Int32) (Q : Int32 → Prop)  : Prop :=
  q_X7_in ((p0).toInt64) (0 : Int64) ((((v_hill ((2 : Int32)).toNatClampNeg) - (1 : Int32))).toInt64) (fun (r_1 : Int32) => narrow .boolean (.int r_1) = .int r_1 ∧ (Q r_1))
def q_X7_isThing (v_hill : Nat → Int32) (p0 : Int32) (Q : Int32 → Prop) : Prop := F_X7_isThing_e v_hill p0 Q 
theorem iwX7_isThing_X7 : ∀ w ∈ wsX70, w ∈ wsX7_isThing := by decide +kernel
theorem hdV_X7_isThing : yX7_isThing.cls = RX7 ∧ yX7_isThing.cls ≠ "java/lang/invoke/MethodHandle" ∧ yX7_isThing.cls ≠ "java/lang/invoke/VarHandle" ∧ (parseMethodDescriptor yX7_isThing.desc).map (fun d => d.parameters.length) = some 1 := by decide +kernel
set_option maxHeartbeats 4000000 in
set_option maxRecDepth 100000 in
theorem c_X7_isThing (l : Launch) (dC : Nat → ClassId) (dI : Nat → Nat → Nat) (cyC cyI cyZ : ClassId) (sz : Nat) (a a_text a_read a_hill a_now a_undone a_need a_cameOf a_places a_firstRow a_kept : Nat) (v_size : Int32) (v_at : Int32) (v_begin : Int32) (v_token : Int32) (v_told : Int32) (v_undos : Int32) (v_cames : Int32) (v_each : Int32) (v_trace : Int64) (v_hill : Nat → Int32) (p0 : Int32) {Q : Int32 → Prop} (h : q_X7_isThing v_hill p0 Q) : Met l yX7_isThing wsX7_isThing ({ frames := 1, cells := 0, slots := 0, locals := 25 }) (gPc [.ref a, .int p0] (dC, dI) (gTy cyC cyI cyZ) sz [(a, .inr (7, [.ref a_text, .int v_size, .int v_at, .int v_begin, .int v_token, .int v_told, .ref a_read, .ref a_hill, .ref a_now, .ref a_undone, .int v_undos, .ref a_need, .int v_cames, .ref a_cameOf, .ref a_places, .ref a_firstRow, .int v_each, .long v_trace, .ref a_kept])), (a_hill, .inl (cyI, 46, .inl v_hill))]) (gQi0 Q (dC, dI) (va_A [(a, .inr (7, [.ref a_text, .int v_size, .int v_at, .int v_begin, .int v_token, .int v_told, .ref a_read, .ref a_hill, .ref a_now, .ref a_undone, .int v_undos, .ref a_need, .int v_cames, .ref a_cameOf, .ref a_places, .ref a_firstRow, .int v_each, .long v_trace, .ref a_kept])), (a_hill, .inl (cyI, 46, .inl v_hill))] sz) [(a, .inr (7, [.ref a_text, .int v_size, .int v_at, .int v_begin, .int v_token, .int v_told, .ref a_read, .ref a_hill, .ref a_now, .ref a_undone, .int v_undos, .ref a_need, .int v_cames, .ref a_cameOf, .ref a_places, .ref a_firstRow, .int v_each, .long v_trace, .ref a_kept])), (a_hill, .inl (cyI, 46, .inl v_hill))]) 0 0 (va_A [(a, .inr (7, [.ref a_text, .int v_size, .int v_at, .int v_begin, .int v_token, .int v_told, .ref a_read, .ref a_hill, .ref a_now, .ref a_undone, .int v_undos, .ref a_need, .int v_cames, .ref a_cameOf, .ref a_places, .ref a_firstRow, .int v_each, .long v_trace, .ref a_kept])), (a_hill, .inl (cyI, 46, .inl v_hill))] sz) := by
  refine gMet (cc := cX7_isThing) (maxL := 2) (ret := (some .boolean)) (own := RX7) (fun A => gQi0 Q (dC, dI) A [(a, .inr (7, [.ref a_text, .int v_size, .int v_at, .int v_begin, .int v_token, .int v_told, .ref a_read, .ref a_hill, .ref a_now, .ref a_undone, .int v_undos, .ref a_need, .int v_cames, .ref a_cameOf, .ref a_places, .ref a_firstRow, .int v_each, .long v_trace, .ref a_kept])), (a_hill, .inl (cyI, 46, .inl v_hill))]) (by decide) rfl rfl (Nat.le_of_ble_eq_true rfl) ?_
  intro p e s m below meth c A ls C0 _ hK hN hP hD hA hl
  obtain ⟨hx, hb, hr, hml, hown, hts, hlocks⟩ := id C0
  have f16 := hts (.fieldLink RX7 16 "LastOchreModel" "hill" "[I") (by decide +kernel)
  have hS : va_S A s.heap s.heap [] := va_S.rf
  replace hl : lv_has ls 2 [(0, .ref a), (1, .int p0)] := hl
  unfold q_X7_isThing at h
  unfold F_X7_isThing_e at h
  refine lv_iload_n hx hb dX7_isThing_0 rfl (lv_at hl 1 rfl) ?_
  refine lv_i2l hx hb dX7_isThing_1 rfl ?_
  refine lv_lconst (v := 0) hx hb dX7_isThing_2 (by decide) ?_
  refine lv_aload_n hx hb dX7_isThing_3 rfl (lv_at hl 0 rfl) ?_
  refine va_get (D := (dC, dI)) (ci := 7) (v := .ref a_hill) (C := RX7) (T := TX7) (N := 19) hx hb hts iwX7_isThing_X7 hown hK hP 0 rfl rfl 7 (by decide) f16 (fun _ h9 => h9) rfl dX7_isThing_4 ?_
  refine lv_iconst (v := 2) hx hb dX7_isThing_7 (by decide) ?_
  refine va_iald hx hb hK hP 1 0 rfl rfl (by unfold vp_in; decide) dX7_isThing_8 ?_
  refine lv_iconst (v := 1) hx hb dX7_isThing_9 (by decide) ?_
  refine lv_isub hx hb dX7_isThing_10 ?_
  refine lv_i2l hx hb dX7_isThing_11 rfl ?_
  refine gS_i0 (As := [.long ((p0).toInt64), .long (0 : Int64), .long ((((v_hill ((2 : Int32)).toNatClampNeg) - (1 : Int32))).toInt64)]) (rest := []) ⟨hx, hb, hml, hown, hts⟩ (c_X7_in l dC dI cyC cyI cyZ _ ((p0).toInt64) (0 : Int64) ((((v_hill ((2 : Int32)).toNatClampNeg) - (1 : Int32))).toInt64) h) (va_cwS 3 hts gX7_isThing_X7_in rfl rfl rfl hdS_X7_in ⟨Nat.le_of_ble_eq_true rfl, Nat.le_of_ble_eq_true rfl⟩) hK hN hP hD hS hA [] (by decide) rfl rfl hl.1 rfl (Nat.le_of_ble_eq_true rfl) dX7_isThing_12 ⟨Nat.zero_le _, Nat.zero_le _⟩ (fun r_1 H locs h hP hS => ?_)
  have g_2 := h.1
  replace h := h.2
  exact grz0 hx hb hr hlocks g_2 h hP hD hS dX7_isThing_15

def F_X7_isCell_e (v_hill : Nat → Int32) (p0 : Int32) (p1 : Int32) (Q : Int32 → Prop)  : Prop :=
  q_X7_in ((p0).toInt64) (0 : Int64) ((((v_hill ((0 : Int32)).toNatClampNeg) - (1 : Int32))).toInt64) (fun (r_1 : Int32) => (r_1 = 0 → (Q (0 : Int32))) ∧ (¬ r_1 = 0 → (q_X7_in ((p1).toInt64) (0 : Int64) ((((v_hill ((1 : Int32)).toNatClampNeg) - (1 : Int32))).toInt64) (fun (r_3 : Int32) => (r_3 = 0 → (Q (0 : Int32))) ∧ (¬ r_3 = 0 → (Q (1 : Int32)))))))
def q_X7_isCell (v_hill : Nat → Int32) (p0 : Int32) (p1 : Int32) (Q : Int32 → Prop) : Prop := F_X7_isCell_e v_hill p0 p1 Q 
theorem iwX7_isCell_X7 : ∀ w ∈ wsX70, w ∈ wsX7_isCell := by decide +kernel
theorem hdV_X7_isCell : yX7_isCell.cls = RX7 ∧ yX7_isCell.cls ≠ "java/lang/invoke/MethodHandle" ∧ yX7_isCell.cls ≠ "java/lang/invoke/VarHandle" ∧ (parseMethodDescriptor yX7_isCell.desc).map (fun d => d.parameters.length) = some 2 := by decide +kernel
set_option maxHeartbeats 4000000 in
set_option maxRecDepth 100000 in
theorem c_X7_isCell (l : Launch) (dC : Nat → ClassId) (dI : Nat → Nat → Nat) (cyC cyI cyZ : ClassId) (sz : Nat) (a a_text a_read a_hill a_now a_undone a_need a_cameOf a_places a_firstRow a_kept : Nat) (v_size : Int32) (v_at : Int32) (v_begin : Int32) (v_token : Int32) (v_told : Int32) (v_undos : Int32) (v_cames : Int32) (v_each : Int32) (v_trace : Int64) (v_hill : Nat → Int32) (p0 : Int32) (p1 : Int32) {Q : Int32 → Prop} (h : q_X7_isCell v_hill p0 p1 Q) : Met l yX7_isCell wsX7_isCell ({ frames := 1, cells := 0, slots := 0, locals := 25 }) (gPc [.ref a, .int p0, .int p1] (dC, dI) (gTy cyC cyI cyZ) sz [(a, .inr (7, [.ref a_text, .int v_size, .int v_at, .int v_begin, .int v_token, .int v_told, .ref a_read, .ref a_hill, .ref a_now, .ref a_undone, .int v_undos, .ref a_need, .int v_cames, .ref a_cameOf, .ref a_places, .ref a_firstRow, .int v_each, .long v_trace, .ref a_kept])), (a_hill, .inl (cyI, 46, .inl v_hill))]) (gQi0 Q (dC, dI) (va_A [(a, .inr (7, [.ref a_text, .int v_size, .int v_at, .int v_begin, .int v_token, .int v_told, .ref a_read, .ref a_hill, .ref a_now, .ref a_undone, .int v_undos, .ref a_need, .int v_cames, .ref a_cameOf, .ref a_places, .ref a_firstRow, .int v_each, .long v_trace, .ref a_kept])), (a_hill, .inl (cyI, 46, .inl v_hill))] sz) [(a, .inr (7, [.ref a_text, .int v_size, .int v_at, .int v_begin, .int v_token, .int v_told, .ref a_read, .ref a_hill, .ref a_now, .ref a_undone, .int v_undos, .ref a_need, .int v_cames, .ref a_cameOf, .ref a_places, .ref a_firstRow, .int v_each, .long v_trace, .ref a_kept])), (a_hill, .inl (cyI, 46, .inl v_hill))]) 0 0 (va_A [(a, .inr (7, [.ref a_text, .int v_size, .int v_at, .int v_begin, .int v_token, .int v_told, .ref a_read, .ref a_hill, .ref a_now, .ref a_undone, .int v_undos, .ref a_need, .int v_cames, .ref a_cameOf, .ref a_places, .ref a_firstRow, .int v_each, .long v_trace, .ref a_kept])), (a_hill, .inl (cyI, 46, .inl v_hill))] sz) := by
  refine gMet (cc := cX7_isCell) (maxL := 3) (ret := (some .boolean)) (own := RX7) (fun A => gQi0 Q (dC, dI) A [(a, .inr (7, [.ref a_text, .int v_size, .int v_at, .int v_begin, .int v_token, .int v_told, .ref a_read, .ref a_hill, .ref a_now, .ref a_undone, .int v_undos, .ref a_need, .int v_cames, .ref a_cameOf, .ref a_places, .ref a_firstRow, .int v_each, .long v_trace, .ref a_kept])), (a_hill, .inl (cyI, 46, .inl v_hill))]) (by decide) rfl rfl (Nat.le_of_ble_eq_true rfl) ?_
  intro p e s m below meth c A ls C0 _ hK hN hP hD hA hl
  obtain ⟨hx, hb, hr, hml, hown, hts, hlocks⟩ := id C0
  have f16 := hts (.fieldLink RX7 16 "LastOchreModel" "hill" "[I") (by decide +kernel)
  have hS : va_S A s.heap s.heap [] := va_S.rf
  replace hl : lv_has ls 3 [(0, .ref a), (1, .int p0), (2, .int p1)] := hl
  unfold q_X7_isCell at h
  unfold F_X7_isCell_e at h
  refine lv_iload_n hx hb dX7_isCell_0 rfl (lv_at hl 1 rfl) ?_
  refine lv_i2l hx hb dX7_isCell_1 rfl ?_
  refine lv_lconst (v := 0) hx hb dX7_isCell_2 (by decide) ?_
  refine lv_aload_n hx hb dX7_isCell_3 rfl (lv_at hl 0 rfl) ?_
  refine va_get (D := (dC, dI)) (ci := 7) (v := .ref a_hill) (C := RX7) (T := TX7) (N := 19) hx hb hts iwX7_isCell_X7 hown hK hP 0 rfl rfl 7 (by decide) f16 (fun _ h9 => h9) rfl dX7_isCell_4 ?_
  refine lv_iconst (v := 0) hx hb dX7_isCell_7 (by decide) ?_
  refine va_iald hx hb hK hP 1 0 rfl rfl (by unfold vp_in; decide) dX7_isCell_8 ?_
  refine lv_iconst (v := 1) hx hb dX7_isCell_9 (by decide) ?_
  refine lv_isub hx hb dX7_isCell_10 ?_
  refine lv_i2l hx hb dX7_isCell_11 rfl ?_
  refine gS_i0 (As := [.long ((p0).toInt64), .long (0 : Int64), .long ((((v_hill ((0 : Int32)).toNatClampNeg) - (1 : Int32))).toInt64)]) (rest := []) ⟨hx, hb, hml, hown, hts⟩ (c_X7_in l dC dI cyC cyI cyZ _ ((p0).toInt64) (0 : Int64) ((((v_hill ((0 : Int32)).toNatClampNeg) - (1 : Int32))).toInt64) h) (va_cwS 3 hts gX7_isCell_X7_in rfl rfl rfl hdS_X7_in ⟨Nat.le_of_ble_eq_true rfl, Nat.le_of_ble_eq_true rfl⟩) hK hN hP hD hS hA [] (by decide) rfl rfl hl.1 rfl (Nat.le_of_ble_eq_true rfl) dX7_isCell_12 ⟨Nat.zero_le _, Nat.zero_le _⟩ (fun r_1 H locs h hP hS => ?_)
  refine lv_if_eq (tgt := 40) hx hb dX7_isCell_15 (by decide) (fun c_2 => ?_) (fun c_2 => ?_)
  · replace h := h.1 c_2
    refine lv_iconst (v := 0) hx hb dX7_isCell_40 (by decide) ?_
    exact grz0 hx hb hr hlocks rfl h hP hD hS dX7_isCell_41
  · replace h := h.2 c_2
    refine lv_iload_n hx hb dX7_isCell_18 rfl (lv_at hl 2 rfl) ?_
    refine lv_i2l hx hb dX7_isCell_19 rfl ?_
    refine lv_lconst (v := 0) hx hb dX7_isCell_20 (by decide) ?_
    refine lv_aload_n hx hb dX7_isCell_21 rfl (lv_at hl 0 rfl) ?_
    refine va_get (D := (dC, dI)) (ci := 7) (v := .ref a_hill) (C := RX7) (T := TX7) (N := 19) hx hb hts iwX7_isCell_X7 hown hK hP 0 rfl rfl 7 (by decide) f16 (fun _ h9 => h9) rfl dX7_isCell_22 ?_
    refine lv_iconst (v := 1) hx hb dX7_isCell_25 (by decide) ?_
    refine va_iald hx hb hK hP 1 0 rfl rfl (by unfold vp_in; decide) dX7_isCell_26 ?_
    refine lv_iconst (v := 1) hx hb dX7_isCell_27 (by decide) ?_
    refine lv_isub hx hb dX7_isCell_28 ?_
    refine lv_i2l hx hb dX7_isCell_29 rfl ?_
    refine gS_i0 (As := [.long ((p1).toInt64), .long (0 : Int64), .long ((((v_hill ((1 : Int32)).toNatClampNeg) - (1 : Int32))).toInt64)]) (rest := []) ⟨hx, hb, hml, hown, hts⟩ (c_X7_in l dC dI cyC cyI cyZ _ ((p1).toInt64) (0 : Int64) ((((v_hill ((1 : Int32)).toNatClampNeg) - (1 : Int32))).toInt64) h) (va_cwS 3 hts gX7_isCell_X7_in rfl rfl rfl hdS_X7_in ⟨Nat.le_of_ble_eq_true rfl, Nat.le_of_ble_eq_true rfl⟩) hK hN hP hD hS hA [] (by decide) rfl rfl hl.1 rfl (Nat.le_of_ble_eq_true rfl) dX7_isCell_30 ⟨Nat.zero_le _, Nat.zero_le _⟩ (fun r_3 H locs h hP hS => ?_)
    refine lv_if_eq (tgt := 40) hx hb dX7_isCell_33 (by decide) (fun c_4 => ?_) (fun c_4 => ?_)
    · replace h := h.1 c_4
      refine lv_iconst (v := 0) hx hb dX7_isCell_40 (by decide) ?_
      exact grz0 hx hb hr hlocks rfl h hP hD hS dX7_isCell_41
    · replace h := h.2 c_4
      refine lv_iconst (v := 1) hx hb dX7_isCell_36 (by decide) ?_
      refine lv_goto (tgt := 41) hx hb dX7_isCell_37 (by decide) ?_
      exact grz0 hx hb hr hlocks rfl h hP hD hS dX7_isCell_41

def F_X7_cells_e (v_hill : Nat → Int32) (Q : Int32 → Prop)  : Prop :=
  Q ((v_hill ((0 : Int32)).toNatClampNeg) * (v_hill ((1 : Int32)).toNatClampNeg))
def q_X7_cells (v_hill : Nat → Int32) (Q : Int32 → Prop) : Prop := F_X7_cells_e v_hill Q 
theorem iwX7_cells_X7 : ∀ w ∈ wsX70, w ∈ wsX7_cells := by decide +kernel
theorem hdV_X7_cells : yX7_cells.cls = RX7 ∧ yX7_cells.cls ≠ "java/lang/invoke/MethodHandle" ∧ yX7_cells.cls ≠ "java/lang/invoke/VarHandle" ∧ (parseMethodDescriptor yX7_cells.desc).map (fun d => d.parameters.length) = some 0 := by decide +kernel
set_option maxHeartbeats 4000000 in
set_option maxRecDepth 100000 in
theorem c_X7_cells (l : Launch) (dC : Nat → ClassId) (dI : Nat → Nat → Nat) (cyC cyI cyZ : ClassId) (sz : Nat) (a a_text a_read a_hill a_now a_undone a_need a_cameOf a_places a_firstRow a_kept : Nat) (v_size : Int32) (v_at : Int32) (v_begin : Int32) (v_token : Int32) (v_told : Int32) (v_undos : Int32) (v_cames : Int32) (v_each : Int32) (v_trace : Int64) (v_hill : Nat → Int32) {Q : Int32 → Prop} (h : q_X7_cells v_hill Q) : Met l yX7_cells wsX7_cells ({ frames := 0, cells := 0, slots := 0, locals := 0 }) (gPc [.ref a] (dC, dI) (gTy cyC cyI cyZ) sz [(a, .inr (7, [.ref a_text, .int v_size, .int v_at, .int v_begin, .int v_token, .int v_told, .ref a_read, .ref a_hill, .ref a_now, .ref a_undone, .int v_undos, .ref a_need, .int v_cames, .ref a_cameOf, .ref a_places, .ref a_firstRow, .int v_each, .long v_trace, .ref a_kept])), (a_hill, .inl (cyI, 46, .inl v_hill))]) (gQi0 Q (dC, dI) (va_A [(a, .inr (7, [.ref a_text, .int v_size, .int v_at, .int v_begin, .int v_token, .int v_told, .ref a_read, .ref a_hill, .ref a_now, .ref a_undone, .int v_undos, .ref a_need, .int v_cames, .ref a_cameOf, .ref a_places, .ref a_firstRow, .int v_each, .long v_trace, .ref a_kept])), (a_hill, .inl (cyI, 46, .inl v_hill))] sz) [(a, .inr (7, [.ref a_text, .int v_size, .int v_at, .int v_begin, .int v_token, .int v_told, .ref a_read, .ref a_hill, .ref a_now, .ref a_undone, .int v_undos, .ref a_need, .int v_cames, .ref a_cameOf, .ref a_places, .ref a_firstRow, .int v_each, .long v_trace, .ref a_kept])), (a_hill, .inl (cyI, 46, .inl v_hill))]) 0 0 (va_A [(a, .inr (7, [.ref a_text, .int v_size, .int v_at, .int v_begin, .int v_token, .int v_told, .ref a_read, .ref a_hill, .ref a_now, .ref a_undone, .int v_undos, .ref a_need, .int v_cames, .ref a_cameOf, .ref a_places, .ref a_firstRow, .int v_each, .long v_trace, .ref a_kept])), (a_hill, .inl (cyI, 46, .inl v_hill))] sz) := by
  refine gMet (cc := cX7_cells) (maxL := 1) (ret := (some .int)) (own := RX7) (fun A => gQi0 Q (dC, dI) A [(a, .inr (7, [.ref a_text, .int v_size, .int v_at, .int v_begin, .int v_token, .int v_told, .ref a_read, .ref a_hill, .ref a_now, .ref a_undone, .int v_undos, .ref a_need, .int v_cames, .ref a_cameOf, .ref a_places, .ref a_firstRow, .int v_each, .long v_trace, .ref a_kept])), (a_hill, .inl (cyI, 46, .inl v_hill))]) (by decide) rfl rfl (Nat.le_of_ble_eq_true rfl) ?_
  intro p e s m below meth c A ls C0 _ hK hN hP hD hA hl
  obtain ⟨hx, hb, hr, hml, hown, hts, hlocks⟩ := id C0
  have f16 := hts (.fieldLink RX7 16 "LastOchreModel" "hill" "[I") (by decide +kernel)
  have hS : va_S A s.heap s.heap [] := va_S.rf
  replace hl : lv_has ls 1 [(0, .ref a)] := hl
  unfold q_X7_cells at h
  unfold F_X7_cells_e at h
  refine lv_aload_n hx hb dX7_cells_0 rfl (lv_at hl 0 rfl) ?_
  refine va_get (D := (dC, dI)) (ci := 7) (v := .ref a_hill) (C := RX7) (T := TX7) (N := 19) hx hb hts iwX7_cells_X7 hown hK hP 0 rfl rfl 7 (by decide) f16 (fun _ h9 => h9) rfl dX7_cells_1 ?_
  refine lv_iconst (v := 0) hx hb dX7_cells_4 (by decide) ?_
  refine va_iald hx hb hK hP 1 0 rfl rfl (by unfold vp_in; decide) dX7_cells_5 ?_
  refine lv_aload_n hx hb dX7_cells_6 rfl (lv_at hl 0 rfl) ?_
  refine va_get (D := (dC, dI)) (ci := 7) (v := .ref a_hill) (C := RX7) (T := TX7) (N := 19) hx hb hts iwX7_cells_X7 hown hK hP 0 rfl rfl 7 (by decide) f16 (fun _ h9 => h9) rfl dX7_cells_7 ?_
  refine lv_iconst (v := 1) hx hb dX7_cells_10 (by decide) ?_
  refine va_iald hx hb hK hP 1 0 rfl rfl (by unfold vp_in; decide) dX7_cells_11 ?_
  refine lv_imul hx hb dX7_cells_12 ?_
  exact gri0 hx hb hr hlocks h hP hD hS dX7_cells_13

def F_X7_yellow_e (v_now : Nat → Int32) (p0 : Int32) (Q : Int32 → Prop)  : Prop :=
  vp_in ((3 : Int32) + ((2 : Int32) * p0)) 15 ∧ (Q (v_now (((3 : Int32) + ((2 : Int32) * p0))).toNatClampNeg))
def q_X7_yellow (v_now : Nat → Int32) (p0 : Int32) (Q : Int32 → Prop) : Prop := F_X7_yellow_e v_now p0 Q 
theorem iwX7_yellow_X7 : ∀ w ∈ wsX70, w ∈ wsX7_yellow := by decide +kernel
theorem hdV_X7_yellow : yX7_yellow.cls = RX7 ∧ yX7_yellow.cls ≠ "java/lang/invoke/MethodHandle" ∧ yX7_yellow.cls ≠ "java/lang/invoke/VarHandle" ∧ (parseMethodDescriptor yX7_yellow.desc).map (fun d => d.parameters.length) = some 1 := by decide +kernel
set_option maxHeartbeats 4000000 in
set_option maxRecDepth 100000 in
theorem c_X7_yellow (l : Launch) (dC : Nat → ClassId) (dI : Nat → Nat → Nat) (cyC cyI cyZ : ClassId) (sz : Nat) (a a_text a_read a_hill a_now a_undone a_need a_cameOf a_places a_firstRow a_kept : Nat) (v_size : Int32) (v_at : Int32) (v_begin : Int32) (v_token : Int32) (v_told : Int32) (v_undos : Int32) (v_cames : Int32) (v_each : Int32) (v_trace : Int64) (v_now : Nat → Int32) (p0 : Int32) {Q : Int32 → Prop} (h : q_X7_yellow v_now p0 Q) : Met l yX7_yellow wsX7_yellow ({ frames := 0, cells := 0, slots := 0, locals := 0 }) (gPc [.ref a, .int p0] (dC, dI) (gTy cyC cyI cyZ) sz [(a, .inr (7, [.ref a_text, .int v_size, .int v_at, .int v_begin, .int v_token, .int v_told, .ref a_read, .ref a_hill, .ref a_now, .ref a_undone, .int v_undos, .ref a_need, .int v_cames, .ref a_cameOf, .ref a_places, .ref a_firstRow, .int v_each, .long v_trace, .ref a_kept])), (a_now, .inl (cyI, 15, .inl v_now))]) (gQi0 Q (dC, dI) (va_A [(a, .inr (7, [.ref a_text, .int v_size, .int v_at, .int v_begin, .int v_token, .int v_told, .ref a_read, .ref a_hill, .ref a_now, .ref a_undone, .int v_undos, .ref a_need, .int v_cames, .ref a_cameOf, .ref a_places, .ref a_firstRow, .int v_each, .long v_trace, .ref a_kept])), (a_now, .inl (cyI, 15, .inl v_now))] sz) [(a, .inr (7, [.ref a_text, .int v_size, .int v_at, .int v_begin, .int v_token, .int v_told, .ref a_read, .ref a_hill, .ref a_now, .ref a_undone, .int v_undos, .ref a_need, .int v_cames, .ref a_cameOf, .ref a_places, .ref a_firstRow, .int v_each, .long v_trace, .ref a_kept])), (a_now, .inl (cyI, 15, .inl v_now))]) 0 0 (va_A [(a, .inr (7, [.ref a_text, .int v_size, .int v_at, .int v_begin, .int v_token, .int v_told, .ref a_read, .ref a_hill, .ref a_now, .ref a_undone, .int v_undos, .ref a_need, .int v_cames, .ref a_cameOf, .ref a_places, .ref a_firstRow, .int v_each, .long v_trace, .ref a_kept])), (a_now, .inl (cyI, 15, .inl v_now))] sz) := by
  refine gMet (cc := cX7_yellow) (maxL := 2) (ret := (some .int)) (own := RX7) (fun A => gQi0 Q (dC, dI) A [(a, .inr (7, [.ref a_text, .int v_size, .int v_at, .int v_begin, .int v_token, .int v_told, .ref a_read, .ref a_hill, .ref a_now, .ref a_undone, .int v_undos, .ref a_need, .int v_cames, .ref a_cameOf, .ref a_places, .ref a_firstRow, .int v_each, .long v_trace, .ref a_kept])), (a_now, .inl (cyI, 15, .inl v_now))]) (by decide) rfl rfl (Nat.le_of_ble_eq_true rfl) ?_
  intro p e s m below meth c A ls C0 _ hK hN hP hD hA hl
  obtain ⟨hx, hb, hr, hml, hown, hts, hlocks⟩ := id C0
  have f19 := hts (.fieldLink RX7 19 "LastOchreModel" "now" "[I") (by decide +kernel)
  have hS : va_S A s.heap s.heap [] := va_S.rf
  replace hl : lv_has ls 2 [(0, .ref a), (1, .int p0)] := hl
  unfold q_X7_yellow at h
  unfold F_X7_yellow_e at h
  refine lv_aload_n hx hb dX7_yellow_0 rfl (lv_at hl 0 rfl) ?_
  refine va_get (D := (dC, dI)) (ci := 7) (v := .ref a_now) (C := RX7) (T := TX7) (N := 19) hx hb hts iwX7_yellow_X7 hown hK hP 0 rfl rfl 8 (by decide) f19 (fun _ h9 => h9) rfl dX7_yellow_1 ?_
  refine lv_iconst (v := 3) hx hb dX7_yellow_4 (by decide) ?_
  refine lv_iconst (v := 2) hx hb dX7_yellow_5 (by decide) ?_
  refine lv_iload_n hx hb dX7_yellow_6 rfl (lv_at hl 1 rfl) ?_
  refine lv_imul hx hb dX7_yellow_7 ?_
  refine lv_iadd hx hb dX7_yellow_8 ?_
  have g_1 := h.1
  replace h := h.2
  refine va_iald hx hb hK hP 1 0 rfl rfl g_1 dX7_yellow_9 ?_
  exact gri0 hx hb hr hlocks h hP hD hS dX7_yellow_10

def F_X7_white_e (v_now : Nat → Int32) (p0 : Int32) (Q : Int32 → Prop)  : Prop :=
  vp_in ((4 : Int32) + ((2 : Int32) * p0)) 15 ∧ (Q (v_now (((4 : Int32) + ((2 : Int32) * p0))).toNatClampNeg))
def q_X7_white (v_now : Nat → Int32) (p0 : Int32) (Q : Int32 → Prop) : Prop := F_X7_white_e v_now p0 Q 
theorem iwX7_white_X7 : ∀ w ∈ wsX70, w ∈ wsX7_white := by decide +kernel
theorem hdV_X7_white : yX7_white.cls = RX7 ∧ yX7_white.cls ≠ "java/lang/invoke/MethodHandle" ∧ yX7_white.cls ≠ "java/lang/invoke/VarHandle" ∧ (parseMethodDescriptor yX7_white.desc).map (fun d => d.parameters.length) = some 1 := by decide +kernel
set_option maxHeartbeats 4000000 in
set_option maxRecDepth 100000 in
theorem c_X7_white (l : Launch) (dC : Nat → ClassId) (dI : Nat → Nat → Nat) (cyC cyI cyZ : ClassId) (sz : Nat) (a a_text a_read a_hill a_now a_undone a_need a_cameOf a_places a_firstRow a_kept : Nat) (v_size : Int32) (v_at : Int32) (v_begin : Int32) (v_token : Int32) (v_told : Int32) (v_undos : Int32) (v_cames : Int32) (v_each : Int32) (v_trace : Int64) (v_now : Nat → Int32) (p0 : Int32) {Q : Int32 → Prop} (h : q_X7_white v_now p0 Q) : Met l yX7_white wsX7_white ({ frames := 0, cells := 0, slots := 0, locals := 0 }) (gPc [.ref a, .int p0] (dC, dI) (gTy cyC cyI cyZ) sz [(a, .inr (7, [.ref a_text, .int v_size, .int v_at, .int v_begin, .int v_token, .int v_told, .ref a_read, .ref a_hill, .ref a_now, .ref a_undone, .int v_undos, .ref a_need, .int v_cames, .ref a_cameOf, .ref a_places, .ref a_firstRow, .int v_each, .long v_trace, .ref a_kept])), (a_now, .inl (cyI, 15, .inl v_now))]) (gQi0 Q (dC, dI) (va_A [(a, .inr (7, [.ref a_text, .int v_size, .int v_at, .int v_begin, .int v_token, .int v_told, .ref a_read, .ref a_hill, .ref a_now, .ref a_undone, .int v_undos, .ref a_need, .int v_cames, .ref a_cameOf, .ref a_places, .ref a_firstRow, .int v_each, .long v_trace, .ref a_kept])), (a_now, .inl (cyI, 15, .inl v_now))] sz) [(a, .inr (7, [.ref a_text, .int v_size, .int v_at, .int v_begin, .int v_token, .int v_told, .ref a_read, .ref a_hill, .ref a_now, .ref a_undone, .int v_undos, .ref a_need, .int v_cames, .ref a_cameOf, .ref a_places, .ref a_firstRow, .int v_each, .long v_trace, .ref a_kept])), (a_now, .inl (cyI, 15, .inl v_now))]) 0 0 (va_A [(a, .inr (7, [.ref a_text, .int v_size, .int v_at, .int v_begin, .int v_token, .int v_told, .ref a_read, .ref a_hill, .ref a_now, .ref a_undone, .int v_undos, .ref a_need, .int v_cames, .ref a_cameOf, .ref a_places, .ref a_firstRow, .int v_each, .long v_trace, .ref a_kept])), (a_now, .inl (cyI, 15, .inl v_now))] sz) := by
  refine gMet (cc := cX7_white) (maxL := 2) (ret := (some .int)) (own := RX7) (fun A => gQi0 Q (dC, dI) A [(a, .inr (7, [.ref a_text, .int v_size, .int v_at, .int v_begin, .int v_token, .int v_told, .ref a_read, .ref a_hill, .ref a_now, .ref a_undone, .int v_undos, .ref a_need, .int v_cames, .ref a_cameOf, .ref a_places, .ref a_firstRow, .int v_each, .long v_trace, .ref a_kept])), (a_now, .inl (cyI, 15, .inl v_now))]) (by decide) rfl rfl (Nat.le_of_ble_eq_true rfl) ?_
  intro p e s m below meth c A ls C0 _ hK hN hP hD hA hl
  obtain ⟨hx, hb, hr, hml, hown, hts, hlocks⟩ := id C0
  have f19 := hts (.fieldLink RX7 19 "LastOchreModel" "now" "[I") (by decide +kernel)
  have hS : va_S A s.heap s.heap [] := va_S.rf
  replace hl : lv_has ls 2 [(0, .ref a), (1, .int p0)] := hl
  unfold q_X7_white at h
  unfold F_X7_white_e at h
  refine lv_aload_n hx hb dX7_white_0 rfl (lv_at hl 0 rfl) ?_
  refine va_get (D := (dC, dI)) (ci := 7) (v := .ref a_now) (C := RX7) (T := TX7) (N := 19) hx hb hts iwX7_white_X7 hown hK hP 0 rfl rfl 8 (by decide) f19 (fun _ h9 => h9) rfl dX7_white_1 ?_
  refine lv_iconst (v := 4) hx hb dX7_white_4 (by decide) ?_
  refine lv_iconst (v := 2) hx hb dX7_white_5 (by decide) ?_
  refine lv_iload_n hx hb dX7_white_6 rfl (lv_at hl 1 rfl) ?_
  refine lv_imul hx hb dX7_white_7 ?_
  refine lv_iadd hx hb dX7_white_8 ?_
  have g_1 := h.1
  replace h := h.2
  refine va_iald hx hb hK hP 1 0 rfl rfl g_1 dX7_white_9 ?_
  exact gri0 hx hb hr hlocks h hP hD hS dX7_white_10

def F_X7_fades_e (v_hill : Nat → Int32) (p0 : Int32) (Q : Int32 → Prop)  : Prop :=
  vp_in (((22 : Int32) + ((4 : Int32) * p0)) + (2 : Int32)) 46 ∧ (Q (v_hill ((((22 : Int32) + ((4 : Int32) * p0)) + (2 : Int32))).toNatClampNeg))
def q_X7_fades (v_hill : Nat → Int32) (p0 : Int32) (Q : Int32 → Prop) : Prop := F_X7_fades_e v_hill p0 Q 
theorem iwX7_fades_X7 : ∀ w ∈ wsX70, w ∈ wsX7_fades := by decide +kernel
theorem hdV_X7_fades : yX7_fades.cls = RX7 ∧ yX7_fades.cls ≠ "java/lang/invoke/MethodHandle" ∧ yX7_fades.cls ≠ "java/lang/invoke/VarHandle" ∧ (parseMethodDescriptor yX7_fades.desc).map (fun d => d.parameters.length) = some 1 := by decide +kernel
set_option maxHeartbeats 4000000 in
set_option maxRecDepth 100000 in
theorem c_X7_fades (l : Launch) (dC : Nat → ClassId) (dI : Nat → Nat → Nat) (cyC cyI cyZ : ClassId) (sz : Nat) (a a_text a_read a_hill a_now a_undone a_need a_cameOf a_places a_firstRow a_kept : Nat) (v_size : Int32) (v_at : Int32) (v_begin : Int32) (v_token : Int32) (v_told : Int32) (v_undos : Int32) (v_cames : Int32) (v_each : Int32) (v_trace : Int64) (v_hill : Nat → Int32) (p0 : Int32) {Q : Int32 → Prop} (h : q_X7_fades v_hill p0 Q) : Met l yX7_fades wsX7_fades ({ frames := 0, cells := 0, slots := 0, locals := 0 }) (gPc [.ref a, .int p0] (dC, dI) (gTy cyC cyI cyZ) sz [(a, .inr (7, [.ref a_text, .int v_size, .int v_at, .int v_begin, .int v_token, .int v_told, .ref a_read, .ref a_hill, .ref a_now, .ref a_undone, .int v_undos, .ref a_need, .int v_cames, .ref a_cameOf, .ref a_places, .ref a_firstRow, .int v_each, .long v_trace, .ref a_kept])), (a_hill, .inl (cyI, 46, .inl v_hill))]) (gQi0 Q (dC, dI) (va_A [(a, .inr (7, [.ref a_text, .int v_size, .int v_at, .int v_begin, .int v_token, .int v_told, .ref a_read, .ref a_hill, .ref a_now, .ref a_undone, .int v_undos, .ref a_need, .int v_cames, .ref a_cameOf, .ref a_places, .ref a_firstRow, .int v_each, .long v_trace, .ref a_kept])), (a_hill, .inl (cyI, 46, .inl v_hill))] sz) [(a, .inr (7, [.ref a_text, .int v_size, .int v_at, .int v_begin, .int v_token, .int v_told, .ref a_read, .ref a_hill, .ref a_now, .ref a_undone, .int v_undos, .ref a_need, .int v_cames, .ref a_cameOf, .ref a_places, .ref a_firstRow, .int v_each, .long v_trace, .ref a_kept])), (a_hill, .inl (cyI, 46, .inl v_hill))]) 0 0 (va_A [(a, .inr (7, [.ref a_text, .int v_size, .int v_at, .int v_begin, .int v_token, .int v_told, .ref a_read, .ref a_hill, .ref a_now, .ref a_undone, .int v_undos, .ref a_need, .int v_cames, .ref a_cameOf, .ref a_places, .ref a_firstRow, .int v_each, .long v_trace, .ref a_kept])), (a_hill, .inl (cyI, 46, .inl v_hill))] sz) := by
  refine gMet (cc := cX7_fades) (maxL := 2) (ret := (some .int)) (own := RX7) (fun A => gQi0 Q (dC, dI) A [(a, .inr (7, [.ref a_text, .int v_size, .int v_at, .int v_begin, .int v_token, .int v_told, .ref a_read, .ref a_hill, .ref a_now, .ref a_undone, .int v_undos, .ref a_need, .int v_cames, .ref a_cameOf, .ref a_places, .ref a_firstRow, .int v_each, .long v_trace, .ref a_kept])), (a_hill, .inl (cyI, 46, .inl v_hill))]) (by decide) rfl rfl (Nat.le_of_ble_eq_true rfl) ?_
  intro p e s m below meth c A ls C0 _ hK hN hP hD hA hl
  obtain ⟨hx, hb, hr, hml, hown, hts, hlocks⟩ := id C0
  have f16 := hts (.fieldLink RX7 16 "LastOchreModel" "hill" "[I") (by decide +kernel)
  have hS : va_S A s.heap s.heap [] := va_S.rf
  replace hl : lv_has ls 2 [(0, .ref a), (1, .int p0)] := hl
  unfold q_X7_fades at h
  unfold F_X7_fades_e at h
  refine lv_aload_n hx hb dX7_fades_0 rfl (lv_at hl 0 rfl) ?_
  refine va_get (D := (dC, dI)) (ci := 7) (v := .ref a_hill) (C := RX7) (T := TX7) (N := 19) hx hb hts iwX7_fades_X7 hown hK hP 0 rfl rfl 7 (by decide) f16 (fun _ h9 => h9) rfl dX7_fades_1 ?_
  refine lv_bipush (v := 22) hx hb dX7_fades_4 (by decide) ?_
  refine lv_iconst (v := 4) hx hb dX7_fades_6 (by decide) ?_
  refine lv_iload_n hx hb dX7_fades_7 rfl (lv_at hl 1 rfl) ?_
  refine lv_imul hx hb dX7_fades_8 ?_
  refine lv_iadd hx hb dX7_fades_9 ?_
  refine lv_iconst (v := 2) hx hb dX7_fades_10 (by decide) ?_
  refine lv_iadd hx hb dX7_fades_11 ?_
  have g_1 := h.1
  replace h := h.2
  refine va_iald hx hb hK hP 1 0 rfl rfl g_1 dX7_fades_12 ?_
  exact gri0 hx hb hr hlocks h hP hD hS dX7_fades_13

def F_X7_worth_e (v_hill : Nat → Int32) (p0 : Int32) (Q : Int32 → Prop)  : Prop :=
  vp_in (((22 : Int32) + ((4 : Int32) * p0)) + (3 : Int32)) 46 ∧ (Q (v_hill ((((22 : Int32) + ((4 : Int32) * p0)) + (3 : Int32))).toNatClampNeg))
def q_X7_worth (v_hill : Nat → Int32) (p0 : Int32) (Q : Int32 → Prop) : Prop := F_X7_worth_e v_hill p0 Q 
theorem iwX7_worth_X7 : ∀ w ∈ wsX70, w ∈ wsX7_worth := by decide +kernel
theorem hdV_X7_worth : yX7_worth.cls = RX7 ∧ yX7_worth.cls ≠ "java/lang/invoke/MethodHandle" ∧ yX7_worth.cls ≠ "java/lang/invoke/VarHandle" ∧ (parseMethodDescriptor yX7_worth.desc).map (fun d => d.parameters.length) = some 1 := by decide +kernel
set_option maxHeartbeats 4000000 in
set_option maxRecDepth 100000 in
theorem c_X7_worth (l : Launch) (dC : Nat → ClassId) (dI : Nat → Nat → Nat) (cyC cyI cyZ : ClassId) (sz : Nat) (a a_text a_read a_hill a_now a_undone a_need a_cameOf a_places a_firstRow a_kept : Nat) (v_size : Int32) (v_at : Int32) (v_begin : Int32) (v_token : Int32) (v_told : Int32) (v_undos : Int32) (v_cames : Int32) (v_each : Int32) (v_trace : Int64) (v_hill : Nat → Int32) (p0 : Int32) {Q : Int32 → Prop} (h : q_X7_worth v_hill p0 Q) : Met l yX7_worth wsX7_worth ({ frames := 0, cells := 0, slots := 0, locals := 0 }) (gPc [.ref a, .int p0] (dC, dI) (gTy cyC cyI cyZ) sz [(a, .inr (7, [.ref a_text, .int v_size, .int v_at, .int v_begin, .int v_token, .int v_told, .ref a_read, .ref a_hill, .ref a_now, .ref a_undone, .int v_undos, .ref a_need, .int v_cames, .ref a_cameOf, .ref a_places, .ref a_firstRow, .int v_each, .long v_trace, .ref a_kept])), (a_hill, .inl (cyI, 46, .inl v_hill))]) (gQi0 Q (dC, dI) (va_A [(a, .inr (7, [.ref a_text, .int v_size, .int v_at, .int v_begin, .int v_token, .int v_told, .ref a_read, .ref a_hill, .ref a_now, .ref a_undone, .int v_undos, .ref a_need, .int v_cames, .ref a_cameOf, .ref a_places, .ref a_firstRow, .int v_each, .long v_trace, .ref a_kept])), (a_hill, .inl (cyI, 46, .inl v_hill))] sz) [(a, .inr (7, [.ref a_text, .int v_size, .int v_at, .int v_begin, .int v_token, .int v_told, .ref a_read, .ref a_hill, .ref a_now, .ref a_undone, .int v_undos, .ref a_need, .int v_cames, .ref a_cameOf, .ref a_places, .ref a_firstRow, .int v_each, .long v_trace, .ref a_kept])), (a_hill, .inl (cyI, 46, .inl v_hill))]) 0 0 (va_A [(a, .inr (7, [.ref a_text, .int v_size, .int v_at, .int v_begin, .int v_token, .int v_told, .ref a_read, .ref a_hill, .ref a_now, .ref a_undone, .int v_undos, .ref a_need, .int v_cames, .ref a_cameOf, .ref a_places, .ref a_firstRow, .int v_each, .long v_trace, .ref a_kept])), (a_hill, .inl (cyI, 46, .inl v_hill))] sz) := by
  refine gMet (cc := cX7_worth) (maxL := 2) (ret := (some .int)) (own := RX7) (fun A => gQi0 Q (dC, dI) A [(a, .inr (7, [.ref a_text, .int v_size, .int v_at, .int v_begin, .int v_token, .int v_told, .ref a_read, .ref a_hill, .ref a_now, .ref a_undone, .int v_undos, .ref a_need, .int v_cames, .ref a_cameOf, .ref a_places, .ref a_firstRow, .int v_each, .long v_trace, .ref a_kept])), (a_hill, .inl (cyI, 46, .inl v_hill))]) (by decide) rfl rfl (Nat.le_of_ble_eq_true rfl) ?_
  intro p e s m below meth c A ls C0 _ hK hN hP hD hA hl
  obtain ⟨hx, hb, hr, hml, hown, hts, hlocks⟩ := id C0
  have f16 := hts (.fieldLink RX7 16 "LastOchreModel" "hill" "[I") (by decide +kernel)
  have hS : va_S A s.heap s.heap [] := va_S.rf
  replace hl : lv_has ls 2 [(0, .ref a), (1, .int p0)] := hl
  unfold q_X7_worth at h
  unfold F_X7_worth_e at h
  refine lv_aload_n hx hb dX7_worth_0 rfl (lv_at hl 0 rfl) ?_
  refine va_get (D := (dC, dI)) (ci := 7) (v := .ref a_hill) (C := RX7) (T := TX7) (N := 19) hx hb hts iwX7_worth_X7 hown hK hP 0 rfl rfl 7 (by decide) f16 (fun _ h9 => h9) rfl dX7_worth_1 ?_
  refine lv_bipush (v := 22) hx hb dX7_worth_4 (by decide) ?_
  refine lv_iconst (v := 4) hx hb dX7_worth_6 (by decide) ?_
  refine lv_iload_n hx hb dX7_worth_7 rfl (lv_at hl 1 rfl) ?_
  refine lv_imul hx hb dX7_worth_8 ?_
  refine lv_iadd hx hb dX7_worth_9 ?_
  refine lv_iconst (v := 3) hx hb dX7_worth_10 (by decide) ?_
  refine lv_iadd hx hb dX7_worth_11 ?_
  have g_1 := h.1
  replace h := h.2
  refine va_iald hx hb hK hP 1 0 rfl rfl g_1 dX7_worth_12 ?_
  exact gri0 hx hb hr hlocks h hP hD hS dX7_worth_13

def F_X7_isCalled_e (v_hill : Nat → Int32) (p0 : Int32) (p1 : Int32) (Q : Int32 → Prop)  : Prop :=
  (p0 ≤ 0 → (Q (0 : Int32))) ∧ (¬ p0 ≤ 0 → ((((10 : Int32) * p0) < ((v_hill ((3 : Int32)).toNatClampNeg) * (p0 + p1)) → (Q (0 : Int32))) ∧ (¬ ((10 : Int32) * p0) < ((v_hill ((3 : Int32)).toNatClampNeg) * (p0 + p1)) → (Q (1 : Int32)))))
def q_X7_isCalled (v_hill : Nat → Int32) (p0 : Int32) (p1 : Int32) (Q : Int32 → Prop) : Prop := F_X7_isCalled_e v_hill p0 p1 Q 
theorem iwX7_isCalled_X7 : ∀ w ∈ wsX70, w ∈ wsX7_isCalled := by decide +kernel
theorem hdV_X7_isCalled : yX7_isCalled.cls = RX7 ∧ yX7_isCalled.cls ≠ "java/lang/invoke/MethodHandle" ∧ yX7_isCalled.cls ≠ "java/lang/invoke/VarHandle" ∧ (parseMethodDescriptor yX7_isCalled.desc).map (fun d => d.parameters.length) = some 2 := by decide +kernel
set_option maxHeartbeats 4000000 in
set_option maxRecDepth 100000 in
theorem c_X7_isCalled (l : Launch) (dC : Nat → ClassId) (dI : Nat → Nat → Nat) (cyC cyI cyZ : ClassId) (sz : Nat) (a a_text a_read a_hill a_now a_undone a_need a_cameOf a_places a_firstRow a_kept : Nat) (v_size : Int32) (v_at : Int32) (v_begin : Int32) (v_token : Int32) (v_told : Int32) (v_undos : Int32) (v_cames : Int32) (v_each : Int32) (v_trace : Int64) (v_hill : Nat → Int32) (p0 : Int32) (p1 : Int32) {Q : Int32 → Prop} (h : q_X7_isCalled v_hill p0 p1 Q) : Met l yX7_isCalled wsX7_isCalled ({ frames := 0, cells := 0, slots := 0, locals := 0 }) (gPc [.ref a, .int p0, .int p1] (dC, dI) (gTy cyC cyI cyZ) sz [(a, .inr (7, [.ref a_text, .int v_size, .int v_at, .int v_begin, .int v_token, .int v_told, .ref a_read, .ref a_hill, .ref a_now, .ref a_undone, .int v_undos, .ref a_need, .int v_cames, .ref a_cameOf, .ref a_places, .ref a_firstRow, .int v_each, .long v_trace, .ref a_kept])), (a_hill, .inl (cyI, 46, .inl v_hill))]) (gQi0 Q (dC, dI) (va_A [(a, .inr (7, [.ref a_text, .int v_size, .int v_at, .int v_begin, .int v_token, .int v_told, .ref a_read, .ref a_hill, .ref a_now, .ref a_undone, .int v_undos, .ref a_need, .int v_cames, .ref a_cameOf, .ref a_places, .ref a_firstRow, .int v_each, .long v_trace, .ref a_kept])), (a_hill, .inl (cyI, 46, .inl v_hill))] sz) [(a, .inr (7, [.ref a_text, .int v_size, .int v_at, .int v_begin, .int v_token, .int v_told, .ref a_read, .ref a_hill, .ref a_now, .ref a_undone, .int v_undos, .ref a_need, .int v_cames, .ref a_cameOf, .ref a_places, .ref a_firstRow, .int v_each, .long v_trace, .ref a_kept])), (a_hill, .inl (cyI, 46, .inl v_hill))]) 0 0 (va_A [(a, .inr (7, [.ref a_text, .int v_size, .int v_at, .int v_begin, .int v_token, .int v_told, .ref a_read, .ref a_hill, .ref a_now, .ref a_undone, .int v_undos, .ref a_need, .int v_cames, .ref a_cameOf, .ref a_places, .ref a_firstRow, .int v_each, .long v_trace, .ref a_kept])), (a_hill, .inl (cyI, 46, .inl v_hill))] sz) := by
  refine gMet (cc := cX7_isCalled) (maxL := 3) (ret := (some .boolean)) (own := RX7) (fun A => gQi0 Q (dC, dI) A [(a, .inr (7, [.ref a_text, .int v_size, .int v_at, .int v_begin, .int v_token, .int v_told, .ref a_read, .ref a_hill, .ref a_now, .ref a_undone, .int v_undos, .ref a_need, .int v_cames, .ref a_cameOf, .ref a_places, .ref a_firstRow, .int v_each, .long v_trace, .ref a_kept])), (a_hill, .inl (cyI, 46, .inl v_hill))]) (by decide) rfl rfl (Nat.le_of_ble_eq_true rfl) ?_
  intro p e s m below meth c A ls C0 _ hK hN hP hD hA hl
  obtain ⟨hx, hb, hr, hml, hown, hts, hlocks⟩ := id C0
  have f16 := hts (.fieldLink RX7 16 "LastOchreModel" "hill" "[I") (by decide +kernel)
  have hS : va_S A s.heap s.heap [] := va_S.rf
  replace hl : lv_has ls 3 [(0, .ref a), (1, .int p0), (2, .int p1)] := hl
  unfold q_X7_isCalled at h
  unfold F_X7_isCalled_e at h
  refine lv_iload_n hx hb dX7_isCalled_0 rfl (lv_at hl 1 rfl) ?_
  refine lv_if_le (tgt := 25) hx hb dX7_isCalled_1 (by decide) (fun c_1 => ?_) (fun c_1 => ?_)
  · replace h := h.1 c_1
    refine lv_iconst (v := 0) hx hb dX7_isCalled_25 (by decide) ?_
    exact grz0 hx hb hr hlocks rfl h hP hD hS dX7_isCalled_26
  · replace h := h.2 c_1
    refine lv_bipush (v := 10) hx hb dX7_isCalled_4 (by decide) ?_
    refine lv_iload_n hx hb dX7_isCalled_6 rfl (lv_at hl 1 rfl) ?_
    refine lv_imul hx hb dX7_isCalled_7 ?_
    refine lv_aload_n hx hb dX7_isCalled_8 rfl (lv_at hl 0 rfl) ?_
    refine va_get (D := (dC, dI)) (ci := 7) (v := .ref a_hill) (C := RX7) (T := TX7) (N := 19) hx hb hts iwX7_isCalled_X7 hown hK hP 0 rfl rfl 7 (by decide) f16 (fun _ h9 => h9) rfl dX7_isCalled_9 ?_
    refine lv_iconst (v := 3) hx hb dX7_isCalled_12 (by decide) ?_
    refine va_iald hx hb hK hP 1 0 rfl rfl (by unfold vp_in; decide) dX7_isCalled_13 ?_
    refine lv_iload_n hx hb dX7_isCalled_14 rfl (lv_at hl 1 rfl) ?_
    refine lv_iload_n hx hb dX7_isCalled_15 rfl (lv_at hl 2 rfl) ?_
    refine lv_iadd hx hb dX7_isCalled_16 ?_
    refine lv_imul hx hb dX7_isCalled_17 ?_
    refine lv_icmp_lt (tgt := 25) hx hb dX7_isCalled_18 (by decide) (fun c_2 => ?_) (fun c_2 => ?_)
    · replace h := h.1 c_2
      refine lv_iconst (v := 0) hx hb dX7_isCalled_25 (by decide) ?_
      exact grz0 hx hb hr hlocks rfl h hP hD hS dX7_isCalled_26
    · replace h := h.2 c_2
      refine lv_iconst (v := 1) hx hb dX7_isCalled_21 (by decide) ?_
      refine lv_goto (tgt := 26) hx hb dX7_isCalled_22 (by decide) ?_
      exact grz0 hx hb hr hlocks rfl h hP hD hS dX7_isCalled_26

def F_X7_isThen_e (v_now : Nat → Int32) (v_hill : Nat → Int32) (p0 : Int32) (p1 : Int32) (p2 : Int32) (Q : Int32 → Prop)  : Prop :=
  q_X7_yellow v_now p0 (fun (r_1 : Int32) => q_X7_fades v_hill p0 (fun (r_2 : Int32) => ∀ x4_3 : Int32, x4_3 = ((r_1 + p2) - (p1 * r_2)) → (q_X7_white v_now p0 (fun (r_5 : Int32) => q_X7_isCalled v_hill x4_3 r_5 (fun (r_6 : Int32) => narrow .boolean (.int r_6) = .int r_6 ∧ (Q r_6))))))
def q_X7_isThen (v_now : Nat → Int32) (v_hill : Nat → Int32) (p0 : Int32) (p1 : Int32) (p2 : Int32) (Q : Int32 → Prop) : Prop := F_X7_isThen_e v_now v_hill p0 p1 p2 Q 
theorem hdV_X7_isThen : yX7_isThen.cls = RX7 ∧ yX7_isThen.cls ≠ "java/lang/invoke/MethodHandle" ∧ yX7_isThen.cls ≠ "java/lang/invoke/VarHandle" ∧ (parseMethodDescriptor yX7_isThen.desc).map (fun d => d.parameters.length) = some 3 := by decide +kernel
set_option maxHeartbeats 4000000 in
set_option maxRecDepth 100000 in
theorem c_X7_isThen (l : Launch) (dC : Nat → ClassId) (dI : Nat → Nat → Nat) (cyC cyI cyZ : ClassId) (sz : Nat) (a a_text a_read a_hill a_now a_undone a_need a_cameOf a_places a_firstRow a_kept : Nat) (v_size : Int32) (v_at : Int32) (v_begin : Int32) (v_token : Int32) (v_told : Int32) (v_undos : Int32) (v_cames : Int32) (v_each : Int32) (v_trace : Int64) (v_now : Nat → Int32) (v_hill : Nat → Int32) (p0 : Int32) (p1 : Int32) (p2 : Int32) {Q : Int32 → Prop} (h : q_X7_isThen v_now v_hill p0 p1 p2 Q) : Met l yX7_isThen wsX7_isThen ({ frames := 1, cells := 0, slots := 0, locals := 22 }) (gPc [.ref a, .int p0, .int p1, .int p2] (dC, dI) (gTy cyC cyI cyZ) sz [(a, .inr (7, [.ref a_text, .int v_size, .int v_at, .int v_begin, .int v_token, .int v_told, .ref a_read, .ref a_hill, .ref a_now, .ref a_undone, .int v_undos, .ref a_need, .int v_cames, .ref a_cameOf, .ref a_places, .ref a_firstRow, .int v_each, .long v_trace, .ref a_kept])), (a_now, .inl (cyI, 15, .inl v_now)), (a_hill, .inl (cyI, 46, .inl v_hill))]) (gQi0 Q (dC, dI) (va_A [(a, .inr (7, [.ref a_text, .int v_size, .int v_at, .int v_begin, .int v_token, .int v_told, .ref a_read, .ref a_hill, .ref a_now, .ref a_undone, .int v_undos, .ref a_need, .int v_cames, .ref a_cameOf, .ref a_places, .ref a_firstRow, .int v_each, .long v_trace, .ref a_kept])), (a_now, .inl (cyI, 15, .inl v_now)), (a_hill, .inl (cyI, 46, .inl v_hill))] sz) [(a, .inr (7, [.ref a_text, .int v_size, .int v_at, .int v_begin, .int v_token, .int v_told, .ref a_read, .ref a_hill, .ref a_now, .ref a_undone, .int v_undos, .ref a_need, .int v_cames, .ref a_cameOf, .ref a_places, .ref a_firstRow, .int v_each, .long v_trace, .ref a_kept])), (a_now, .inl (cyI, 15, .inl v_now)), (a_hill, .inl (cyI, 46, .inl v_hill))]) 0 0 (va_A [(a, .inr (7, [.ref a_text, .int v_size, .int v_at, .int v_begin, .int v_token, .int v_told, .ref a_read, .ref a_hill, .ref a_now, .ref a_undone, .int v_undos, .ref a_need, .int v_cames, .ref a_cameOf, .ref a_places, .ref a_firstRow, .int v_each, .long v_trace, .ref a_kept])), (a_now, .inl (cyI, 15, .inl v_now)), (a_hill, .inl (cyI, 46, .inl v_hill))] sz) := by
  refine gMet (cc := cX7_isThen) (maxL := 5) (ret := (some .boolean)) (own := RX7) (fun A => gQi0 Q (dC, dI) A [(a, .inr (7, [.ref a_text, .int v_size, .int v_at, .int v_begin, .int v_token, .int v_told, .ref a_read, .ref a_hill, .ref a_now, .ref a_undone, .int v_undos, .ref a_need, .int v_cames, .ref a_cameOf, .ref a_places, .ref a_firstRow, .int v_each, .long v_trace, .ref a_kept])), (a_now, .inl (cyI, 15, .inl v_now)), (a_hill, .inl (cyI, 46, .inl v_hill))]) (by decide) rfl rfl (Nat.le_of_ble_eq_true rfl) ?_
  intro p e s m below meth c A ls C0 _ hK hN hP hD hA hl
  obtain ⟨hx, hb, hr, hml, hown, hts, hlocks⟩ := id C0
  have hS : va_S A s.heap s.heap [] := va_S.rf
  replace hl : lv_has ls 5 [(0, .ref a), (1, .int p0), (2, .int p1), (3, .int p2)] := hl
  unfold q_X7_isThen at h
  unfold F_X7_isThen_e at h
  refine lv_aload_n hx hb dX7_isThen_0 rfl (lv_at hl 0 rfl) ?_
  refine lv_iload_n hx hb dX7_isThen_1 rfl (lv_at hl 1 rfl) ?_
  refine gV_i0 (As := [.int p0]) (rest := []) ⟨hx, hb, hml, hown, hts⟩ (c_X7_yellow l dC dI cyC cyI cyZ _ a a_text a_read a_hill a_now a_undone a_need a_cameOf a_places a_firstRow a_kept v_size v_at v_begin v_token v_told v_undos v_cames v_each v_trace v_now p0 h) (cwV 1 hts gX7_isThen_X7_yellow rfl rfl rfl hdV_X7_yellow ⟨Nat.le_of_ble_eq_true rfl, Nat.le_of_ble_eq_true rfl⟩) hK hN hP hD hS hA [0, 1] (by decide) rfl (ci := 7) rfl rfl rfl hl.1 rfl (Nat.le_of_ble_eq_true rfl) dX7_isThen_2 ⟨Nat.zero_le _, Nat.zero_le _⟩ (fun r_1 H locs h hP hS => ?_)
  refine lv_iload_n hx hb dX7_isThen_5 rfl (lv_at hl 3 rfl) ?_
  refine lv_iadd hx hb dX7_isThen_6 ?_
  refine lv_iload_n hx hb dX7_isThen_7 rfl (lv_at hl 2 rfl) ?_
  refine lv_aload_n hx hb dX7_isThen_8 rfl (lv_at hl 0 rfl) ?_
  refine lv_iload_n hx hb dX7_isThen_9 rfl (lv_at hl 1 rfl) ?_
  refine gV_i0 (As := [.int p0]) (rest := [.int p1, .int (r_1 + p2)]) ⟨hx, hb, hml, hown, hts⟩ (c_X7_fades l dC dI cyC cyI cyZ _ a a_text a_read a_hill a_now a_undone a_need a_cameOf a_places a_firstRow a_kept v_size v_at v_begin v_token v_told v_undos v_cames v_each v_trace v_hill p0 h) (cwV 1 hts gX7_isThen_X7_fades rfl rfl rfl hdV_X7_fades ⟨Nat.le_of_ble_eq_true rfl, Nat.le_of_ble_eq_true rfl⟩) hK hN hP hD hS hA [0, 2] (by decide) rfl (ci := 7) rfl rfl rfl hl.1 rfl (Nat.le_of_ble_eq_true rfl) dX7_isThen_10 ⟨Nat.zero_le _, Nat.zero_le _⟩ (fun r_2 H locs h hP hS => ?_)
  refine lv_imul hx hb dX7_isThen_13 ?_
  refine lv_isub hx hb dX7_isThen_14 ?_
  refine lv_topi (fun x4_3 e_4 => ?_)
  replace h := h x4_3 e_4
  refine lv_istore (lv' := [(4, .int x4_3), (0, .ref a), (1, .int p0), (2, .int p1), (3, .int p2)]) hx hb dX7_isThen_15 hl (by decide) rfl (fun ls hl => ?_)
  refine lv_aload_n hx hb dX7_isThen_17 rfl (lv_at hl 1 rfl) ?_
  refine lv_iload hx hb dX7_isThen_18 (lv_at hl 0 rfl) ?_
  refine lv_aload_n hx hb dX7_isThen_20 rfl (lv_at hl 1 rfl) ?_
  refine lv_iload_n hx hb dX7_isThen_21 rfl (lv_at hl 2 rfl) ?_
  refine gV_i0 (As := [.int p0]) (rest := [.int x4_3, .ref a]) ⟨hx, hb, hml, hown, hts⟩ (c_X7_white l dC dI cyC cyI cyZ _ a a_text a_read a_hill a_now a_undone a_need a_cameOf a_places a_firstRow a_kept v_size v_at v_begin v_token v_told v_undos v_cames v_each v_trace v_now p0 h) (cwV 1 hts gX7_isThen_X7_white rfl rfl rfl hdV_X7_white ⟨Nat.le_of_ble_eq_true rfl, Nat.le_of_ble_eq_true rfl⟩) hK hN hP hD hS hA [0, 1] (by decide) rfl (ci := 7) rfl rfl rfl hl.1 rfl (Nat.le_of_ble_eq_true rfl) dX7_isThen_22 ⟨Nat.zero_le _, Nat.zero_le _⟩ (fun r_5 H locs h hP hS => ?_)
  refine gV_i0 (As := [.int x4_3, .int r_5]) (rest := []) ⟨hx, hb, hml, hown, hts⟩ (c_X7_isCalled l dC dI cyC cyI cyZ _ a a_text a_read a_hill a_now a_undone a_need a_cameOf a_places a_firstRow a_kept v_size v_at v_begin v_token v_told v_undos v_cames v_each v_trace v_hill x4_3 r_5 h) (cwV 2 hts gX7_isThen_X7_isCalled rfl rfl rfl hdV_X7_isCalled ⟨Nat.le_of_ble_eq_true rfl, Nat.le_of_ble_eq_true rfl⟩) hK hN hP hD hS hA [0, 2] (by decide) rfl (ci := 7) rfl rfl rfl hl.1 rfl (Nat.le_of_ble_eq_true rfl) dX7_isThen_25 ⟨Nat.zero_le _, Nat.zero_le _⟩ (fun r_6 H locs h hP hS => ?_)
  have g_7 := h.1
  replace h := h.2
  exact grz0 hx hb hr hlocks g_7 h hP hD hS dX7_isThen_28

def F_X7_may_e (v_hill : Nat → Int32) (p0 : Int32) (p1 : Int32) (Q : Int32 → Prop) (rec : Nat → Int32 → Int32 → Prop)  : Prop :=
  ∀ x3_1 : Int32, x3_1 = (v_hill ((0 : Int32)).toNatClampNeg) → ((p0 < x3_1 → (rec 81 0 0)) ∧ (¬ p0 < x3_1 → ((((p1 >>> ((p0 - x3_1) &&& 31)) &&& (1 : Int32)) = (1 : Int32) → (rec 81 0 0)) ∧ (¬ ((p1 >>> ((p0 - x3_1) &&& 31)) &&& (1 : Int32)) = (1 : Int32) → (q_X7_cells v_hill (fun (r_5 : Int32) => (r_5 ≤ (p0 + x3_1) → (rec 44 x3_1 0)) ∧ (¬ r_5 ≤ (p0 + x3_1) → ((((p1 >>> ((p0 + x3_1) &&& 31)) &&& (1 : Int32)) = (1 : Int32) → (rec 81 0 0)) ∧ (¬ ((p1 >>> ((p0 + x3_1) &&& 31)) &&& (1 : Int32)) = (1 : Int32) → (rec 44 x3_1 0))))))))))
def F_X7_may_44 (v_hill : Nat → Int32) (p0 : Int32) (p1 : Int32) (Q : Int32 → Prop) (rec : Nat → Int32 → Int32 → Prop) (x3 : Int32) (k0 : Int32) : Prop :=
  ¬ x3 = 0 ∧ (((p0 - p0 / x3 * x3) ≤ 0 → (rec 61 x3 0)) ∧ (¬ (p0 - p0 / x3 * x3) ≤ 0 → ((((p1 >>> ((p0 - (1 : Int32)) &&& 31)) &&& (1 : Int32)) = (1 : Int32) → (rec 81 0 0)) ∧ (¬ ((p1 >>> ((p0 - (1 : Int32)) &&& 31)) &&& (1 : Int32)) = (1 : Int32) → (rec 61 x3 0)))))
def F_X7_may_61 (v_hill : Nat → Int32) (p0 : Int32) (p1 : Int32) (Q : Int32 → Prop) (rec : Nat → Int32 → Int32 → Prop) (x3 : Int32) (k0 : Int32) : Prop :=
  ¬ x3 = 0 ∧ (((x3 - (1 : Int32)) ≤ (p0 - p0 / x3 * x3) → (rec 85 0 0)) ∧ (¬ (x3 - (1 : Int32)) ≤ (p0 - p0 / x3 * x3) → ((¬ ((p1 >>> ((p0 + (1 : Int32)) &&& 31)) &&& (1 : Int32)) = (1 : Int32) → (rec 85 0 0)) ∧ (((p1 >>> ((p0 + (1 : Int32)) &&& 31)) &&& (1 : Int32)) = (1 : Int32) → (rec 81 0 0)))))
def F_X7_may_81 (v_hill : Nat → Int32) (p0 : Int32) (p1 : Int32) (Q : Int32 → Prop) (rec : Nat → Int32 → Int32 → Prop) (x3 : Int32) (k0 : Int32) : Prop :=
  rec 86 0 (1 : Int32)
def F_X7_may_85 (v_hill : Nat → Int32) (p0 : Int32) (p1 : Int32) (Q : Int32 → Prop) (rec : Nat → Int32 → Int32 → Prop) (x3 : Int32) (k0 : Int32) : Prop :=
  rec 86 0 (0 : Int32)
def F_X7_may_86 (v_hill : Nat → Int32) (p0 : Int32) (p1 : Int32) (Q : Int32 → Prop) (rec : Nat → Int32 → Int32 → Prop) (x3 : Int32) (k0 : Int32) : Prop :=
  (¬ ((p1 >>> (p0 &&& 31)) &&& (1 : Int32)) = 0 → (Q (0 : Int32))) ∧ (((p1 >>> (p0 &&& 31)) &&& (1 : Int32)) = 0 → ((k0 = 0 → (Q (0 : Int32))) ∧ (¬ k0 = 0 → (Q (1 : Int32)))))
def wp_X7_may (v_hill : Nat → Int32) (p0 : Int32) (p1 : Int32) (Q : Int32 → Prop) : Nat → Nat → Int32 → Int32 → Prop
  | 0 => fun _ _ _ => False
  | n + 1 => fun t x3 k0 => if t = 44 then F_X7_may_44 v_hill p0 p1 Q (wp_X7_may v_hill p0 p1 Q n) x3 k0 else if t = 61 then F_X7_may_61 v_hill p0 p1 Q (wp_X7_may v_hill p0 p1 Q n) x3 k0 else if t = 81 then F_X7_may_81 v_hill p0 p1 Q (wp_X7_may v_hill p0 p1 Q n) x3 k0 else if t = 85 then F_X7_may_85 v_hill p0 p1 Q (wp_X7_may v_hill p0 p1 Q n) x3 k0 else if t = 86 then F_X7_may_86 v_hill p0 p1 Q (wp_X7_may v_hill p0 p1 Q n) x3 k0 else False
def q_X7_may (v_hill : Nat → Int32) (p0 : Int32) (p1 : Int32) (Q : Int32 → Prop) : Prop := ∃ n, F_X7_may_e v_hill p0 p1 Q (wp_X7_may v_hill p0 p1 Q n) 
theorem iwX7_may_X7 : ∀ w ∈ wsX70, w ∈ wsX7_may := by decide +kernel
theorem hdV_X7_may : yX7_may.cls = RX7 ∧ yX7_may.cls ≠ "java/lang/invoke/MethodHandle" ∧ yX7_may.cls ≠ "java/lang/invoke/VarHandle" ∧ (parseMethodDescriptor yX7_may.desc).map (fun d => d.parameters.length) = some 2 := by decide +kernel
set_option maxHeartbeats 4000000 in
set_option maxRecDepth 100000 in
theorem w_X7_may {p : Program} {l : Launch} {e : Env} {s : State} {m : MethodId} {args : Array Value} {below : List Frame} {meth : Method} {c : Code} {A : Nat → Prop} (dC : Nat → ClassId) (dI : Nat → Nat → Nat) (cyC cyI cyZ : ClassId) (a a_text a_read a_hill a_now a_undone a_need a_cameOf a_places a_firstRow a_kept : Nat) (v_size : Int32) (v_at : Int32) (v_begin : Int32) (v_token : Int32) (v_told : Int32) (v_undos : Int32) (v_cames : Int32) (v_each : Int32) (v_trace : Int64) (v_hill : Nat → Int32) (p0 : Int32) (p1 : Int32) (Q : Int32 → Prop) (C0 : gAt cX7_may (some .boolean) 5 RX7 wsX7_may p s m meth c args) (hK : va_K (dC, dI) vwCl (gTy cyC cyI cyZ) s) (hN : nU s) (hA : ∀ q, s.heap.size ≤ q → A q) : ∀ n : Nat, (∀ (x3 : Int32) (k0 : Int32) (H : Heap) (locs : List Loc) (ls : Array Slot), wp_X7_may v_hill p0 p1 Q n 44 x3 k0 → va_P (dC, dI) vwCl [(a, .inr (7, [.ref a_text, .int v_size, .int v_at, .int v_begin, .int v_token, .int v_told, .ref a_read, .ref a_hill, .ref a_now, .ref a_undone, .int v_undos, .ref a_need, .int v_cames, .ref a_cameOf, .ref a_places, .ref a_firstRow, .int v_each, .long v_trace, .ref a_kept])), (a_hill, .inl (cyI, 46, .inl v_hill))] H → va_D A [(a, .inr (7, [.ref a_text, .int v_size, .int v_at, .int v_begin, .int v_token, .int v_told, .ref a_read, .ref a_hill, .ref a_now, .ref a_undone, .int v_undos, .ref a_need, .int v_cames, .ref a_cameOf, .ref a_places, .ref a_firstRow, .int v_each, .long v_trace, .ref a_kept])), (a_hill, .inl (cyI, 46, .inl v_hill))] → va_S A s.heap H locs → lv_has ls 5 [(1, .int p0), (2, .int p1), (3, .int x3)] → W p l e { frames := 1, cells := 0, slots := 0, locals := 20 } s m args below meth c H locs 0 0 (MQ below (gQi0 Q (dC, dI) A [(a, .inr (7, [.ref a_text, .int v_size, .int v_at, .int v_begin, .int v_token, .int v_told, .ref a_read, .ref a_hill, .ref a_now, .ref a_undone, .int v_undos, .ref a_need, .int v_cames, .ref a_cameOf, .ref a_places, .ref a_firstRow, .int v_each, .long v_trace, .ref a_kept])), (a_hill, .inl (cyI, 46, .inl v_hill))]) args s 0 0 A) (F0 m 44 ls [])) ∧ (∀ (x3 : Int32) (k0 : Int32) (H : Heap) (locs : List Loc) (ls : Array Slot), wp_X7_may v_hill p0 p1 Q n 61 x3 k0 → va_P (dC, dI) vwCl [(a, .inr (7, [.ref a_text, .int v_size, .int v_at, .int v_begin, .int v_token, .int v_told, .ref a_read, .ref a_hill, .ref a_now, .ref a_undone, .int v_undos, .ref a_need, .int v_cames, .ref a_cameOf, .ref a_places, .ref a_firstRow, .int v_each, .long v_trace, .ref a_kept])), (a_hill, .inl (cyI, 46, .inl v_hill))] H → va_D A [(a, .inr (7, [.ref a_text, .int v_size, .int v_at, .int v_begin, .int v_token, .int v_told, .ref a_read, .ref a_hill, .ref a_now, .ref a_undone, .int v_undos, .ref a_need, .int v_cames, .ref a_cameOf, .ref a_places, .ref a_firstRow, .int v_each, .long v_trace, .ref a_kept])), (a_hill, .inl (cyI, 46, .inl v_hill))] → va_S A s.heap H locs → lv_has ls 5 [(1, .int p0), (2, .int p1), (3, .int x3)] → W p l e { frames := 1, cells := 0, slots := 0, locals := 20 } s m args below meth c H locs 0 0 (MQ below (gQi0 Q (dC, dI) A [(a, .inr (7, [.ref a_text, .int v_size, .int v_at, .int v_begin, .int v_token, .int v_told, .ref a_read, .ref a_hill, .ref a_now, .ref a_undone, .int v_undos, .ref a_need, .int v_cames, .ref a_cameOf, .ref a_places, .ref a_firstRow, .int v_each, .long v_trace, .ref a_kept])), (a_hill, .inl (cyI, 46, .inl v_hill))]) args s 0 0 A) (F0 m 61 ls [])) ∧ (∀ (x3 : Int32) (k0 : Int32) (H : Heap) (locs : List Loc) (ls : Array Slot), wp_X7_may v_hill p0 p1 Q n 81 x3 k0 → va_P (dC, dI) vwCl [(a, .inr (7, [.ref a_text, .int v_size, .int v_at, .int v_begin, .int v_token, .int v_told, .ref a_read, .ref a_hill, .ref a_now, .ref a_undone, .int v_undos, .ref a_need, .int v_cames, .ref a_cameOf, .ref a_places, .ref a_firstRow, .int v_each, .long v_trace, .ref a_kept])), (a_hill, .inl (cyI, 46, .inl v_hill))] H → va_D A [(a, .inr (7, [.ref a_text, .int v_size, .int v_at, .int v_begin, .int v_token, .int v_told, .ref a_read, .ref a_hill, .ref a_now, .ref a_undone, .int v_undos, .ref a_need, .int v_cames, .ref a_cameOf, .ref a_places, .ref a_firstRow, .int v_each, .long v_trace, .ref a_kept])), (a_hill, .inl (cyI, 46, .inl v_hill))] → va_S A s.heap H locs → lv_has ls 5 [(1, .int p0), (2, .int p1)] → W p l e { frames := 1, cells := 0, slots := 0, locals := 20 } s m args below meth c H locs 0 0 (MQ below (gQi0 Q (dC, dI) A [(a, .inr (7, [.ref a_text, .int v_size, .int v_at, .int v_begin, .int v_token, .int v_told, .ref a_read, .ref a_hill, .ref a_now, .ref a_undone, .int v_undos, .ref a_need, .int v_cames, .ref a_cameOf, .ref a_places, .ref a_firstRow, .int v_each, .long v_trace, .ref a_kept])), (a_hill, .inl (cyI, 46, .inl v_hill))]) args s 0 0 A) (F0 m 81 ls [])) ∧ (∀ (x3 : Int32) (k0 : Int32) (H : Heap) (locs : List Loc) (ls : Array Slot), wp_X7_may v_hill p0 p1 Q n 85 x3 k0 → va_P (dC, dI) vwCl [(a, .inr (7, [.ref a_text, .int v_size, .int v_at, .int v_begin, .int v_token, .int v_told, .ref a_read, .ref a_hill, .ref a_now, .ref a_undone, .int v_undos, .ref a_need, .int v_cames, .ref a_cameOf, .ref a_places, .ref a_firstRow, .int v_each, .long v_trace, .ref a_kept])), (a_hill, .inl (cyI, 46, .inl v_hill))] H → va_D A [(a, .inr (7, [.ref a_text, .int v_size, .int v_at, .int v_begin, .int v_token, .int v_told, .ref a_read, .ref a_hill, .ref a_now, .ref a_undone, .int v_undos, .ref a_need, .int v_cames, .ref a_cameOf, .ref a_places, .ref a_firstRow, .int v_each, .long v_trace, .ref a_kept])), (a_hill, .inl (cyI, 46, .inl v_hill))] → va_S A s.heap H locs → lv_has ls 5 [(1, .int p0), (2, .int p1)] → W p l e { frames := 1, cells := 0, slots := 0, locals := 20 } s m args below meth c H locs 0 0 (MQ below (gQi0 Q (dC, dI) A [(a, .inr (7, [.ref a_text, .int v_size, .int v_at, .int v_begin, .int v_token, .int v_told, .ref a_read, .ref a_hill, .ref a_now, .ref a_undone, .int v_undos, .ref a_need, .int v_cames, .ref a_cameOf, .ref a_places, .ref a_firstRow, .int v_each, .long v_trace, .ref a_kept])), (a_hill, .inl (cyI, 46, .inl v_hill))]) args s 0 0 A) (F0 m 85 ls [])) ∧ (∀ (x3 : Int32) (k0 : Int32) (H : Heap) (locs : List Loc) (ls : Array Slot), wp_X7_may v_hill p0 p1 Q n 86 x3 k0 → va_P (dC, dI) vwCl [(a, .inr (7, [.ref a_text, .int v_size, .int v_at, .int v_begin, .int v_token, .int v_told, .ref a_read, .ref a_hill, .ref a_now, .ref a_undone, .int v_undos, .ref a_need, .int v_cames, .ref a_cameOf, .ref a_places, .ref a_firstRow, .int v_each, .long v_trace, .ref a_kept])), (a_hill, .inl (cyI, 46, .inl v_hill))] H → va_D A [(a, .inr (7, [.ref a_text, .int v_size, .int v_at, .int v_begin, .int v_token, .int v_told, .ref a_read, .ref a_hill, .ref a_now, .ref a_undone, .int v_undos, .ref a_need, .int v_cames, .ref a_cameOf, .ref a_places, .ref a_firstRow, .int v_each, .long v_trace, .ref a_kept])), (a_hill, .inl (cyI, 46, .inl v_hill))] → va_S A s.heap H locs → lv_has ls 5 [(1, .int p0), (2, .int p1)] → W p l e { frames := 1, cells := 0, slots := 0, locals := 20 } s m args below meth c H locs 0 0 (MQ below (gQi0 Q (dC, dI) A [(a, .inr (7, [.ref a_text, .int v_size, .int v_at, .int v_begin, .int v_token, .int v_told, .ref a_read, .ref a_hill, .ref a_now, .ref a_undone, .int v_undos, .ref a_need, .int v_cames, .ref a_cameOf, .ref a_places, .ref a_firstRow, .int v_each, .long v_trace, .ref a_kept])), (a_hill, .inl (cyI, 46, .inl v_hill))]) args s 0 0 A) (F0 m 86 ls [.int k0])) := by
  obtain ⟨hx, hb, hr, hml, hown, hts, hlocks⟩ := id C0
  have f16 := hts (.fieldLink RX7 16 "LastOchreModel" "hill" "[I") (by decide +kernel)
  intro n
  induction n with
  | zero => exact ⟨fun _ _ _ _ _ h => absurd h id, fun _ _ _ _ _ h => absurd h id, fun _ _ _ _ _ h => absurd h id, fun _ _ _ _ _ h => absurd h id, fun _ _ _ _ _ h => absurd h id⟩
  | succ n ih =>
    obtain ⟨ih44, ih61, ih81, ih85, ih86⟩ := ih
    refine ⟨?_, ?_, ?_, ?_, ?_⟩
    · intro x3 k0 H locs ls h hP hD hS hl
      replace h : F_X7_may_44 v_hill p0 p1 Q (wp_X7_may v_hill p0 p1 Q n) x3 k0 := h
      unfold F_X7_may_44 at h
      refine lv_iload_n hx hb dX7_may_44 rfl (lv_at hl 0 rfl) ?_
      refine lv_iload_n hx hb dX7_may_45 rfl (lv_at hl 2 rfl) ?_
      have g_8 := h.1
      replace h := h.2
      refine lv_irem hx hb dX7_may_46 g_8 ?_
      refine lv_if_le (tgt := 61) hx hb dX7_may_47 (by decide) (fun c_9 => ?_) (fun c_9 => ?_)
      · replace h := h.1 c_9
        exact ih61 x3 0 _ _ _ h hP hD hS (lv_sub hl [0, 1, 2] rfl)
      · replace h := h.2 c_9
        refine lv_iload_n hx hb dX7_may_50 rfl (lv_at hl 1 rfl) ?_
        refine lv_iload_n hx hb dX7_may_51 rfl (lv_at hl 0 rfl) ?_
        refine lv_iconst (v := 1) hx hb dX7_may_52 (by decide) ?_
        refine lv_isub hx hb dX7_may_53 ?_
        refine lv_ishr hx hb dX7_may_54 ?_
        refine lv_iconst (v := 1) hx hb dX7_may_55 (by decide) ?_
        refine lv_iand hx hb dX7_may_56 ?_
        refine lv_iconst (v := 1) hx hb dX7_may_57 (by decide) ?_
        refine lv_icmp_eq (tgt := 81) hx hb dX7_may_58 (by decide) (fun c_10 => ?_) (fun c_10 => ?_)
        · replace h := h.1 c_10
          exact ih81 0 0 _ _ _ h hP hD hS (lv_sub hl [0, 1] rfl)
        · replace h := h.2 c_10
          exact ih61 x3 0 _ _ _ h hP hD hS (lv_sub hl [0, 1, 2] rfl)
    · intro x3 k0 H locs ls h hP hD hS hl
      replace h : F_X7_may_61 v_hill p0 p1 Q (wp_X7_may v_hill p0 p1 Q n) x3 k0 := h
      unfold F_X7_may_61 at h
      refine lv_iload_n hx hb dX7_may_61 rfl (lv_at hl 0 rfl) ?_
      refine lv_iload_n hx hb dX7_may_62 rfl (lv_at hl 2 rfl) ?_
      have g_11 := h.1
      replace h := h.2
      refine lv_irem hx hb dX7_may_63 g_11 ?_
      refine lv_iload_n hx hb dX7_may_64 rfl (lv_at hl 2 rfl) ?_
      refine lv_iconst (v := 1) hx hb dX7_may_65 (by decide) ?_
      refine lv_isub hx hb dX7_may_66 ?_
      refine lv_icmp_ge (tgt := 85) hx hb dX7_may_67 (by decide) (fun c_12 => ?_) (fun c_12 => ?_)
      · replace h := h.1 c_12
        exact ih85 0 0 _ _ _ h hP hD hS (lv_sub hl [0, 1] rfl)
      · replace h := h.2 c_12
        refine lv_iload_n hx hb dX7_may_70 rfl (lv_at hl 1 rfl) ?_
        refine lv_iload_n hx hb dX7_may_71 rfl (lv_at hl 0 rfl) ?_
        refine lv_iconst (v := 1) hx hb dX7_may_72 (by decide) ?_
        refine lv_iadd hx hb dX7_may_73 ?_
        refine lv_ishr hx hb dX7_may_74 ?_
        refine lv_iconst (v := 1) hx hb dX7_may_75 (by decide) ?_
        refine lv_iand hx hb dX7_may_76 ?_
        refine lv_iconst (v := 1) hx hb dX7_may_77 (by decide) ?_
        refine lv_icmp_ne (tgt := 85) hx hb dX7_may_78 (by decide) (fun c_13 => ?_) (fun c_13 => ?_)
        · replace h := h.1 c_13
          exact ih85 0 0 _ _ _ h hP hD hS (lv_sub hl [0, 1] rfl)
        · replace h := h.2 c_13
          exact ih81 0 0 _ _ _ h hP hD hS (lv_sub hl [0, 1] rfl)
    · intro x3 k0 H locs ls h hP hD hS hl
      replace h : F_X7_may_81 v_hill p0 p1 Q (wp_X7_may v_hill p0 p1 Q n) x3 k0 := h
      unfold F_X7_may_81 at h
      refine lv_iconst (v := 1) hx hb dX7_may_81 (by decide) ?_
      refine lv_goto (tgt := 86) hx hb dX7_may_82 (by decide) ?_
      exact ih86 0 (1 : Int32) _ _ _ h hP hD hS (lv_sub hl [0, 1] rfl)
    · intro x3 k0 H locs ls h hP hD hS hl
      replace h : F_X7_may_85 v_hill p0 p1 Q (wp_X7_may v_hill p0 p1 Q n) x3 k0 := h
      unfold F_X7_may_85 at h
      refine lv_iconst (v := 0) hx hb dX7_may_85 (by decide) ?_
      exact ih86 0 (0 : Int32) _ _ _ h hP hD hS (lv_sub hl [0, 1] rfl)
    · intro x3 k0 H locs ls h hP hD hS hl
      replace h : F_X7_may_86 v_hill p0 p1 Q (wp_X7_may v_hill p0 p1 Q n) x3 k0 := h
      unfold F_X7_may_86 at h
      refine lv_istore (lv' := [(4, .int k0), (1, .int p0), (2, .int p1)]) hx hb dX7_may_86 hl (by decide) rfl (fun ls hl => ?_)
      refine lv_iload_n hx hb dX7_may_88 rfl (lv_at hl 2 rfl) ?_
      refine lv_iload_n hx hb dX7_may_89 rfl (lv_at hl 1 rfl) ?_
      refine lv_ishr hx hb dX7_may_90 ?_
      refine lv_iconst (v := 1) hx hb dX7_may_91 (by decide) ?_
      refine lv_iand hx hb dX7_may_92 ?_
      refine lv_if_ne (tgt := 105) hx hb dX7_may_93 (by decide) (fun c_14 => ?_) (fun c_14 => ?_)
      · replace h := h.1 c_14
        refine lv_iconst (v := 0) hx hb dX7_may_105 (by decide) ?_
        exact grz0 hx hb hr hlocks rfl h hP hD hS dX7_may_106
      · replace h := h.2 c_14
        refine lv_iload hx hb dX7_may_96 (lv_at hl 0 rfl) ?_
        refine lv_if_eq (tgt := 105) hx hb dX7_may_98 (by decide) (fun c_15 => ?_) (fun c_15 => ?_)
        · replace h := h.1 c_15
          refine lv_iconst (v := 0) hx hb dX7_may_105 (by decide) ?_
          exact grz0 hx hb hr hlocks rfl h hP hD hS dX7_may_106
        · replace h := h.2 c_15
          refine lv_iconst (v := 1) hx hb dX7_may_101 (by decide) ?_
          refine lv_goto (tgt := 106) hx hb dX7_may_102 (by decide) ?_
          exact grz0 hx hb hr hlocks rfl h hP hD hS dX7_may_106
set_option maxHeartbeats 4000000 in
set_option maxRecDepth 100000 in
theorem c_X7_may (l : Launch) (dC : Nat → ClassId) (dI : Nat → Nat → Nat) (cyC cyI cyZ : ClassId) (sz : Nat) (a a_text a_read a_hill a_now a_undone a_need a_cameOf a_places a_firstRow a_kept : Nat) (v_size : Int32) (v_at : Int32) (v_begin : Int32) (v_token : Int32) (v_told : Int32) (v_undos : Int32) (v_cames : Int32) (v_each : Int32) (v_trace : Int64) (v_hill : Nat → Int32) (p0 : Int32) (p1 : Int32) {Q : Int32 → Prop} (h : q_X7_may v_hill p0 p1 Q) : Met l yX7_may wsX7_may ({ frames := 1, cells := 0, slots := 0, locals := 20 }) (gPc [.ref a, .int p0, .int p1] (dC, dI) (gTy cyC cyI cyZ) sz [(a, .inr (7, [.ref a_text, .int v_size, .int v_at, .int v_begin, .int v_token, .int v_told, .ref a_read, .ref a_hill, .ref a_now, .ref a_undone, .int v_undos, .ref a_need, .int v_cames, .ref a_cameOf, .ref a_places, .ref a_firstRow, .int v_each, .long v_trace, .ref a_kept])), (a_hill, .inl (cyI, 46, .inl v_hill))]) (gQi0 Q (dC, dI) (va_A [(a, .inr (7, [.ref a_text, .int v_size, .int v_at, .int v_begin, .int v_token, .int v_told, .ref a_read, .ref a_hill, .ref a_now, .ref a_undone, .int v_undos, .ref a_need, .int v_cames, .ref a_cameOf, .ref a_places, .ref a_firstRow, .int v_each, .long v_trace, .ref a_kept])), (a_hill, .inl (cyI, 46, .inl v_hill))] sz) [(a, .inr (7, [.ref a_text, .int v_size, .int v_at, .int v_begin, .int v_token, .int v_told, .ref a_read, .ref a_hill, .ref a_now, .ref a_undone, .int v_undos, .ref a_need, .int v_cames, .ref a_cameOf, .ref a_places, .ref a_firstRow, .int v_each, .long v_trace, .ref a_kept])), (a_hill, .inl (cyI, 46, .inl v_hill))]) 0 0 (va_A [(a, .inr (7, [.ref a_text, .int v_size, .int v_at, .int v_begin, .int v_token, .int v_told, .ref a_read, .ref a_hill, .ref a_now, .ref a_undone, .int v_undos, .ref a_need, .int v_cames, .ref a_cameOf, .ref a_places, .ref a_firstRow, .int v_each, .long v_trace, .ref a_kept])), (a_hill, .inl (cyI, 46, .inl v_hill))] sz) := by
  refine gMet (cc := cX7_may) (maxL := 5) (ret := (some .boolean)) (own := RX7) (fun A => gQi0 Q (dC, dI) A [(a, .inr (7, [.ref a_text, .int v_size, .int v_at, .int v_begin, .int v_token, .int v_told, .ref a_read, .ref a_hill, .ref a_now, .ref a_undone, .int v_undos, .ref a_need, .int v_cames, .ref a_cameOf, .ref a_places, .ref a_firstRow, .int v_each, .long v_trace, .ref a_kept])), (a_hill, .inl (cyI, 46, .inl v_hill))]) (by decide) rfl rfl (Nat.le_of_ble_eq_true rfl) ?_
  intro p e s m below meth c A ls C0 _ hK hN hP hD hA hl
  obtain ⟨hx, hb, hr, hml, hown, hts, hlocks⟩ := id C0
  have f16 := hts (.fieldLink RX7 16 "LastOchreModel" "hill" "[I") (by decide +kernel)
  have hS : va_S A s.heap s.heap [] := va_S.rf
  replace hl : lv_has ls 5 [(0, .ref a), (1, .int p0), (2, .int p1)] := hl
  unfold q_X7_may at h
  obtain ⟨n, h⟩ := h
  obtain ⟨ih44, ih61, ih81, ih85, ih86⟩ := w_X7_may (l := l) (e := e) (below := below) dC dI cyC cyI cyZ a a_text a_read a_hill a_now a_undone a_need a_cameOf a_places a_firstRow a_kept v_size v_at v_begin v_token v_told v_undos v_cames v_each v_trace v_hill p0 p1 Q C0 hK hN hA n
  unfold F_X7_may_e at h
  refine lv_aload_n hx hb dX7_may_0 rfl (lv_at hl 0 rfl) ?_
  refine va_get (D := (dC, dI)) (ci := 7) (v := .ref a_hill) (C := RX7) (T := TX7) (N := 19) hx hb hts iwX7_may_X7 hown hK hP 0 rfl rfl 7 (by decide) f16 (fun _ h9 => h9) rfl dX7_may_1 ?_
  refine lv_iconst (v := 0) hx hb dX7_may_4 (by decide) ?_
  refine va_iald hx hb hK hP 1 0 rfl rfl (by unfold vp_in; decide) dX7_may_5 ?_
  refine lv_topi (fun x3_1 e_2 => ?_)
  replace h := h x3_1 e_2
  refine lv_istore_n (lv' := [(3, .int x3_1), (0, .ref a), (1, .int p0), (2, .int p1)]) hx hb dX7_may_6 rfl hl (by decide) rfl (fun ls hl => ?_)
  refine lv_iload_n hx hb dX7_may_7 rfl (lv_at hl 2 rfl) ?_
  refine lv_iload_n hx hb dX7_may_8 rfl (lv_at hl 0 rfl) ?_
  refine lv_icmp_lt (tgt := 81) hx hb dX7_may_9 (by decide) (fun c_3 => ?_) (fun c_3 => ?_)
  · replace h := h.1 c_3
    exact ih81 0 0 _ _ _ h hP hD hS (lv_sub hl [2, 3] rfl)
  · replace h := h.2 c_3
    refine lv_iload_n hx hb dX7_may_12 rfl (lv_at hl 3 rfl) ?_
    refine lv_iload_n hx hb dX7_may_13 rfl (lv_at hl 2 rfl) ?_
    refine lv_iload_n hx hb dX7_may_14 rfl (lv_at hl 0 rfl) ?_
    refine lv_isub hx hb dX7_may_15 ?_
    refine lv_ishr hx hb dX7_may_16 ?_
    refine lv_iconst (v := 1) hx hb dX7_may_17 (by decide) ?_
    refine lv_iand hx hb dX7_may_18 ?_
    refine lv_iconst (v := 1) hx hb dX7_may_19 (by decide) ?_
    refine lv_icmp_eq (tgt := 81) hx hb dX7_may_20 (by decide) (fun c_4 => ?_) (fun c_4 => ?_)
    · replace h := h.1 c_4
      exact ih81 0 0 _ _ _ h hP hD hS (lv_sub hl [2, 3] rfl)
    · replace h := h.2 c_4
      refine lv_iload_n hx hb dX7_may_23 rfl (lv_at hl 2 rfl) ?_
      refine lv_iload_n hx hb dX7_may_24 rfl (lv_at hl 0 rfl) ?_
      refine lv_iadd hx hb dX7_may_25 ?_
      refine lv_aload_n hx hb dX7_may_26 rfl (lv_at hl 1 rfl) ?_
      refine gV_i0 (As := []) (rest := [.int (p0 + x3_1)]) ⟨hx, hb, hml, hown, hts⟩ (c_X7_cells l dC dI cyC cyI cyZ _ a a_text a_read a_hill a_now a_undone a_need a_cameOf a_places a_firstRow a_kept v_size v_at v_begin v_token v_told v_undos v_cames v_each v_trace v_hill h) (cwV 0 hts gX7_may_X7_cells rfl rfl rfl hdV_X7_cells ⟨Nat.le_of_ble_eq_true rfl, Nat.le_of_ble_eq_true rfl⟩) hK hN hP hD hS hA [0, 1] (by decide) rfl (ci := 7) rfl rfl rfl hl.1 rfl (Nat.le_of_ble_eq_true rfl) dX7_may_27 ⟨Nat.zero_le _, Nat.zero_le _⟩ (fun r_5 H locs h hP hS => ?_)
      refine lv_icmp_ge (tgt := 44) hx hb dX7_may_30 (by decide) (fun c_6 => ?_) (fun c_6 => ?_)
      · replace h := h.1 c_6
        exact ih44 x3_1 0 _ _ _ h hP hD hS (lv_sub hl [2, 3, 0] rfl)
      · replace h := h.2 c_6
        refine lv_iload_n hx hb dX7_may_33 rfl (lv_at hl 3 rfl) ?_
        refine lv_iload_n hx hb dX7_may_34 rfl (lv_at hl 2 rfl) ?_
        refine lv_iload_n hx hb dX7_may_35 rfl (lv_at hl 0 rfl) ?_
        refine lv_iadd hx hb dX7_may_36 ?_
        refine lv_ishr hx hb dX7_may_37 ?_
        refine lv_iconst (v := 1) hx hb dX7_may_38 (by decide) ?_
        refine lv_iand hx hb dX7_may_39 ?_
        refine lv_iconst (v := 1) hx hb dX7_may_40 (by decide) ?_
        refine lv_icmp_eq (tgt := 81) hx hb dX7_may_41 (by decide) (fun c_7 => ?_) (fun c_7 => ?_)
        · replace h := h.1 c_7
          exact ih81 0 0 _ _ _ h hP hD hS (lv_sub hl [2, 3] rfl)
        · replace h := h.2 c_7
          exact ih44 x3_1 0 _ _ _ h hP hD hS (lv_sub hl [2, 3, 0] rfl)

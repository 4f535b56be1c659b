def F_X7_cell_e (v_hill : Nat → Int32) (v_now : Nat → Int32) (p0 : Int32) (p1 : Int32) (p2 : Int32) (Q : Int32 → Prop)  : Prop :=
  q_X7_isCell v_hill p0 p1 (fun (r_1 : Int32) => (r_1 = 0 → (Q (-1 : Int32))) ∧ (¬ r_1 = 0 → (q_X7_in ((p2).toInt64) (0 : Int64) (2 : Int64) (fun (r_3 : Int32) => (¬ r_3 = 0 → (∀ x4_5 : Int32, x4_5 = (((v_hill ((0 : Int32)).toNatClampNeg) * p1) + p0) → ((¬ p2 = 0 → ((¬ p2 = (1 : Int32) → (q_X7_may v_hill x4_5 (v_now ((2 : Int32)).toNatClampNeg) (fun (r_9 : Int32) => (r_9 = 0 → (Q (0 : Int32))) ∧ (¬ r_9 = 0 → (Q (1 : Int32)))))) ∧ (p2 = (1 : Int32) → (Q (((v_now ((2 : Int32)).toNatClampNeg) >>> (x4_5 &&& 31)) &&& (1 : Int32)))))) ∧ (p2 = 0 → (vp_in ((6 : Int32) + x4_5) 46 ∧ (Q (v_hill (((6 : Int32) + x4_5)).toNatClampNeg))))))) ∧ (r_3 = 0 → (Q (-1 : Int32)))))))
def q_X7_cell (v_hill : Nat → Int32) (v_now : Nat → Int32) (p0 : Int32) (p1 : Int32) (p2 : Int32) (Q : Int32 → Prop) : Prop := F_X7_cell_e v_hill v_now p0 p1 p2 Q 
theorem iwX7_cell_X7 : ∀ w ∈ wsX70, w ∈ wsX7_cell := by decide +kernel
theorem hdV_X7_cell : yX7_cell.cls = RX7 ∧ yX7_cell.cls ≠ "java/lang/invoke/MethodHandle" ∧ yX7_cell.cls ≠ "java/lang/invoke/VarHandle" ∧ (parseMethodDescriptor yX7_cell.desc).map (fun d => d.parameters.length) = some 3 := by decide +kernel
set_option maxHeartbeats 4000000 in
set_option maxRecDepth 100000 in
theorem c_X7_cell (l : Launch) (dC : Nat → ClassId) (dI : Nat → Nat → Nat) (cyC cyI cyZ : ClassId) (sz : Nat) (a a_text a_read a_hill a_now a_undone a_need a_cameOf a_places a_firstRow a_kept : Nat) (v_size : Int32) (v_at : Int32) (v_begin : Int32) (v_token : Int32) (v_told : Int32) (v_undos : Int32) (v_cames : Int32) (v_each : Int32) (v_trace : Int64) (v_hill : Nat → Int32) (v_now : Nat → Int32) (p0 : Int32) (p1 : Int32) (p2 : Int32) {Q : Int32 → Prop} (h : q_X7_cell v_hill v_now p0 p1 p2 Q) : Met l yX7_cell wsX7_cell ({ frames := 2, cells := 0, slots := 0, locals := 47 }) (gPc [.ref a, .int p0, .int p1, .int p2] (dC, dI) (gTy cyC cyI cyZ) sz [(a, .inr (7, [.ref a_text, .int v_size, .int v_at, .int v_begin, .int v_token, .int v_told, .ref a_read, .ref a_hill, .ref a_now, .ref a_undone, .int v_undos, .ref a_need, .int v_cames, .ref a_cameOf, .ref a_places, .ref a_firstRow, .int v_each, .long v_trace, .ref a_kept])), (a_hill, .inl (cyI, 46, .inl v_hill)), (a_now, .inl (cyI, 15, .inl v_now))]) (gQi0 Q (dC, dI) (va_A [(a, .inr (7, [.ref a_text, .int v_size, .int v_at, .int v_begin, .int v_token, .int v_told, .ref a_read, .ref a_hill, .ref a_now, .ref a_undone, .int v_undos, .ref a_need, .int v_cames, .ref a_cameOf, .ref a_places, .ref a_firstRow, .int v_each, .long v_trace, .ref a_kept])), (a_hill, .inl (cyI, 46, .inl v_hill)), (a_now, .inl (cyI, 15, .inl v_now))] sz) [(a, .inr (7, [.ref a_text, .int v_size, .int v_at, .int v_begin, .int v_token, .int v_told, .ref a_read, .ref a_hill, .ref a_now, .ref a_undone, .int v_undos, .ref a_need, .int v_cames, .ref a_cameOf, .ref a_places, .ref a_firstRow, .int v_each, .long v_trace, .ref a_kept])), (a_hill, .inl (cyI, 46, .inl v_hill)), (a_now, .inl (cyI, 15, .inl v_now))]) 0 0 (va_A [(a, .inr (7, [.ref a_text, .int v_size, .int v_at, .int v_begin, .int v_token, .int v_told, .ref a_read, .ref a_hill, .ref a_now, .ref a_undone, .int v_undos, .ref a_need, .int v_cames, .ref a_cameOf, .ref a_places, .ref a_firstRow, .int v_each, .long v_trace, .ref a_kept])), (a_hill, .inl (cyI, 46, .inl v_hill)), (a_now, .inl (cyI, 15, .inl v_now))] sz) := by
  refine gMet (cc := cX7_cell) (maxL := 5) (ret := (some .int)) (own := RX7) (fun A => gQi0 Q (dC, dI) A [(a, .inr (7, [.ref a_text, .int v_size, .int v_at, .int v_begin, .int v_token, .int v_told, .ref a_read, .ref a_hill, .ref a_now, .ref a_undone, .int v_undos, .ref a_need, .int v_cames, .ref a_cameOf, .ref a_places, .ref a_firstRow, .int v_each, .long v_trace, .ref a_kept])), (a_hill, .inl (cyI, 46, .inl v_hill)), (a_now, .inl (cyI, 15, .inl v_now))]) (by decide) rfl rfl (Nat.le_of_ble_eq_true rfl) ?_
  intro p e s m below meth c A ls C0 _ hK hN hP hD hA hl
  obtain ⟨hx, hb, hr, hml, hown, hts, hlocks⟩ := id C0
  have f16 := hts (.fieldLink RX7 16 "LastOchreModel" "hill" "[I") (by decide +kernel)
  have f19 := hts (.fieldLink RX7 19 "LastOchreModel" "now" "[I") (by decide +kernel)
  have hS : va_S A s.heap s.heap [] := va_S.rf
  replace hl : lv_has ls 5 [(0, .ref a), (1, .int p0), (2, .int p1), (3, .int p2)] := hl
  unfold q_X7_cell at h
  unfold F_X7_cell_e at h
  refine lv_aload_n hx hb dX7_cell_0 rfl (lv_at hl 0 rfl) ?_
  refine lv_iload_n hx hb dX7_cell_1 rfl (lv_at hl 1 rfl) ?_
  refine lv_iload_n hx hb dX7_cell_2 rfl (lv_at hl 2 rfl) ?_
  refine gV_i0 (As := [.int p0, .int p1]) (rest := []) ⟨hx, hb, hml, hown, hts⟩ (c_X7_isCell l dC dI cyC cyI cyZ _ a a_text a_read a_hill a_now a_undone a_need a_cameOf a_places a_firstRow a_kept v_size v_at v_begin v_token v_told v_undos v_cames v_each v_trace v_hill p0 p1 h) (cwV 2 hts gX7_cell_X7_isCell rfl rfl rfl hdV_X7_isCell ⟨Nat.le_of_ble_eq_true rfl, Nat.le_of_ble_eq_true rfl⟩) hK hN hP hD hS hA [0, 1] (by decide) rfl (ci := 7) rfl rfl rfl hl.1 rfl (Nat.le_of_ble_eq_true rfl) dX7_cell_3 ⟨Nat.zero_le _, Nat.zero_le _⟩ (fun r_1 H locs h hP hS => ?_)
  refine lv_if_eq (tgt := 21) hx hb dX7_cell_6 (by decide) (fun c_2 => ?_) (fun c_2 => ?_)
  · replace h := h.1 c_2
    refine lv_iconst (v := -1) hx hb dX7_cell_21 (by decide) ?_
    exact gri0 hx hb hr hlocks h hP hD hS dX7_cell_22
  · replace h := h.2 c_2
    refine lv_iload_n hx hb dX7_cell_9 rfl (lv_at hl 3 rfl) ?_
    refine lv_i2l hx hb dX7_cell_10 rfl ?_
    refine lv_lconst (v := 0) hx hb dX7_cell_11 (by decide) ?_
    refine lv_ldc2 (v := 2) hx hb hown (hts (.constantLong RX7 142 (2)) (by decide +kernel)) dX7_cell_12 ?_
    refine gS_i0 (As := [.long ((p2).toInt64), .long (0 : Int64), .long (2 : Int64)]) (rest := []) ⟨hx, hb, hml, hown, hts⟩ (c_X7_in l dC dI cyC cyI cyZ _ ((p2).toInt64) (0 : Int64) (2 : Int64) h) (va_cwS 3 hts gX7_cell_X7_in rfl rfl rfl hdS_X7_in ⟨Nat.le_of_ble_eq_true rfl, Nat.le_of_ble_eq_true rfl⟩) hK hN hP hD hS hA [] (by decide) rfl rfl hl.1 rfl (Nat.le_of_ble_eq_true rfl) dX7_cell_15 ⟨Nat.zero_le _, Nat.zero_le _⟩ (fun r_3 H locs h hP hS => ?_)
    refine lv_if_ne (tgt := 23) hx hb dX7_cell_18 (by decide) (fun c_4 => ?_) (fun c_4 => ?_)
    · replace h := h.1 c_4
      refine lv_aload_n hx hb dX7_cell_23 rfl (lv_at hl 0 rfl) ?_
      refine va_get (D := (dC, dI)) (ci := 7) (v := .ref a_hill) (C := RX7) (T := TX7) (N := 19) hx hb hts iwX7_cell_X7 hown hK hP 0 rfl rfl 7 (by decide) f16 (fun _ h9 => h9) rfl dX7_cell_24 ?_
      refine lv_iconst (v := 0) hx hb dX7_cell_27 (by decide) ?_
      refine va_iald hx hb hK hP 1 0 rfl rfl (by unfold vp_in; decide) dX7_cell_28 ?_
      refine lv_iload_n hx hb dX7_cell_29 rfl (lv_at hl 2 rfl) ?_
      refine lv_imul hx hb dX7_cell_30 ?_
      refine lv_iload_n hx hb dX7_cell_31 rfl (lv_at hl 1 rfl) ?_
      refine lv_iadd hx hb dX7_cell_32 ?_
      refine lv_topi (fun x4_5 e_6 => ?_)
      replace h := h x4_5 e_6
      refine lv_istore (lv' := [(4, .int x4_5), (0, .ref a), (1, .int p0), (2, .int p1), (3, .int p2)]) hx hb dX7_cell_33 hl (by decide) rfl (fun ls hl => ?_)
      refine lv_iload_n hx hb dX7_cell_35 rfl (lv_at hl 4 rfl) ?_
      refine lv_if_ne (tgt := 52) hx hb dX7_cell_36 (by decide) (fun c_7 => ?_) (fun c_7 => ?_)
      · replace h := h.1 c_7
        refine lv_iload_n hx hb dX7_cell_52 rfl (lv_at hl 4 rfl) ?_
        refine lv_iconst (v := 1) hx hb dX7_cell_53 (by decide) ?_
        refine lv_icmp_ne (tgt := 71) hx hb dX7_cell_54 (by decide) (fun c_8 => ?_) (fun c_8 => ?_)
        · replace h := h.1 c_8
          refine lv_aload_n hx hb dX7_cell_71 rfl (lv_at hl 1 rfl) ?_
          refine lv_iload hx hb dX7_cell_72 (lv_at hl 0 rfl) ?_
          refine lv_aload_n hx hb dX7_cell_74 rfl (lv_at hl 1 rfl) ?_
          refine va_get (D := (dC, dI)) (ci := 7) (v := .ref a_now) (C := RX7) (T := TX7) (N := 19) hx hb hts iwX7_cell_X7 hown hK hP 0 rfl rfl 8 (by decide) f19 (fun _ h9 => h9) rfl dX7_cell_75 ?_
          refine lv_iconst (v := 2) hx hb dX7_cell_78 (by decide) ?_
          refine va_iald hx hb hK hP 2 0 rfl rfl (by unfold vp_in; decide) dX7_cell_79 ?_
          refine gV_i0 (As := [.int x4_5, .int (v_now ((2 : Int32)).toNatClampNeg)]) (rest := []) ⟨hx, hb, hml, hown, hts⟩ (c_X7_may l dC dI cyC cyI cyZ _ a a_text a_read a_hill a_now a_undone a_need a_cameOf a_places a_firstRow a_kept v_size v_at v_begin v_token v_told v_undos v_cames v_each v_trace v_hill x4_5 (v_now ((2 : Int32)).toNatClampNeg) h) (cwV 2 hts gX7_cell_X7_may rfl rfl rfl hdV_X7_may ⟨Nat.le_of_ble_eq_true rfl, Nat.le_of_ble_eq_true rfl⟩) hK hN hP hD hS hA [0, 1] (by decide) rfl (ci := 7) rfl rfl rfl hl.1 rfl (Nat.le_of_ble_eq_true rfl) dX7_cell_80 ⟨Nat.zero_le _, Nat.zero_le _⟩ (fun r_9 H locs h hP hS => ?_)
          refine lv_if_eq (tgt := 90) hx hb dX7_cell_83 (by decide) (fun c_10 => ?_) (fun c_10 => ?_)
          · replace h := h.1 c_10
            refine lv_iconst (v := 0) hx hb dX7_cell_90 (by decide) ?_
            exact gri0 hx hb hr hlocks h hP hD hS dX7_cell_91
          · replace h := h.2 c_10
            refine lv_iconst (v := 1) hx hb dX7_cell_86 (by decide) ?_
            refine lv_goto (tgt := 91) hx hb dX7_cell_87 (by decide) ?_
            exact gri0 hx hb hr hlocks h hP hD hS dX7_cell_91
        · replace h := h.2 c_8
          refine lv_aload_n hx hb dX7_cell_57 rfl (lv_at hl 1 rfl) ?_
          refine va_get (D := (dC, dI)) (ci := 7) (v := .ref a_now) (C := RX7) (T := TX7) (N := 19) hx hb hts iwX7_cell_X7 hown hK hP 0 rfl rfl 8 (by decide) f19 (fun _ h9 => h9) rfl dX7_cell_58 ?_
          refine lv_iconst (v := 2) hx hb dX7_cell_61 (by decide) ?_
          refine va_iald hx hb hK hP 2 0 rfl rfl (by unfold vp_in; decide) dX7_cell_62 ?_
          refine lv_iload hx hb dX7_cell_63 (lv_at hl 0 rfl) ?_
          refine lv_ishr hx hb dX7_cell_65 ?_
          refine lv_iconst (v := 1) hx hb dX7_cell_66 (by decide) ?_
          refine lv_iand hx hb dX7_cell_67 ?_
          refine lv_goto (tgt := 91) hx hb dX7_cell_68 (by decide) ?_
          exact gri0 hx hb hr hlocks h hP hD hS dX7_cell_91
      · replace h := h.2 c_7
        refine lv_aload_n hx hb dX7_cell_39 rfl (lv_at hl 1 rfl) ?_
        refine va_get (D := (dC, dI)) (ci := 7) (v := .ref a_hill) (C := RX7) (T := TX7) (N := 19) hx hb hts iwX7_cell_X7 hown hK hP 0 rfl rfl 7 (by decide) f16 (fun _ h9 => h9) rfl dX7_cell_40 ?_
        refine lv_bipush (v := 6) hx hb dX7_cell_43 (by decide) ?_
        refine lv_iload hx hb dX7_cell_45 (lv_at hl 0 rfl) ?_
        refine lv_iadd hx hb dX7_cell_47 ?_
        have g_11 := h.1
        replace h := h.2
        refine va_iald hx hb hK hP 1 0 rfl rfl g_11 dX7_cell_48 ?_
        refine lv_goto (tgt := 91) hx hb dX7_cell_49 (by decide) ?_
        exact gri0 hx hb hr hlocks h hP hD hS dX7_cell_91
    · replace h := h.2 c_4
      refine lv_iconst (v := -1) hx hb dX7_cell_21 (by decide) ?_
      exact gri0 hx hb hr hlocks h hP hD hS dX7_cell_22

def F_X7_thing_e (v_hill : Nat → Int32) (v_now : Nat → Int32) (p0 : Int32) (p1 : Int32) (Q : Int32 → Prop)  : Prop :=
  q_X7_isThing v_hill p0 (fun (r_1 : Int32) => (r_1 = 0 → (Q (-1 : Int32))) ∧ (¬ r_1 = 0 → (q_X7_in ((p1).toInt64) (0 : Int64) (4 : Int64) (fun (r_3 : Int32) => (¬ r_3 = 0 → ((p1 = (0 : Int32) → (q_X7_yellow v_now p0 (fun (r_6 : Int32) => Q r_6))) ∧ (p1 = (1 : Int32) → (q_X7_white v_now p0 (fun (r_8 : Int32) => Q r_8))) ∧ (p1 = (2 : Int32) → (q_X7_fades v_hill p0 (fun (r_10 : Int32) => Q r_10))) ∧ (p1 = (3 : Int32) → (q_X7_worth v_hill p0 (fun (r_12 : Int32) => Q r_12))) ∧ ((¬ p1 = (0 : Int32) ∧ ¬ p1 = (1 : Int32) ∧ ¬ p1 = (2 : Int32) ∧ ¬ p1 = (3 : Int32)) → (q_X7_isThen v_now v_hill p0 (0 : Int32) (0 : Int32) (fun (r_13 : Int32) => (r_13 = 0 → (Q (0 : Int32))) ∧ (¬ r_13 = 0 → (Q (1 : Int32)))))))) ∧ (r_3 = 0 → (Q (-1 : Int32)))))))
def q_X7_thing (v_hill : Nat → Int32) (v_now : Nat → Int32) (p0 : Int32) (p1 : Int32) (Q : Int32 → Prop) : Prop := F_X7_thing_e v_hill v_now p0 p1 Q 
theorem hdV_X7_thing : yX7_thing.cls = RX7 ∧ yX7_thing.cls ≠ "java/lang/invoke/MethodHandle" ∧ yX7_thing.cls ≠ "java/lang/invoke/VarHandle" ∧ (parseMethodDescriptor yX7_thing.desc).map (fun d => d.parameters.length) = some 2 := by decide +kernel
set_option maxHeartbeats 4000000 in
set_option maxRecDepth 100000 in
theorem c_X7_thing (l : Launch) (dC : Nat → ClassId) (dI : Nat → Nat → Nat) (cyC cyI cyZ : ClassId) (sz : Nat) (a a_text a_read a_hill a_now a_undone a_need a_cameOf a_places a_firstRow a_kept : Nat) (v_size : Int32) (v_at : Int32) (v_begin : Int32) (v_token : Int32) (v_told : Int32) (v_undos : Int32) (v_cames : Int32) (v_each : Int32) (v_trace : Int64) (v_hill : Nat → Int32) (v_now : Nat → Int32) (p0 : Int32) (p1 : Int32) {Q : Int32 → Prop} (h : q_X7_thing v_hill v_now p0 p1 Q) : Met l yX7_thing wsX7_thing ({ frames := 2, cells := 0, slots := 0, locals := 46 }) (gPc [.ref a, .int p0, .int p1] (dC, dI) (gTy cyC cyI cyZ) sz [(a, .inr (7, [.ref a_text, .int v_size, .int v_at, .int v_begin, .int v_token, .int v_told, .ref a_read, .ref a_hill, .ref a_now, .ref a_undone, .int v_undos, .ref a_need, .int v_cames, .ref a_cameOf, .ref a_places, .ref a_firstRow, .int v_each, .long v_trace, .ref a_kept])), (a_hill, .inl (cyI, 46, .inl v_hill)), (a_now, .inl (cyI, 15, .inl v_now))]) (gQi0 Q (dC, dI) (va_A [(a, .inr (7, [.ref a_text, .int v_size, .int v_at, .int v_begin, .int v_token, .int v_told, .ref a_read, .ref a_hill, .ref a_now, .ref a_undone, .int v_undos, .ref a_need, .int v_cames, .ref a_cameOf, .ref a_places, .ref a_firstRow, .int v_each, .long v_trace, .ref a_kept])), (a_hill, .inl (cyI, 46, .inl v_hill)), (a_now, .inl (cyI, 15, .inl v_now))] sz) [(a, .inr (7, [.ref a_text, .int v_size, .int v_at, .int v_begin, .int v_token, .int v_told, .ref a_read, .ref a_hill, .ref a_now, .ref a_undone, .int v_undos, .ref a_need, .int v_cames, .ref a_cameOf, .ref a_places, .ref a_firstRow, .int v_each, .long v_trace, .ref a_kept])), (a_hill, .inl (cyI, 46, .inl v_hill)), (a_now, .inl (cyI, 15, .inl v_now))]) 0 0 (va_A [(a, .inr (7, [.ref a_text, .int v_size, .int v_at, .int v_begin, .int v_token, .int v_told, .ref a_read, .ref a_hill, .ref a_now, .ref a_undone, .int v_undos, .ref a_need, .int v_cames, .ref a_cameOf, .ref a_places, .ref a_firstRow, .int v_each, .long v_trace, .ref a_kept])), (a_hill, .inl (cyI, 46, .inl v_hill)), (a_now, .inl (cyI, 15, .inl v_now))] sz) := by
  refine gMet (cc := cX7_thing) (maxL := 3) (ret := (some .int)) (own := RX7) (fun A => gQi0 Q (dC, dI) A [(a, .inr (7, [.ref a_text, .int v_size, .int v_at, .int v_begin, .int v_token, .int v_told, .ref a_read, .ref a_hill, .ref a_now, .ref a_undone, .int v_undos, .ref a_need, .int v_cames, .ref a_cameOf, .ref a_places, .ref a_firstRow, .int v_each, .long v_trace, .ref a_kept])), (a_hill, .inl (cyI, 46, .inl v_hill)), (a_now, .inl (cyI, 15, .inl v_now))]) (by decide) rfl rfl (Nat.le_of_ble_eq_true rfl) ?_
  intro p e s m below meth c A ls C0 _ hK hN hP hD hA hl
  obtain ⟨hx, hb, hr, hml, hown, hts, hlocks⟩ := id C0
  have hS : va_S A s.heap s.heap [] := va_S.rf
  replace hl : lv_has ls 3 [(0, .ref a), (1, .int p0), (2, .int p1)] := hl
  unfold q_X7_thing at h
  unfold F_X7_thing_e at h
  refine lv_aload_n hx hb dX7_thing_0 rfl (lv_at hl 0 rfl) ?_
  refine lv_iload_n hx hb dX7_thing_1 rfl (lv_at hl 1 rfl) ?_
  refine gV_i0 (As := [.int p0]) (rest := []) ⟨hx, hb, hml, hown, hts⟩ (c_X7_isThing l dC dI cyC cyI cyZ _ a a_text a_read a_hill a_now a_undone a_need a_cameOf a_places a_firstRow a_kept v_size v_at v_begin v_token v_told v_undos v_cames v_each v_trace v_hill p0 h) (cwV 1 hts gX7_thing_X7_isThing rfl rfl rfl hdV_X7_isThing ⟨Nat.le_of_ble_eq_true rfl, Nat.le_of_ble_eq_true rfl⟩) hK hN hP hD hS hA [0, 1] (by decide) rfl (ci := 7) rfl rfl rfl hl.1 rfl (Nat.le_of_ble_eq_true rfl) dX7_thing_2 ⟨Nat.zero_le _, Nat.zero_le _⟩ (fun r_1 H locs h hP hS => ?_)
  refine lv_if_eq (tgt := 20) hx hb dX7_thing_5 (by decide) (fun c_2 => ?_) (fun c_2 => ?_)
  · replace h := h.1 c_2
    refine lv_iconst (v := -1) hx hb dX7_thing_20 (by decide) ?_
    exact gri0 hx hb hr hlocks h hP hD hS dX7_thing_21
  · replace h := h.2 c_2
    refine lv_iload_n hx hb dX7_thing_8 rfl (lv_at hl 2 rfl) ?_
    refine lv_i2l hx hb dX7_thing_9 rfl ?_
    refine lv_lconst (v := 0) hx hb dX7_thing_10 (by decide) ?_
    refine lv_ldc2 (v := 4) hx hb hown (hts (.constantLong RX7 150 (4)) (by decide +kernel)) dX7_thing_11 ?_
    refine gS_i0 (As := [.long ((p1).toInt64), .long (0 : Int64), .long (4 : Int64)]) (rest := []) ⟨hx, hb, hml, hown, hts⟩ (c_X7_in l dC dI cyC cyI cyZ _ ((p1).toInt64) (0 : Int64) (4 : Int64) h) (va_cwS 3 hts gX7_thing_X7_in rfl rfl rfl hdS_X7_in ⟨Nat.le_of_ble_eq_true rfl, Nat.le_of_ble_eq_true rfl⟩) hK hN hP hD hS hA [] (by decide) rfl rfl hl.1 rfl (Nat.le_of_ble_eq_true rfl) dX7_thing_14 ⟨Nat.zero_le _, Nat.zero_le _⟩ (fun r_3 H locs h hP hS => ?_)
    refine lv_if_ne (tgt := 22) hx hb dX7_thing_17 (by decide) (fun c_4 => ?_) (fun c_4 => ?_)
    · replace h := h.1 c_4
      refine lv_iload_n hx hb dX7_thing_22 rfl (lv_at hl 2 rfl) ?_
      refine (Classical.em (p1 = (0 : Int32))).elim (fun c_5 => ?_) (fun c_5 => ?_)
      · replace h := h.1 c_5
        refine lv_tableIn (off := 29) (tgt := 52) hx hb dX7_thing_23 (by rw [c_5]; decide) (by rw [c_5]; decide) (by rw [c_5]; rfl) (by decide) ?_
        refine lv_aload_n hx hb dX7_thing_52 rfl (lv_at hl 0 rfl) ?_
        refine lv_iload_n hx hb dX7_thing_53 rfl (lv_at hl 1 rfl) ?_
        refine gV_i0 (As := [.int p0]) (rest := []) ⟨hx, hb, hml, hown, hts⟩ (c_X7_yellow l dC dI cyC cyI cyZ _ a a_text a_read a_hill a_now a_undone a_need a_cameOf a_places a_firstRow a_kept v_size v_at v_begin v_token v_told v_undos v_cames v_each v_trace v_now p0 h) (cwV 1 hts gX7_thing_X7_yellow rfl rfl rfl hdV_X7_yellow ⟨Nat.le_of_ble_eq_true rfl, Nat.le_of_ble_eq_true rfl⟩) hK hN hP hD hS hA [0, 2] (by decide) rfl (ci := 7) rfl rfl rfl hl.1 rfl (Nat.le_of_ble_eq_true rfl) dX7_thing_54 ⟨Nat.zero_le _, Nat.zero_le _⟩ (fun r_6 H locs h hP hS => ?_)
        exact gri0 hx hb hr hlocks h hP hD hS dX7_thing_57
      refine (Classical.em (p1 = (1 : Int32))).elim (fun c_7 => ?_) (fun c_7 => ?_)
      · replace h := h.2.1 c_7
        refine lv_tableIn (off := 35) (tgt := 58) hx hb dX7_thing_23 (by rw [c_7]; decide) (by rw [c_7]; decide) (by rw [c_7]; rfl) (by decide) ?_
        refine lv_aload_n hx hb dX7_thing_58 rfl (lv_at hl 0 rfl) ?_
        refine lv_iload_n hx hb dX7_thing_59 rfl (lv_at hl 1 rfl) ?_
        refine gV_i0 (As := [.int p0]) (rest := []) ⟨hx, hb, hml, hown, hts⟩ (c_X7_white l dC dI cyC cyI cyZ _ a a_text a_read a_hill a_now a_undone a_need a_cameOf a_places a_firstRow a_kept v_size v_at v_begin v_token v_told v_undos v_cames v_each v_trace v_now p0 h) (cwV 1 hts gX7_thing_X7_white rfl rfl rfl hdV_X7_white ⟨Nat.le_of_ble_eq_true rfl, Nat.le_of_ble_eq_true rfl⟩) hK hN hP hD hS hA [0, 2] (by decide) rfl (ci := 7) rfl rfl rfl hl.1 rfl (Nat.le_of_ble_eq_true rfl) dX7_thing_60 ⟨Nat.zero_le _, Nat.zero_le _⟩ (fun r_8 H locs h hP hS => ?_)
        exact gri0 hx hb hr hlocks h hP hD hS dX7_thing_63
      refine (Classical.em (p1 = (2 : Int32))).elim (fun c_9 => ?_) (fun c_9 => ?_)
      · replace h := h.2.2.1 c_9
        refine lv_tableIn (off := 41) (tgt := 64) hx hb dX7_thing_23 (by rw [c_9]; decide) (by rw [c_9]; decide) (by rw [c_9]; rfl) (by decide) ?_
        refine lv_aload_n hx hb dX7_thing_64 rfl (lv_at hl 0 rfl) ?_
        refine lv_iload_n hx hb dX7_thing_65 rfl (lv_at hl 1 rfl) ?_
        refine gV_i0 (As := [.int p0]) (rest := []) ⟨hx, hb, hml, hown, hts⟩ (c_X7_fades l dC dI cyC cyI cyZ _ a a_text a_read a_hill a_now a_undone a_need a_cameOf a_places a_firstRow a_kept v_size v_at v_begin v_token v_told v_undos v_cames v_each v_trace v_hill p0 h) (cwV 1 hts gX7_thing_X7_fades rfl rfl rfl hdV_X7_fades ⟨Nat.le_of_ble_eq_true rfl, Nat.le_of_ble_eq_true rfl⟩) hK hN hP hD hS hA [0, 1] (by decide) rfl (ci := 7) rfl rfl rfl hl.1 rfl (Nat.le_of_ble_eq_true rfl) dX7_thing_66 ⟨Nat.zero_le _, Nat.zero_le _⟩ (fun r_10 H locs h hP hS => ?_)
        exact gri0 hx hb hr hlocks h hP hD hS dX7_thing_69
      refine (Classical.em (p1 = (3 : Int32))).elim (fun c_11 => ?_) (fun c_11 => ?_)
      · replace h := h.2.2.2.1 c_11
        refine lv_tableIn (off := 47) (tgt := 70) hx hb dX7_thing_23 (by rw [c_11]; decide) (by rw [c_11]; decide) (by rw [c_11]; rfl) (by decide) ?_
        refine lv_aload_n hx hb dX7_thing_70 rfl (lv_at hl 0 rfl) ?_
        refine lv_iload_n hx hb dX7_thing_71 rfl (lv_at hl 1 rfl) ?_
        refine gV_i0 (As := [.int p0]) (rest := []) ⟨hx, hb, hml, hown, hts⟩ (c_X7_worth l dC dI cyC cyI cyZ _ a a_text a_read a_hill a_now a_undone a_need a_cameOf a_places a_firstRow a_kept v_size v_at v_begin v_token v_told v_undos v_cames v_each v_trace v_hill p0 h) (cwV 1 hts gX7_thing_X7_worth rfl rfl rfl hdV_X7_worth ⟨Nat.le_of_ble_eq_true rfl, Nat.le_of_ble_eq_true rfl⟩) hK hN hP hD hS hA [0, 1] (by decide) rfl (ci := 7) rfl rfl rfl hl.1 rfl (Nat.le_of_ble_eq_true rfl) dX7_thing_72 ⟨Nat.zero_le _, Nat.zero_le _⟩ (fun r_12 H locs h hP hS => ?_)
        exact gri0 hx hb hr hlocks h hP hD hS dX7_thing_75
      replace h := h.2.2.2.2 ⟨c_5, c_7, c_9, c_11⟩
      have t_15 := sw_ne (a := 0) c_5 (by decide)
      have t_16 := sw_ne (a := 1) c_7 (by decide)
      have t_17 := sw_ne (a := 2) c_9 (by decide)
      have t_18 := sw_ne (a := 3) c_11 (by decide)
      refine lv_tableOut (tgt := 76) hx hb dX7_thing_23 (by omega) (by decide) ?_
      refine lv_aload_n hx hb dX7_thing_76 rfl (lv_at hl 0 rfl) ?_
      refine lv_iload_n hx hb dX7_thing_77 rfl (lv_at hl 1 rfl) ?_
      refine lv_iconst (v := 0) hx hb dX7_thing_78 (by decide) ?_
      refine lv_iconst (v := 0) hx hb dX7_thing_79 (by decide) ?_
      refine gV_i0 (As := [.int p0, .int (0 : Int32), .int (0 : Int32)]) (rest := []) ⟨hx, hb, hml, hown, hts⟩ (c_X7_isThen l dC dI cyC cyI cyZ _ a a_text a_read a_hill a_now a_undone a_need a_cameOf a_places a_firstRow a_kept v_size v_at v_begin v_token v_told v_undos v_cames v_each v_trace v_now v_hill p0 (0 : Int32) (0 : Int32) h) (cwV 3 hts gX7_thing_X7_isThen rfl rfl rfl hdV_X7_isThen ⟨Nat.le_of_ble_eq_true rfl, Nat.le_of_ble_eq_true rfl⟩) hK hN hP hD hS hA [0, 2, 1] (by decide) rfl (ci := 7) rfl rfl rfl hl.1 rfl (Nat.le_of_ble_eq_true rfl) dX7_thing_80 ⟨Nat.zero_le _, Nat.zero_le _⟩ (fun r_13 H locs h hP hS => ?_)
      refine lv_if_eq (tgt := 90) hx hb dX7_thing_83 (by decide) (fun c_14 => ?_) (fun c_14 => ?_)
      · replace h := h.1 c_14
        refine lv_iconst (v := 0) hx hb dX7_thing_90 (by decide) ?_
        exact gri0 hx hb hr hlocks h hP hD hS dX7_thing_91
      · replace h := h.2 c_14
        refine lv_iconst (v := 1) hx hb dX7_thing_86 (by decide) ?_
        refine lv_goto (tgt := 91) hx hb dX7_thing_87 (by decide) ?_
        exact gri0 hx hb hr hlocks h hP hD hS dX7_thing_91
    · replace h := h.2 c_4
      refine lv_iconst (v := -1) hx hb dX7_thing_20 (by decide) ?_
      exact gri0 hx hb hr hlocks h hP hD hS dX7_thing_21

def F_X7_notes_e (v_now : Nat → Int32) (Q : Int32 → (Nat → Int32) → Prop) (rec : Nat → Int32 → Int32 → (Nat → Int32) → Prop) (v_undos : Int32) (v_undone : Nat → Int32) : Prop :=
  (¬ v_undos = (10 : Int32) → (rec 48 (0 : Int32) v_undos v_undone)) ∧ (v_undos = (10 : Int32) → (rec 12 (15 : Int32) v_undos v_undone))
def F_X7_notes_12 (v_now : Nat → Int32) (Q : Int32 → (Nat → Int32) → Prop) (rec : Nat → Int32 → Int32 → (Nat → Int32) → Prop) (x1 : Int32) (v_undos : Int32) (v_undone : Nat → Int32) : Prop :=
  ((150 : Int32) ≤ x1 → (rec 48 (0 : Int32) (9 : Int32) v_undone)) ∧ (¬ (150 : Int32) ≤ x1 → (vp_in x1 150 ∧ (vp_in (x1 - (15 : Int32)) 150 ∧ (∀ f_5 : Nat → Int32, f_5 = upd v_undone ((x1 - (15 : Int32))).toNatClampNeg (v_undone (x1).toNatClampNeg) → (∀ x1_7 : Int32, x1_7 = (x1 + (1 : Int32)) → (rec 12 x1_7 v_undos f_5))))))
def F_X7_notes_48 (v_now : Nat → Int32) (Q : Int32 → (Nat → Int32) → Prop) (rec : Nat → Int32 → Int32 → (Nat → Int32) → Prop) (x1 : Int32) (v_undos : Int32) (v_undone : Nat → Int32) : Prop :=
  ((15 : Int32) ≤ x1 → (∀ n_10 : Int32, n_10 = (v_undos + (1 : Int32)) → (Q n_10 v_undone))) ∧ (¬ (15 : Int32) ≤ x1 → (vp_in x1 15 ∧ (vp_in (((15 : Int32) * v_undos) + x1) 150 ∧ (∀ f_14 : Nat → Int32, f_14 = upd v_undone ((((15 : Int32) * v_undos) + x1)).toNatClampNeg (v_now (x1).toNatClampNeg) → (∀ x1_16 : Int32, x1_16 = (x1 + (1 : Int32)) → (rec 48 x1_16 v_undos f_14))))))
def wp_X7_notes (v_now : Nat → Int32) (Q : Int32 → (Nat → Int32) → Prop) : Nat → Nat → Int32 → Int32 → (Nat → Int32) → Prop
  | 0 => fun _ _ _ _ => False
  | n + 1 => fun t x1 v_undos v_undone => if t = 12 then F_X7_notes_12 v_now Q (wp_X7_notes v_now Q n) x1 v_undos v_undone else if t = 48 then F_X7_notes_48 v_now Q (wp_X7_notes v_now Q n) x1 v_undos v_undone else False
def q_X7_notes (v_undos : Int32) (v_undone : Nat → Int32) (v_now : Nat → Int32) (Q : Int32 → (Nat → Int32) → Prop) : Prop := ∃ n, F_X7_notes_e v_now Q (wp_X7_notes v_now Q n) v_undos v_undone
theorem iwX7_notes_X7 : ∀ w ∈ wsX70, w ∈ wsX7_notes := by decide +kernel
theorem hdV_X7_notes : yX7_notes.cls = RX7 ∧ yX7_notes.cls ≠ "java/lang/invoke/MethodHandle" ∧ yX7_notes.cls ≠ "java/lang/invoke/VarHandle" ∧ (parseMethodDescriptor yX7_notes.desc).map (fun d => d.parameters.length) = some 0 := by decide +kernel
set_option maxHeartbeats 4000000 in
set_option maxRecDepth 100000 in
theorem w_X7_notes {p : Program} {l : Launch} {e : Env} {s : State} {m : MethodId} {args : Array Value} {below : List Frame} {meth : Method} {c : Code} {A : Nat → Prop} (dC : Nat → ClassId) (dI : Nat → Nat → Nat) (cyC cyI cyZ : ClassId) (a a_text a_read a_hill a_now a_undone a_need a_cameOf a_places a_firstRow a_kept : Nat) (v_size : Int32) (v_at : Int32) (v_begin : Int32) (v_token : Int32) (v_told : Int32) (v_cames : Int32) (v_each : Int32) (v_trace : Int64) (v_now : Nat → Int32) (Q : Int32 → (Nat → Int32) → Prop) (C0 : gAt cX7_notes none 2 RX7 wsX7_notes p s m meth c args) (hK : va_K (dC, dI) vwCl (gTy cyC cyI cyZ) s) (hN : nU s) (hA : ∀ q, s.heap.size ≤ q → A q) : ∀ n : Nat, (∀ (x1 : Int32) (v_undos : Int32) (v_undone : Nat → Int32) (H : Heap) (locs : List Loc) (ls : Array Slot), wp_X7_notes v_now Q n 12 x1 v_undos v_undone → va_P (dC, dI) vwCl [(a, .inr (7, [.ref a_text, .int v_size, .int v_at, .int v_begin, .int v_token, .int v_told, .ref a_read, .ref a_hill, .ref a_now, .ref a_undone, .int v_undos, .ref a_need, .int v_cames, .ref a_cameOf, .ref a_places, .ref a_firstRow, .int v_each, .long v_trace, .ref a_kept])), (a_undone, .inl (cyI, 150, .inl v_undone)), (a_now, .inl (cyI, 15, .inl v_now))] H → va_D A [(a, .inr (7, [.ref a_text, .int v_size, .int v_at, .int v_begin, .int v_token, .int v_told, .ref a_read, .ref a_hill, .ref a_now, .ref a_undone, .int v_undos, .ref a_need, .int v_cames, .ref a_cameOf, .ref a_places, .ref a_firstRow, .int v_each, .long v_trace, .ref a_kept])), (a_undone, .inl (cyI, 150, .inl v_undone)), (a_now, .inl (cyI, 15, .inl v_now))] → va_S A s.heap H locs → lv_has ls 2 [(0, .ref a), (1, .int x1)] → W p l e { frames := 0, cells := 0, slots := 0, locals := 0 } s m args below meth c H locs 0 0 (MQ below (gQv2 Q (dC, dI) A (fun (u1 : Int32) (u2 : Nat → Int32) => [(a, .inr (7, [.ref a_text, .int v_size, .int v_at, .int v_begin, .int v_token, .int v_told, .ref a_read, .ref a_hill, .ref a_now, .ref a_undone, .int u1, .ref a_need, .int v_cames, .ref a_cameOf, .ref a_places, .ref a_firstRow, .int v_each, .long v_trace, .ref a_kept])), (a_undone, .inl (cyI, 150, .inl u2)), (a_now, .inl (cyI, 15, .inl v_now))])) args s 0 0 A) (F0 m 12 ls [])) ∧ (∀ (x1 : Int32) (v_undos : Int32) (v_undone : Nat → Int32) (H : Heap) (locs : List Loc) (ls : Array Slot), wp_X7_notes v_now Q n 48 x1 v_undos v_undone → va_P (dC, dI) vwCl [(a, .inr (7, [.ref a_text, .int v_size, .int v_at, .int v_begin, .int v_token, .int v_told, .ref a_read, .ref a_hill, .ref a_now, .ref a_undone, .int v_undos, .ref a_need, .int v_cames, .ref a_cameOf, .ref a_places, .ref a_firstRow, .int v_each, .long v_trace, .ref a_kept])), (a_undone, .inl (cyI, 150, .inl v_undone)), (a_now, .inl (cyI, 15, .inl v_now))] H → va_D A [(a, .inr (7, [.ref a_text, .int v_size, .int v_at, .int v_begin, .int v_token, .int v_told, .ref a_read, .ref a_hill, .ref a_now, .ref a_undone, .int v_undos, .ref a_need, .int v_cames, .ref a_cameOf, .ref a_places, .ref a_firstRow, .int v_each, .long v_trace, .ref a_kept])), (a_undone, .inl (cyI, 150, .inl v_undone)), (a_now, .inl (cyI, 15, .inl v_now))] → va_S A s.heap H locs → lv_has ls 2 [(0, .ref a), (1, .int x1)] → W p l e { frames := 0, cells := 0, slots := 0, locals := 0 } s m args below meth c H locs 0 0 (MQ below (gQv2 Q (dC, dI) A (fun (u1 : Int32) (u2 : Nat → Int32) => [(a, .inr (7, [.ref a_text, .int v_size, .int v_at, .int v_begin, .int v_token, .int v_told, .ref a_read, .ref a_hill, .ref a_now, .ref a_undone, .int u1, .ref a_need, .int v_cames, .ref a_cameOf, .ref a_places, .ref a_firstRow, .int v_each, .long v_trace, .ref a_kept])), (a_undone, .inl (cyI, 150, .inl u2)), (a_now, .inl (cyI, 15, .inl v_now))])) args s 0 0 A) (F0 m 48 ls [])) := by
  obtain ⟨hx, hb, hr, hml, hown, hts, hlocks⟩ := id C0
  have f119 := hts (.fieldLink RX7 119 "LastOchreModel" "undos" "I") (by decide +kernel)
  have f19 := hts (.fieldLink RX7 19 "LastOchreModel" "now" "[I") (by decide +kernel)
  have f22 := hts (.fieldLink RX7 22 "LastOchreModel" "undone" "[I") (by decide +kernel)
  intro n
  induction n with
  | zero => exact ⟨fun _ _ _ _ _ _ h => absurd h id, fun _ _ _ _ _ _ h => absurd h id⟩
  | succ n ih =>
    obtain ⟨ih12, ih48⟩ := ih
    refine ⟨?_, ?_⟩
    · intro x1 v_undos v_undone H locs ls h hP hD hS hl
      replace h : F_X7_notes_12 v_now Q (wp_X7_notes v_now Q n) x1 v_undos v_undone := h
      unfold F_X7_notes_12 at h
      refine lv_iload_n hx hb dX7_notes_12 rfl (lv_at hl 1 rfl) ?_
      refine lv_sipush (v := 150) hx hb dX7_notes_13 (by decide) ?_
      refine lv_icmp_ge (tgt := 40) hx hb dX7_notes_16 (by decide) (fun c_2 => ?_) (fun c_2 => ?_)
      · replace h := h.1 c_2
        refine lv_aload_n hx hb dX7_notes_40 rfl (lv_at hl 0 rfl) ?_
        refine lv_bipush (v := 9) hx hb dX7_notes_41 (by decide) ?_
        refine va_put (D := (dC, dI)) (ci := 7) (v := .int (9 : Int32)) (ty := .int) (C := RX7) (T := TX7) (N := 19) hx hb hts iwX7_notes_X7 tyX7 tyX7_ok nmX7 hown hK hP hD hS 0 rfl rfl 10 (by decide) f119 (fun _ h9 => h9) rfl (by decide +kernel) rfl rfl (Nat.le_of_ble_eq_true rfl) dX7_notes_43 (fun H locs hP hD hS => ?_)
        replace hP : va_P (dC, dI) vwCl [(a, .inr (7, [.ref a_text, .int v_size, .int v_at, .int v_begin, .int v_token, .int v_told, .ref a_read, .ref a_hill, .ref a_now, .ref a_undone, .int (9 : Int32), .ref a_need, .int v_cames, .ref a_cameOf, .ref a_places, .ref a_firstRow, .int v_each, .long v_trace, .ref a_kept])), (a_undone, .inl (cyI, 150, .inl v_undone)), (a_now, .inl (cyI, 15, .inl v_now))] H := hP
        replace hD : va_D A [(a, .inr (7, [.ref a_text, .int v_size, .int v_at, .int v_begin, .int v_token, .int v_told, .ref a_read, .ref a_hill, .ref a_now, .ref a_undone, .int (9 : Int32), .ref a_need, .int v_cames, .ref a_cameOf, .ref a_places, .ref a_firstRow, .int v_each, .long v_trace, .ref a_kept])), (a_undone, .inl (cyI, 150, .inl v_undone)), (a_now, .inl (cyI, 15, .inl v_now))] := hD
        refine lv_iconst (v := 0) hx hb dX7_notes_46 (by decide) ?_
        refine lv_istore_n (lv' := [(1, .int (0 : Int32)), (0, .ref a)]) hx hb dX7_notes_47 rfl hl (by decide) rfl (fun ls hl => ?_)
        exact ih48 (0 : Int32) (9 : Int32) v_undone _ _ _ h hP hD hS (lv_sub hl [1, 0] rfl)
      · replace h := h.2 c_2
        refine lv_aload_n hx hb dX7_notes_19 rfl (lv_at hl 0 rfl) ?_
        refine va_get (D := (dC, dI)) (ci := 7) (v := .ref a_undone) (C := RX7) (T := TX7) (N := 19) hx hb hts iwX7_notes_X7 hown hK hP 0 rfl rfl 9 (by decide) f22 (fun _ h9 => h9) rfl dX7_notes_20 ?_
        refine lv_iload_n hx hb dX7_notes_23 rfl (lv_at hl 1 rfl) ?_
        refine lv_bipush (v := 15) hx hb dX7_notes_24 (by decide) ?_
        refine lv_isub hx hb dX7_notes_26 ?_
        refine lv_aload_n hx hb dX7_notes_27 rfl (lv_at hl 0 rfl) ?_
        refine va_get (D := (dC, dI)) (ci := 7) (v := .ref a_undone) (C := RX7) (T := TX7) (N := 19) hx hb hts iwX7_notes_X7 hown hK hP 0 rfl rfl 9 (by decide) f22 (fun _ h9 => h9) rfl dX7_notes_28 ?_
        refine lv_iload_n hx hb dX7_notes_31 rfl (lv_at hl 1 rfl) ?_
        have g_3 := h.1
        replace h := h.2
        refine va_iald hx hb hK hP 1 0 rfl rfl g_3 dX7_notes_32 ?_
        have g_4 := h.1
        replace h := h.2
        refine va_iast hx hb hK hP hD hS 1 0 rfl rfl g_4 dX7_notes_33 (fun H locs hP hD hS => ?_)
        obtain ⟨f_5, e_6⟩ : ∃ y : Nat → Int32, y = upd v_undone ((x1 - (15 : Int32))).toNatClampNeg (v_undone (x1).toNatClampNeg) := ⟨_, rfl⟩
        replace h := h f_5 e_6
        replace hP : va_P (dC, dI) vwCl [(a, .inr (7, [.ref a_text, .int v_size, .int v_at, .int v_begin, .int v_token, .int v_told, .ref a_read, .ref a_hill, .ref a_now, .ref a_undone, .int v_undos, .ref a_need, .int v_cames, .ref a_cameOf, .ref a_places, .ref a_firstRow, .int v_each, .long v_trace, .ref a_kept])), (a_undone, .inl (cyI, 150, .inl f_5)), (a_now, .inl (cyI, 15, .inl v_now))] H := by rw [e_6]; exact hP
        replace hD : va_D A [(a, .inr (7, [.ref a_text, .int v_size, .int v_at, .int v_begin, .int v_token, .int v_told, .ref a_read, .ref a_hill, .ref a_now, .ref a_undone, .int v_undos, .ref a_need, .int v_cames, .ref a_cameOf, .ref a_places, .ref a_firstRow, .int v_each, .long v_trace, .ref a_kept])), (a_undone, .inl (cyI, 150, .inl f_5)), (a_now, .inl (cyI, 15, .inl v_now))] := by rw [e_6]; exact hD
        obtain ⟨x1_7, e_8⟩ : ∃ y : Int32, y = (x1 + (1 : Int32)) := ⟨_, rfl⟩
        replace h := h x1_7 e_8
        refine lv_iinc (v := x1_7) (lv' := [(1, .int x1_7), (0, .ref a)]) hx hb dX7_notes_34 hl (k := 1) rfl (by rw [e_8]; rfl) (by decide) rfl (fun ls hl => ?_)
        refine lv_goto (tgt := 12) hx hb dX7_notes_37 (by decide) ?_
        exact ih12 x1_7 v_undos f_5 _ _ _ h hP hD hS (lv_sub hl [1, 0] rfl)
    · intro x1 v_undos v_undone H locs ls h hP hD hS hl
      replace h : F_X7_notes_48 v_now Q (wp_X7_notes v_now Q n) x1 v_undos v_undone := h
      unfold F_X7_notes_48 at h
      refine lv_iload_n hx hb dX7_notes_48 rfl (lv_at hl 1 rfl) ?_
      refine lv_bipush (v := 15) hx hb dX7_notes_49 (by decide) ?_
      refine lv_icmp_ge (tgt := 80) hx hb dX7_notes_51 (by decide) (fun c_9 => ?_) (fun c_9 => ?_)
      · replace h := h.1 c_9
        refine lv_aload_n hx hb dX7_notes_80 rfl (lv_at hl 0 rfl) ?_
        refine lv_dup hx hb dX7_notes_81 rfl ?_
        refine va_get (D := (dC, dI)) (ci := 7) (v := .int v_undos) (C := RX7) (T := TX7) (N := 19) hx hb hts iwX7_notes_X7 hown hK hP 0 rfl rfl 10 (by decide) f119 (fun _ h9 => h9) rfl dX7_notes_82 ?_
        refine lv_iconst (v := 1) hx hb dX7_notes_85 (by decide) ?_
        refine lv_iadd hx hb dX7_notes_86 ?_
        refine lv_topi (fun n_10 e_11 => ?_)
        replace h := h n_10 e_11
        refine va_put (D := (dC, dI)) (ci := 7) (v := .int n_10) (ty := .int) (C := RX7) (T := TX7) (N := 19) hx hb hts iwX7_notes_X7 tyX7 tyX7_ok nmX7 hown hK hP hD hS 0 rfl rfl 10 (by decide) f119 (fun _ h9 => h9) rfl (by decide +kernel) rfl rfl (Nat.le_of_ble_eq_true rfl) dX7_notes_87 (fun H locs hP hD hS => ?_)
        replace hP : va_P (dC, dI) vwCl [(a, .inr (7, [.ref a_text, .int v_size, .int v_at, .int v_begin, .int v_token, .int v_told, .ref a_read, .ref a_hill, .ref a_now, .ref a_undone, .int n_10, .ref a_need, .int v_cames, .ref a_cameOf, .ref a_places, .ref a_firstRow, .int v_each, .long v_trace, .ref a_kept])), (a_undone, .inl (cyI, 150, .inl v_undone)), (a_now, .inl (cyI, 15, .inl v_now))] H := hP
        replace hD : va_D A [(a, .inr (7, [.ref a_text, .int v_size, .int v_at, .int v_begin, .int v_token, .int v_told, .ref a_read, .ref a_hill, .ref a_now, .ref a_undone, .int n_10, .ref a_need, .int v_cames, .ref a_cameOf, .ref a_places, .ref a_firstRow, .int v_each, .long v_trace, .ref a_kept])), (a_undone, .inl (cyI, 150, .inl v_undone)), (a_now, .inl (cyI, 15, .inl v_now))] := hD
        exact grv2 hx hb hr hlocks h hP hD hS dX7_notes_90
      · replace h := h.2 c_9
        refine lv_aload_n hx hb dX7_notes_54 rfl (lv_at hl 0 rfl) ?_
        refine va_get (D := (dC, dI)) (ci := 7) (v := .ref a_undone) (C := RX7) (T := TX7) (N := 19) hx hb hts iwX7_notes_X7 hown hK hP 0 rfl rfl 9 (by decide) f22 (fun _ h9 => h9) rfl dX7_notes_55 ?_
        refine lv_bipush (v := 15) hx hb dX7_notes_58 (by decide) ?_
        refine lv_aload_n hx hb dX7_notes_60 rfl (lv_at hl 0 rfl) ?_
        refine va_get (D := (dC, dI)) (ci := 7) (v := .int v_undos) (C := RX7) (T := TX7) (N := 19) hx hb hts iwX7_notes_X7 hown hK hP 0 rfl rfl 10 (by decide) f119 (fun _ h9 => h9) rfl dX7_notes_61 ?_
        refine lv_imul hx hb dX7_notes_64 ?_
        refine lv_iload_n hx hb dX7_notes_65 rfl (lv_at hl 1 rfl) ?_
        refine lv_iadd hx hb dX7_notes_66 ?_
        refine lv_aload_n hx hb dX7_notes_67 rfl (lv_at hl 0 rfl) ?_
        refine va_get (D := (dC, dI)) (ci := 7) (v := .ref a_now) (C := RX7) (T := TX7) (N := 19) hx hb hts iwX7_notes_X7 hown hK hP 0 rfl rfl 8 (by decide) f19 (fun _ h9 => h9) rfl dX7_notes_68 ?_
        refine lv_iload_n hx hb dX7_notes_71 rfl (lv_at hl 1 rfl) ?_
        have g_12 := h.1
        replace h := h.2
        refine va_iald hx hb hK hP 2 0 rfl rfl g_12 dX7_notes_72 ?_
        have g_13 := h.1
        replace h := h.2
        refine va_iast hx hb hK hP hD hS 1 0 rfl rfl g_13 dX7_notes_73 (fun H locs hP hD hS => ?_)
        obtain ⟨f_14, e_15⟩ : ∃ y : Nat → Int32, y = upd v_undone ((((15 : Int32) * v_undos) + x1)).toNatClampNeg (v_now (x1).toNatClampNeg) := ⟨_, rfl⟩
        replace h := h f_14 e_15
        replace hP : va_P (dC, dI) vwCl [(a, .inr (7, [.ref a_text, .int v_size, .int v_at, .int v_begin, .int v_token, .int v_told, .ref a_read, .ref a_hill, .ref a_now, .ref a_undone, .int v_undos, .ref a_need, .int v_cames, .ref a_cameOf, .ref a_places, .ref a_firstRow, .int v_each, .long v_trace, .ref a_kept])), (a_undone, .inl (cyI, 150, .inl f_14)), (a_now, .inl (cyI, 15, .inl v_now))] H := by rw [e_15]; exact hP
        replace hD : va_D A [(a, .inr (7, [.ref a_text, .int v_size, .int v_at, .int v_begin, .int v_token, .int v_told, .ref a_read, .ref a_hill, .ref a_now, .ref a_undone, .int v_undos, .ref a_need, .int v_cames, .ref a_cameOf, .ref a_places, .ref a_firstRow, .int v_each, .long v_trace, .ref a_kept])), (a_undone, .inl (cyI, 150, .inl f_14)), (a_now, .inl (cyI, 15, .inl v_now))] := by rw [e_15]; exact hD
        obtain ⟨x1_16, e_17⟩ : ∃ y : Int32, y = (x1 + (1 : Int32)) := ⟨_, rfl⟩
        replace h := h x1_16 e_17
        refine lv_iinc (v := x1_16) (lv' := [(1, .int x1_16), (0, .ref a)]) hx hb dX7_notes_74 hl (k := 1) rfl (by rw [e_17]; rfl) (by decide) rfl (fun ls hl => ?_)
        refine lv_goto (tgt := 48) hx hb dX7_notes_77 (by decide) ?_
        exact ih48 x1_16 v_undos f_14 _ _ _ h hP hD hS (lv_sub hl [1, 0] rfl)
set_option maxHeartbeats 4000000 in
set_option maxRecDepth 100000 in
theorem c_X7_notes (l : Launch) (dC : Nat → ClassId) (dI : Nat → Nat → Nat) (cyC cyI cyZ : ClassId) (sz : Nat) (a a_text a_read a_hill a_now a_undone a_need a_cameOf a_places a_firstRow a_kept : Nat) (v_size : Int32) (v_at : Int32) (v_begin : Int32) (v_token : Int32) (v_told : Int32) (v_undos : Int32) (v_cames : Int32) (v_each : Int32) (v_trace : Int64) (v_undone : Nat → Int32) (v_now : Nat → Int32) {Q : Int32 → (Nat → Int32) → Prop} (h : q_X7_notes v_undos v_undone v_now Q) : Met l yX7_notes wsX7_notes ({ frames := 0, cells := 0, slots := 0, locals := 0 }) (gPc [.ref a] (dC, dI) (gTy cyC cyI cyZ) sz [(a, .inr (7, [.ref a_text, .int v_size, .int v_at, .int v_begin, .int v_token, .int v_told, .ref a_read, .ref a_hill, .ref a_now, .ref a_undone, .int v_undos, .ref a_need, .int v_cames, .ref a_cameOf, .ref a_places, .ref a_firstRow, .int v_each, .long v_trace, .ref a_kept])), (a_undone, .inl (cyI, 150, .inl v_undone)), (a_now, .inl (cyI, 15, .inl v_now))]) (gQv2 Q (dC, dI) (va_A [(a, .inr (7, [.ref a_text, .int v_size, .int v_at, .int v_begin, .int v_token, .int v_told, .ref a_read, .ref a_hill, .ref a_now, .ref a_undone, .int v_undos, .ref a_need, .int v_cames, .ref a_cameOf, .ref a_places, .ref a_firstRow, .int v_each, .long v_trace, .ref a_kept])), (a_undone, .inl (cyI, 150, .inl v_undone)), (a_now, .inl (cyI, 15, .inl v_now))] sz) (fun (u1 : Int32) (u2 : Nat → Int32) => [(a, .inr (7, [.ref a_text, .int v_size, .int v_at, .int v_begin, .int v_token, .int v_told, .ref a_read, .ref a_hill, .ref a_now, .ref a_undone, .int u1, .ref a_need, .int v_cames, .ref a_cameOf, .ref a_places, .ref a_firstRow, .int v_each, .long v_trace, .ref a_kept])), (a_undone, .inl (cyI, 150, .inl u2)), (a_now, .inl (cyI, 15, .inl v_now))])) 0 0 (va_A [(a, .inr (7, [.ref a_text, .int v_size, .int v_at, .int v_begin, .int v_token, .int v_told, .ref a_read, .ref a_hill, .ref a_now, .ref a_undone, .int v_undos, .ref a_need, .int v_cames, .ref a_cameOf, .ref a_places, .ref a_firstRow, .int v_each, .long v_trace, .ref a_kept])), (a_undone, .inl (cyI, 150, .inl v_undone)), (a_now, .inl (cyI, 15, .inl v_now))] sz) := by
  refine gMet (cc := cX7_notes) (maxL := 2) (ret := none) (own := RX7) (fun A => gQv2 Q (dC, dI) A (fun (u1 : Int32) (u2 : Nat → Int32) => [(a, .inr (7, [.ref a_text, .int v_size, .int v_at, .int v_begin, .int v_token, .int v_told, .ref a_read, .ref a_hill, .ref a_now, .ref a_undone, .int u1, .ref a_need, .int v_cames, .ref a_cameOf, .ref a_places, .ref a_firstRow, .int v_each, .long v_trace, .ref a_kept])), (a_undone, .inl (cyI, 150, .inl u2)), (a_now, .inl (cyI, 15, .inl v_now))])) (by decide) rfl rfl (Nat.le_of_ble_eq_true rfl) ?_
  intro p e s m below meth c A ls C0 _ hK hN hP hD hA hl
  obtain ⟨hx, hb, hr, hml, hown, hts, hlocks⟩ := id C0
  have f119 := hts (.fieldLink RX7 119 "LastOchreModel" "undos" "I") (by decide +kernel)
  have f19 := hts (.fieldLink RX7 19 "LastOchreModel" "now" "[I") (by decide +kernel)
  have f22 := hts (.fieldLink RX7 22 "LastOchreModel" "undone" "[I") (by decide +kernel)
  have hS : va_S A s.heap s.heap [] := va_S.rf
  replace hl : lv_has ls 2 [(0, .ref a)] := hl
  unfold q_X7_notes at h
  obtain ⟨n, h⟩ := h
  obtain ⟨ih12, ih48⟩ := w_X7_notes (l := l) (e := e) (below := below) dC dI cyC cyI cyZ a a_text a_read a_hill a_now a_undone a_need a_cameOf a_places a_firstRow a_kept v_size v_at v_begin v_token v_told v_cames v_each v_trace v_now Q C0 hK hN hA n
  unfold F_X7_notes_e at h
  refine lv_aload_n hx hb dX7_notes_0 rfl (lv_at hl 0 rfl) ?_
  refine va_get (D := (dC, dI)) (ci := 7) (v := .int v_undos) (C := RX7) (T := TX7) (N := 19) hx hb hts iwX7_notes_X7 hown hK hP 0 rfl rfl 10 (by decide) f119 (fun _ h9 => h9) rfl dX7_notes_1 ?_
  refine lv_bipush (v := 10) hx hb dX7_notes_4 (by decide) ?_
  refine lv_icmp_ne (tgt := 46) hx hb dX7_notes_6 (by decide) (fun c_1 => ?_) (fun c_1 => ?_)
  · replace h := h.1 c_1
    refine lv_iconst (v := 0) hx hb dX7_notes_46 (by decide) ?_
    refine lv_istore_n (lv' := [(1, .int (0 : Int32)), (0, .ref a)]) hx hb dX7_notes_47 rfl hl (by decide) rfl (fun ls hl => ?_)
    exact ih48 (0 : Int32) v_undos v_undone _ _ _ h hP hD hS (lv_sub hl [1, 0] rfl)
  · replace h := h.2 c_1
    refine lv_bipush (v := 15) hx hb dX7_notes_9 (by decide) ?_
    refine lv_istore_n (lv' := [(1, .int (15 : Int32)), (0, .ref a)]) hx hb dX7_notes_11 rfl hl (by decide) rfl (fun ls hl => ?_)
    exact ih12 (15 : Int32) v_undos v_undone _ _ _ h hP hD hS (lv_sub hl [1, 0] rfl)

def F_X7_digs_e (v_hill : Nat → Int32) (p0 : Int32) (p1 : Int32) (Q : Int32 → Int32 → (Nat → Int32) → (Nat → Int32) → Prop) (v_undos : Int32) (v_now : Nat → Int32) (v_undone : Nat → Int32) : Prop :=
  q_X7_isCell v_hill p0 p1 (fun (r_1 : Int32) => (¬ r_1 = 0 → (∀ x3_3 : Int32, x3_3 = (((v_hill ((0 : Int32)).toNatClampNeg) * p1) + p0) → (q_X7_may v_hill x3_3 (v_now ((2 : Int32)).toNatClampNeg) (fun (r_5 : Int32) => (¬ r_5 = 0 → (q_X7_notes v_undos v_undone v_now (fun (u_7 : Int32) (u_8 : Nat → Int32) => ∀ f_9 : Nat → Int32, f_9 = upd v_now ((2 : Int32)).toNatClampNeg ((v_now ((2 : Int32)).toNatClampNeg) ||| ((1 : Int32) <<< (x3_3 &&& 31))) → (vp_in ((6 : Int32) + x3_3) 46 ∧ (∀ f_12 : Nat → Int32, f_12 = upd f_9 ((1 : Int32)).toNatClampNeg ((f_9 ((1 : Int32)).toNatClampNeg) + (v_hill (((6 : Int32) + x3_3)).toNatClampNeg)) → (Q (f_12 ((1 : Int32)).toNatClampNeg) u_7 f_12 u_8)))))) ∧ (r_5 = 0 → (Q (-2 : Int32) v_undos v_now v_undone)))))) ∧ (r_1 = 0 → (Q (-1 : Int32) v_undos v_now v_undone)))
def q_X7_digs (v_undos : Int32) (v_hill : Nat → Int32) (v_now : Nat → Int32) (v_undone : Nat → Int32) (p0 : Int32) (p1 : Int32) (Q : Int32 → Int32 → (Nat → Int32) → (Nat → Int32) → Prop) : Prop := F_X7_digs_e v_hill p0 p1 Q v_undos v_now v_undone
theorem iwX7_digs_X7 : ∀ w ∈ wsX70, w ∈ wsX7_digs := by decide +kernel
theorem hdV_X7_digs : yX7_digs.cls = RX7 ∧ yX7_digs.cls ≠ "java/lang/invoke/MethodHandle" ∧ yX7_digs.cls ≠ "java/lang/invoke/VarHandle" ∧ (parseMethodDescriptor yX7_digs.desc).map (fun d => d.parameters.length) = some 2 := by decide +kernel
set_option maxHeartbeats 4000000 in
set_option maxRecDepth 100000 in
theorem c_X7_digs (l : Launch) (dC : Nat → ClassId) (dI : Nat → Nat → Nat) (cyC cyI cyZ : ClassId) (sz : Nat) (a a_text a_read a_hill a_now a_undone a_need a_cameOf a_places a_firstRow a_kept : Nat) (v_size : Int32) (v_at : Int32) (v_begin : Int32) (v_token : Int32) (v_told : Int32) (v_undos : Int32) (v_cames : Int32) (v_each : Int32) (v_trace : Int64) (v_hill : Nat → Int32) (v_now : Nat → Int32) (v_undone : Nat → Int32) (p0 : Int32) (p1 : Int32) {Q : Int32 → Int32 → (Nat → Int32) → (Nat → Int32) → Prop} (h : q_X7_digs v_undos v_hill v_now v_undone p0 p1 Q) : Met l yX7_digs wsX7_digs ({ frames := 2, cells := 0, slots := 0, locals := 47 }) (gPc [.ref a, .int p0, .int p1] (dC, dI) (gTy cyC cyI cyZ) sz [(a, .inr (7, [.ref a_text, .int v_size, .int v_at, .int v_begin, .int v_token, .int v_told, .ref a_read, .ref a_hill, .ref a_now, .ref a_undone, .int v_undos, .ref a_need, .int v_cames, .ref a_cameOf, .ref a_places, .ref a_firstRow, .int v_each, .long v_trace, .ref a_kept])), (a_hill, .inl (cyI, 46, .inl v_hill)), (a_now, .inl (cyI, 15, .inl v_now)), (a_undone, .inl (cyI, 150, .inl v_undone))]) (gQi3 Q (dC, dI) (va_A [(a, .inr (7, [.ref a_text, .int v_size, .int v_at, .int v_begin, .int v_token, .int v_told, .ref a_read, .ref a_hill, .ref a_now, .ref a_undone, .int v_undos, .ref a_need, .int v_cames, .ref a_cameOf, .ref a_places, .ref a_firstRow, .int v_each, .long v_trace, .ref a_kept])), (a_hill, .inl (cyI, 46, .inl v_hill)), (a_now, .inl (cyI, 15, .inl v_now)), (a_undone, .inl (cyI, 150, .inl v_undone))] sz) (fun (u1 : Int32) (u2 : Nat → Int32) (u3 : Nat → Int32) => [(a, .inr (7, [.ref a_text, .int v_size, .int v_at, .int v_begin, .int v_token, .int v_told, .ref a_read, .ref a_hill, .ref a_now, .ref a_undone, .int u1, .ref a_need, .int v_cames, .ref a_cameOf, .ref a_places, .ref a_firstRow, .int v_each, .long v_trace, .ref a_kept])), (a_hill, .inl (cyI, 46, .inl v_hill)), (a_now, .inl (cyI, 15, .inl u2)), (a_undone, .inl (cyI, 150, .inl u3))])) 0 0 (va_A [(a, .inr (7, [.ref a_text, .int v_size, .int v_at, .int v_begin, .int v_token, .int v_told, .ref a_read, .ref a_hill, .ref a_now, .ref a_undone, .int v_undos, .ref a_need, .int v_cames, .ref a_cameOf, .ref a_places, .ref a_firstRow, .int v_each, .long v_trace, .ref a_kept])), (a_hill, .inl (cyI, 46, .inl v_hill)), (a_now, .inl (cyI, 15, .inl v_now)), (a_undone, .inl (cyI, 150, .inl v_undone))] sz) := by
  refine gMet (cc := cX7_digs) (maxL := 4) (ret := (some .int)) (own := RX7) (fun A => gQi3 Q (dC, dI) A (fun (u1 : Int32) (u2 : Nat → Int32) (u3 : Nat → Int32) => [(a, .inr (7, [.ref a_text, .int v_size, .int v_at, .int v_begin, .int v_token, .int v_told, .ref a_read, .ref a_hill, .ref a_now, .ref a_undone, .int u1, .ref a_need, .int v_cames, .ref a_cameOf, .ref a_places, .ref a_firstRow, .int v_each, .long v_trace, .ref a_kept])), (a_hill, .inl (cyI, 46, .inl v_hill)), (a_now, .inl (cyI, 15, .inl u2)), (a_undone, .inl (cyI, 150, .inl u3))])) (by decide) rfl rfl (Nat.le_of_ble_eq_true rfl) ?_
  intro p e s m below meth c A ls C0 _ hK hN hP hD hA hl
  obtain ⟨hx, hb, hr, hml, hown, hts, hlocks⟩ := id C0
  have f16 := hts (.fieldLink RX7 16 "LastOchreModel" "hill" "[I") (by decide +kernel)
  have f19 := hts (.fieldLink RX7 19 "LastOchreModel" "now" "[I") (by decide +kernel)
  have hS : va_S A s.heap s.heap [] := va_S.rf
  replace hl : lv_has ls 4 [(0, .ref a), (1, .int p0), (2, .int p1)] := hl
  unfold q_X7_digs at h
  unfold F_X7_digs_e at h
  refine lv_aload_n hx hb dX7_digs_0 rfl (lv_at hl 0 rfl) ?_
  refine lv_iload_n hx hb dX7_digs_1 rfl (lv_at hl 1 rfl) ?_
  refine lv_iload_n hx hb dX7_digs_2 rfl (lv_at hl 2 rfl) ?_
  refine gV_i0 (As := [.int p0, .int p1]) (rest := []) ⟨hx, hb, hml, hown, hts⟩ (c_X7_isCell l dC dI cyC cyI cyZ _ a a_text a_read a_hill a_now a_undone a_need a_cameOf a_places a_firstRow a_kept v_size v_at v_begin v_token v_told v_undos v_cames v_each v_trace v_hill p0 p1 h) (cwV 2 hts gX7_digs_X7_isCell rfl rfl rfl hdV_X7_isCell ⟨Nat.le_of_ble_eq_true rfl, Nat.le_of_ble_eq_true rfl⟩) hK hN hP hD hS hA [0, 1] (by decide) rfl (ci := 7) rfl rfl rfl hl.1 rfl (Nat.le_of_ble_eq_true rfl) dX7_digs_3 ⟨Nat.zero_le _, Nat.zero_le _⟩ (fun r_1 H locs h hP hS => ?_)
  refine lv_if_ne (tgt := 11) hx hb dX7_digs_6 (by decide) (fun c_2 => ?_) (fun c_2 => ?_)
  · replace h := h.1 c_2
    refine lv_aload_n hx hb dX7_digs_11 rfl (lv_at hl 0 rfl) ?_
    refine va_get (D := (dC, dI)) (ci := 7) (v := .ref a_hill) (C := RX7) (T := TX7) (N := 19) hx hb hts iwX7_digs_X7 hown hK hP 0 rfl rfl 7 (by decide) f16 (fun _ h9 => h9) rfl dX7_digs_12 ?_
    refine lv_iconst (v := 0) hx hb dX7_digs_15 (by decide) ?_
    refine va_iald hx hb hK hP 1 0 rfl rfl (by unfold vp_in; decide) dX7_digs_16 ?_
    refine lv_iload_n hx hb dX7_digs_17 rfl (lv_at hl 2 rfl) ?_
    refine lv_imul hx hb dX7_digs_18 ?_
    refine lv_iload_n hx hb dX7_digs_19 rfl (lv_at hl 1 rfl) ?_
    refine lv_iadd hx hb dX7_digs_20 ?_
    refine lv_topi (fun x3_3 e_4 => ?_)
    replace h := h x3_3 e_4
    refine lv_istore_n (lv' := [(3, .int x3_3), (0, .ref a), (1, .int p0), (2, .int p1)]) hx hb dX7_digs_21 rfl hl (by decide) rfl (fun ls hl => ?_)
    refine lv_aload_n hx hb dX7_digs_22 rfl (lv_at hl 1 rfl) ?_
    refine lv_iload_n hx hb dX7_digs_23 rfl (lv_at hl 0 rfl) ?_
    refine lv_aload_n hx hb dX7_digs_24 rfl (lv_at hl 1 rfl) ?_
    refine va_get (D := (dC, dI)) (ci := 7) (v := .ref a_now) (C := RX7) (T := TX7) (N := 19) hx hb hts iwX7_digs_X7 hown hK hP 0 rfl rfl 8 (by decide) f19 (fun _ h9 => h9) rfl dX7_digs_25 ?_
    refine lv_iconst (v := 2) hx hb dX7_digs_28 (by decide) ?_
    refine va_iald hx hb hK hP 2 0 rfl rfl (by unfold vp_in; decide) dX7_digs_29 ?_
    refine gV_i0 (As := [.int x3_3, .int (v_now ((2 : Int32)).toNatClampNeg)]) (rest := []) ⟨hx, hb, hml, hown, hts⟩ (c_X7_may l dC dI cyC cyI cyZ _ a a_text a_read a_hill a_now a_undone a_need a_cameOf a_places a_firstRow a_kept v_size v_at v_begin v_token v_told v_undos v_cames v_each v_trace v_hill x3_3 (v_now ((2 : Int32)).toNatClampNeg) h) (cwV 2 hts gX7_digs_X7_may rfl rfl rfl hdV_X7_may ⟨Nat.le_of_ble_eq_true rfl, Nat.le_of_ble_eq_true rfl⟩) hK hN hP hD hS hA [0, 1] (by decide) rfl (ci := 7) rfl rfl rfl hl.1 rfl (Nat.le_of_ble_eq_true rfl) dX7_digs_30 ⟨Nat.zero_le _, Nat.zero_le _⟩ (fun r_5 H locs h hP hS => ?_)
    refine lv_if_ne (tgt := 39) hx hb dX7_digs_33 (by decide) (fun c_6 => ?_) (fun c_6 => ?_)
    · replace h := h.1 c_6
      refine lv_aload_n hx hb dX7_digs_39 rfl (lv_at hl 1 rfl) ?_
      refine gV_v2 (As := []) (rest := []) ⟨hx, hb, hml, hown, hts⟩ (c_X7_notes l dC dI cyC cyI cyZ _ a a_text a_read a_hill a_now a_undone a_need a_cameOf a_places a_firstRow a_kept v_size v_at v_begin v_token v_told v_undos v_cames v_each v_trace v_undone v_now h) (cwV 0 hts gX7_digs_X7_notes rfl rfl rfl hdV_X7_notes ⟨Nat.le_of_ble_eq_true rfl, Nat.le_of_ble_eq_true rfl⟩) hK hN hP hD hS hA [0, 3, 2] (by decide) rfl (ci := 7) rfl rfl rfl hl.1 rfl (Nat.le_of_ble_eq_true rfl) dX7_digs_40 ⟨Nat.zero_le _, Nat.zero_le _⟩ (wr := [(a_hill, .inl (cyI, 46, .inl v_hill))]) [1] rfl (by decide) (by decide) (fun u_7 u_8 H locs h hP hD hS => ?_)
      replace hP : va_P (dC, dI) vwCl [(a_hill, .inl (cyI, 46, .inl v_hill)), (a, .inr (7, [.ref a_text, .int v_size, .int v_at, .int v_begin, .int v_token, .int v_told, .ref a_read, .ref a_hill, .ref a_now, .ref a_undone, .int u_7, .ref a_need, .int v_cames, .ref a_cameOf, .ref a_places, .ref a_firstRow, .int v_each, .long v_trace, .ref a_kept])), (a_undone, .inl (cyI, 150, .inl u_8)), (a_now, .inl (cyI, 15, .inl v_now))] H := hP
      replace hD : va_D A [(a_hill, .inl (cyI, 46, .inl v_hill)), (a, .inr (7, [.ref a_text, .int v_size, .int v_at, .int v_begin, .int v_token, .int v_told, .ref a_read, .ref a_hill, .ref a_now, .ref a_undone, .int u_7, .ref a_need, .int v_cames, .ref a_cameOf, .ref a_places, .ref a_firstRow, .int v_each, .long v_trace, .ref a_kept])), (a_undone, .inl (cyI, 150, .inl u_8)), (a_now, .inl (cyI, 15, .inl v_now))] := hD
      refine lv_aload_n hx hb dX7_digs_43 rfl (lv_at hl 1 rfl) ?_
      refine va_get (D := (dC, dI)) (ci := 7) (v := .ref a_now) (C := RX7) (T := TX7) (N := 19) hx hb hts iwX7_digs_X7 hown hK hP 1 rfl rfl 8 (by decide) f19 (fun _ h9 => h9) rfl dX7_digs_44 ?_
      refine lv_iconst (v := 2) hx hb dX7_digs_47 (by decide) ?_
      refine lv_dup2_11 hx hb dX7_digs_48 rfl rfl ?_
      refine va_iald hx hb hK hP 3 0 rfl rfl (by unfold vp_in; decide) dX7_digs_49 ?_
      refine lv_iconst (v := 1) hx hb dX7_digs_50 (by decide) ?_
      refine lv_iload_n hx hb dX7_digs_51 rfl (lv_at hl 0 rfl) ?_
      refine lv_ishl hx hb dX7_digs_52 ?_
      refine lv_ior hx hb dX7_digs_53 ?_
      refine va_iast hx hb hK hP hD hS 3 0 rfl rfl (by unfold vp_in; decide) dX7_digs_54 (fun H locs hP hD hS => ?_)
      obtain ⟨f_9, e_10⟩ : ∃ y : Nat → Int32, y = upd v_now ((2 : Int32)).toNatClampNeg ((v_now ((2 : Int32)).toNatClampNeg) ||| ((1 : Int32) <<< (x3_3 &&& 31))) := ⟨_, rfl⟩
      replace h := h f_9 e_10
      replace hP : va_P (dC, dI) vwCl [(a_hill, .inl (cyI, 46, .inl v_hill)), (a, .inr (7, [.ref a_text, .int v_size, .int v_at, .int v_begin, .int v_token, .int v_told, .ref a_read, .ref a_hill, .ref a_now, .ref a_undone, .int u_7, .ref a_need, .int v_cames, .ref a_cameOf, .ref a_places, .ref a_firstRow, .int v_each, .long v_trace, .ref a_kept])), (a_undone, .inl (cyI, 150, .inl u_8)), (a_now, .inl (cyI, 15, .inl f_9))] H := by rw [e_10]; exact hP
      replace hD : va_D A [(a_hill, .inl (cyI, 46, .inl v_hill)), (a, .inr (7, [.ref a_text, .int v_size, .int v_at, .int v_begin, .int v_token, .int v_told, .ref a_read, .ref a_hill, .ref a_now, .ref a_undone, .int u_7, .ref a_need, .int v_cames, .ref a_cameOf, .ref a_places, .ref a_firstRow, .int v_each, .long v_trace, .ref a_kept])), (a_undone, .inl (cyI, 150, .inl u_8)), (a_now, .inl (cyI, 15, .inl f_9))] := by rw [e_10]; exact hD
      refine lv_aload_n hx hb dX7_digs_55 rfl (lv_at hl 1 rfl) ?_
      refine va_get (D := (dC, dI)) (ci := 7) (v := .ref a_now) (C := RX7) (T := TX7) (N := 19) hx hb hts iwX7_digs_X7 hown hK hP 1 rfl rfl 8 (by decide) f19 (fun _ h9 => h9) rfl dX7_digs_56 ?_
      refine lv_iconst (v := 1) hx hb dX7_digs_59 (by decide) ?_
      refine lv_dup2_11 hx hb dX7_digs_60 rfl rfl ?_
      refine va_iald hx hb hK hP 3 0 rfl rfl (by unfold vp_in; decide) dX7_digs_61 ?_
      refine lv_aload_n hx hb dX7_digs_62 rfl (lv_at hl 1 rfl) ?_
      refine va_get (D := (dC, dI)) (ci := 7) (v := .ref a_hill) (C := RX7) (T := TX7) (N := 19) hx hb hts iwX7_digs_X7 hown hK hP 1 rfl rfl 7 (by decide) f16 (fun _ h9 => h9) rfl dX7_digs_63 ?_
      refine lv_bipush (v := 6) hx hb dX7_digs_66 (by decide) ?_
      refine lv_iload_n hx hb dX7_digs_68 rfl (lv_at hl 0 rfl) ?_
      refine lv_iadd hx hb dX7_digs_69 ?_
      have g_11 := h.1
      replace h := h.2
      refine va_iald hx hb hK hP 0 0 rfl rfl g_11 dX7_digs_70 ?_
      refine lv_iadd hx hb dX7_digs_71 ?_
      refine va_iast hx hb hK hP hD hS 3 0 rfl rfl (by unfold vp_in; decide) dX7_digs_72 (fun H locs hP hD hS => ?_)
      obtain ⟨f_12, e_13⟩ : ∃ y : Nat → Int32, y = upd f_9 ((1 : Int32)).toNatClampNeg ((f_9 ((1 : Int32)).toNatClampNeg) + (v_hill (((6 : Int32) + x3_3)).toNatClampNeg)) := ⟨_, rfl⟩
      replace h := h f_12 e_13
      replace hP : va_P (dC, dI) vwCl [(a_hill, .inl (cyI, 46, .inl v_hill)), (a, .inr (7, [.ref a_text, .int v_size, .int v_at, .int v_begin, .int v_token, .int v_told, .ref a_read, .ref a_hill, .ref a_now, .ref a_undone, .int u_7, .ref a_need, .int v_cames, .ref a_cameOf, .ref a_places, .ref a_firstRow, .int v_each, .long v_trace, .ref a_kept])), (a_undone, .inl (cyI, 150, .inl u_8)), (a_now, .inl (cyI, 15, .inl f_12))] H := by rw [e_13]; exact hP
      replace hD : va_D A [(a_hill, .inl (cyI, 46, .inl v_hill)), (a, .inr (7, [.ref a_text, .int v_size, .int v_at, .int v_begin, .int v_token, .int v_told, .ref a_read, .ref a_hill, .ref a_now, .ref a_undone, .int u_7, .ref a_need, .int v_cames, .ref a_cameOf, .ref a_places, .ref a_firstRow, .int v_each, .long v_trace, .ref a_kept])), (a_undone, .inl (cyI, 150, .inl u_8)), (a_now, .inl (cyI, 15, .inl f_12))] := by rw [e_13]; exact hD
      refine lv_aload_n hx hb dX7_digs_73 rfl (lv_at hl 1 rfl) ?_
      refine va_get (D := (dC, dI)) (ci := 7) (v := .ref a_now) (C := RX7) (T := TX7) (N := 19) hx hb hts iwX7_digs_X7 hown hK hP 1 rfl rfl 8 (by decide) f19 (fun _ h9 => h9) rfl dX7_digs_74 ?_
      refine lv_iconst (v := 1) hx hb dX7_digs_77 (by decide) ?_
      refine va_iald hx hb hK hP 3 0 rfl rfl (by unfold vp_in; decide) dX7_digs_78 ?_
      exact gri3 hx hb hr hlocks h (hP.sub (ws' := [(a, .inr (7, [.ref a_text, .int v_size, .int v_at, .int v_begin, .int v_token, .int v_told, .ref a_read, .ref a_hill, .ref a_now, .ref a_undone, .int u_7, .ref a_need, .int v_cames, .ref a_cameOf, .ref a_places, .ref a_firstRow, .int v_each, .long v_trace, .ref a_kept])), (a_hill, .inl (cyI, 46, .inl v_hill)), (a_now, .inl (cyI, 15, .inl f_12)), (a_undone, .inl (cyI, 150, .inl u_8))]) [1, 0, 3, 2] rfl) (hD.sub (ws' := [(a, .inr (7, [.ref a_text, .int v_size, .int v_at, .int v_begin, .int v_token, .int v_told, .ref a_read, .ref a_hill, .ref a_now, .ref a_undone, .int u_7, .ref a_need, .int v_cames, .ref a_cameOf, .ref a_places, .ref a_firstRow, .int v_each, .long v_trace, .ref a_kept])), (a_hill, .inl (cyI, 46, .inl v_hill)), (a_now, .inl (cyI, 15, .inl f_12)), (a_undone, .inl (cyI, 150, .inl u_8))]) [1, 0, 3, 2] (by decide) rfl) hS dX7_digs_79
    · replace h := h.2 c_6
      refine lv_bipush (v := -2) hx hb dX7_digs_36 (by decide) ?_
      exact gri3 hx hb hr hlocks h hP hD hS dX7_digs_38
  · replace h := h.2 c_2
    refine lv_iconst (v := -1) hx hb dX7_digs_9 (by decide) ?_
    exact gri3 hx hb hr hlocks h hP hD hS dX7_digs_10

def F_X7_scraped_e (v_now : Nat → Int32) (v_hill : Nat → Int32) (p0 : Int32) (Q : Int32 → Prop)  : Prop :=
  q_X7_yellow v_now p0 (fun (r_1 : Int32) => q_X7_yellow v_now p0 (fun (r_2 : Int32) => Q (r_1 - ((r_2 * (v_hill ((4 : Int32)).toNatClampNeg)) / (10 : Int32)))))
def q_X7_scraped (v_now : Nat → Int32) (v_hill : Nat → Int32) (p0 : Int32) (Q : Int32 → Prop) : Prop := F_X7_scraped_e v_now v_hill p0 Q 
theorem iwX7_scraped_X7 : ∀ w ∈ wsX70, w ∈ wsX7_scraped := by decide +kernel
theorem hdV_X7_scraped : yX7_scraped.cls = RX7 ∧ yX7_scraped.cls ≠ "java/lang/invoke/MethodHandle" ∧ yX7_scraped.cls ≠ "java/lang/invoke/VarHandle" ∧ (parseMethodDescriptor yX7_scraped.desc).map (fun d => d.parameters.length) = some 1 := by decide +kernel
set_option maxHeartbeats 4000000 in
set_option maxRecDepth 100000 in
theorem c_X7_scraped (l : Launch) (dC : Nat → ClassId) (dI : Nat → Nat → Nat) (cyC cyI cyZ : ClassId) (sz : Nat) (a a_text a_read a_hill a_now a_undone a_need a_cameOf a_places a_firstRow a_kept : Nat) (v_size : Int32) (v_at : Int32) (v_begin : Int32) (v_token : Int32) (v_told : Int32) (v_undos : Int32) (v_cames : Int32) (v_each : Int32) (v_trace : Int64) (v_now : Nat → Int32) (v_hill : Nat → Int32) (p0 : Int32) {Q : Int32 → Prop} (h : q_X7_scraped v_now v_hill p0 Q) : Met l yX7_scraped wsX7_scraped ({ frames := 1, cells := 0, slots := 0, locals := 21 }) (gPc [.ref a, .int p0] (dC, dI) (gTy cyC cyI cyZ) sz [(a, .inr (7, [.ref a_text, .int v_size, .int v_at, .int v_begin, .int v_token, .int v_told, .ref a_read, .ref a_hill, .ref a_now, .ref a_undone, .int v_undos, .ref a_need, .int v_cames, .ref a_cameOf, .ref a_places, .ref a_firstRow, .int v_each, .long v_trace, .ref a_kept])), (a_now, .inl (cyI, 15, .inl v_now)), (a_hill, .inl (cyI, 46, .inl v_hill))]) (gQi0 Q (dC, dI) (va_A [(a, .inr (7, [.ref a_text, .int v_size, .int v_at, .int v_begin, .int v_token, .int v_told, .ref a_read, .ref a_hill, .ref a_now, .ref a_undone, .int v_undos, .ref a_need, .int v_cames, .ref a_cameOf, .ref a_places, .ref a_firstRow, .int v_each, .long v_trace, .ref a_kept])), (a_now, .inl (cyI, 15, .inl v_now)), (a_hill, .inl (cyI, 46, .inl v_hill))] sz) [(a, .inr (7, [.ref a_text, .int v_size, .int v_at, .int v_begin, .int v_token, .int v_told, .ref a_read, .ref a_hill, .ref a_now, .ref a_undone, .int v_undos, .ref a_need, .int v_cames, .ref a_cameOf, .ref a_places, .ref a_firstRow, .int v_each, .long v_trace, .ref a_kept])), (a_now, .inl (cyI, 15, .inl v_now)), (a_hill, .inl (cyI, 46, .inl v_hill))]) 0 0 (va_A [(a, .inr (7, [.ref a_text, .int v_size, .int v_at, .int v_begin, .int v_token, .int v_told, .ref a_read, .ref a_hill, .ref a_now, .ref a_undone, .int v_undos, .ref a_need, .int v_cames, .ref a_cameOf, .ref a_places, .ref a_firstRow, .int v_each, .long v_trace, .ref a_kept])), (a_now, .inl (cyI, 15, .inl v_now)), (a_hill, .inl (cyI, 46, .inl v_hill))] sz) := by
  refine gMet (cc := cX7_scraped) (maxL := 2) (ret := (some .int)) (own := RX7) (fun A => gQi0 Q (dC, dI) A [(a, .inr (7, [.ref a_text, .int v_size, .int v_at, .int v_begin, .int v_token, .int v_told, .ref a_read, .ref a_hill, .ref a_now, .ref a_undone, .int v_undos, .ref a_need, .int v_cames, .ref a_cameOf, .ref a_places, .ref a_firstRow, .int v_each, .long v_trace, .ref a_kept])), (a_now, .inl (cyI, 15, .inl v_now)), (a_hill, .inl (cyI, 46, .inl v_hill))]) (by decide) rfl rfl (Nat.le_of_ble_eq_true rfl) ?_
  intro p e s m below meth c A ls C0 _ hK hN hP hD hA hl
  obtain ⟨hx, hb, hr, hml, hown, hts, hlocks⟩ := id C0
  have f16 := hts (.fieldLink RX7 16 "LastOchreModel" "hill" "[I") (by decide +kernel)
  have hS : va_S A s.heap s.heap [] := va_S.rf
  replace hl : lv_has ls 2 [(0, .ref a), (1, .int p0)] := hl
  unfold q_X7_scraped at h
  unfold F_X7_scraped_e at h
  refine lv_aload_n hx hb dX7_scraped_0 rfl (lv_at hl 0 rfl) ?_
  refine lv_iload_n hx hb dX7_scraped_1 rfl (lv_at hl 1 rfl) ?_
  refine gV_i0 (As := [.int p0]) (rest := []) ⟨hx, hb, hml, hown, hts⟩ (c_X7_yellow l dC dI cyC cyI cyZ _ a a_text a_read a_hill a_now a_undone a_need a_cameOf a_places a_firstRow a_kept v_size v_at v_begin v_token v_told v_undos v_cames v_each v_trace v_now p0 h) (cwV 1 hts gX7_scraped_X7_yellow rfl rfl rfl hdV_X7_yellow ⟨Nat.le_of_ble_eq_true rfl, Nat.le_of_ble_eq_true rfl⟩) hK hN hP hD hS hA [0, 1] (by decide) rfl (ci := 7) rfl rfl rfl hl.1 rfl (Nat.le_of_ble_eq_true rfl) dX7_scraped_2 ⟨Nat.zero_le _, Nat.zero_le _⟩ (fun r_1 H locs h hP hS => ?_)
  refine lv_aload_n hx hb dX7_scraped_5 rfl (lv_at hl 0 rfl) ?_
  refine lv_iload_n hx hb dX7_scraped_6 rfl (lv_at hl 1 rfl) ?_
  refine gV_i0 (As := [.int p0]) (rest := [.int r_1]) ⟨hx, hb, hml, hown, hts⟩ (c_X7_yellow l dC dI cyC cyI cyZ _ a a_text a_read a_hill a_now a_undone a_need a_cameOf a_places a_firstRow a_kept v_size v_at v_begin v_token v_told v_undos v_cames v_each v_trace v_now p0 h) (cwV 1 hts gX7_scraped_X7_yellow rfl rfl rfl hdV_X7_yellow ⟨Nat.le_of_ble_eq_true rfl, Nat.le_of_ble_eq_true rfl⟩) hK hN hP hD hS hA [0, 1] (by decide) rfl (ci := 7) rfl rfl rfl hl.1 rfl (Nat.le_of_ble_eq_true rfl) dX7_scraped_7 ⟨Nat.zero_le _, Nat.zero_le _⟩ (fun r_2 H locs h hP hS => ?_)
  refine lv_aload_n hx hb dX7_scraped_10 rfl (lv_at hl 0 rfl) ?_
  refine va_get (D := (dC, dI)) (ci := 7) (v := .ref a_hill) (C := RX7) (T := TX7) (N := 19) hx hb hts iwX7_scraped_X7 hown hK hP 0 rfl rfl 7 (by decide) f16 (fun _ h9 => h9) rfl dX7_scraped_11 ?_
  refine lv_iconst (v := 4) hx hb dX7_scraped_14 (by decide) ?_
  refine va_iald hx hb hK hP 2 0 rfl rfl (by unfold vp_in; decide) dX7_scraped_15 ?_
  refine lv_imul hx hb dX7_scraped_16 ?_
  refine lv_bipush (v := 10) hx hb dX7_scraped_17 (by decide) ?_
  refine lv_idiv hx hb dX7_scraped_19 (by decide) ?_
  refine lv_isub hx hb dX7_scraped_20 ?_
  exact gri0 hx hb hr hlocks h hP hD hS dX7_scraped_21

def F_X7_scrapes_e (v_hill : Nat → Int32) (p0 : Int32) (Q : Int32 → Int32 → (Nat → Int32) → (Nat → Int32) → Prop) (v_undos : Int32) (v_now : Nat → Int32) (v_undone : Nat → Int32) : Prop :=
  q_X7_isThing v_hill p0 (fun (r_1 : Int32) => (¬ r_1 = 0 → (q_X7_yellow v_now p0 (fun (r_3 : Int32) => (¬ r_3 = 0 → (q_X7_notes v_undos v_undone v_now (fun (u_5 : Int32) (u_6 : Nat → Int32) => q_X7_scraped v_now v_hill p0 (fun (r_7 : Int32) => ∀ f_8 : Nat → Int32, f_8 = upd v_now ((1 : Int32)).toNatClampNeg ((v_now ((1 : Int32)).toNatClampNeg) + r_7) → (vp_in ((3 : Int32) + ((2 : Int32) * p0)) 15 ∧ (∀ f_11 : Nat → Int32, f_11 = upd f_8 (((3 : Int32) + ((2 : Int32) * p0))).toNatClampNeg (0 : Int32) → (vp_in ((4 : Int32) + ((2 : Int32) * p0)) 15 ∧ (∀ f_14 : Nat → Int32, f_14 = upd f_11 (((4 : Int32) + ((2 : Int32) * p0))).toNatClampNeg (0 : Int32) → (Q r_7 u_5 f_14 u_6))))))))) ∧ (r_3 = 0 → (Q (-2 : Int32) v_undos v_now v_undone))))) ∧ (r_1 = 0 → (Q (-1 : Int32) v_undos v_now v_undone)))
def q_X7_scrapes (v_undos : Int32) (v_hill : Nat → Int32) (v_now : Nat → Int32) (v_undone : Nat → Int32) (p0 : Int32) (Q : Int32 → Int32 → (Nat → Int32) → (Nat → Int32) → Prop) : Prop := F_X7_scrapes_e v_hill p0 Q v_undos v_now v_undone
theorem iwX7_scrapes_X7 : ∀ w ∈ wsX70, w ∈ wsX7_scrapes := by decide +kernel
theorem hdV_X7_scrapes : yX7_scrapes.cls = RX7 ∧ yX7_scrapes.cls ≠ "java/lang/invoke/MethodHandle" ∧ yX7_scrapes.cls ≠ "java/lang/invoke/VarHandle" ∧ (parseMethodDescriptor yX7_scrapes.desc).map (fun d => d.parameters.length) = some 1 := by decide +kernel
set_option maxHeartbeats 4000000 in
set_option maxRecDepth 100000 in
theorem c_X7_scrapes (l : Launch) (dC : Nat → ClassId) (dI : Nat → Nat → Nat) (cyC cyI cyZ : ClassId) (sz : Nat) (a a_text a_read a_hill a_now a_undone a_need a_cameOf a_places a_firstRow a_kept : Nat) (v_size : Int32) (v_at : Int32) (v_begin : Int32) (v_token : Int32) (v_told : Int32) (v_undos : Int32) (v_cames : Int32) (v_each : Int32) (v_trace : Int64) (v_hill : Nat → Int32) (v_now : Nat → Int32) (v_undone : Nat → Int32) (p0 : Int32) {Q : Int32 → Int32 → (Nat → Int32) → (Nat → Int32) → Prop} (h : q_X7_scrapes v_undos v_hill v_now v_undone p0 Q) : Met l yX7_scrapes wsX7_scrapes ({ frames := 2, cells := 0, slots := 0, locals := 46 }) (gPc [.ref a, .int p0] (dC, dI) (gTy cyC cyI cyZ) sz [(a, .inr (7, [.ref a_text, .int v_size, .int v_at, .int v_begin, .int v_token, .int v_told, .ref a_read, .ref a_hill, .ref a_now, .ref a_undone, .int v_undos, .ref a_need, .int v_cames, .ref a_cameOf, .ref a_places, .ref a_firstRow, .int v_each, .long v_trace, .ref a_kept])), (a_hill, .inl (cyI, 46, .inl v_hill)), (a_now, .inl (cyI, 15, .inl v_now)), (a_undone, .inl (cyI, 150, .inl v_undone))]) (gQi3 Q (dC, dI) (va_A [(a, .inr (7, [.ref a_text, .int v_size, .int v_at, .int v_begin, .int v_token, .int v_told, .ref a_read, .ref a_hill, .ref a_now, .ref a_undone, .int v_undos, .ref a_need, .int v_cames, .ref a_cameOf, .ref a_places, .ref a_firstRow, .int v_each, .long v_trace, .ref a_kept])), (a_hill, .inl (cyI, 46, .inl v_hill)), (a_now, .inl (cyI, 15, .inl v_now)), (a_undone, .inl (cyI, 150, .inl v_undone))] sz) (fun (u1 : Int32) (u2 : Nat → Int32) (u3 : Nat → Int32) => [(a, .inr (7, [.ref a_text, .int v_size, .int v_at, .int v_begin, .int v_token, .int v_told, .ref a_read, .ref a_hill, .ref a_now, .ref a_undone, .int u1, .ref a_need, .int v_cames, .ref a_cameOf, .ref a_places, .ref a_firstRow, .int v_each, .long v_trace, .ref a_kept])), (a_hill, .inl (cyI, 46, .inl v_hill)), (a_now, .inl (cyI, 15, .inl u2)), (a_undone, .inl (cyI, 150, .inl u3))])) 0 0 (va_A [(a, .inr (7, [.ref a_text, .int v_size, .int v_at, .int v_begin, .int v_token, .int v_told, .ref a_read, .ref a_hill, .ref a_now, .ref a_undone, .int v_undos, .ref a_need, .int v_cames, .ref a_cameOf, .ref a_places, .ref a_firstRow, .int v_each, .long v_trace, .ref a_kept])), (a_hill, .inl (cyI, 46, .inl v_hill)), (a_now, .inl (cyI, 15, .inl v_now)), (a_undone, .inl (cyI, 150, .inl v_undone))] sz) := by
  refine gMet (cc := cX7_scrapes) (maxL := 3) (ret := (some .int)) (own := RX7) (fun A => gQi3 Q (dC, dI) A (fun (u1 : Int32) (u2 : Nat → Int32) (u3 : Nat → Int32) => [(a, .inr (7, [.ref a_text, .int v_size, .int v_at, .int v_begin, .int v_token, .int v_told, .ref a_read, .ref a_hill, .ref a_now, .ref a_undone, .int u1, .ref a_need, .int v_cames, .ref a_cameOf, .ref a_places, .ref a_firstRow, .int v_each, .long v_trace, .ref a_kept])), (a_hill, .inl (cyI, 46, .inl v_hill)), (a_now, .inl (cyI, 15, .inl u2)), (a_undone, .inl (cyI, 150, .inl u3))])) (by decide) rfl rfl (Nat.le_of_ble_eq_true rfl) ?_
  intro p e s m below meth c A ls C0 _ hK hN hP hD hA hl
  obtain ⟨hx, hb, hr, hml, hown, hts, hlocks⟩ := id C0
  have f19 := hts (.fieldLink RX7 19 "LastOchreModel" "now" "[I") (by decide +kernel)
  have hS : va_S A s.heap s.heap [] := va_S.rf
  replace hl : lv_has ls 3 [(0, .ref a), (1, .int p0)] := hl
  unfold q_X7_scrapes at h
  unfold F_X7_scrapes_e at h
  refine lv_aload_n hx hb dX7_scrapes_0 rfl (lv_at hl 0 rfl) ?_
  refine lv_iload_n hx hb dX7_scrapes_1 rfl (lv_at hl 1 rfl) ?_
  refine gV_i0 (As := [.int p0]) (rest := []) ⟨hx, hb, hml, hown, hts⟩ (c_X7_isThing l dC dI cyC cyI cyZ _ a a_text a_read a_hill a_now a_undone a_need a_cameOf a_places a_firstRow a_kept v_size v_at v_begin v_token v_told v_undos v_cames v_each v_trace v_hill p0 h) (cwV 1 hts gX7_scrapes_X7_isThing rfl rfl rfl hdV_X7_isThing ⟨Nat.le_of_ble_eq_true rfl, Nat.le_of_ble_eq_true rfl⟩) hK hN hP hD hS hA [0, 1] (by decide) rfl (ci := 7) rfl rfl rfl hl.1 rfl (Nat.le_of_ble_eq_true rfl) dX7_scrapes_2 ⟨Nat.zero_le _, Nat.zero_le _⟩ (fun r_1 H locs h hP hS => ?_)
  refine lv_if_ne (tgt := 10) hx hb dX7_scrapes_5 (by decide) (fun c_2 => ?_) (fun c_2 => ?_)
  · replace h := h.1 c_2
    refine lv_aload_n hx hb dX7_scrapes_10 rfl (lv_at hl 0 rfl) ?_
    refine lv_iload_n hx hb dX7_scrapes_11 rfl (lv_at hl 1 rfl) ?_
    refine gV_i0 (As := [.int p0]) (rest := []) ⟨hx, hb, hml, hown, hts⟩ (c_X7_yellow l dC dI cyC cyI cyZ _ a a_text a_read a_hill a_now a_undone a_need a_cameOf a_places a_firstRow a_kept v_size v_at v_begin v_token v_told v_undos v_cames v_each v_trace v_now p0 h) (cwV 1 hts gX7_scrapes_X7_yellow rfl rfl rfl hdV_X7_yellow ⟨Nat.le_of_ble_eq_true rfl, Nat.le_of_ble_eq_true rfl⟩) hK hN hP hD hS hA [0, 2] (by decide) rfl (ci := 7) rfl rfl rfl hl.1 rfl (Nat.le_of_ble_eq_true rfl) dX7_scrapes_12 ⟨Nat.zero_le _, Nat.zero_le _⟩ (fun r_3 H locs h hP hS => ?_)
    refine lv_if_ne (tgt := 21) hx hb dX7_scrapes_15 (by decide) (fun c_4 => ?_) (fun c_4 => ?_)
    · replace h := h.1 c_4
      refine lv_aload_n hx hb dX7_scrapes_21 rfl (lv_at hl 0 rfl) ?_
      refine gV_v2 (As := []) (rest := []) ⟨hx, hb, hml, hown, hts⟩ (c_X7_notes l dC dI cyC cyI cyZ _ a a_text a_read a_hill a_now a_undone a_need a_cameOf a_places a_firstRow a_kept v_size v_at v_begin v_token v_told v_undos v_cames v_each v_trace v_undone v_now h) (cwV 0 hts gX7_scrapes_X7_notes rfl rfl rfl hdV_X7_notes ⟨Nat.le_of_ble_eq_true rfl, Nat.le_of_ble_eq_true rfl⟩) hK hN hP hD hS hA [0, 3, 2] (by decide) rfl (ci := 7) rfl rfl rfl hl.1 rfl (Nat.le_of_ble_eq_true rfl) dX7_scrapes_22 ⟨Nat.zero_le _, Nat.zero_le _⟩ (wr := [(a_hill, .inl (cyI, 46, .inl v_hill))]) [1] rfl (by decide) (by decide) (fun u_5 u_6 H locs h hP hD hS => ?_)
      replace hP : va_P (dC, dI) vwCl [(a_hill, .inl (cyI, 46, .inl v_hill)), (a, .inr (7, [.ref a_text, .int v_size, .int v_at, .int v_begin, .int v_token, .int v_told, .ref a_read, .ref a_hill, .ref a_now, .ref a_undone, .int u_5, .ref a_need, .int v_cames, .ref a_cameOf, .ref a_places, .ref a_firstRow, .int v_each, .long v_trace, .ref a_kept])), (a_undone, .inl (cyI, 150, .inl u_6)), (a_now, .inl (cyI, 15, .inl v_now))] H := hP
      replace hD : va_D A [(a_hill, .inl (cyI, 46, .inl v_hill)), (a, .inr (7, [.ref a_text, .int v_size, .int v_at, .int v_begin, .int v_token, .int v_told, .ref a_read, .ref a_hill, .ref a_now, .ref a_undone, .int u_5, .ref a_need, .int v_cames, .ref a_cameOf, .ref a_places, .ref a_firstRow, .int v_each, .long v_trace, .ref a_kept])), (a_undone, .inl (cyI, 150, .inl u_6)), (a_now, .inl (cyI, 15, .inl v_now))] := hD
      refine lv_aload_n hx hb dX7_scrapes_25 rfl (lv_at hl 0 rfl) ?_
      refine lv_iload_n hx hb dX7_scrapes_26 rfl (lv_at hl 1 rfl) ?_
      refine gV_i0 (As := [.int p0]) (rest := []) ⟨hx, hb, hml, hown, hts⟩ (c_X7_scraped l dC dI cyC cyI cyZ _ a a_text a_read a_hill a_now a_undone a_need a_cameOf a_places a_firstRow a_kept v_size v_at v_begin v_token v_told u_5 v_cames v_each v_trace v_now v_hill p0 h) (cwV 1 hts gX7_scrapes_X7_scraped rfl rfl rfl hdV_X7_scraped ⟨Nat.le_of_ble_eq_true rfl, Nat.le_of_ble_eq_true rfl⟩) hK hN hP hD hS hA [1, 3, 0] (by decide) rfl (ci := 7) rfl rfl rfl hl.1 rfl (Nat.le_of_ble_eq_true rfl) dX7_scrapes_27 ⟨Nat.zero_le _, Nat.zero_le _⟩ (fun r_7 H locs h hP hS => ?_)
      refine lv_istore_n (lv' := [(2, .int r_7), (0, .ref a), (1, .int p0)]) hx hb dX7_scrapes_30 rfl hl (by decide) rfl (fun ls hl => ?_)
      refine lv_aload_n hx hb dX7_scrapes_31 rfl (lv_at hl 1 rfl) ?_
      refine va_get (D := (dC, dI)) (ci := 7) (v := .ref a_now) (C := RX7) (T := TX7) (N := 19) hx hb hts iwX7_scrapes_X7 hown hK hP 1 rfl rfl 8 (by decide) f19 (fun _ h9 => h9) rfl dX7_scrapes_32 ?_
      refine lv_iconst (v := 1) hx hb dX7_scrapes_35 (by decide) ?_
      refine lv_dup2_11 hx hb dX7_scrapes_36 rfl rfl ?_
      refine va_iald hx hb hK hP 3 0 rfl rfl (by unfold vp_in; decide) dX7_scrapes_37 ?_
      refine lv_iload_n hx hb dX7_scrapes_38 rfl (lv_at hl 0 rfl) ?_
      refine lv_iadd hx hb dX7_scrapes_39 ?_
      refine va_iast hx hb hK hP hD hS 3 0 rfl rfl (by unfold vp_in; decide) dX7_scrapes_40 (fun H locs hP hD hS => ?_)
      obtain ⟨f_8, e_9⟩ : ∃ y : Nat → Int32, y = upd v_now ((1 : Int32)).toNatClampNeg ((v_now ((1 : Int32)).toNatClampNeg) + r_7) := ⟨_, rfl⟩
      replace h := h f_8 e_9
      replace hP : va_P (dC, dI) vwCl [(a_hill, .inl (cyI, 46, .inl v_hill)), (a, .inr (7, [.ref a_text, .int v_size, .int v_at, .int v_begin, .int v_token, .int v_told, .ref a_read, .ref a_hill, .ref a_now, .ref a_undone, .int u_5, .ref a_need, .int v_cames, .ref a_cameOf, .ref a_places, .ref a_firstRow, .int v_each, .long v_trace, .ref a_kept])), (a_undone, .inl (cyI, 150, .inl u_6)), (a_now, .inl (cyI, 15, .inl f_8))] H := by rw [e_9]; exact hP
      replace hD : va_D A [(a_hill, .inl (cyI, 46, .inl v_hill)), (a, .inr (7, [.ref a_text, .int v_size, .int v_at, .int v_begin, .int v_token, .int v_told, .ref a_read, .ref a_hill, .ref a_now, .ref a_undone, .int u_5, .ref a_need, .int v_cames, .ref a_cameOf, .ref a_places, .ref a_firstRow, .int v_each, .long v_trace, .ref a_kept])), (a_undone, .inl (cyI, 150, .inl u_6)), (a_now, .inl (cyI, 15, .inl f_8))] := by rw [e_9]; exact hD
      refine lv_aload_n hx hb dX7_scrapes_41 rfl (lv_at hl 1 rfl) ?_
      refine va_get (D := (dC, dI)) (ci := 7) (v := .ref a_now) (C := RX7) (T := TX7) (N := 19) hx hb hts iwX7_scrapes_X7 hown hK hP 1 rfl rfl 8 (by decide) f19 (fun _ h9 => h9) rfl dX7_scrapes_42 ?_
      refine lv_iconst (v := 3) hx hb dX7_scrapes_45 (by decide) ?_
      refine lv_iconst (v := 2) hx hb dX7_scrapes_46 (by decide) ?_
      refine lv_iload_n hx hb dX7_scrapes_47 rfl (lv_at hl 2 rfl) ?_
      refine lv_imul hx hb dX7_scrapes_48 ?_
      refine lv_iadd hx hb dX7_scrapes_49 ?_
      refine lv_iconst (v := 0) hx hb dX7_scrapes_50 (by decide) ?_
      have g_10 := h.1
      replace h := h.2
      refine va_iast hx hb hK hP hD hS 3 0 rfl rfl g_10 dX7_scrapes_51 (fun H locs hP hD hS => ?_)
      obtain ⟨f_11, e_12⟩ : ∃ y : Nat → Int32, y = upd f_8 (((3 : Int32) + ((2 : Int32) * p0))).toNatClampNeg (0 : Int32) := ⟨_, rfl⟩
      replace h := h f_11 e_12
      replace hP : va_P (dC, dI) vwCl [(a_hill, .inl (cyI, 46, .inl v_hill)), (a, .inr (7, [.ref a_text, .int v_size, .int v_at, .int v_begin, .int v_token, .int v_told, .ref a_read, .ref a_hill, .ref a_now, .ref a_undone, .int u_5, .ref a_need, .int v_cames, .ref a_cameOf, .ref a_places, .ref a_firstRow, .int v_each, .long v_trace, .ref a_kept])), (a_undone, .inl (cyI, 150, .inl u_6)), (a_now, .inl (cyI, 15, .inl f_11))] H := by rw [e_12]; exact hP
      replace hD : va_D A [(a_hill, .inl (cyI, 46, .inl v_hill)), (a, .inr (7, [.ref a_text, .int v_size, .int v_at, .int v_begin, .int v_token, .int v_told, .ref a_read, .ref a_hill, .ref a_now, .ref a_undone, .int u_5, .ref a_need, .int v_cames, .ref a_cameOf, .ref a_places, .ref a_firstRow, .int v_each, .long v_trace, .ref a_kept])), (a_undone, .inl (cyI, 150, .inl u_6)), (a_now, .inl (cyI, 15, .inl f_11))] := by rw [e_12]; exact hD
      refine lv_aload_n hx hb dX7_scrapes_52 rfl (lv_at hl 1 rfl) ?_
      refine va_get (D := (dC, dI)) (ci := 7) (v := .ref a_now) (C := RX7) (T := TX7) (N := 19) hx hb hts iwX7_scrapes_X7 hown hK hP 1 rfl rfl 8 (by decide) f19 (fun _ h9 => h9) rfl dX7_scrapes_53 ?_
      refine lv_iconst (v := 4) hx hb dX7_scrapes_56 (by decide) ?_
      refine lv_iconst (v := 2) hx hb dX7_scrapes_57 (by decide) ?_
      refine lv_iload_n hx hb dX7_scrapes_58 rfl (lv_at hl 2 rfl) ?_
      refine lv_imul hx hb dX7_scrapes_59 ?_
      refine lv_iadd hx hb dX7_scrapes_60 ?_
      refine lv_iconst (v := 0) hx hb dX7_scrapes_61 (by decide) ?_
      have g_13 := h.1
      replace h := h.2
      refine va_iast hx hb hK hP hD hS 3 0 rfl rfl g_13 dX7_scrapes_62 (fun H locs hP hD hS => ?_)
      obtain ⟨f_14, e_15⟩ : ∃ y : Nat → Int32, y = upd f_11 (((4 : Int32) + ((2 : Int32) * p0))).toNatClampNeg (0 : Int32) := ⟨_, rfl⟩
      replace h := h f_14 e_15
      replace hP : va_P (dC, dI) vwCl [(a_hill, .inl (cyI, 46, .inl v_hill)), (a, .inr (7, [.ref a_text, .int v_size, .int v_at, .int v_begin, .int v_token, .int v_told, .ref a_read, .ref a_hill, .ref a_now, .ref a_undone, .int u_5, .ref a_need, .int v_cames, .ref a_cameOf, .ref a_places, .ref a_firstRow, .int v_each, .long v_trace, .ref a_kept])), (a_undone, .inl (cyI, 150, .inl u_6)), (a_now, .inl (cyI, 15, .inl f_14))] H := by rw [e_15]; exact hP
      replace hD : va_D A [(a_hill, .inl (cyI, 46, .inl v_hill)), (a, .inr (7, [.ref a_text, .int v_size, .int v_at, .int v_begin, .int v_token, .int v_told, .ref a_read, .ref a_hill, .ref a_now, .ref a_undone, .int u_5, .ref a_need, .int v_cames, .ref a_cameOf, .ref a_places, .ref a_firstRow, .int v_each, .long v_trace, .ref a_kept])), (a_undone, .inl (cyI, 150, .inl u_6)), (a_now, .inl (cyI, 15, .inl f_14))] := by rw [e_15]; exact hD
      refine lv_iload_n hx hb dX7_scrapes_63 rfl (lv_at hl 0 rfl) ?_
      exact gri3 hx hb hr hlocks h (hP.sub (ws' := [(a, .inr (7, [.ref a_text, .int v_size, .int v_at, .int v_begin, .int v_token, .int v_told, .ref a_read, .ref a_hill, .ref a_now, .ref a_undone, .int u_5, .ref a_need, .int v_cames, .ref a_cameOf, .ref a_places, .ref a_firstRow, .int v_each, .long v_trace, .ref a_kept])), (a_hill, .inl (cyI, 46, .inl v_hill)), (a_now, .inl (cyI, 15, .inl f_14)), (a_undone, .inl (cyI, 150, .inl u_6))]) [1, 0, 3, 2] rfl) (hD.sub (ws' := [(a, .inr (7, [.ref a_text, .int v_size, .int v_at, .int v_begin, .int v_token, .int v_told, .ref a_read, .ref a_hill, .ref a_now, .ref a_undone, .int u_5, .ref a_need, .int v_cames, .ref a_cameOf, .ref a_places, .ref a_firstRow, .int v_each, .long v_trace, .ref a_kept])), (a_hill, .inl (cyI, 46, .inl v_hill)), (a_now, .inl (cyI, 15, .inl f_14)), (a_undone, .inl (cyI, 150, .inl u_6))]) [1, 0, 3, 2] (by decide) rfl) hS dX7_scrapes_64
    · replace h := h.2 c_4
      refine lv_bipush (v := -2) hx hb dX7_scrapes_18 (by decide) ?_
      exact gri3 hx hb hr hlocks h hP hD hS dX7_scrapes_20
  · replace h := h.2 c_2
    refine lv_iconst (v := -1) hx hb dX7_scrapes_8 (by decide) ?_
    exact gri3 hx hb hr hlocks h hP hD hS dX7_scrapes_9

def F_X7_paints_e (v_hill : Nat → Int32) (p0 : Int32) (p1 : Int32) (Q : Int32 → Int32 → (Nat → Int32) → (Nat → Int32) → Prop) (v_undos : Int32) (v_now : Nat → Int32) (v_undone : Nat → Int32) : Prop :=
  q_X7_isThing v_hill p0 (fun (r_1 : Int32) => (r_1 = 0 → (Q (-1 : Int32) v_undos v_now v_undone)) ∧ (¬ r_1 = 0 → (q_X7_in ((p1).toInt64) (1 : Int64) (99 : Int64) (fun (r_3 : Int32) => (¬ r_3 = 0 → ((p1 ≤ (v_now ((1 : Int32)).toNatClampNeg) → (q_X7_yellow v_now p0 (fun (r_6 : Int32) => ((r_6 + p1) ≤ (999 : Int32) → (q_X7_notes v_undos v_undone v_now (fun (u_8 : Int32) (u_9 : Nat → Int32) => ∀ f_10 : Nat → Int32, f_10 = upd v_now ((1 : Int32)).toNatClampNeg ((v_now ((1 : Int32)).toNatClampNeg) - p1) → (vp_in ((3 : Int32) + ((2 : Int32) * p0)) 15 ∧ (vp_in ((3 : Int32) + ((2 : Int32) * p0)) 15 ∧ (∀ f_14 : Nat → Int32, f_14 = upd f_10 (((3 : Int32) + ((2 : Int32) * p0))).toNatClampNeg ((f_10 (((3 : Int32) + ((2 : Int32) * p0))).toNatClampNeg) + p1) → (q_X7_yellow f_14 p0 (fun (r_16 : Int32) => Q r_16 u_8 f_14 u_9)))))))) ∧ (¬ (r_6 + p1) ≤ (999 : Int32) → (Q (-3 : Int32) v_undos v_now v_undone))))) ∧ (¬ p1 ≤ (v_now ((1 : Int32)).toNatClampNeg) → (Q (-2 : Int32) v_undos v_now v_undone)))) ∧ (r_3 = 0 → (Q (-1 : Int32) v_undos v_now v_undone))))))
def q_X7_paints (v_undos : Int32) (v_hill : Nat → Int32) (v_now : Nat → Int32) (v_undone : Nat → Int32) (p0 : Int32) (p1 : Int32) (Q : Int32 → Int32 → (Nat → Int32) → (Nat → Int32) → Prop) : Prop := F_X7_paints_e v_hill p0 p1 Q v_undos v_now v_undone
theorem iwX7_paints_X7 : ∀ w ∈ wsX70, w ∈ wsX7_paints := by decide +kernel
theorem hdV_X7_paints : yX7_paints.cls = RX7 ∧ yX7_paints.cls ≠ "java/lang/invoke/MethodHandle" ∧ yX7_paints.cls ≠ "java/lang/invoke/VarHandle" ∧ (parseMethodDescriptor yX7_paints.desc).map (fun d => d.parameters.length) = some 2 := by decide +kernel
set_option maxHeartbeats 4000000 in
set_option maxRecDepth 100000 in
theorem c_X7_paints (l : Launch) (dC : Nat → ClassId) (dI : Nat → Nat → Nat) (cyC cyI cyZ : ClassId) (sz : Nat) (a a_text a_read a_hill a_now a_undone a_need a_cameOf a_places a_firstRow a_kept : Nat) (v_size : Int32) (v_at : Int32) (v_begin : Int32) (v_token : Int32) (v_told : Int32) (v_undos : Int32) (v_cames : Int32) (v_each : Int32) (v_trace : Int64) (v_hill : Nat → Int32) (v_now : Nat → Int32) (v_undone : Nat → Int32) (p0 : Int32) (p1 : Int32) {Q : Int32 → Int32 → (Nat → Int32) → (Nat → Int32) → Prop} (h : q_X7_paints v_undos v_hill v_now v_undone p0 p1 Q) : Met l yX7_paints wsX7_paints ({ frames := 2, cells := 0, slots := 0, locals := 46 }) (gPc [.ref a, .int p0, .int p1] (dC, dI) (gTy cyC cyI cyZ) sz [(a, .inr (7, [.ref a_text, .int v_size, .int v_at, .int v_begin, .int v_token, .int v_told, .ref a_read, .ref a_hill, .ref a_now, .ref a_undone, .int v_undos, .ref a_need, .int v_cames, .ref a_cameOf, .ref a_places, .ref a_firstRow, .int v_each, .long v_trace, .ref a_kept])), (a_hill, .inl (cyI, 46, .inl v_hill)), (a_now, .inl (cyI, 15, .inl v_now)), (a_undone, .inl (cyI, 150, .inl v_undone))]) (gQi3 Q (dC, dI) (va_A [(a, .inr (7, [.ref a_text, .int v_size, .int v_at, .int v_begin, .int v_token, .int v_told, .ref a_read, .ref a_hill, .ref a_now, .ref a_undone, .int v_undos, .ref a_need, .int v_cames, .ref a_cameOf, .ref a_places, .ref a_firstRow, .int v_each, .long v_trace, .ref a_kept])), (a_hill, .inl (cyI, 46, .inl v_hill)), (a_now, .inl (cyI, 15, .inl v_now)), (a_undone, .inl (cyI, 150, .inl v_undone))] sz) (fun (u1 : Int32) (u2 : Nat → Int32) (u3 : Nat → Int32) => [(a, .inr (7, [.ref a_text, .int v_size, .int v_at, .int v_begin, .int v_token, .int v_told, .ref a_read, .ref a_hill, .ref a_now, .ref a_undone, .int u1, .ref a_need, .int v_cames, .ref a_cameOf, .ref a_places, .ref a_firstRow, .int v_each, .long v_trace, .ref a_kept])), (a_hill, .inl (cyI, 46, .inl v_hill)), (a_now, .inl (cyI, 15, .inl u2)), (a_undone, .inl (cyI, 150, .inl u3))])) 0 0 (va_A [(a, .inr (7, [.ref a_text, .int v_size, .int v_at, .int v_begin, .int v_token, .int v_told, .ref a_read, .ref a_hill, .ref a_now, .ref a_undone, .int v_undos, .ref a_need, .int v_cames, .ref a_cameOf, .ref a_places, .ref a_firstRow, .int v_each, .long v_trace, .ref a_kept])), (a_hill, .inl (cyI, 46, .inl v_hill)), (a_now, .inl (cyI, 15, .inl v_now)), (a_undone, .inl (cyI, 150, .inl v_undone))] sz) := by
  refine gMet (cc := cX7_paints) (maxL := 3) (ret := (some .int)) (own := RX7) (fun A => gQi3 Q (dC, dI) A (fun (u1 : Int32) (u2 : Nat → Int32) (u3 : Nat → Int32) => [(a, .inr (7, [.ref a_text, .int v_size, .int v_at, .int v_begin, .int v_token, .int v_told, .ref a_read, .ref a_hill, .ref a_now, .ref a_undone, .int u1, .ref a_need, .int v_cames, .ref a_cameOf, .ref a_places, .ref a_firstRow, .int v_each, .long v_trace, .ref a_kept])), (a_hill, .inl (cyI, 46, .inl v_hill)), (a_now, .inl (cyI, 15, .inl u2)), (a_undone, .inl (cyI, 150, .inl u3))])) (by decide) rfl rfl (Nat.le_of_ble_eq_true rfl) ?_
  intro p e s m below meth c A ls C0 _ hK hN hP hD hA hl
  obtain ⟨hx, hb, hr, hml, hown, hts, hlocks⟩ := id C0
  have f19 := hts (.fieldLink RX7 19 "LastOchreModel" "now" "[I") (by decide +kernel)
  have hS : va_S A s.heap s.heap [] := va_S.rf
  replace hl : lv_has ls 3 [(0, .ref a), (1, .int p0), (2, .int p1)] := hl
  unfold q_X7_paints at h
  unfold F_X7_paints_e at h
  refine lv_aload_n hx hb dX7_paints_0 rfl (lv_at hl 0 rfl) ?_
  refine lv_iload_n hx hb dX7_paints_1 rfl (lv_at hl 1 rfl) ?_
  refine gV_i0 (As := [.int p0]) (rest := []) ⟨hx, hb, hml, hown, hts⟩ (c_X7_isThing l dC dI cyC cyI cyZ _ a a_text a_read a_hill a_now a_undone a_need a_cameOf a_places a_firstRow a_kept v_size v_at v_begin v_token v_told v_undos v_cames v_each v_trace v_hill p0 h) (cwV 1 hts gX7_paints_X7_isThing rfl rfl rfl hdV_X7_isThing ⟨Nat.le_of_ble_eq_true rfl, Nat.le_of_ble_eq_true rfl⟩) hK hN hP hD hS hA [0, 1] (by decide) rfl (ci := 7) rfl rfl rfl hl.1 rfl (Nat.le_of_ble_eq_true rfl) dX7_paints_2 ⟨Nat.zero_le _, Nat.zero_le _⟩ (fun r_1 H locs h hP hS => ?_)
  refine lv_if_eq (tgt := 20) hx hb dX7_paints_5 (by decide) (fun c_2 => ?_) (fun c_2 => ?_)
  · replace h := h.1 c_2
    refine lv_iconst (v := -1) hx hb dX7_paints_20 (by decide) ?_
    exact gri3 hx hb hr hlocks h hP hD hS dX7_paints_21
  · replace h := h.2 c_2
    refine lv_iload_n hx hb dX7_paints_8 rfl (lv_at hl 2 rfl) ?_
    refine lv_i2l hx hb dX7_paints_9 rfl ?_
    refine lv_lconst (v := 1) hx hb dX7_paints_10 (by decide) ?_
    refine lv_ldc2 (v := 99) hx hb hown (hts (.constantLong RX7 164 (99)) (by decide +kernel)) dX7_paints_11 ?_
    refine gS_i0 (As := [.long ((p1).toInt64), .long (1 : Int64), .long (99 : Int64)]) (rest := []) ⟨hx, hb, hml, hown, hts⟩ (c_X7_in l dC dI cyC cyI cyZ _ ((p1).toInt64) (1 : Int64) (99 : Int64) h) (va_cwS 3 hts gX7_paints_X7_in rfl rfl rfl hdS_X7_in ⟨Nat.le_of_ble_eq_true rfl, Nat.le_of_ble_eq_true rfl⟩) hK hN hP hD hS hA [] (by decide) rfl rfl hl.1 rfl (Nat.le_of_ble_eq_true rfl) dX7_paints_14 ⟨Nat.zero_le _, Nat.zero_le _⟩ (fun r_3 H locs h hP hS => ?_)
    refine lv_if_ne (tgt := 22) hx hb dX7_paints_17 (by decide) (fun c_4 => ?_) (fun c_4 => ?_)
    · replace h := h.1 c_4
      refine lv_aload_n hx hb dX7_paints_22 rfl (lv_at hl 0 rfl) ?_
      refine va_get (D := (dC, dI)) (ci := 7) (v := .ref a_now) (C := RX7) (T := TX7) (N := 19) hx hb hts iwX7_paints_X7 hown hK hP 0 rfl rfl 8 (by decide) f19 (fun _ h9 => h9) rfl dX7_paints_23 ?_
      refine lv_iconst (v := 1) hx hb dX7_paints_26 (by decide) ?_
      refine va_iald hx hb hK hP 2 0 rfl rfl (by unfold vp_in; decide) dX7_paints_27 ?_
      refine lv_iload_n hx hb dX7_paints_28 rfl (lv_at hl 2 rfl) ?_
      refine lv_icmp_ge (tgt := 35) hx hb dX7_paints_29 (by decide) (fun c_5 => ?_) (fun c_5 => ?_)
      · replace h := h.1 c_5
        refine lv_aload_n hx hb dX7_paints_35 rfl (lv_at hl 0 rfl) ?_
        refine lv_iload_n hx hb dX7_paints_36 rfl (lv_at hl 1 rfl) ?_
        refine gV_i0 (As := [.int p0]) (rest := []) ⟨hx, hb, hml, hown, hts⟩ (c_X7_yellow l dC dI cyC cyI cyZ _ a a_text a_read a_hill a_now a_undone a_need a_cameOf a_places a_firstRow a_kept v_size v_at v_begin v_token v_told v_undos v_cames v_each v_trace v_now p0 h) (cwV 1 hts gX7_paints_X7_yellow rfl rfl rfl hdV_X7_yellow ⟨Nat.le_of_ble_eq_true rfl, Nat.le_of_ble_eq_true rfl⟩) hK hN hP hD hS hA [0, 2] (by decide) rfl (ci := 7) rfl rfl rfl hl.1 rfl (Nat.le_of_ble_eq_true rfl) dX7_paints_37 ⟨Nat.zero_le _, Nat.zero_le _⟩ (fun r_6 H locs h hP hS => ?_)
        refine lv_iload_n hx hb dX7_paints_40 rfl (lv_at hl 2 rfl) ?_
        refine lv_iadd hx hb dX7_paints_41 ?_
        refine lv_sipush (v := 999) hx hb dX7_paints_42 (by decide) ?_
        refine lv_icmp_le (tgt := 51) hx hb dX7_paints_45 (by decide) (fun c_7 => ?_) (fun c_7 => ?_)
        · replace h := h.1 c_7
          refine lv_aload_n hx hb dX7_paints_51 rfl (lv_at hl 0 rfl) ?_
          refine gV_v2 (As := []) (rest := []) ⟨hx, hb, hml, hown, hts⟩ (c_X7_notes l dC dI cyC cyI cyZ _ a a_text a_read a_hill a_now a_undone a_need a_cameOf a_places a_firstRow a_kept v_size v_at v_begin v_token v_told v_undos v_cames v_each v_trace v_undone v_now h) (cwV 0 hts gX7_paints_X7_notes rfl rfl rfl hdV_X7_notes ⟨Nat.le_of_ble_eq_true rfl, Nat.le_of_ble_eq_true rfl⟩) hK hN hP hD hS hA [0, 3, 2] (by decide) rfl (ci := 7) rfl rfl rfl hl.1 rfl (Nat.le_of_ble_eq_true rfl) dX7_paints_52 ⟨Nat.zero_le _, Nat.zero_le _⟩ (wr := [(a_hill, .inl (cyI, 46, .inl v_hill))]) [1] rfl (by decide) (by decide) (fun u_8 u_9 H locs h hP hD hS => ?_)
          replace hP : va_P (dC, dI) vwCl [(a_hill, .inl (cyI, 46, .inl v_hill)), (a, .inr (7, [.ref a_text, .int v_size, .int v_at, .int v_begin, .int v_token, .int v_told, .ref a_read, .ref a_hill, .ref a_now, .ref a_undone, .int u_8, .ref a_need, .int v_cames, .ref a_cameOf, .ref a_places, .ref a_firstRow, .int v_each, .long v_trace, .ref a_kept])), (a_undone, .inl (cyI, 150, .inl u_9)), (a_now, .inl (cyI, 15, .inl v_now))] H := hP
          replace hD : va_D A [(a_hill, .inl (cyI, 46, .inl v_hill)), (a, .inr (7, [.ref a_text, .int v_size, .int v_at, .int v_begin, .int v_token, .int v_told, .ref a_read, .ref a_hill, .ref a_now, .ref a_undone, .int u_8, .ref a_need, .int v_cames, .ref a_cameOf, .ref a_places, .ref a_firstRow, .int v_each, .long v_trace, .ref a_kept])), (a_undone, .inl (cyI, 150, .inl u_9)), (a_now, .inl (cyI, 15, .inl v_now))] := hD
          refine lv_aload_n hx hb dX7_paints_55 rfl (lv_at hl 0 rfl) ?_
          refine va_get (D := (dC, dI)) (ci := 7) (v := .ref a_now) (C := RX7) (T := TX7) (N := 19) hx hb hts iwX7_paints_X7 hown hK hP 1 rfl rfl 8 (by decide) f19 (fun _ h9 => h9) rfl dX7_paints_56 ?_
          refine lv_iconst (v := 1) hx hb dX7_paints_59 (by decide) ?_
          refine lv_dup2_11 hx hb dX7_paints_60 rfl rfl ?_
          refine va_iald hx hb hK hP 3 0 rfl rfl (by unfold vp_in; decide) dX7_paints_61 ?_
          refine lv_iload_n hx hb dX7_paints_62 rfl (lv_at hl 2 rfl) ?_
          refine lv_isub hx hb dX7_paints_63 ?_
          refine va_iast hx hb hK hP hD hS 3 0 rfl rfl (by unfold vp_in; decide) dX7_paints_64 (fun H locs hP hD hS => ?_)
          obtain ⟨f_10, e_11⟩ : ∃ y : Nat → Int32, y = upd v_now ((1 : Int32)).toNatClampNeg ((v_now ((1 : Int32)).toNatClampNeg) - p1) := ⟨_, rfl⟩
          replace h := h f_10 e_11
          replace hP : va_P (dC, dI) vwCl [(a_hill, .inl (cyI, 46, .inl v_hill)), (a, .inr (7, [.ref a_text, .int v_size, .int v_at, .int v_begin, .int v_token, .int v_told, .ref a_read, .ref a_hill, .ref a_now, .ref a_undone, .int u_8, .ref a_need, .int v_cames, .ref a_cameOf, .ref a_places, .ref a_firstRow, .int v_each, .long v_trace, .ref a_kept])), (a_undone, .inl (cyI, 150, .inl u_9)), (a_now, .inl (cyI, 15, .inl f_10))] H := by rw [e_11]; exact hP
          replace hD : va_D A [(a_hill, .inl (cyI, 46, .inl v_hill)), (a, .inr (7, [.ref a_text, .int v_size, .int v_at, .int v_begin, .int v_token, .int v_told, .ref a_read, .ref a_hill, .ref a_now, .ref a_undone, .int u_8, .ref a_need, .int v_cames, .ref a_cameOf, .ref a_places, .ref a_firstRow, .int v_each, .long v_trace, .ref a_kept])), (a_undone, .inl (cyI, 150, .inl u_9)), (a_now, .inl (cyI, 15, .inl f_10))] := by rw [e_11]; exact hD
          refine lv_aload_n hx hb dX7_paints_65 rfl (lv_at hl 0 rfl) ?_
          refine va_get (D := (dC, dI)) (ci := 7) (v := .ref a_now) (C := RX7) (T := TX7) (N := 19) hx hb hts iwX7_paints_X7 hown hK hP 1 rfl rfl 8 (by decide) f19 (fun _ h9 => h9) rfl dX7_paints_66 ?_
          refine lv_iconst (v := 3) hx hb dX7_paints_69 (by decide) ?_
          refine lv_iconst (v := 2) hx hb dX7_paints_70 (by decide) ?_
          refine lv_iload_n hx hb dX7_paints_71 rfl (lv_at hl 1 rfl) ?_
          refine lv_imul hx hb dX7_paints_72 ?_
          refine lv_iadd hx hb dX7_paints_73 ?_
          refine lv_dup2_11 hx hb dX7_paints_74 rfl rfl ?_
          have g_12 := h.1
          replace h := h.2
          refine va_iald hx hb hK hP 3 0 rfl rfl g_12 dX7_paints_75 ?_
          refine lv_iload_n hx hb dX7_paints_76 rfl (lv_at hl 2 rfl) ?_
          refine lv_iadd hx hb dX7_paints_77 ?_
          have g_13 := h.1
          replace h := h.2
          refine va_iast hx hb hK hP hD hS 3 0 rfl rfl g_13 dX7_paints_78 (fun H locs hP hD hS => ?_)
          obtain ⟨f_14, e_15⟩ : ∃ y : Nat → Int32, y = upd f_10 (((3 : Int32) + ((2 : Int32) * p0))).toNatClampNeg ((f_10 (((3 : Int32) + ((2 : Int32) * p0))).toNatClampNeg) + p1) := ⟨_, rfl⟩
          replace h := h f_14 e_15
          replace hP : va_P (dC, dI) vwCl [(a_hill, .inl (cyI, 46, .inl v_hill)), (a, .inr (7, [.ref a_text, .int v_size, .int v_at, .int v_begin, .int v_token, .int v_told, .ref a_read, .ref a_hill, .ref a_now, .ref a_undone, .int u_8, .ref a_need, .int v_cames, .ref a_cameOf, .ref a_places, .ref a_firstRow, .int v_each, .long v_trace, .ref a_kept])), (a_undone, .inl (cyI, 150, .inl u_9)), (a_now, .inl (cyI, 15, .inl f_14))] H := by rw [e_15]; exact hP
          replace hD : va_D A [(a_hill, .inl (cyI, 46, .inl v_hill)), (a, .inr (7, [.ref a_text, .int v_size, .int v_at, .int v_begin, .int v_token, .int v_told, .ref a_read, .ref a_hill, .ref a_now, .ref a_undone, .int u_8, .ref a_need, .int v_cames, .ref a_cameOf, .ref a_places, .ref a_firstRow, .int v_each, .long v_trace, .ref a_kept])), (a_undone, .inl (cyI, 150, .inl u_9)), (a_now, .inl (cyI, 15, .inl f_14))] := by rw [e_15]; exact hD
          refine lv_aload_n hx hb dX7_paints_79 rfl (lv_at hl 0 rfl) ?_
          refine lv_iload_n hx hb dX7_paints_80 rfl (lv_at hl 1 rfl) ?_
          refine gV_i0 (As := [.int p0]) (rest := []) ⟨hx, hb, hml, hown, hts⟩ (c_X7_yellow l dC dI cyC cyI cyZ _ a a_text a_read a_hill a_now a_undone a_need a_cameOf a_places a_firstRow a_kept v_size v_at v_begin v_token v_told u_8 v_cames v_each v_trace f_14 p0 h) (cwV 1 hts gX7_paints_X7_yellow rfl rfl rfl hdV_X7_yellow ⟨Nat.le_of_ble_eq_true rfl, Nat.le_of_ble_eq_true rfl⟩) hK hN hP hD hS hA [1, 3] (by decide) rfl (ci := 7) rfl rfl rfl hl.1 rfl (Nat.le_of_ble_eq_true rfl) dX7_paints_81 ⟨Nat.zero_le _, Nat.zero_le _⟩ (fun r_16 H locs h hP hS => ?_)
          exact gri3 hx hb hr hlocks h (hP.sub (ws' := [(a, .inr (7, [.ref a_text, .int v_size, .int v_at, .int v_begin, .int v_token, .int v_told, .ref a_read, .ref a_hill, .ref a_now, .ref a_undone, .int u_8, .ref a_need, .int v_cames, .ref a_cameOf, .ref a_places, .ref a_firstRow, .int v_each, .long v_trace, .ref a_kept])), (a_hill, .inl (cyI, 46, .inl v_hill)), (a_now, .inl (cyI, 15, .inl f_14)), (a_undone, .inl (cyI, 150, .inl u_9))]) [1, 0, 3, 2] rfl) (hD.sub (ws' := [(a, .inr (7, [.ref a_text, .int v_size, .int v_at, .int v_begin, .int v_token, .int v_told, .ref a_read, .ref a_hill, .ref a_now, .ref a_undone, .int u_8, .ref a_need, .int v_cames, .ref a_cameOf, .ref a_places, .ref a_firstRow, .int v_each, .long v_trace, .ref a_kept])), (a_hill, .inl (cyI, 46, .inl v_hill)), (a_now, .inl (cyI, 15, .inl f_14)), (a_undone, .inl (cyI, 150, .inl u_9))]) [1, 0, 3, 2] (by decide) rfl) hS dX7_paints_84
        · replace h := h.2 c_7
          refine lv_bipush (v := -3) hx hb dX7_paints_48 (by decide) ?_
          exact gri3 hx hb hr hlocks h hP hD hS dX7_paints_50
      · replace h := h.2 c_5
        refine lv_bipush (v := -2) hx hb dX7_paints_32 (by decide) ?_
        exact gri3 hx hb hr hlocks h hP hD hS dX7_paints_34
    · replace h := h.2 c_4
      refine lv_iconst (v := -1) hx hb dX7_paints_20 (by decide) ?_
      exact gri3 hx hb hr hlocks h hP hD hS dX7_paints_21

def F_X7_stretches_e (v_hill : Nat → Int32) (p0 : Int32) (p1 : Int32) (Q : Int32 → Int32 → (Nat → Int32) → (Nat → Int32) → Prop) (v_undos : Int32) (v_now : Nat → Int32) (v_undone : Nat → Int32) : Prop :=
  q_X7_isThing v_hill p0 (fun (r_1 : Int32) => (r_1 = 0 → (Q (-1 : Int32) v_undos v_now v_undone)) ∧ (¬ r_1 = 0 → (q_X7_in ((p1).toInt64) (1 : Int64) (99 : Int64) (fun (r_3 : Int32) => (¬ r_3 = 0 → (q_X7_white v_now p0 (fun (r_5 : Int32) => ((r_5 + p1) ≤ (999 : Int32) → (q_X7_notes v_undos v_undone v_now (fun (u_7 : Int32) (u_8 : Nat → Int32) => vp_in ((4 : Int32) + ((2 : Int32) * p0)) 15 ∧ (vp_in ((4 : Int32) + ((2 : Int32) * p0)) 15 ∧ (∀ f_11 : Nat → Int32, f_11 = upd v_now (((4 : Int32) + ((2 : Int32) * p0))).toNatClampNeg ((v_now (((4 : Int32) + ((2 : Int32) * p0))).toNatClampNeg) + p1) → (q_X7_white f_11 p0 (fun (r_13 : Int32) => Q r_13 u_7 f_11 u_8))))))) ∧ (¬ (r_5 + p1) ≤ (999 : Int32) → (Q (-3 : Int32) v_undos v_now v_undone))))) ∧ (r_3 = 0 → (Q (-1 : Int32) v_undos v_now v_undone))))))
def q_X7_stretches (v_undos : Int32) (v_hill : Nat → Int32) (v_now : Nat → Int32) (v_undone : Nat → Int32) (p0 : Int32) (p1 : Int32) (Q : Int32 → Int32 → (Nat → Int32) → (Nat → Int32) → Prop) : Prop := F_X7_stretches_e v_hill p0 p1 Q v_undos v_now v_undone
theorem iwX7_stretches_X7 : ∀ w ∈ wsX70, w ∈ wsX7_stretches := by decide +kernel
theorem hdV_X7_stretches : yX7_stretches.cls = RX7 ∧ yX7_stretches.cls ≠ "java/lang/invoke/MethodHandle" ∧ yX7_stretches.cls ≠ "java/lang/invoke/VarHandle" ∧ (parseMethodDescriptor yX7_stretches.desc).map (fun d => d.parameters.length) = some 2 := by decide +kernel
set_option maxHeartbeats 4000000 in
set_option maxRecDepth 100000 in
theorem c_X7_stretches (l : Launch) (dC : Nat → ClassId) (dI : Nat → Nat → Nat) (cyC cyI cyZ : ClassId) (sz : Nat) (a a_text a_read a_hill a_now a_undone a_need a_cameOf a_places a_firstRow a_kept : Nat) (v_size : Int32) (v_at : Int32) (v_begin : Int32) (v_token : Int32) (v_told : Int32) (v_undos : Int32) (v_cames : Int32) (v_each : Int32) (v_trace : Int64) (v_hill : Nat → Int32) (v_now : Nat → Int32) (v_undone : Nat → Int32) (p0 : Int32) (p1 : Int32) {Q : Int32 → Int32 → (Nat → Int32) → (Nat → Int32) → Prop} (h : q_X7_stretches v_undos v_hill v_now v_undone p0 p1 Q) : Met l yX7_stretches wsX7_stretches ({ frames := 2, cells := 0, slots := 0, locals := 46 }) (gPc [.ref a, .int p0, .int p1] (dC, dI) (gTy cyC cyI cyZ) sz [(a, .inr (7, [.ref a_text, .int v_size, .int v_at, .int v_begin, .int v_token, .int v_told, .ref a_read, .ref a_hill, .ref a_now, .ref a_undone, .int v_undos, .ref a_need, .int v_cames, .ref a_cameOf, .ref a_places, .ref a_firstRow, .int v_each, .long v_trace, .ref a_kept])), (a_hill, .inl (cyI, 46, .inl v_hill)), (a_now, .inl (cyI, 15, .inl v_now)), (a_undone, .inl (cyI, 150, .inl v_undone))]) (gQi3 Q (dC, dI) (va_A [(a, .inr (7, [.ref a_text, .int v_size, .int v_at, .int v_begin, .int v_token, .int v_told, .ref a_read, .ref a_hill, .ref a_now, .ref a_undone, .int v_undos, .ref a_need, .int v_cames, .ref a_cameOf, .ref a_places, .ref a_firstRow, .int v_each, .long v_trace, .ref a_kept])), (a_hill, .inl (cyI, 46, .inl v_hill)), (a_now, .inl (cyI, 15, .inl v_now)), (a_undone, .inl (cyI, 150, .inl v_undone))] sz) (fun (u1 : Int32) (u2 : Nat → Int32) (u3 : Nat → Int32) => [(a, .inr (7, [.ref a_text, .int v_size, .int v_at, .int v_begin, .int v_token, .int v_told, .ref a_read, .ref a_hill, .ref a_now, .ref a_undone, .int u1, .ref a_need, .int v_cames, .ref a_cameOf, .ref a_places, .ref a_firstRow, .int v_each, .long v_trace, .ref a_kept])), (a_hill, .inl (cyI, 46, .inl v_hill)), (a_now, .inl (cyI, 15, .inl u2)), (a_undone, .inl (cyI, 150, .inl u3))])) 0 0 (va_A [(a, .inr (7, [.ref a_text, .int v_size, .int v_at, .int v_begin, .int v_token, .int v_told, .ref a_read, .ref a_hill, .ref a_now, .ref a_undone, .int v_undos, .ref a_need, .int v_cames, .ref a_cameOf, .ref a_places, .ref a_firstRow, .int v_each, .long v_trace, .ref a_kept])), (a_hill, .inl (cyI, 46, .inl v_hill)), (a_now, .inl (cyI, 15, .inl v_now)), (a_undone, .inl (cyI, 150, .inl v_undone))] sz) := by
  refine gMet (cc := cX7_stretches) (maxL := 3) (ret := (some .int)) (own := RX7) (fun A => gQi3 Q (dC, dI) A (fun (u1 : Int32) (u2 : Nat → Int32) (u3 : Nat → Int32) => [(a, .inr (7, [.ref a_text, .int v_size, .int v_at, .int v_begin, .int v_token, .int v_told, .ref a_read, .ref a_hill, .ref a_now, .ref a_undone, .int u1, .ref a_need, .int v_cames, .ref a_cameOf, .ref a_places, .ref a_firstRow, .int v_each, .long v_trace, .ref a_kept])), (a_hill, .inl (cyI, 46, .inl v_hill)), (a_now, .inl (cyI, 15, .inl u2)), (a_undone, .inl (cyI, 150, .inl u3))])) (by decide) rfl rfl (Nat.le_of_ble_eq_true rfl) ?_
  intro p e s m below meth c A ls C0 _ hK hN hP hD hA hl
  obtain ⟨hx, hb, hr, hml, hown, hts, hlocks⟩ := id C0
  have f19 := hts (.fieldLink RX7 19 "LastOchreModel" "now" "[I") (by decide +kernel)
  have hS : va_S A s.heap s.heap [] := va_S.rf
  replace hl : lv_has ls 3 [(0, .ref a), (1, .int p0), (2, .int p1)] := hl
  unfold q_X7_stretches at h
  unfold F_X7_stretches_e at h
  refine lv_aload_n hx hb dX7_stretches_0 rfl (lv_at hl 0 rfl) ?_
  refine lv_iload_n hx hb dX7_stretches_1 rfl (lv_at hl 1 rfl) ?_
  refine gV_i0 (As := [.int p0]) (rest := []) ⟨hx, hb, hml, hown, hts⟩ (c_X7_isThing l dC dI cyC cyI cyZ _ a a_text a_read a_hill a_now a_undone a_need a_cameOf a_places a_firstRow a_kept v_size v_at v_begin v_token v_told v_undos v_cames v_each v_trace v_hill p0 h) (cwV 1 hts gX7_stretches_X7_isThing rfl rfl rfl hdV_X7_isThing ⟨Nat.le_of_ble_eq_true rfl, Nat.le_of_ble_eq_true rfl⟩) hK hN hP hD hS hA [0, 1] (by decide) rfl (ci := 7) rfl rfl rfl hl.1 rfl (Nat.le_of_ble_eq_true rfl) dX7_stretches_2 ⟨Nat.zero_le _, Nat.zero_le _⟩ (fun r_1 H locs h hP hS => ?_)
  refine lv_if_eq (tgt := 20) hx hb dX7_stretches_5 (by decide) (fun c_2 => ?_) (fun c_2 => ?_)
  · replace h := h.1 c_2
    refine lv_iconst (v := -1) hx hb dX7_stretches_20 (by decide) ?_
    exact gri3 hx hb hr hlocks h hP hD hS dX7_stretches_21
  · replace h := h.2 c_2
    refine lv_iload_n hx hb dX7_stretches_8 rfl (lv_at hl 2 rfl) ?_
    refine lv_i2l hx hb dX7_stretches_9 rfl ?_
    refine lv_lconst (v := 1) hx hb dX7_stretches_10 (by decide) ?_
    refine lv_ldc2 (v := 99) hx hb hown (hts (.constantLong RX7 164 (99)) (by decide +kernel)) dX7_stretches_11 ?_
    refine gS_i0 (As := [.long ((p1).toInt64), .long (1 : Int64), .long (99 : Int64)]) (rest := []) ⟨hx, hb, hml, hown, hts⟩ (c_X7_in l dC dI cyC cyI cyZ _ ((p1).toInt64) (1 : Int64) (99 : Int64) h) (va_cwS 3 hts gX7_stretches_X7_in rfl rfl rfl hdS_X7_in ⟨Nat.le_of_ble_eq_true rfl, Nat.le_of_ble_eq_true rfl⟩) hK hN hP hD hS hA [] (by decide) rfl rfl hl.1 rfl (Nat.le_of_ble_eq_true rfl) dX7_stretches_14 ⟨Nat.zero_le _, Nat.zero_le _⟩ (fun r_3 H locs h hP hS => ?_)
    refine lv_if_ne (tgt := 22) hx hb dX7_stretches_17 (by decide) (fun c_4 => ?_) (fun c_4 => ?_)
    · replace h := h.1 c_4
      refine lv_aload_n hx hb dX7_stretches_22 rfl (lv_at hl 0 rfl) ?_
      refine lv_iload_n hx hb dX7_stretches_23 rfl (lv_at hl 1 rfl) ?_
      refine gV_i0 (As := [.int p0]) (rest := []) ⟨hx, hb, hml, hown, hts⟩ (c_X7_white l dC dI cyC cyI cyZ _ a a_text a_read a_hill a_now a_undone a_need a_cameOf a_places a_firstRow a_kept v_size v_at v_begin v_token v_told v_undos v_cames v_each v_trace v_now p0 h) (cwV 1 hts gX7_stretches_X7_white rfl rfl rfl hdV_X7_white ⟨Nat.le_of_ble_eq_true rfl, Nat.le_of_ble_eq_true rfl⟩) hK hN hP hD hS hA [0, 2] (by decide) rfl (ci := 7) rfl rfl rfl hl.1 rfl (Nat.le_of_ble_eq_true rfl) dX7_stretches_24 ⟨Nat.zero_le _, Nat.zero_le _⟩ (fun r_5 H locs h hP hS => ?_)
      refine lv_iload_n hx hb dX7_stretches_27 rfl (lv_at hl 2 rfl) ?_
      refine lv_iadd hx hb dX7_stretches_28 ?_
      refine lv_sipush (v := 999) hx hb dX7_stretches_29 (by decide) ?_
      refine lv_icmp_le (tgt := 38) hx hb dX7_stretches_32 (by decide) (fun c_6 => ?_) (fun c_6 => ?_)
      · replace h := h.1 c_6
        refine lv_aload_n hx hb dX7_stretches_38 rfl (lv_at hl 0 rfl) ?_
        refine gV_v2 (As := []) (rest := []) ⟨hx, hb, hml, hown, hts⟩ (c_X7_notes l dC dI cyC cyI cyZ _ a a_text a_read a_hill a_now a_undone a_need a_cameOf a_places a_firstRow a_kept v_size v_at v_begin v_token v_told v_undos v_cames v_each v_trace v_undone v_now h) (cwV 0 hts gX7_stretches_X7_notes rfl rfl rfl hdV_X7_notes ⟨Nat.le_of_ble_eq_true rfl, Nat.le_of_ble_eq_true rfl⟩) hK hN hP hD hS hA [0, 3, 2] (by decide) rfl (ci := 7) rfl rfl rfl hl.1 rfl (Nat.le_of_ble_eq_true rfl) dX7_stretches_39 ⟨Nat.zero_le _, Nat.zero_le _⟩ (wr := [(a_hill, .inl (cyI, 46, .inl v_hill))]) [1] rfl (by decide) (by decide) (fun u_7 u_8 H locs h hP hD hS => ?_)
        replace hP : va_P (dC, dI) vwCl [(a_hill, .inl (cyI, 46, .inl v_hill)), (a, .inr (7, [.ref a_text, .int v_size, .int v_at, .int v_begin, .int v_token, .int v_told, .ref a_read, .ref a_hill, .ref a_now, .ref a_undone, .int u_7, .ref a_need, .int v_cames, .ref a_cameOf, .ref a_places, .ref a_firstRow, .int v_each, .long v_trace, .ref a_kept])), (a_undone, .inl (cyI, 150, .inl u_8)), (a_now, .inl (cyI, 15, .inl v_now))] H := hP
        replace hD : va_D A [(a_hill, .inl (cyI, 46, .inl v_hill)), (a, .inr (7, [.ref a_text, .int v_size, .int v_at, .int v_begin, .int v_token, .int v_told, .ref a_read, .ref a_hill, .ref a_now, .ref a_undone, .int u_7, .ref a_need, .int v_cames, .ref a_cameOf, .ref a_places, .ref a_firstRow, .int v_each, .long v_trace, .ref a_kept])), (a_undone, .inl (cyI, 150, .inl u_8)), (a_now, .inl (cyI, 15, .inl v_now))] := hD
        refine lv_aload_n hx hb dX7_stretches_42 rfl (lv_at hl 0 rfl) ?_
        refine va_get (D := (dC, dI)) (ci := 7) (v := .ref a_now) (C := RX7) (T := TX7) (N := 19) hx hb hts iwX7_stretches_X7 hown hK hP 1 rfl rfl 8 (by decide) f19 (fun _ h9 => h9) rfl dX7_stretches_43 ?_
        refine lv_iconst (v := 4) hx hb dX7_stretches_46 (by decide) ?_
        refine lv_iconst (v := 2) hx hb dX7_stretches_47 (by decide) ?_
        refine lv_iload_n hx hb dX7_stretches_48 rfl (lv_at hl 1 rfl) ?_
        refine lv_imul hx hb dX7_stretches_49 ?_
        refine lv_iadd hx hb dX7_stretches_50 ?_
        refine lv_dup2_11 hx hb dX7_stretches_51 rfl rfl ?_
        have g_9 := h.1
        replace h := h.2
        refine va_iald hx hb hK hP 3 0 rfl rfl g_9 dX7_stretches_52 ?_
        refine lv_iload_n hx hb dX7_stretches_53 rfl (lv_at hl 2 rfl) ?_
        refine lv_iadd hx hb dX7_stretches_54 ?_
        have g_10 := h.1
        replace h := h.2
        refine va_iast hx hb hK hP hD hS 3 0 rfl rfl g_10 dX7_stretches_55 (fun H locs hP hD hS => ?_)
        obtain ⟨f_11, e_12⟩ : ∃ y : Nat → Int32, y = upd v_now (((4 : Int32) + ((2 : Int32) * p0))).toNatClampNeg ((v_now (((4 : Int32) + ((2 : Int32) * p0))).toNatClampNeg) + p1) := ⟨_, rfl⟩
        replace h := h f_11 e_12
        replace hP : va_P (dC, dI) vwCl [(a_hill, .inl (cyI, 46, .inl v_hill)), (a, .inr (7, [.ref a_text, .int v_size, .int v_at, .int v_begin, .int v_token, .int v_told, .ref a_read, .ref a_hill, .ref a_now, .ref a_undone, .int u_7, .ref a_need, .int v_cames, .ref a_cameOf, .ref a_places, .ref a_firstRow, .int v_each, .long v_trace, .ref a_kept])), (a_undone, .inl (cyI, 150, .inl u_8)), (a_now, .inl (cyI, 15, .inl f_11))] H := by rw [e_12]; exact hP
        replace hD : va_D A [(a_hill, .inl (cyI, 46, .inl v_hill)), (a, .inr (7, [.ref a_text, .int v_size, .int v_at, .int v_begin, .int v_token, .int v_told, .ref a_read, .ref a_hill, .ref a_now, .ref a_undone, .int u_7, .ref a_need, .int v_cames, .ref a_cameOf, .ref a_places, .ref a_firstRow, .int v_each, .long v_trace, .ref a_kept])), (a_undone, .inl (cyI, 150, .inl u_8)), (a_now, .inl (cyI, 15, .inl f_11))] := by rw [e_12]; exact hD
        refine lv_aload_n hx hb dX7_stretches_56 rfl (lv_at hl 0 rfl) ?_
        refine lv_iload_n hx hb dX7_stretches_57 rfl (lv_at hl 1 rfl) ?_
        refine gV_i0 (As := [.int p0]) (rest := []) ⟨hx, hb, hml, hown, hts⟩ (c_X7_white l dC dI cyC cyI cyZ _ a a_text a_read a_hill a_now a_undone a_need a_cameOf a_places a_firstRow a_kept v_size v_at v_begin v_token v_told u_7 v_cames v_each v_trace f_11 p0 h) (cwV 1 hts gX7_stretches_X7_white rfl rfl rfl hdV_X7_white ⟨Nat.le_of_ble_eq_true rfl, Nat.le_of_ble_eq_true rfl⟩) hK hN hP hD hS hA [1, 3] (by decide) rfl (ci := 7) rfl rfl rfl hl.1 rfl (Nat.le_of_ble_eq_true rfl) dX7_stretches_58 ⟨Nat.zero_le _, Nat.zero_le _⟩ (fun r_13 H locs h hP hS => ?_)
        exact gri3 hx hb hr hlocks h (hP.sub (ws' := [(a, .inr (7, [.ref a_text, .int v_size, .int v_at, .int v_begin, .int v_token, .int v_told, .ref a_read, .ref a_hill, .ref a_now, .ref a_undone, .int u_7, .ref a_need, .int v_cames, .ref a_cameOf, .ref a_places, .ref a_firstRow, .int v_each, .long v_trace, .ref a_kept])), (a_hill, .inl (cyI, 46, .inl v_hill)), (a_now, .inl (cyI, 15, .inl f_11)), (a_undone, .inl (cyI, 150, .inl u_8))]) [1, 0, 3, 2] rfl) (hD.sub (ws' := [(a, .inr (7, [.ref a_text, .int v_size, .int v_at, .int v_begin, .int v_token, .int v_told, .ref a_read, .ref a_hill, .ref a_now, .ref a_undone, .int u_7, .ref a_need, .int v_cames, .ref a_cameOf, .ref a_places, .ref a_firstRow, .int v_each, .long v_trace, .ref a_kept])), (a_hill, .inl (cyI, 46, .inl v_hill)), (a_now, .inl (cyI, 15, .inl f_11)), (a_undone, .inl (cyI, 150, .inl u_8))]) [1, 0, 3, 2] (by decide) rfl) hS dX7_stretches_61
      · replace h := h.2 c_6
        refine lv_bipush (v := -3) hx hb dX7_stretches_35 (by decide) ?_
        exact gri3 hx hb hr hlocks h hP hD hS dX7_stretches_37
    · replace h := h.2 c_4
      refine lv_iconst (v := -1) hx hb dX7_stretches_20 (by decide) ?_
      exact gri3 hx hb hr hlocks h hP hD hS dX7_stretches_21

def F_X7_called_e (v_hill : Nat → Int32) (v_now : Nat → Int32) (Q : Int32 → Prop) (rec : Nat → Int32 → Int32 → Prop)  : Prop :=
  rec 4 (0 : Int32) (0 : Int32)
def F_X7_called_4 (v_hill : Nat → Int32) (v_now : Nat → Int32) (Q : Int32 → Prop) (rec : Nat → Int32 → Int32 → Prop) (x1 : Int32) (x2 : Int32) : Prop :=
  ((v_hill ((2 : Int32)).toNatClampNeg) ≤ x2 → (Q x1)) ∧ (¬ (v_hill ((2 : Int32)).toNatClampNeg) ≤ x2 → (q_X7_isThen v_now v_hill x2 (0 : Int32) (0 : Int32) (fun (r_2 : Int32) => (r_2 = 0 → (∀ x1_4 : Int32, x1_4 = (x1 ||| (0 : Int32)) → (∀ x2_6 : Int32, x2_6 = (x2 + (1 : Int32)) → (rec 4 x1_4 x2_6)))) ∧ (¬ r_2 = 0 → (∀ x1_8 : Int32, x1_8 = (x1 ||| ((1 : Int32) <<< (x2 &&& 31))) → (∀ x2_10 : Int32, x2_10 = (x2 + (1 : Int32)) → (rec 4 x1_8 x2_10)))))))
def wp_X7_called (v_hill : Nat → Int32) (v_now : Nat → Int32) (Q : Int32 → Prop) : Nat → Nat → Int32 → Int32 → Prop
  | 0 => fun _ _ _ => False
  | n + 1 => fun t x1 x2 => if t = 4 then F_X7_called_4 v_hill v_now Q (wp_X7_called v_hill v_now Q n) x1 x2 else False
def q_X7_called (v_hill : Nat → Int32) (v_now : Nat → Int32) (Q : Int32 → Prop) : Prop := ∃ n, F_X7_called_e v_hill v_now Q (wp_X7_called v_hill v_now Q n) 
theorem iwX7_called_X7 : ∀ w ∈ wsX70, w ∈ wsX7_called := by decide +kernel
theorem hdV_X7_called : yX7_called.cls = RX7 ∧ yX7_called.cls ≠ "java/lang/invoke/MethodHandle" ∧ yX7_called.cls ≠ "java/lang/invoke/VarHandle" ∧ (parseMethodDescriptor yX7_called.desc).map (fun d => d.parameters.length) = some 0 := by decide +kernel
set_option maxHeartbeats 4000000 in
set_option maxRecDepth 100000 in
theorem w_X7_called {p : Program} {l : Launch} {e : Env} {s : State} {m : MethodId} {args : Array Value} {below : List Frame} {meth : Method} {c : Code} {A : Nat → Prop} (dC : Nat → ClassId) (dI : Nat → Nat → Nat) (cyC cyI cyZ : ClassId) (a a_text a_read a_hill a_now a_undone a_need a_cameOf a_places a_firstRow a_kept : Nat) (v_size : Int32) (v_at : Int32) (v_begin : Int32) (v_token : Int32) (v_told : Int32) (v_undos : Int32) (v_cames : Int32) (v_each : Int32) (v_trace : Int64) (v_hill : Nat → Int32) (v_now : Nat → Int32) (Q : Int32 → Prop) (C0 : gAt cX7_called (some .int) 3 RX7 wsX7_called p s m meth c args) (hK : va_K (dC, dI) vwCl (gTy cyC cyI cyZ) s) (hN : nU s) (hA : ∀ q, s.heap.size ≤ q → A q) : ∀ n : Nat, (∀ (x1 : Int32) (x2 : Int32) (H : Heap) (locs : List Loc) (ls : Array Slot), wp_X7_called v_hill v_now Q n 4 x1 x2 → va_P (dC, dI) vwCl [(a, .inr (7, [.ref a_text, .int v_size, .int v_at, .int v_begin, .int v_token, .int v_told, .ref a_read, .ref a_hill, .ref a_now, .ref a_undone, .int v_undos, .ref a_need, .int v_cames, .ref a_cameOf, .ref a_places, .ref a_firstRow, .int v_each, .long v_trace, .ref a_kept])), (a_hill, .inl (cyI, 46, .inl v_hill)), (a_now, .inl (cyI, 15, .inl v_now))] H → va_D A [(a, .inr (7, [.ref a_text, .int v_size, .int v_at, .int v_begin, .int v_token, .int v_told, .ref a_read, .ref a_hill, .ref a_now, .ref a_undone, .int v_undos, .ref a_need, .int v_cames, .ref a_cameOf, .ref a_places, .ref a_firstRow, .int v_each, .long v_trace, .ref a_kept])), (a_hill, .inl (cyI, 46, .inl v_hill)), (a_now, .inl (cyI, 15, .inl v_now))] → va_S A s.heap H locs → lv_has ls 3 [(0, .ref a), (1, .int x1), (2, .int x2)] → W p l e { frames := 2, cells := 0, slots := 0, locals := 46 } s m args below meth c H locs 0 0 (MQ below (gQi0 Q (dC, dI) A [(a, .inr (7, [.ref a_text, .int v_size, .int v_at, .int v_begin, .int v_token, .int v_told, .ref a_read, .ref a_hill, .ref a_now, .ref a_undone, .int v_undos, .ref a_need, .int v_cames, .ref a_cameOf, .ref a_places, .ref a_firstRow, .int v_each, .long v_trace, .ref a_kept])), (a_hill, .inl (cyI, 46, .inl v_hill)), (a_now, .inl (cyI, 15, .inl v_now))]) args s 0 0 A) (F0 m 4 ls [])) := by
  obtain ⟨hx, hb, hr, hml, hown, hts, hlocks⟩ := id C0
  have f16 := hts (.fieldLink RX7 16 "LastOchreModel" "hill" "[I") (by decide +kernel)
  intro n
  induction n with
  | zero => exact fun _ _ _ _ _ h => absurd h id
  | succ n ih =>
    have ih4 := ih
    · intro x1 x2 H locs ls h hP hD hS hl
      replace h : F_X7_called_4 v_hill v_now Q (wp_X7_called v_hill v_now Q n) x1 x2 := h
      unfold F_X7_called_4 at h
      refine lv_iload_n hx hb dX7_called_4 rfl (lv_at hl 2 rfl) ?_
      refine lv_aload_n hx hb dX7_called_5 rfl (lv_at hl 0 rfl) ?_
      refine va_get (D := (dC, dI)) (ci := 7) (v := .ref a_hill) (C := RX7) (T := TX7) (N := 19) hx hb hts iwX7_called_X7 hown hK hP 0 rfl rfl 7 (by decide) f16 (fun _ h9 => h9) rfl dX7_called_6 ?_
      refine lv_iconst (v := 2) hx hb dX7_called_9 (by decide) ?_
      refine va_iald hx hb hK hP 1 0 rfl rfl (by unfold vp_in; decide) dX7_called_10 ?_
      refine lv_icmp_ge (tgt := 40) hx hb dX7_called_11 (by decide) (fun c_1 => ?_) (fun c_1 => ?_)
      · replace h := h.1 c_1
        refine lv_iload_n hx hb dX7_called_40 rfl (lv_at hl 1 rfl) ?_
        exact gri0 hx hb hr hlocks h hP hD hS dX7_called_41
      · replace h := h.2 c_1
        refine lv_iload_n hx hb dX7_called_14 rfl (lv_at hl 1 rfl) ?_
        refine lv_aload_n hx hb dX7_called_15 rfl (lv_at hl 0 rfl) ?_
        refine lv_iload_n hx hb dX7_called_16 rfl (lv_at hl 2 rfl) ?_
        refine lv_iconst (v := 0) hx hb dX7_called_17 (by decide) ?_
        refine lv_iconst (v := 0) hx hb dX7_called_18 (by decide) ?_
        refine gV_i0 (As := [.int x2, .int (0 : Int32), .int (0 : Int32)]) (rest := [.int x1]) ⟨hx, hb, hml, hown, hts⟩ (c_X7_isThen l dC dI cyC cyI cyZ _ a a_text a_read a_hill a_now a_undone a_need a_cameOf a_places a_firstRow a_kept v_size v_at v_begin v_token v_told v_undos v_cames v_each v_trace v_now v_hill x2 (0 : Int32) (0 : Int32) h) (cwV 3 hts gX7_called_X7_isThen rfl rfl rfl hdV_X7_isThen ⟨Nat.le_of_ble_eq_true rfl, Nat.le_of_ble_eq_true rfl⟩) hK hN hP hD hS hA [0, 2, 1] (by decide) rfl (ci := 7) rfl rfl rfl hl.1 rfl (Nat.le_of_ble_eq_true rfl) dX7_called_19 ⟨Nat.zero_le _, Nat.zero_le _⟩ (fun r_2 H locs h hP hS => ?_)
        refine lv_if_eq (tgt := 31) hx hb dX7_called_22 (by decide) (fun c_3 => ?_) (fun c_3 => ?_)
        · replace h := h.1 c_3
          refine lv_iconst (v := 0) hx hb dX7_called_31 (by decide) ?_
          refine lv_ior hx hb dX7_called_32 ?_
          refine lv_topi (fun x1_4 e_5 => ?_)
          replace h := h x1_4 e_5
          refine lv_istore_n (lv' := [(1, .int x1_4), (0, .ref a), (2, .int x2)]) hx hb dX7_called_33 rfl hl (by decide) rfl (fun ls hl => ?_)
          obtain ⟨x2_6, e_7⟩ : ∃ y : Int32, y = (x2 + (1 : Int32)) := ⟨_, rfl⟩
          replace h := h x2_6 e_7
          refine lv_iinc (v := x2_6) (lv' := [(2, .int x2_6), (1, .int x1_4), (0, .ref a)]) hx hb dX7_called_34 hl (k := 2) rfl (by rw [e_7]; rfl) (by decide) rfl (fun ls hl => ?_)
          refine lv_goto (tgt := 4) hx hb dX7_called_37 (by decide) ?_
          exact ih4 x1_4 x2_6 _ _ _ h hP hD hS (lv_sub hl [2, 1, 0] rfl)
        · replace h := h.2 c_3
          refine lv_iconst (v := 1) hx hb dX7_called_25 (by decide) ?_
          refine lv_iload_n hx hb dX7_called_26 rfl (lv_at hl 2 rfl) ?_
          refine lv_ishl hx hb dX7_called_27 ?_
          refine lv_goto (tgt := 32) hx hb dX7_called_28 (by decide) ?_
          refine lv_ior hx hb dX7_called_32 ?_
          refine lv_topi (fun x1_8 e_9 => ?_)
          replace h := h x1_8 e_9
          refine lv_istore_n (lv' := [(1, .int x1_8), (0, .ref a), (2, .int x2)]) hx hb dX7_called_33 rfl hl (by decide) rfl (fun ls hl => ?_)
          obtain ⟨x2_10, e_11⟩ : ∃ y : Int32, y = (x2 + (1 : Int32)) := ⟨_, rfl⟩
          replace h := h x2_10 e_11
          refine lv_iinc (v := x2_10) (lv' := [(2, .int x2_10), (1, .int x1_8), (0, .ref a)]) hx hb dX7_called_34 hl (k := 2) rfl (by rw [e_11]; rfl) (by decide) rfl (fun ls hl => ?_)
          refine lv_goto (tgt := 4) hx hb dX7_called_37 (by decide) ?_
          exact ih4 x1_8 x2_10 _ _ _ h hP hD hS (lv_sub hl [2, 1, 0] rfl)
set_option maxHeartbeats 4000000 in
set_option maxRecDepth 100000 in
theorem c_X7_called (l : Launch) (dC : Nat → ClassId) (dI : Nat → Nat → Nat) (cyC cyI cyZ : ClassId) (sz : Nat) (a a_text a_read a_hill a_now a_undone a_need a_cameOf a_places a_firstRow a_kept : Nat) (v_size : Int32) (v_at : Int32) (v_begin : Int32) (v_token : Int32) (v_told : Int32) (v_undos : Int32) (v_cames : Int32) (v_each : Int32) (v_trace : Int64) (v_hill : Nat → Int32) (v_now : Nat → Int32) {Q : Int32 → Prop} (h : q_X7_called v_hill v_now Q) : Met l yX7_called wsX7_called ({ frames := 2, cells := 0, slots := 0, locals := 46 }) (gPc [.ref a] (dC, dI) (gTy cyC cyI cyZ) sz [(a, .inr (7, [.ref a_text, .int v_size, .int v_at, .int v_begin, .int v_token, .int v_told, .ref a_read, .ref a_hill, .ref a_now, .ref a_undone, .int v_undos, .ref a_need, .int v_cames, .ref a_cameOf, .ref a_places, .ref a_firstRow, .int v_each, .long v_trace, .ref a_kept])), (a_hill, .inl (cyI, 46, .inl v_hill)), (a_now, .inl (cyI, 15, .inl v_now))]) (gQi0 Q (dC, dI) (va_A [(a, .inr (7, [.ref a_text, .int v_size, .int v_at, .int v_begin, .int v_token, .int v_told, .ref a_read, .ref a_hill, .ref a_now, .ref a_undone, .int v_undos, .ref a_need, .int v_cames, .ref a_cameOf, .ref a_places, .ref a_firstRow, .int v_each, .long v_trace, .ref a_kept])), (a_hill, .inl (cyI, 46, .inl v_hill)), (a_now, .inl (cyI, 15, .inl v_now))] sz) [(a, .inr (7, [.ref a_text, .int v_size, .int v_at, .int v_begin, .int v_token, .int v_told, .ref a_read, .ref a_hill, .ref a_now, .ref a_undone, .int v_undos, .ref a_need, .int v_cames, .ref a_cameOf, .ref a_places, .ref a_firstRow, .int v_each, .long v_trace, .ref a_kept])), (a_hill, .inl (cyI, 46, .inl v_hill)), (a_now, .inl (cyI, 15, .inl v_now))]) 0 0 (va_A [(a, .inr (7, [.ref a_text, .int v_size, .int v_at, .int v_begin, .int v_token, .int v_told, .ref a_read, .ref a_hill, .ref a_now, .ref a_undone, .int v_undos, .ref a_need, .int v_cames, .ref a_cameOf, .ref a_places, .ref a_firstRow, .int v_each, .long v_trace, .ref a_kept])), (a_hill, .inl (cyI, 46, .inl v_hill)), (a_now, .inl (cyI, 15, .inl v_now))] sz) := by
  refine gMet (cc := cX7_called) (maxL := 3) (ret := (some .int)) (own := RX7) (fun A => gQi0 Q (dC, dI) A [(a, .inr (7, [.ref a_text, .int v_size, .int v_at, .int v_begin, .int v_token, .int v_told, .ref a_read, .ref a_hill, .ref a_now, .ref a_undone, .int v_undos, .ref a_need, .int v_cames, .ref a_cameOf, .ref a_places, .ref a_firstRow, .int v_each, .long v_trace, .ref a_kept])), (a_hill, .inl (cyI, 46, .inl v_hill)), (a_now, .inl (cyI, 15, .inl v_now))]) (by decide) rfl rfl (Nat.le_of_ble_eq_true rfl) ?_
  intro p e s m below meth c A ls C0 _ hK hN hP hD hA hl
  obtain ⟨hx, hb, hr, hml, hown, hts, hlocks⟩ := id C0
  have f16 := hts (.fieldLink RX7 16 "LastOchreModel" "hill" "[I") (by decide +kernel)
  have hS : va_S A s.heap s.heap [] := va_S.rf
  replace hl : lv_has ls 3 [(0, .ref a)] := hl
  unfold q_X7_called at h
  obtain ⟨n, h⟩ := h
  have ih4 := w_X7_called (l := l) (e := e) (below := below) dC dI cyC cyI cyZ a a_text a_read a_hill a_now a_undone a_need a_cameOf a_places a_firstRow a_kept v_size v_at v_begin v_token v_told v_undos v_cames v_each v_trace v_hill v_now Q C0 hK hN hA n
  unfold F_X7_called_e at h
  refine lv_iconst (v := 0) hx hb dX7_called_0 (by decide) ?_
  refine lv_istore_n (lv' := [(1, .int (0 : Int32)), (0, .ref a)]) hx hb dX7_called_1 rfl hl (by decide) rfl (fun ls hl => ?_)
  refine lv_iconst (v := 0) hx hb dX7_called_2 (by decide) ?_
  refine lv_istore_n (lv' := [(2, .int (0 : Int32)), (1, .int (0 : Int32)), (0, .ref a)]) hx hb dX7_called_3 rfl hl (by decide) rfl (fun ls hl => ?_)
  exact ih4 (0 : Int32) (0 : Int32) _ _ _ h hP hD hS (lv_sub hl [2, 1, 0] rfl)

def F_X7_many_e (p0 : Int32) (Q : Int32 → Prop) (rec : Nat → Int32 → Int32 → Prop)  : Prop :=
  rec 4 (0 : Int32) p0
def F_X7_many_4 (p0 : Int32) (Q : Int32 → Prop) (rec : Nat → Int32 → Int32 → Prop) (x1 : Int32) (x2 : Int32) : Prop :=
  (x2 = 0 → (Q x1)) ∧ (¬ x2 = 0 → (∀ x1_2 : Int32, x1_2 = (x1 + (1 : Int32)) → (∀ x2_4 : Int32, x2_4 = (x2 &&& (x2 - (1 : Int32))) → (rec 4 x1_2 x2_4))))
def wp_X7_many (p0 : Int32) (Q : Int32 → Prop) : Nat → Nat → Int32 → Int32 → Prop
  | 0 => fun _ _ _ => False
  | n + 1 => fun t x1 x2 => if t = 4 then F_X7_many_4 p0 Q (wp_X7_many p0 Q n) x1 x2 else False
def q_X7_many (p0 : Int32) (Q : Int32 → Prop) : Prop := ∃ n, F_X7_many_e p0 Q (wp_X7_many p0 Q n) 
theorem hdS_X7_many : yX7_many.cls ≠ "java/lang/invoke/MethodHandle" ∧ yX7_many.cls ≠ "java/lang/invoke/VarHandle" ∧ (parseMethodDescriptor yX7_many.desc).map (fun d => d.parameters.length) = some 1 := by decide +kernel
set_option maxHeartbeats 4000000 in
set_option maxRecDepth 100000 in
theorem w_X7_many {p : Program} {l : Launch} {e : Env} {s : State} {m : MethodId} {args : Array Value} {below : List Frame} {meth : Method} {c : Code} {A : Nat → Prop} (dC : Nat → ClassId) (dI : Nat → Nat → Nat) (cyC cyI cyZ : ClassId) (p0 : Int32) (Q : Int32 → Prop) (C0 : gAt cX7_many (some .int) 3 RX7 wsX7_many p s m meth c args) (hK : va_K (dC, dI) vwCl (gTy cyC cyI cyZ) s) (hN : nU s) (hA : ∀ q, s.heap.size ≤ q → A q) : ∀ n : Nat, (∀ (x1 : Int32) (x2 : Int32) (H : Heap) (locs : List Loc) (ls : Array Slot), wp_X7_many p0 Q n 4 x1 x2 → va_P (dC, dI) vwCl [] H → va_D A [] → va_S A s.heap H locs → lv_has ls 3 [(1, .int x1), (2, .int x2)] → W p l e { frames := 0, cells := 0, slots := 0, locals := 0 } s m args below meth c H locs 0 0 (MQ below (gQi0 Q (dC, dI) A []) args s 0 0 A) (F0 m 4 ls [])) := by
  obtain ⟨hx, hb, hr, hml, hown, hts, hlocks⟩ := id C0
  intro n
  induction n with
  | zero => exact fun _ _ _ _ _ h => absurd h id
  | succ n ih =>
    have ih4 := ih
    · intro x1 x2 H locs ls h hP hD hS hl
      replace h : F_X7_many_4 p0 Q (wp_X7_many p0 Q n) x1 x2 := h
      unfold F_X7_many_4 at h
      refine lv_iload_n hx hb dX7_many_4 rfl (lv_at hl 1 rfl) ?_
      refine lv_if_eq (tgt := 20) hx hb dX7_many_5 (by decide) (fun c_1 => ?_) (fun c_1 => ?_)
      · replace h := h.1 c_1
        refine lv_iload_n hx hb dX7_many_20 rfl (lv_at hl 0 rfl) ?_
        exact gri0 hx hb hr hlocks h hP hD hS dX7_many_21
      · replace h := h.2 c_1
        obtain ⟨x1_2, e_3⟩ : ∃ y : Int32, y = (x1 + (1 : Int32)) := ⟨_, rfl⟩
        replace h := h x1_2 e_3
        refine lv_iinc (v := x1_2) (lv' := [(1, .int x1_2), (2, .int x2)]) hx hb dX7_many_8 hl (k := 0) rfl (by rw [e_3]; rfl) (by decide) rfl (fun ls hl => ?_)
        refine lv_iload_n hx hb dX7_many_11 rfl (lv_at hl 1 rfl) ?_
        refine lv_iload_n hx hb dX7_many_12 rfl (lv_at hl 1 rfl) ?_
        refine lv_iconst (v := 1) hx hb dX7_many_13 (by decide) ?_
        refine lv_isub hx hb dX7_many_14 ?_
        refine lv_iand hx hb dX7_many_15 ?_
        refine lv_topi (fun x2_4 e_5 => ?_)
        replace h := h x2_4 e_5
        refine lv_istore_n (lv' := [(2, .int x2_4), (1, .int x1_2)]) hx hb dX7_many_16 rfl hl (by decide) rfl (fun ls hl => ?_)
        refine lv_goto (tgt := 4) hx hb dX7_many_17 (by decide) ?_
        exact ih4 x1_2 x2_4 _ _ _ h hP hD hS (lv_sub hl [1, 0] rfl)
set_option maxHeartbeats 4000000 in
set_option maxRecDepth 100000 in
theorem c_X7_many (l : Launch) (dC : Nat → ClassId) (dI : Nat → Nat → Nat) (cyC cyI cyZ : ClassId) (sz : Nat) (p0 : Int32) {Q : Int32 → Prop} (h : q_X7_many p0 Q) : Met l yX7_many wsX7_many ({ frames := 0, cells := 0, slots := 0, locals := 0 }) (gPc [.int p0] (dC, dI) (gTy cyC cyI cyZ) sz []) (gQi0 Q (dC, dI) (va_A [] sz) []) 0 0 (va_A [] sz) := by
  refine gMet (cc := cX7_many) (maxL := 3) (ret := (some .int)) (own := RX7) (fun A => gQi0 Q (dC, dI) A []) (by decide) rfl rfl (Nat.le_of_ble_eq_true rfl) ?_
  intro p e s m below meth c A ls C0 _ hK hN hP hD hA hl
  obtain ⟨hx, hb, hr, hml, hown, hts, hlocks⟩ := id C0
  have hS : va_S A s.heap s.heap [] := va_S.rf
  replace hl : lv_has ls 3 [(0, .int p0)] := hl
  unfold q_X7_many at h
  obtain ⟨n, h⟩ := h
  have ih4 := w_X7_many (l := l) (e := e) (below := below) dC dI cyC cyI cyZ p0 Q C0 hK hN hA n
  unfold F_X7_many_e at h
  refine lv_iconst (v := 0) hx hb dX7_many_0 (by decide) ?_
  refine lv_istore_n (lv' := [(1, .int (0 : Int32)), (0, .int p0)]) hx hb dX7_many_1 rfl hl (by decide) rfl (fun ls hl => ?_)
  refine lv_iload_n hx hb dX7_many_2 rfl (lv_at hl 1 rfl) ?_
  refine lv_istore_n (lv' := [(2, .int p0), (1, .int (0 : Int32)), (0, .int p0)]) hx hb dX7_many_3 rfl hl (by decide) rfl (fun ls hl => ?_)
  exact ih4 (0 : Int32) p0 _ _ _ h hP hD hS (lv_sub hl [1, 0] rfl)

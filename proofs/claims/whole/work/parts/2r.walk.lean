def F_X7_count_e (v_size : Int32) (v_undos : Int32) (v_cames : Int32) (v_hill : Nat → Int32) (p0 : Int32) (Q : Int32 → Prop)  : Prop :=
  (p0 = (0 : Int32) → (vp_in p0 46 ∧ (Q (v_hill (p0).toNatClampNeg)))) ∧ (p0 = (1 : Int32) → (vp_in p0 46 ∧ (Q (v_hill (p0).toNatClampNeg)))) ∧ (p0 = (2 : Int32) → (vp_in p0 46 ∧ (Q (v_hill (p0).toNatClampNeg)))) ∧ (p0 = (3 : Int32) → (vp_in p0 46 ∧ (Q (v_hill (p0).toNatClampNeg)))) ∧ (p0 = (4 : Int32) → (vp_in p0 46 ∧ (Q (v_hill (p0).toNatClampNeg)))) ∧ (p0 = (5 : Int32) → (Q v_cames)) ∧ (p0 = (6 : Int32) → (Q v_undos)) ∧ (p0 = (7 : Int32) → (Q v_size)) ∧ ((¬ p0 = (0 : Int32) ∧ ¬ p0 = (1 : Int32) ∧ ¬ p0 = (2 : Int32) ∧ ¬ p0 = (3 : Int32) ∧ ¬ p0 = (4 : Int32) ∧ ¬ p0 = (5 : Int32) ∧ ¬ p0 = (6 : Int32) ∧ ¬ p0 = (7 : Int32)) → (Q (-1 : Int32)))
def q_X7_count (v_size : Int32) (v_undos : Int32) (v_cames : Int32) (v_hill : Nat → Int32) (p0 : Int32) (Q : Int32 → Prop) : Prop := F_X7_count_e v_size v_undos v_cames v_hill p0 Q 
theorem iwX7_count_X7 : ∀ w ∈ wsX70, w ∈ wsX7_count := by decide +kernel
theorem hdV_X7_count : yX7_count.cls = RX7 ∧ yX7_count.cls ≠ "java/lang/invoke/MethodHandle" ∧ yX7_count.cls ≠ "java/lang/invoke/VarHandle" ∧ (parseMethodDescriptor yX7_count.desc).map (fun d => d.parameters.length) = some 1 := by decide +kernel
set_option maxHeartbeats 4000000 in
set_option maxRecDepth 100000 in
theorem c_X7_count (l : Launch) (dC : Nat → ClassId) (dI : Nat → Nat → Nat) (cyC cyI cyZ : ClassId) (sz : Nat) (a a_text a_read a_hill a_now a_undone a_need a_cameOf a_places a_firstRow a_kept : Nat) (v_size : Int32) (v_at : Int32) (v_begin : Int32) (v_token : Int32) (v_told : Int32) (v_undos : Int32) (v_cames : Int32) (v_each : Int32) (v_trace : Int64) (v_hill : Nat → Int32) (p0 : Int32) {Q : Int32 → Prop} (h : q_X7_count v_size v_undos v_cames v_hill p0 Q) : Met l yX7_count wsX7_count ({ frames := 0, cells := 0, slots := 0, locals := 0 }) (gPc [.ref a, .int p0] (dC, dI) (gTy cyC cyI cyZ) sz [(a, .inr (7, [.ref a_text, .int v_size, .int v_at, .int v_begin, .int v_token, .int v_told, .ref a_read, .ref a_hill, .ref a_now, .ref a_undone, .int v_undos, .ref a_need, .int v_cames, .ref a_cameOf, .ref a_places, .ref a_firstRow, .int v_each, .long v_trace, .ref a_kept])), (a_hill, .inl (cyI, 46, .inl v_hill))]) (gQi0 Q (dC, dI) (va_A [(a, .inr (7, [.ref a_text, .int v_size, .int v_at, .int v_begin, .int v_token, .int v_told, .ref a_read, .ref a_hill, .ref a_now, .ref a_undone, .int v_undos, .ref a_need, .int v_cames, .ref a_cameOf, .ref a_places, .ref a_firstRow, .int v_each, .long v_trace, .ref a_kept])), (a_hill, .inl (cyI, 46, .inl v_hill))] sz) [(a, .inr (7, [.ref a_text, .int v_size, .int v_at, .int v_begin, .int v_token, .int v_told, .ref a_read, .ref a_hill, .ref a_now, .ref a_undone, .int v_undos, .ref a_need, .int v_cames, .ref a_cameOf, .ref a_places, .ref a_firstRow, .int v_each, .long v_trace, .ref a_kept])), (a_hill, .inl (cyI, 46, .inl v_hill))]) 0 0 (va_A [(a, .inr (7, [.ref a_text, .int v_size, .int v_at, .int v_begin, .int v_token, .int v_told, .ref a_read, .ref a_hill, .ref a_now, .ref a_undone, .int v_undos, .ref a_need, .int v_cames, .ref a_cameOf, .ref a_places, .ref a_firstRow, .int v_each, .long v_trace, .ref a_kept])), (a_hill, .inl (cyI, 46, .inl v_hill))] sz) := by
  refine gMet (cc := cX7_count) (maxL := 2) (ret := (some .int)) (own := RX7) (fun A => gQi0 Q (dC, dI) A [(a, .inr (7, [.ref a_text, .int v_size, .int v_at, .int v_begin, .int v_token, .int v_told, .ref a_read, .ref a_hill, .ref a_now, .ref a_undone, .int v_undos, .ref a_need, .int v_cames, .ref a_cameOf, .ref a_places, .ref a_firstRow, .int v_each, .long v_trace, .ref a_kept])), (a_hill, .inl (cyI, 46, .inl v_hill))]) (by decide) rfl rfl (Nat.le_of_ble_eq_true rfl) ?_
  intro p e s m below meth c A ls C0 _ hK hN hP hD hA hl
  obtain ⟨hx, hb, hr, hml, hown, hts, hlocks⟩ := id C0
  have f116 := hts (.fieldLink RX7 116 "LastOchreModel" "cames" "I") (by decide +kernel)
  have f119 := hts (.fieldLink RX7 119 "LastOchreModel" "undos" "I") (by decide +kernel)
  have f16 := hts (.fieldLink RX7 16 "LastOchreModel" "hill" "[I") (by decide +kernel)
  have f52 := hts (.fieldLink RX7 52 "LastOchreModel" "size" "I") (by decide +kernel)
  have hS : va_S A s.heap s.heap [] := va_S.rf
  replace hl : lv_has ls 2 [(0, .ref a), (1, .int p0)] := hl
  unfold q_X7_count at h
  unfold F_X7_count_e at h
  refine lv_iload_n hx hb dX7_count_0 rfl (lv_at hl 1 rfl) ?_
  refine (Classical.em (p0 = (0 : Int32))).elim (fun c_1 => ?_) (fun c_1 => ?_)
  · replace h := h.1 c_1
    refine lv_tableIn (off := 47) (tgt := 48) hx hb dX7_count_1 (by rw [c_1]; decide) (by rw [c_1]; decide) (by rw [c_1]; rfl) (by decide) ?_
    refine lv_aload_n hx hb dX7_count_48 rfl (lv_at hl 0 rfl) ?_
    refine va_get (D := (dC, dI)) (ci := 7) (v := .ref a_hill) (C := RX7) (T := TX7) (N := 19) hx hb hts iwX7_count_X7 hown hK hP 0 rfl rfl 7 (by decide) f16 (fun _ h9 => h9) rfl dX7_count_49 ?_
    refine lv_iload_n hx hb dX7_count_52 rfl (lv_at hl 1 rfl) ?_
    have g_2 := h.1
    replace h := h.2
    refine va_iald hx hb hK hP 1 0 rfl rfl g_2 dX7_count_53 ?_
    exact gri0 hx hb hr hlocks h hP hD hS dX7_count_54
  refine (Classical.em (p0 = (1 : Int32))).elim (fun c_3 => ?_) (fun c_3 => ?_)
  · replace h := h.2.1 c_3
    refine lv_tableIn (off := 47) (tgt := 48) hx hb dX7_count_1 (by rw [c_3]; decide) (by rw [c_3]; decide) (by rw [c_3]; rfl) (by decide) ?_
    refine lv_aload_n hx hb dX7_count_48 rfl (lv_at hl 0 rfl) ?_
    refine va_get (D := (dC, dI)) (ci := 7) (v := .ref a_hill) (C := RX7) (T := TX7) (N := 19) hx hb hts iwX7_count_X7 hown hK hP 0 rfl rfl 7 (by decide) f16 (fun _ h9 => h9) rfl dX7_count_49 ?_
    refine lv_iload_n hx hb dX7_count_52 rfl (lv_at hl 1 rfl) ?_
    have g_4 := h.1
    replace h := h.2
    refine va_iald hx hb hK hP 1 0 rfl rfl g_4 dX7_count_53 ?_
    exact gri0 hx hb hr hlocks h hP hD hS dX7_count_54
  refine (Classical.em (p0 = (2 : Int32))).elim (fun c_5 => ?_) (fun c_5 => ?_)
  · replace h := h.2.2.1 c_5
    refine lv_tableIn (off := 47) (tgt := 48) hx hb dX7_count_1 (by rw [c_5]; decide) (by rw [c_5]; decide) (by rw [c_5]; rfl) (by decide) ?_
    refine lv_aload_n hx hb dX7_count_48 rfl (lv_at hl 0 rfl) ?_
    refine va_get (D := (dC, dI)) (ci := 7) (v := .ref a_hill) (C := RX7) (T := TX7) (N := 19) hx hb hts iwX7_count_X7 hown hK hP 0 rfl rfl 7 (by decide) f16 (fun _ h9 => h9) rfl dX7_count_49 ?_
    refine lv_iload_n hx hb dX7_count_52 rfl (lv_at hl 1 rfl) ?_
    have g_6 := h.1
    replace h := h.2
    refine va_iald hx hb hK hP 1 0 rfl rfl g_6 dX7_count_53 ?_
    exact gri0 hx hb hr hlocks h hP hD hS dX7_count_54
  refine (Classical.em (p0 = (3 : Int32))).elim (fun c_7 => ?_) (fun c_7 => ?_)
  · replace h := h.2.2.2.1 c_7
    refine lv_tableIn (off := 47) (tgt := 48) hx hb dX7_count_1 (by rw [c_7]; decide) (by rw [c_7]; decide) (by rw [c_7]; rfl) (by decide) ?_
    refine lv_aload_n hx hb dX7_count_48 rfl (lv_at hl 0 rfl) ?_
    refine va_get (D := (dC, dI)) (ci := 7) (v := .ref a_hill) (C := RX7) (T := TX7) (N := 19) hx hb hts iwX7_count_X7 hown hK hP 0 rfl rfl 7 (by decide) f16 (fun _ h9 => h9) rfl dX7_count_49 ?_
    refine lv_iload_n hx hb dX7_count_52 rfl (lv_at hl 1 rfl) ?_
    have g_8 := h.1
    replace h := h.2
    refine va_iald hx hb hK hP 1 0 rfl rfl g_8 dX7_count_53 ?_
    exact gri0 hx hb hr hlocks h hP hD hS dX7_count_54
  refine (Classical.em (p0 = (4 : Int32))).elim (fun c_9 => ?_) (fun c_9 => ?_)
  · replace h := h.2.2.2.2.1 c_9
    refine lv_tableIn (off := 47) (tgt := 48) hx hb dX7_count_1 (by rw [c_9]; decide) (by rw [c_9]; decide) (by rw [c_9]; rfl) (by decide) ?_
    refine lv_aload_n hx hb dX7_count_48 rfl (lv_at hl 0 rfl) ?_
    refine va_get (D := (dC, dI)) (ci := 7) (v := .ref a_hill) (C := RX7) (T := TX7) (N := 19) hx hb hts iwX7_count_X7 hown hK hP 0 rfl rfl 7 (by decide) f16 (fun _ h9 => h9) rfl dX7_count_49 ?_
    refine lv_iload_n hx hb dX7_count_52 rfl (lv_at hl 1 rfl) ?_
    have g_10 := h.1
    replace h := h.2
    refine va_iald hx hb hK hP 1 0 rfl rfl g_10 dX7_count_53 ?_
    exact gri0 hx hb hr hlocks h hP hD hS dX7_count_54
  refine (Classical.em (p0 = (5 : Int32))).elim (fun c_11 => ?_) (fun c_11 => ?_)
  · replace h := h.2.2.2.2.2.1 c_11
    refine lv_tableIn (off := 54) (tgt := 55) hx hb dX7_count_1 (by rw [c_11]; decide) (by rw [c_11]; decide) (by rw [c_11]; rfl) (by decide) ?_
    refine lv_aload_n hx hb dX7_count_55 rfl (lv_at hl 0 rfl) ?_
    refine va_get (D := (dC, dI)) (ci := 7) (v := .int v_cames) (C := RX7) (T := TX7) (N := 19) hx hb hts iwX7_count_X7 hown hK hP 0 rfl rfl 12 (by decide) f116 (fun _ h9 => h9) rfl dX7_count_56 ?_
    exact gri0 hx hb hr hlocks h hP hD hS dX7_count_59
  refine (Classical.em (p0 = (6 : Int32))).elim (fun c_12 => ?_) (fun c_12 => ?_)
  · replace h := h.2.2.2.2.2.2.1 c_12
    refine lv_tableIn (off := 59) (tgt := 60) hx hb dX7_count_1 (by rw [c_12]; decide) (by rw [c_12]; decide) (by rw [c_12]; rfl) (by decide) ?_
    refine lv_aload_n hx hb dX7_count_60 rfl (lv_at hl 0 rfl) ?_
    refine va_get (D := (dC, dI)) (ci := 7) (v := .int v_undos) (C := RX7) (T := TX7) (N := 19) hx hb hts iwX7_count_X7 hown hK hP 0 rfl rfl 10 (by decide) f119 (fun _ h9 => h9) rfl dX7_count_61 ?_
    exact gri0 hx hb hr hlocks h hP hD hS dX7_count_64
  refine (Classical.em (p0 = (7 : Int32))).elim (fun c_13 => ?_) (fun c_13 => ?_)
  · replace h := h.2.2.2.2.2.2.2.1 c_13
    refine lv_tableIn (off := 64) (tgt := 65) hx hb dX7_count_1 (by rw [c_13]; decide) (by rw [c_13]; decide) (by rw [c_13]; rfl) (by decide) ?_
    refine lv_aload_n hx hb dX7_count_65 rfl (lv_at hl 0 rfl) ?_
    refine va_get (D := (dC, dI)) (ci := 7) (v := .int v_size) (C := RX7) (T := TX7) (N := 19) hx hb hts iwX7_count_X7 hown hK hP 0 rfl rfl 1 (by decide) f52 (fun _ h9 => h9) rfl dX7_count_66 ?_
    exact gri0 hx hb hr hlocks h hP hD hS dX7_count_69
  replace h := h.2.2.2.2.2.2.2.2 ⟨c_1, c_3, c_5, c_7, c_9, c_11, c_12, c_13⟩
  have t_14 := sw_ne (a := 0) c_1 (by decide)
  have t_15 := sw_ne (a := 1) c_3 (by decide)
  have t_16 := sw_ne (a := 2) c_5 (by decide)
  have t_17 := sw_ne (a := 3) c_7 (by decide)
  have t_18 := sw_ne (a := 4) c_9 (by decide)
  have t_19 := sw_ne (a := 5) c_11 (by decide)
  have t_20 := sw_ne (a := 6) c_12 (by decide)
  have t_21 := sw_ne (a := 7) c_13 (by decide)
  refine lv_tableOut (tgt := 70) hx hb dX7_count_1 (by omega) (by decide) ?_
  refine lv_iconst (v := -1) hx hb dX7_count_70 (by decide) ?_
  exact gri0 hx hb hr hlocks h hP hD hS dX7_count_71

def F_X6_within_e (p0 : Int32) (p1 : Int32) (p2 : Int32) (Q : Int32 → Prop)  : Prop :=
  (p0 < p1 → (Q (0 : Int32))) ∧ (¬ p0 < p1 → ((p2 < p0 → (Q (0 : Int32))) ∧ (¬ p2 < p0 → (Q (1 : Int32)))))
def q_X6_within (p0 : Int32) (p1 : Int32) (p2 : Int32) (Q : Int32 → Prop) : Prop := F_X6_within_e p0 p1 p2 Q 
theorem hdS_X6_within : yX6_within.cls ≠ "java/lang/invoke/MethodHandle" ∧ yX6_within.cls ≠ "java/lang/invoke/VarHandle" ∧ (parseMethodDescriptor yX6_within.desc).map (fun d => d.parameters.length) = some 3 := by decide +kernel
set_option maxHeartbeats 4000000 in
set_option maxRecDepth 100000 in
theorem c_X6_within (l : Launch) (dC : Nat → ClassId) (dI : Nat → Nat → Nat) (cyC cyI cyZ : ClassId) (sz : Nat) (p0 : Int32) (p1 : Int32) (p2 : Int32) {Q : Int32 → Prop} (h : q_X6_within p0 p1 p2 Q) : Met l yX6_within wsX6_within ({ frames := 0, cells := 0, slots := 0, locals := 0 }) (gPc [.int p0, .int p1, .int p2] (dC, dI) (gTy cyC cyI cyZ) sz []) (gQi0 Q (dC, dI) (va_A [] sz) []) 0 0 (va_A [] sz) := by
  refine gMet (cc := cX6_within) (maxL := 3) (ret := (some .boolean)) (own := RX6) (fun A => gQi0 Q (dC, dI) A []) (by decide) rfl rfl (Nat.le_of_ble_eq_true rfl) ?_
  intro p e s m below meth c A ls C0 _ hK hN hP hD hA hl
  obtain ⟨hx, hb, hr, hml, hown, hts, hlocks⟩ := id C0
  have hS : va_S A s.heap s.heap [] := va_S.rf
  replace hl : lv_has ls 3 [(0, .int p0), (1, .int p1), (2, .int p2)] := hl
  unfold q_X6_within at h
  unfold F_X6_within_e at h
  refine lv_iload_n hx hb dX6_within_0 rfl (lv_at hl 0 rfl) ?_
  refine lv_iload_n hx hb dX6_within_1 rfl (lv_at hl 1 rfl) ?_
  refine lv_icmp_lt (tgt := 14) hx hb dX6_within_2 (by decide) (fun c_1 => ?_) (fun c_1 => ?_)
  · replace h := h.1 c_1
    refine lv_iconst (v := 0) hx hb dX6_within_14 (by decide) ?_
    exact grz0 hx hb hr hlocks rfl h hP hD hS dX6_within_15
  · replace h := h.2 c_1
    refine lv_iload_n hx hb dX6_within_5 rfl (lv_at hl 0 rfl) ?_
    refine lv_iload_n hx hb dX6_within_6 rfl (lv_at hl 2 rfl) ?_
    refine lv_icmp_gt (tgt := 14) hx hb dX6_within_7 (by decide) (fun c_2 => ?_) (fun c_2 => ?_)
    · replace h := h.1 c_2
      refine lv_iconst (v := 0) hx hb dX6_within_14 (by decide) ?_
      exact grz0 hx hb hr hlocks rfl h hP hD hS dX6_within_15
    · replace h := h.2 c_2
      refine lv_iconst (v := 1) hx hb dX6_within_10 (by decide) ?_
      refine lv_goto (tgt := 15) hx hb dX6_within_11 (by decide) ?_
      exact grz0 hx hb hr hlocks rfl h hP hD hS dX6_within_15

def F_X2_yellow_e (v_rows : Nat → Int32) (p0 : Int32) (Q : Int32 → Prop)  : Prop :=
  vp_in ((3 : Int32) + p0) 165 ∧ (Q (v_rows (((3 : Int32) + p0)).toNatClampNeg))
def q_X2_yellow (v_rows : Nat → Int32) (p0 : Int32) (Q : Int32 → Prop) : Prop := F_X2_yellow_e v_rows p0 Q 
theorem iwX2_yellow_X2 : ∀ w ∈ wsX20, w ∈ wsX2_yellow := by decide +kernel
theorem hdV_X2_yellow : yX2_yellow.cls = RX2 ∧ yX2_yellow.cls ≠ "java/lang/invoke/MethodHandle" ∧ yX2_yellow.cls ≠ "java/lang/invoke/VarHandle" ∧ (parseMethodDescriptor yX2_yellow.desc).map (fun d => d.parameters.length) = some 1 := by decide +kernel
set_option maxHeartbeats 4000000 in
set_option maxRecDepth 100000 in
theorem c_X2_yellow (l : Launch) (dC : Nat → ClassId) (dI : Nat → Nat → Nat) (cyC cyI cyZ : ClassId) (sz : Nat) (a a_rows : Nat) (v_known : Int32) (v_rows : Nat → Int32) (p0 : Int32) {Q : Int32 → Prop} (h : q_X2_yellow v_rows p0 Q) : Met l yX2_yellow wsX2_yellow ({ frames := 0, cells := 0, slots := 0, locals := 0 }) (gPc [.ref a, .int p0] (dC, dI) (gTy cyC cyI cyZ) sz [(a, .inr (2, [.ref a_rows, .int v_known])), (a_rows, .inl (cyI, 165, .inl v_rows))]) (gQi0 Q (dC, dI) (va_A [(a, .inr (2, [.ref a_rows, .int v_known])), (a_rows, .inl (cyI, 165, .inl v_rows))] sz) [(a, .inr (2, [.ref a_rows, .int v_known])), (a_rows, .inl (cyI, 165, .inl v_rows))]) 0 0 (va_A [(a, .inr (2, [.ref a_rows, .int v_known])), (a_rows, .inl (cyI, 165, .inl v_rows))] sz) := by
  refine gMet (cc := cX2_yellow) (maxL := 2) (ret := (some .int)) (own := RX2) (fun A => gQi0 Q (dC, dI) A [(a, .inr (2, [.ref a_rows, .int v_known])), (a_rows, .inl (cyI, 165, .inl v_rows))]) (by decide) rfl rfl (Nat.le_of_ble_eq_true rfl) ?_
  intro p e s m below meth c A ls C0 _ hK hN hP hD hA hl
  obtain ⟨hx, hb, hr, hml, hown, hts, hlocks⟩ := id C0
  have f11 := hts (.fieldLink RX2 11 "LastOchre$Course" "rows" "[I") (by decide +kernel)
  have hS : va_S A s.heap s.heap [] := va_S.rf
  replace hl : lv_has ls 2 [(0, .ref a), (1, .int p0)] := hl
  unfold q_X2_yellow at h
  unfold F_X2_yellow_e at h
  refine lv_aload_n hx hb dX2_yellow_0 rfl (lv_at hl 0 rfl) ?_
  refine va_get (D := (dC, dI)) (ci := 2) (v := .ref a_rows) (C := RX2) (T := TX2) (N := 2) hx hb hts iwX2_yellow_X2 hown hK hP 0 rfl rfl 0 (by decide) f11 (fun _ h9 => h9) rfl dX2_yellow_1 ?_
  refine lv_iconst (v := 3) hx hb dX2_yellow_4 (by decide) ?_
  refine lv_iload_n hx hb dX2_yellow_5 rfl (lv_at hl 1 rfl) ?_
  refine lv_iadd hx hb dX2_yellow_6 ?_
  have g_1 := h.1
  replace h := h.2
  refine va_iald hx hb hK hP 1 0 rfl rfl g_1 dX2_yellow_7 ?_
  exact gri0 hx hb hr hlocks h hP hD hS dX2_yellow_8

def F_X2_white_e (v_rows : Nat → Int32) (p0 : Int32) (Q : Int32 → Prop)  : Prop :=
  vp_in ((9 : Int32) + p0) 165 ∧ (Q (v_rows (((9 : Int32) + p0)).toNatClampNeg))
def q_X2_white (v_rows : Nat → Int32) (p0 : Int32) (Q : Int32 → Prop) : Prop := F_X2_white_e v_rows p0 Q 
theorem iwX2_white_X2 : ∀ w ∈ wsX20, w ∈ wsX2_white := by decide +kernel
theorem hdV_X2_white : yX2_white.cls = RX2 ∧ yX2_white.cls ≠ "java/lang/invoke/MethodHandle" ∧ yX2_white.cls ≠ "java/lang/invoke/VarHandle" ∧ (parseMethodDescriptor yX2_white.desc).map (fun d => d.parameters.length) = some 1 := by decide +kernel
set_option maxHeartbeats 4000000 in
set_option maxRecDepth 100000 in
theorem c_X2_white (l : Launch) (dC : Nat → ClassId) (dI : Nat → Nat → Nat) (cyC cyI cyZ : ClassId) (sz : Nat) (a a_rows : Nat) (v_known : Int32) (v_rows : Nat → Int32) (p0 : Int32) {Q : Int32 → Prop} (h : q_X2_white v_rows p0 Q) : Met l yX2_white wsX2_white ({ frames := 0, cells := 0, slots := 0, locals := 0 }) (gPc [.ref a, .int p0] (dC, dI) (gTy cyC cyI cyZ) sz [(a, .inr (2, [.ref a_rows, .int v_known])), (a_rows, .inl (cyI, 165, .inl v_rows))]) (gQi0 Q (dC, dI) (va_A [(a, .inr (2, [.ref a_rows, .int v_known])), (a_rows, .inl (cyI, 165, .inl v_rows))] sz) [(a, .inr (2, [.ref a_rows, .int v_known])), (a_rows, .inl (cyI, 165, .inl v_rows))]) 0 0 (va_A [(a, .inr (2, [.ref a_rows, .int v_known])), (a_rows, .inl (cyI, 165, .inl v_rows))] sz) := by
  refine gMet (cc := cX2_white) (maxL := 2) (ret := (some .int)) (own := RX2) (fun A => gQi0 Q (dC, dI) A [(a, .inr (2, [.ref a_rows, .int v_known])), (a_rows, .inl (cyI, 165, .inl v_rows))]) (by decide) rfl rfl (Nat.le_of_ble_eq_true rfl) ?_
  intro p e s m below meth c A ls C0 _ hK hN hP hD hA hl
  obtain ⟨hx, hb, hr, hml, hown, hts, hlocks⟩ := id C0
  have f11 := hts (.fieldLink RX2 11 "LastOchre$Course" "rows" "[I") (by decide +kernel)
  have hS : va_S A s.heap s.heap [] := va_S.rf
  replace hl : lv_has ls 2 [(0, .ref a), (1, .int p0)] := hl
  unfold q_X2_white at h
  unfold F_X2_white_e at h
  refine lv_aload_n hx hb dX2_white_0 rfl (lv_at hl 0 rfl) ?_
  refine va_get (D := (dC, dI)) (ci := 2) (v := .ref a_rows) (C := RX2) (T := TX2) (N := 2) hx hb hts iwX2_white_X2 hown hK hP 0 rfl rfl 0 (by decide) f11 (fun _ h9 => h9) rfl dX2_white_1 ?_
  refine lv_bipush (v := 9) hx hb dX2_white_4 (by decide) ?_
  refine lv_iload_n hx hb dX2_white_6 rfl (lv_at hl 1 rfl) ?_
  refine lv_iadd hx hb dX2_white_7 ?_
  have g_1 := h.1
  replace h := h.2
  refine va_iald hx hb hK hP 1 0 rfl rfl g_1 dX2_white_8 ?_
  exact gri0 hx hb hr hlocks h hP hD hS dX2_white_9

def F_X6_calledWith_e (v_told_bound : Int32) (p0 : Int32) (p1 : Int32) (Q : Int32 → Prop)  : Prop :=
  (p0 ≤ 0 → (Q (0 : Int32))) ∧ (¬ p0 ≤ 0 → ((((10 : Int32) * p0) < (v_told_bound * (p0 + p1)) → (Q (0 : Int32))) ∧ (¬ ((10 : Int32) * p0) < (v_told_bound * (p0 + p1)) → (Q (1 : Int32)))))
def q_X6_calledWith (v_told_bound : Int32) (p0 : Int32) (p1 : Int32) (Q : Int32 → Prop) : Prop := F_X6_calledWith_e v_told_bound p0 p1 Q 
theorem iwX6_calledWith_X5 : ∀ w ∈ wsX50, w ∈ wsX6_calledWith := by decide +kernel
theorem iwX6_calledWith_X6 : ∀ w ∈ wsX60, w ∈ wsX6_calledWith := by decide +kernel
theorem hdV_X6_calledWith : yX6_calledWith.cls = RX6 ∧ yX6_calledWith.cls ≠ "java/lang/invoke/MethodHandle" ∧ yX6_calledWith.cls ≠ "java/lang/invoke/VarHandle" ∧ (parseMethodDescriptor yX6_calledWith.desc).map (fun d => d.parameters.length) = some 2 := by decide +kernel
set_option maxHeartbeats 4000000 in
set_option maxRecDepth 100000 in
theorem c_X6_calledWith (l : Launch) (dC : Nat → ClassId) (dI : Nat → Nat → Nat) (cyC cyI cyZ : ClassId) (sz : Nat) (a a_reader a_told a_draft a_course a_firstImage a_secondImage a_imageKept a_bestDigs a_heard a_told_seam a_told_yellow a_told_white a_told_fades a_told_worth : Nat) (v_traced : Int64) (v_told_seamTold : Int32) (v_told_boundTold : Int32) (v_told_lossTold : Int32) (v_told_bound : Int32) (v_told_loss : Int32) (v_told_things : Int32) (p0 : Int32) (p1 : Int32) {Q : Int32 → Prop} (h : q_X6_calledWith v_told_bound p0 p1 Q) : Met l yX6_calledWith wsX6_calledWith ({ frames := 0, cells := 0, slots := 0, locals := 0 }) (gPc [.ref a, .int p0, .int p1] (dC, dI) (gTy cyC cyI cyZ) sz [(a, .inr (6, [.ref a_reader, .ref a_told, .ref a_draft, .ref a_course, .ref a_firstImage, .ref a_secondImage, .ref a_imageKept, .ref a_bestDigs, .ref a_heard, .long v_traced])), (a_told, .inr (5, [.ref a_told_seam, .int v_told_seamTold, .int v_told_boundTold, .int v_told_lossTold, .int v_told_bound, .int v_told_loss, .int v_told_things, .ref a_told_yellow, .ref a_told_white, .ref a_told_fades, .ref a_told_worth]))]) (gQi0 Q (dC, dI) (va_A [(a, .inr (6, [.ref a_reader, .ref a_told, .ref a_draft, .ref a_course, .ref a_firstImage, .ref a_secondImage, .ref a_imageKept, .ref a_bestDigs, .ref a_heard, .long v_traced])), (a_told, .inr (5, [.ref a_told_seam, .int v_told_seamTold, .int v_told_boundTold, .int v_told_lossTold, .int v_told_bound, .int v_told_loss, .int v_told_things, .ref a_told_yellow, .ref a_told_white, .ref a_told_fades, .ref a_told_worth]))] sz) [(a, .inr (6, [.ref a_reader, .ref a_told, .ref a_draft, .ref a_course, .ref a_firstImage, .ref a_secondImage, .ref a_imageKept, .ref a_bestDigs, .ref a_heard, .long v_traced])), (a_told, .inr (5, [.ref a_told_seam, .int v_told_seamTold, .int v_told_boundTold, .int v_told_lossTold, .int v_told_bound, .int v_told_loss, .int v_told_things, .ref a_told_yellow, .ref a_told_white, .ref a_told_fades, .ref a_told_worth]))]) 0 0 (va_A [(a, .inr (6, [.ref a_reader, .ref a_told, .ref a_draft, .ref a_course, .ref a_firstImage, .ref a_secondImage, .ref a_imageKept, .ref a_bestDigs, .ref a_heard, .long v_traced])), (a_told, .inr (5, [.ref a_told_seam, .int v_told_seamTold, .int v_told_boundTold, .int v_told_lossTold, .int v_told_bound, .int v_told_loss, .int v_told_things, .ref a_told_yellow, .ref a_told_white, .ref a_told_fades, .ref a_told_worth]))] sz) := by
  refine gMet (cc := cX6_calledWith) (maxL := 3) (ret := (some .boolean)) (own := RX6) (fun A => gQi0 Q (dC, dI) A [(a, .inr (6, [.ref a_reader, .ref a_told, .ref a_draft, .ref a_course, .ref a_firstImage, .ref a_secondImage, .ref a_imageKept, .ref a_bestDigs, .ref a_heard, .long v_traced])), (a_told, .inr (5, [.ref a_told_seam, .int v_told_seamTold, .int v_told_boundTold, .int v_told_lossTold, .int v_told_bound, .int v_told_loss, .int v_told_things, .ref a_told_yellow, .ref a_told_white, .ref a_told_fades, .ref a_told_worth]))]) (by decide) rfl rfl (Nat.le_of_ble_eq_true rfl) ?_
  intro p e s m below meth c A ls C0 _ hK hN hP hD hA hl
  obtain ⟨hx, hb, hr, hml, hown, hts, hlocks⟩ := id C0
  have f19 := hts (.fieldLink RX6 19 "LastOchre" "told" "LLastOchre$Told;") (by decide +kernel)
  have f216 := hN.link (args := _) (w := .fieldLinkNest RX6 216 "LastOchre$Told" "bound" "I" "LastOchre") 14 rfl
  have hS : va_S A s.heap s.heap [] := va_S.rf
  replace hl : lv_has ls 3 [(0, .ref a), (1, .int p0), (2, .int p1)] := hl
  unfold q_X6_calledWith at h
  unfold F_X6_calledWith_e at h
  refine lv_iload_n hx hb dX6_calledWith_0 rfl (lv_at hl 1 rfl) ?_
  refine lv_if_le (tgt := 26) hx hb dX6_calledWith_1 (by decide) (fun c_1 => ?_) (fun c_1 => ?_)
  · replace h := h.1 c_1
    refine lv_iconst (v := 0) hx hb dX6_calledWith_26 (by decide) ?_
    exact grz0 hx hb hr hlocks rfl h hP hD hS dX6_calledWith_27
  · replace h := h.2 c_1
    refine lv_bipush (v := 10) hx hb dX6_calledWith_4 (by decide) ?_
    refine lv_iload_n hx hb dX6_calledWith_6 rfl (lv_at hl 1 rfl) ?_
    refine lv_imul hx hb dX6_calledWith_7 ?_
    refine lv_aload_n hx hb dX6_calledWith_8 rfl (lv_at hl 0 rfl) ?_
    refine va_get (D := (dC, dI)) (ci := 6) (v := .ref a_told) (C := RX6) (T := TX6) (N := 10) hx hb hts iwX6_calledWith_X6 hown hK hP 0 rfl rfl 1 (by decide) f19 (fun _ h9 => h9) rfl dX6_calledWith_9 ?_
    refine va_getN (host := "LastOchre") (D := (dC, dI)) (ci := 5) (v := .int v_told_bound) (C := RX5) (T := TX5) (N := 11) hx hb hts iwX6_calledWith_X5 hown hK hP 1 rfl rfl 4 (by decide) f216 (fun _ h9 => h9) rfl dX6_calledWith_12 ?_
    refine lv_iload_n hx hb dX6_calledWith_15 rfl (lv_at hl 1 rfl) ?_
    refine lv_iload_n hx hb dX6_calledWith_16 rfl (lv_at hl 2 rfl) ?_
    refine lv_iadd hx hb dX6_calledWith_17 ?_
    refine lv_imul hx hb dX6_calledWith_18 ?_
    refine lv_icmp_lt (tgt := 26) hx hb dX6_calledWith_19 (by decide) (fun c_2 => ?_) (fun c_2 => ?_)
    · replace h := h.1 c_2
      refine lv_iconst (v := 0) hx hb dX6_calledWith_26 (by decide) ?_
      exact grz0 hx hb hr hlocks rfl h hP hD hS dX6_calledWith_27
    · replace h := h.2 c_2
      refine lv_iconst (v := 1) hx hb dX6_calledWith_22 (by decide) ?_
      refine lv_goto (tgt := 27) hx hb dX6_calledWith_23 (by decide) ?_
      exact grz0 hx hb hr hlocks rfl h hP hD hS dX6_calledWith_27

def F_X6_yellowAfter_e (v_course_rows : Nat → Int32) (v_told_fades : Nat → Int32) (p0 : Int32) (p1 : Int32) (Q : Int32 → Prop)  : Prop :=
  q_X2_yellow v_course_rows p0 (fun (r_1 : Int32) => vp_in p0 6 ∧ (Q (if (0 : Int32) < (r_1 - (p1 * (v_told_fades (p0).toNatClampNeg))) then (r_1 - (p1 * (v_told_fades (p0).toNatClampNeg))) else (0 : Int32))))
def q_X6_yellowAfter (v_course_rows : Nat → Int32) (v_told_fades : Nat → Int32) (p0 : Int32) (p1 : Int32) (Q : Int32 → Prop) : Prop := F_X6_yellowAfter_e v_course_rows v_told_fades p0 p1 Q 
theorem iwX6_yellowAfter_X5 : ∀ w ∈ wsX50, w ∈ wsX6_yellowAfter := by decide +kernel
theorem iwX6_yellowAfter_X6 : ∀ w ∈ wsX60, w ∈ wsX6_yellowAfter := by decide +kernel
theorem hdV_X6_yellowAfter : yX6_yellowAfter.cls = RX6 ∧ yX6_yellowAfter.cls ≠ "java/lang/invoke/MethodHandle" ∧ yX6_yellowAfter.cls ≠ "java/lang/invoke/VarHandle" ∧ (parseMethodDescriptor yX6_yellowAfter.desc).map (fun d => d.parameters.length) = some 2 := by decide +kernel
set_option maxHeartbeats 4000000 in
set_option maxRecDepth 100000 in
theorem c_X6_yellowAfter (l : Launch) (dC : Nat → ClassId) (dI : Nat → Nat → Nat) (cyC cyI cyZ : ClassId) (sz : Nat) (a a_reader a_told a_draft a_course a_firstImage a_secondImage a_imageKept a_bestDigs a_heard a_course_rows a_told_seam a_told_yellow a_told_white a_told_fades a_told_worth : Nat) (v_traced : Int64) (v_course_known : Int32) (v_course_rows : Nat → Int32) (v_told_seamTold : Int32) (v_told_boundTold : Int32) (v_told_lossTold : Int32) (v_told_bound : Int32) (v_told_loss : Int32) (v_told_things : Int32) (v_told_fades : Nat → Int32) (p0 : Int32) (p1 : Int32) {Q : Int32 → Prop} (h : q_X6_yellowAfter v_course_rows v_told_fades p0 p1 Q) : Met l yX6_yellowAfter wsX6_yellowAfter ({ frames := 1, cells := 0, slots := 0, locals := 30 }) (gPc [.ref a, .int p0, .int p1] (dC, dI) (gTy cyC cyI cyZ) sz [(a, .inr (6, [.ref a_reader, .ref a_told, .ref a_draft, .ref a_course, .ref a_firstImage, .ref a_secondImage, .ref a_imageKept, .ref a_bestDigs, .ref a_heard, .long v_traced])), (a_course, .inr (2, [.ref a_course_rows, .int v_course_known])), (a_course_rows, .inl (cyI, 165, .inl v_course_rows)), (a_told, .inr (5, [.ref a_told_seam, .int v_told_seamTold, .int v_told_boundTold, .int v_told_lossTold, .int v_told_bound, .int v_told_loss, .int v_told_things, .ref a_told_yellow, .ref a_told_white, .ref a_told_fades, .ref a_told_worth])), (a_told_fades, .inl (cyI, 6, .inl v_told_fades))]) (gQi0 Q (dC, dI) (va_A [(a, .inr (6, [.ref a_reader, .ref a_told, .ref a_draft, .ref a_course, .ref a_firstImage, .ref a_secondImage, .ref a_imageKept, .ref a_bestDigs, .ref a_heard, .long v_traced])), (a_course, .inr (2, [.ref a_course_rows, .int v_course_known])), (a_course_rows, .inl (cyI, 165, .inl v_course_rows)), (a_told, .inr (5, [.ref a_told_seam, .int v_told_seamTold, .int v_told_boundTold, .int v_told_lossTold, .int v_told_bound, .int v_told_loss, .int v_told_things, .ref a_told_yellow, .ref a_told_white, .ref a_told_fades, .ref a_told_worth])), (a_told_fades, .inl (cyI, 6, .inl v_told_fades))] sz) [(a, .inr (6, [.ref a_reader, .ref a_told, .ref a_draft, .ref a_course, .ref a_firstImage, .ref a_secondImage, .ref a_imageKept, .ref a_bestDigs, .ref a_heard, .long v_traced])), (a_course, .inr (2, [.ref a_course_rows, .int v_course_known])), (a_course_rows, .inl (cyI, 165, .inl v_course_rows)), (a_told, .inr (5, [.ref a_told_seam, .int v_told_seamTold, .int v_told_boundTold, .int v_told_lossTold, .int v_told_bound, .int v_told_loss, .int v_told_things, .ref a_told_yellow, .ref a_told_white, .ref a_told_fades, .ref a_told_worth])), (a_told_fades, .inl (cyI, 6, .inl v_told_fades))]) 0 0 (va_A [(a, .inr (6, [.ref a_reader, .ref a_told, .ref a_draft, .ref a_course, .ref a_firstImage, .ref a_secondImage, .ref a_imageKept, .ref a_bestDigs, .ref a_heard, .long v_traced])), (a_course, .inr (2, [.ref a_course_rows, .int v_course_known])), (a_course_rows, .inl (cyI, 165, .inl v_course_rows)), (a_told, .inr (5, [.ref a_told_seam, .int v_told_seamTold, .int v_told_boundTold, .int v_told_lossTold, .int v_told_bound, .int v_told_loss, .int v_told_things, .ref a_told_yellow, .ref a_told_white, .ref a_told_fades, .ref a_told_worth])), (a_told_fades, .inl (cyI, 6, .inl v_told_fades))] sz) := by
  refine gMet (cc := cX6_yellowAfter) (maxL := 3) (ret := (some .int)) (own := RX6) (fun A => gQi0 Q (dC, dI) A [(a, .inr (6, [.ref a_reader, .ref a_told, .ref a_draft, .ref a_course, .ref a_firstImage, .ref a_secondImage, .ref a_imageKept, .ref a_bestDigs, .ref a_heard, .long v_traced])), (a_course, .inr (2, [.ref a_course_rows, .int v_course_known])), (a_course_rows, .inl (cyI, 165, .inl v_course_rows)), (a_told, .inr (5, [.ref a_told_seam, .int v_told_seamTold, .int v_told_boundTold, .int v_told_lossTold, .int v_told_bound, .int v_told_loss, .int v_told_things, .ref a_told_yellow, .ref a_told_white, .ref a_told_fades, .ref a_told_worth])), (a_told_fades, .inl (cyI, 6, .inl v_told_fades))]) (by decide) rfl rfl (Nat.le_of_ble_eq_true rfl) ?_
  intro p e s m below meth c A ls C0 _ hK hN hP hD hA hl
  obtain ⟨hx, hb, hr, hml, hown, hts, hlocks⟩ := id C0
  have f123 := hN.link (args := _) (w := .fieldLinkNest RX6 123 "LastOchre$Told" "fades" "[I" "LastOchre") 25 rfl
  have f19 := hts (.fieldLink RX6 19 "LastOchre" "told" "LLastOchre$Told;") (by decide +kernel)
  have f29 := hts (.fieldLink RX6 29 "LastOchre" "course" "LLastOchre$Course;") (by decide +kernel)
  have hS : va_S A s.heap s.heap [] := va_S.rf
  replace hl : lv_has ls 3 [(0, .ref a), (1, .int p0), (2, .int p1)] := hl
  unfold q_X6_yellowAfter at h
  unfold F_X6_yellowAfter_e at h
  refine lv_iconst (v := 0) hx hb dX6_yellowAfter_0 (by decide) ?_
  refine lv_aload_n hx hb dX6_yellowAfter_1 rfl (lv_at hl 0 rfl) ?_
  refine va_get (D := (dC, dI)) (ci := 6) (v := .ref a_course) (C := RX6) (T := TX6) (N := 10) hx hb hts iwX6_yellowAfter_X6 hown hK hP 0 rfl rfl 3 (by decide) f29 (fun _ h9 => h9) rfl dX6_yellowAfter_2 ?_
  refine lv_iload_n hx hb dX6_yellowAfter_5 rfl (lv_at hl 1 rfl) ?_
  refine gV_i0 (As := [.int p0]) (rest := [.int (0 : Int32)]) ⟨hx, hb, hml, hown, hts⟩ (c_X2_yellow l dC dI cyC cyI cyZ _ a_course a_course_rows v_course_known v_course_rows p0 h) (cwV 1 hts gX6_yellowAfter_X2_yellow rfl rfl rfl hdV_X2_yellow ⟨Nat.le_of_ble_eq_true rfl, Nat.le_of_ble_eq_true rfl⟩) hK hN hP hD hS hA [1, 2] (by decide) rfl (ci := 2) rfl rfl rfl hl.1 rfl (Nat.le_of_ble_eq_true rfl) dX6_yellowAfter_6 ⟨Nat.zero_le _, Nat.zero_le _⟩ (fun r_1 H locs h hP hS => ?_)
  refine lv_iload_n hx hb dX6_yellowAfter_9 rfl (lv_at hl 2 rfl) ?_
  refine lv_aload_n hx hb dX6_yellowAfter_10 rfl (lv_at hl 0 rfl) ?_
  refine va_get (D := (dC, dI)) (ci := 6) (v := .ref a_told) (C := RX6) (T := TX6) (N := 10) hx hb hts iwX6_yellowAfter_X6 hown hK hP 0 rfl rfl 1 (by decide) f19 (fun _ h9 => h9) rfl dX6_yellowAfter_11 ?_
  refine va_getN (host := "LastOchre") (D := (dC, dI)) (ci := 5) (v := .ref a_told_fades) (C := RX5) (T := TX5) (N := 11) hx hb hts iwX6_yellowAfter_X5 hown hK hP 3 rfl rfl 9 (by decide) f123 (fun _ h9 => h9) rfl dX6_yellowAfter_14 ?_
  refine lv_iload_n hx hb dX6_yellowAfter_17 rfl (lv_at hl 1 rfl) ?_
  have g_2 := h.1
  replace h := h.2
  refine va_iald hx hb hK hP 4 0 rfl rfl g_2 dX6_yellowAfter_18 ?_
  refine lv_imul hx hb dX6_yellowAfter_19 ?_
  refine lv_isub hx hb dX6_yellowAfter_20 ?_
  refine va_mmax hx hb (by rw [hml]; exact hl.1.symm) hown (hts (.methodLink RX6 293 Lib.Math.max.name) (by decide +kernel)) (hts (.static Lib.Math.max.name) (by decide +kernel)) (hts (.initialized "java/lang/Math") (by decide +kernel)) (hts (.code Lib.Math.max.name Lib.Math.max.code 2 (some .int)) (by decide +kernel)) (Nat.le_of_ble_eq_true rfl) (Nat.le_of_ble_eq_true rfl) (Nat.zero_le _) (Nat.zero_le _) dX6_yellowAfter_21 ?_
  exact gri0 hx hb hr hlocks h hP hD hS dX6_yellowAfter_24

def F_X6_calledAfter_e (v_told_bound : Int32) (v_course_rows : Nat → Int32) (v_told_fades : Nat → Int32) (p0 : Int32) (p1 : Int32) (Q : Int32 → Prop)  : Prop :=
  q_X6_yellowAfter v_course_rows v_told_fades p0 p1 (fun (r_1 : Int32) => q_X2_white v_course_rows p0 (fun (r_2 : Int32) => q_X6_calledWith v_told_bound r_1 r_2 (fun (r_3 : Int32) => narrow .boolean (.int r_3) = .int r_3 ∧ (Q r_3))))
def q_X6_calledAfter (v_told_bound : Int32) (v_course_rows : Nat → Int32) (v_told_fades : Nat → Int32) (p0 : Int32) (p1 : Int32) (Q : Int32 → Prop) : Prop := F_X6_calledAfter_e v_told_bound v_course_rows v_told_fades p0 p1 Q 
theorem iwX6_calledAfter_X6 : ∀ w ∈ wsX60, w ∈ wsX6_calledAfter := by decide +kernel
theorem hdV_X6_calledAfter : yX6_calledAfter.cls = RX6 ∧ yX6_calledAfter.cls ≠ "java/lang/invoke/MethodHandle" ∧ yX6_calledAfter.cls ≠ "java/lang/invoke/VarHandle" ∧ (parseMethodDescriptor yX6_calledAfter.desc).map (fun d => d.parameters.length) = some 2 := by decide +kernel
set_option maxHeartbeats 4000000 in
set_option maxRecDepth 100000 in
theorem c_X6_calledAfter (l : Launch) (dC : Nat → ClassId) (dI : Nat → Nat → Nat) (cyC cyI cyZ : ClassId) (sz : Nat) (a a_reader a_told a_draft a_course a_firstImage a_secondImage a_imageKept a_bestDigs a_heard a_course_rows a_told_seam a_told_yellow a_told_white a_told_fades a_told_worth : Nat) (v_traced : Int64) (v_course_known : Int32) (v_told_seamTold : Int32) (v_told_boundTold : Int32) (v_told_lossTold : Int32) (v_told_bound : Int32) (v_told_loss : Int32) (v_told_things : Int32) (v_course_rows : Nat → Int32) (v_told_fades : Nat → Int32) (p0 : Int32) (p1 : Int32) {Q : Int32 → Prop} (h : q_X6_calledAfter v_told_bound v_course_rows v_told_fades p0 p1 Q) : Met l yX6_calledAfter wsX6_calledAfter ({ frames := 2, cells := 0, slots := 0, locals := 52 }) (gPc [.ref a, .int p0, .int p1] (dC, dI) (gTy cyC cyI cyZ) sz [(a, .inr (6, [.ref a_reader, .ref a_told, .ref a_draft, .ref a_course, .ref a_firstImage, .ref a_secondImage, .ref a_imageKept, .ref a_bestDigs, .ref a_heard, .long v_traced])), (a_course, .inr (2, [.ref a_course_rows, .int v_course_known])), (a_told, .inr (5, [.ref a_told_seam, .int v_told_seamTold, .int v_told_boundTold, .int v_told_lossTold, .int v_told_bound, .int v_told_loss, .int v_told_things, .ref a_told_yellow, .ref a_told_white, .ref a_told_fades, .ref a_told_worth])), (a_course_rows, .inl (cyI, 165, .inl v_course_rows)), (a_told_fades, .inl (cyI, 6, .inl v_told_fades))]) (gQi0 Q (dC, dI) (va_A [(a, .inr (6, [.ref a_reader, .ref a_told, .ref a_draft, .ref a_course, .ref a_firstImage, .ref a_secondImage, .ref a_imageKept, .ref a_bestDigs, .ref a_heard, .long v_traced])), (a_course, .inr (2, [.ref a_course_rows, .int v_course_known])), (a_told, .inr (5, [.ref a_told_seam, .int v_told_seamTold, .int v_told_boundTold, .int v_told_lossTold, .int v_told_bound, .int v_told_loss, .int v_told_things, .ref a_told_yellow, .ref a_told_white, .ref a_told_fades, .ref a_told_worth])), (a_course_rows, .inl (cyI, 165, .inl v_course_rows)), (a_told_fades, .inl (cyI, 6, .inl v_told_fades))] sz) [(a, .inr (6, [.ref a_reader, .ref a_told, .ref a_draft, .ref a_course, .ref a_firstImage, .ref a_secondImage, .ref a_imageKept, .ref a_bestDigs, .ref a_heard, .long v_traced])), (a_course, .inr (2, [.ref a_course_rows, .int v_course_known])), (a_told, .inr (5, [.ref a_told_seam, .int v_told_seamTold, .int v_told_boundTold, .int v_told_lossTold, .int v_told_bound, .int v_told_loss, .int v_told_things, .ref a_told_yellow, .ref a_told_white, .ref a_told_fades, .ref a_told_worth])), (a_course_rows, .inl (cyI, 165, .inl v_course_rows)), (a_told_fades, .inl (cyI, 6, .inl v_told_fades))]) 0 0 (va_A [(a, .inr (6, [.ref a_reader, .ref a_told, .ref a_draft, .ref a_course, .ref a_firstImage, .ref a_secondImage, .ref a_imageKept, .ref a_bestDigs, .ref a_heard, .long v_traced])), (a_course, .inr (2, [.ref a_course_rows, .int v_course_known])), (a_told, .inr (5, [.ref a_told_seam, .int v_told_seamTold, .int v_told_boundTold, .int v_told_lossTold, .int v_told_bound, .int v_told_loss, .int v_told_things, .ref a_told_yellow, .ref a_told_white, .ref a_told_fades, .ref a_told_worth])), (a_course_rows, .inl (cyI, 165, .inl v_course_rows)), (a_told_fades, .inl (cyI, 6, .inl v_told_fades))] sz) := by
  refine gMet (cc := cX6_calledAfter) (maxL := 3) (ret := (some .boolean)) (own := RX6) (fun A => gQi0 Q (dC, dI) A [(a, .inr (6, [.ref a_reader, .ref a_told, .ref a_draft, .ref a_course, .ref a_firstImage, .ref a_secondImage, .ref a_imageKept, .ref a_bestDigs, .ref a_heard, .long v_traced])), (a_course, .inr (2, [.ref a_course_rows, .int v_course_known])), (a_told, .inr (5, [.ref a_told_seam, .int v_told_seamTold, .int v_told_boundTold, .int v_told_lossTold, .int v_told_bound, .int v_told_loss, .int v_told_things, .ref a_told_yellow, .ref a_told_white, .ref a_told_fades, .ref a_told_worth])), (a_course_rows, .inl (cyI, 165, .inl v_course_rows)), (a_told_fades, .inl (cyI, 6, .inl v_told_fades))]) (by decide) rfl rfl (Nat.le_of_ble_eq_true rfl) ?_
  intro p e s m below meth c A ls C0 _ hK hN hP hD hA hl
  obtain ⟨hx, hb, hr, hml, hown, hts, hlocks⟩ := id C0
  have f29 := hts (.fieldLink RX6 29 "LastOchre" "course" "LLastOchre$Course;") (by decide +kernel)
  have hS : va_S A s.heap s.heap [] := va_S.rf
  replace hl : lv_has ls 3 [(0, .ref a), (1, .int p0), (2, .int p1)] := hl
  unfold q_X6_calledAfter at h
  unfold F_X6_calledAfter_e at h
  refine lv_aload_n hx hb dX6_calledAfter_0 rfl (lv_at hl 0 rfl) ?_
  refine lv_aload_n hx hb dX6_calledAfter_1 rfl (lv_at hl 0 rfl) ?_
  refine lv_iload_n hx hb dX6_calledAfter_2 rfl (lv_at hl 1 rfl) ?_
  refine lv_iload_n hx hb dX6_calledAfter_3 rfl (lv_at hl 2 rfl) ?_
  refine gV_i0 (As := [.int p0, .int p1]) (rest := [.ref a]) ⟨hx, hb, hml, hown, hts⟩ (c_X6_yellowAfter l dC dI cyC cyI cyZ _ a a_reader a_told a_draft a_course a_firstImage a_secondImage a_imageKept a_bestDigs a_heard a_course_rows a_told_seam a_told_yellow a_told_white a_told_fades a_told_worth v_traced v_course_known v_course_rows v_told_seamTold v_told_boundTold v_told_lossTold v_told_bound v_told_loss v_told_things v_told_fades p0 p1 h) (cwV 2 hts gX6_calledAfter_X6_yellowAfter rfl rfl rfl hdV_X6_yellowAfter ⟨Nat.le_of_ble_eq_true rfl, Nat.le_of_ble_eq_true rfl⟩) hK hN hP hD hS hA [0, 1, 3, 2, 4] (by decide) rfl (ci := 6) rfl rfl rfl hl.1 rfl (Nat.le_of_ble_eq_true rfl) dX6_calledAfter_4 ⟨Nat.zero_le _, Nat.zero_le _⟩ (fun r_1 H locs h hP hS => ?_)
  refine lv_aload_n hx hb dX6_calledAfter_7 rfl (lv_at hl 0 rfl) ?_
  refine va_get (D := (dC, dI)) (ci := 6) (v := .ref a_course) (C := RX6) (T := TX6) (N := 10) hx hb hts iwX6_calledAfter_X6 hown hK hP 0 rfl rfl 3 (by decide) f29 (fun _ h9 => h9) rfl dX6_calledAfter_8 ?_
  refine lv_iload_n hx hb dX6_calledAfter_11 rfl (lv_at hl 1 rfl) ?_
  refine gV_i0 (As := [.int p0]) (rest := [.int r_1, .ref a]) ⟨hx, hb, hml, hown, hts⟩ (c_X2_white l dC dI cyC cyI cyZ _ a_course a_course_rows v_course_known v_course_rows p0 h) (cwV 1 hts gX6_calledAfter_X2_white rfl rfl rfl hdV_X2_white ⟨Nat.le_of_ble_eq_true rfl, Nat.le_of_ble_eq_true rfl⟩) hK hN hP hD hS hA [1, 3] (by decide) rfl (ci := 2) rfl rfl rfl hl.1 rfl (Nat.le_of_ble_eq_true rfl) dX6_calledAfter_12 ⟨Nat.zero_le _, Nat.zero_le _⟩ (fun r_2 H locs h hP hS => ?_)
  refine gV_i0 (As := [.int r_1, .int r_2]) (rest := []) ⟨hx, hb, hml, hown, hts⟩ (c_X6_calledWith l dC dI cyC cyI cyZ _ a a_reader a_told a_draft a_course a_firstImage a_secondImage a_imageKept a_bestDigs a_heard a_told_seam a_told_yellow a_told_white a_told_fades a_told_worth v_traced v_told_seamTold v_told_boundTold v_told_lossTold v_told_bound v_told_loss v_told_things r_1 r_2 h) (cwV 2 hts gX6_calledAfter_X6_calledWith rfl rfl rfl hdV_X6_calledWith ⟨Nat.le_of_ble_eq_true rfl, Nat.le_of_ble_eq_true rfl⟩) hK hN hP hD hS hA [0, 2] (by decide) rfl (ci := 6) rfl rfl rfl hl.1 rfl (Nat.le_of_ble_eq_true rfl) dX6_calledAfter_15 ⟨Nat.zero_le _, Nat.zero_le _⟩ (fun r_3 H locs h hP hS => ?_)
  have g_4 := h.1
  replace h := h.2
  exact grz0 hx hb hr hlocks g_4 h hP hD hS dX6_calledAfter_18

def F_X6_calledSet_e (v_told_bound : Int32) (v_told_things : Int32) (v_course_rows : Nat → Int32) (v_told_fades : Nat → Int32) (Q : Int32 → Prop) (rec : Nat → Int32 → Int32 → Prop)  : Prop :=
  rec 4 (0 : Int32) (0 : Int32)
def F_X6_calledSet_4 (v_told_bound : Int32) (v_told_things : Int32) (v_course_rows : Nat → Int32) (v_told_fades : Nat → Int32) (Q : Int32 → Prop) (rec : Nat → Int32 → Int32 → Prop) (x1 : Int32) (x2 : Int32) : Prop :=
  (v_told_things ≤ x2 → (Q x1)) ∧ (¬ v_told_things ≤ x2 → (q_X6_calledAfter v_told_bound v_course_rows v_told_fades x2 (0 : Int32) (fun (r_2 : Int32) => (r_2 = 0 → (∀ x2_4 : Int32, x2_4 = (x2 + (1 : Int32)) → (rec 4 x1 x2_4))) ∧ (¬ r_2 = 0 → (∀ x1_6 : Int32, x1_6 = (x1 ||| ((1 : Int32) <<< (x2 &&& 31))) → (∀ x2_8 : Int32, x2_8 = (x2 + (1 : Int32)) → (rec 4 x1_6 x2_8)))))))
def wp_X6_calledSet (v_told_bound : Int32) (v_told_things : Int32) (v_course_rows : Nat → Int32) (v_told_fades : Nat → Int32) (Q : Int32 → Prop) : Nat → Nat → Int32 → Int32 → Prop
  | 0 => fun _ _ _ => False
  | n + 1 => fun t x1 x2 => if t = 4 then F_X6_calledSet_4 v_told_bound v_told_things v_course_rows v_told_fades Q (wp_X6_calledSet v_told_bound v_told_things v_course_rows v_told_fades Q n) x1 x2 else False
def q_X6_calledSet (v_told_bound : Int32) (v_told_things : Int32) (v_course_rows : Nat → Int32) (v_told_fades : Nat → Int32) (Q : Int32 → Prop) : Prop := ∃ n, F_X6_calledSet_e v_told_bound v_told_things v_course_rows v_told_fades Q (wp_X6_calledSet v_told_bound v_told_things v_course_rows v_told_fades Q n) 
theorem iwX6_calledSet_X5 : ∀ w ∈ wsX50, w ∈ wsX6_calledSet := by decide +kernel
theorem iwX6_calledSet_X6 : ∀ w ∈ wsX60, w ∈ wsX6_calledSet := by decide +kernel
theorem hdV_X6_calledSet : yX6_calledSet.cls = RX6 ∧ yX6_calledSet.cls ≠ "java/lang/invoke/MethodHandle" ∧ yX6_calledSet.cls ≠ "java/lang/invoke/VarHandle" ∧ (parseMethodDescriptor yX6_calledSet.desc).map (fun d => d.parameters.length) = some 0 := by decide +kernel
set_option maxHeartbeats 4000000 in
set_option maxRecDepth 100000 in
theorem w_X6_calledSet {p : Program} {l : Launch} {e : Env} {s : State} {m : MethodId} {args : Array Value} {below : List Frame} {meth : Method} {c : Code} {A : Nat → Prop} (dC : Nat → ClassId) (dI : Nat → Nat → Nat) (cyC cyI cyZ : ClassId) (a a_reader a_told a_draft a_course a_firstImage a_secondImage a_imageKept a_bestDigs a_heard a_told_seam a_told_yellow a_told_white a_told_fades a_told_worth a_course_rows : Nat) (v_traced : Int64) (v_told_seamTold : Int32) (v_told_boundTold : Int32) (v_told_lossTold : Int32) (v_told_bound : Int32) (v_told_loss : Int32) (v_told_things : Int32) (v_course_known : Int32) (v_course_rows : Nat → Int32) (v_told_fades : Nat → Int32) (Q : Int32 → Prop) (C0 : gAt cX6_calledSet (some .int) 3 RX6 wsX6_calledSet p s m meth c args) (hK : va_K (dC, dI) vwCl (gTy cyC cyI cyZ) s) (hN : nU s) (hA : ∀ q, s.heap.size ≤ q → A q) : ∀ n : Nat, (∀ (x1 : Int32) (x2 : Int32) (H : Heap) (locs : List Loc) (ls : Array Slot), wp_X6_calledSet v_told_bound v_told_things v_course_rows v_told_fades Q n 4 x1 x2 → va_P (dC, dI) vwCl [(a, .inr (6, [.ref a_reader, .ref a_told, .ref a_draft, .ref a_course, .ref a_firstImage, .ref a_secondImage, .ref a_imageKept, .ref a_bestDigs, .ref a_heard, .long v_traced])), (a_told, .inr (5, [.ref a_told_seam, .int v_told_seamTold, .int v_told_boundTold, .int v_told_lossTold, .int v_told_bound, .int v_told_loss, .int v_told_things, .ref a_told_yellow, .ref a_told_white, .ref a_told_fades, .ref a_told_worth])), (a_course, .inr (2, [.ref a_course_rows, .int v_course_known])), (a_course_rows, .inl (cyI, 165, .inl v_course_rows)), (a_told_fades, .inl (cyI, 6, .inl v_told_fades))] H → va_D A [(a, .inr (6, [.ref a_reader, .ref a_told, .ref a_draft, .ref a_course, .ref a_firstImage, .ref a_secondImage, .ref a_imageKept, .ref a_bestDigs, .ref a_heard, .long v_traced])), (a_told, .inr (5, [.ref a_told_seam, .int v_told_seamTold, .int v_told_boundTold, .int v_told_lossTold, .int v_told_bound, .int v_told_loss, .int v_told_things, .ref a_told_yellow, .ref a_told_white, .ref a_told_fades, .ref a_told_worth])), (a_course, .inr (2, [.ref a_course_rows, .int v_course_known])), (a_course_rows, .inl (cyI, 165, .inl v_course_rows)), (a_told_fades, .inl (cyI, 6, .inl v_told_fades))] → va_S A s.heap H locs → lv_has ls 3 [(0, .ref a), (1, .int x1), (2, .int x2)] → W p l e { frames := 3, cells := 0, slots := 0, locals := 74 } s m args below meth c H locs 0 0 (MQ below (gQi0 Q (dC, dI) A [(a, .inr (6, [.ref a_reader, .ref a_told, .ref a_draft, .ref a_course, .ref a_firstImage, .ref a_secondImage, .ref a_imageKept, .ref a_bestDigs, .ref a_heard, .long v_traced])), (a_told, .inr (5, [.ref a_told_seam, .int v_told_seamTold, .int v_told_boundTold, .int v_told_lossTold, .int v_told_bound, .int v_told_loss, .int v_told_things, .ref a_told_yellow, .ref a_told_white, .ref a_told_fades, .ref a_told_worth])), (a_course, .inr (2, [.ref a_course_rows, .int v_course_known])), (a_course_rows, .inl (cyI, 165, .inl v_course_rows)), (a_told_fades, .inl (cyI, 6, .inl v_told_fades))]) args s 0 0 A) (F0 m 4 ls [])) := by
  obtain ⟨hx, hb, hr, hml, hown, hts, hlocks⟩ := id C0
  have f159 := hN.link (args := args) (w := .fieldLinkNest RX6 159 "LastOchre$Told" "things" "I" "LastOchre") 19 rfl
  have f19 := hts (.fieldLink RX6 19 "LastOchre" "told" "LLastOchre$Told;") (by decide +kernel)
  intro n
  induction n with
  | zero => exact fun _ _ _ _ _ h => absurd h id
  | succ n ih =>
    have ih4 := ih
    · intro x1 x2 H locs ls h hP hD hS hl
      replace h : F_X6_calledSet_4 v_told_bound v_told_things v_course_rows v_told_fades Q (wp_X6_calledSet v_told_bound v_told_things v_course_rows v_told_fades Q n) x1 x2 := h
      unfold F_X6_calledSet_4 at h
      refine lv_iload_n hx hb dX6_calledSet_4 rfl (lv_at hl 2 rfl) ?_
      refine lv_aload_n hx hb dX6_calledSet_5 rfl (lv_at hl 0 rfl) ?_
      refine va_get (D := (dC, dI)) (ci := 6) (v := .ref a_told) (C := RX6) (T := TX6) (N := 10) hx hb hts iwX6_calledSet_X6 hown hK hP 0 rfl rfl 1 (by decide) f19 (fun _ h9 => h9) rfl dX6_calledSet_6 ?_
      refine va_getN (host := "LastOchre") (D := (dC, dI)) (ci := 5) (v := .int v_told_things) (C := RX5) (T := TX5) (N := 11) hx hb hts iwX6_calledSet_X5 hown hK hP 1 rfl rfl 6 (by decide) f159 (fun _ h9 => h9) rfl dX6_calledSet_9 ?_
      refine lv_icmp_ge (tgt := 36) hx hb dX6_calledSet_12 (by decide) (fun c_1 => ?_) (fun c_1 => ?_)
      · replace h := h.1 c_1
        refine lv_iload_n hx hb dX6_calledSet_36 rfl (lv_at hl 1 rfl) ?_
        exact gri0 hx hb hr hlocks h hP hD hS dX6_calledSet_37
      · replace h := h.2 c_1
        refine lv_aload_n hx hb dX6_calledSet_15 rfl (lv_at hl 0 rfl) ?_
        refine lv_iload_n hx hb dX6_calledSet_16 rfl (lv_at hl 2 rfl) ?_
        refine lv_iconst (v := 0) hx hb dX6_calledSet_17 (by decide) ?_
        refine gV_i0 (As := [.int x2, .int (0 : Int32)]) (rest := []) ⟨hx, hb, hml, hown, hts⟩ (c_X6_calledAfter l dC dI cyC cyI cyZ _ a a_reader a_told a_draft a_course a_firstImage a_secondImage a_imageKept a_bestDigs a_heard a_course_rows a_told_seam a_told_yellow a_told_white a_told_fades a_told_worth v_traced v_course_known v_told_seamTold v_told_boundTold v_told_lossTold v_told_bound v_told_loss v_told_things v_course_rows v_told_fades x2 (0 : Int32) h) (cwV 2 hts gX6_calledSet_X6_calledAfter rfl rfl rfl hdV_X6_calledAfter ⟨Nat.le_of_ble_eq_true rfl, Nat.le_of_ble_eq_true rfl⟩) hK hN hP hD hS hA [0, 2, 1, 3, 4] (by decide) rfl (ci := 6) rfl rfl rfl hl.1 rfl (Nat.le_of_ble_eq_true rfl) dX6_calledSet_18 ⟨Nat.zero_le _, Nat.zero_le _⟩ (fun r_2 H locs h hP hS => ?_)
        refine lv_if_eq (tgt := 30) hx hb dX6_calledSet_21 (by decide) (fun c_3 => ?_) (fun c_3 => ?_)
        · replace h := h.1 c_3
          obtain ⟨x2_4, e_5⟩ : ∃ y : Int32, y = (x2 + (1 : Int32)) := ⟨_, rfl⟩
          replace h := h x2_4 e_5
          refine lv_iinc (v := x2_4) (lv' := [(2, .int x2_4), (0, .ref a), (1, .int x1)]) hx hb dX6_calledSet_30 hl (k := 2) rfl (by rw [e_5]; rfl) (by decide) rfl (fun ls hl => ?_)
          refine lv_goto (tgt := 4) hx hb dX6_calledSet_33 (by decide) ?_
          exact ih4 x1 x2_4 _ _ _ h hP hD hS (lv_sub hl [1, 2, 0] rfl)
        · replace h := h.2 c_3
          refine lv_iload_n hx hb dX6_calledSet_24 rfl (lv_at hl 1 rfl) ?_
          refine lv_iconst (v := 1) hx hb dX6_calledSet_25 (by decide) ?_
          refine lv_iload_n hx hb dX6_calledSet_26 rfl (lv_at hl 2 rfl) ?_
          refine lv_ishl hx hb dX6_calledSet_27 ?_
          refine lv_ior hx hb dX6_calledSet_28 ?_
          refine lv_topi (fun x1_6 e_7 => ?_)
          replace h := h x1_6 e_7
          refine lv_istore_n (lv' := [(1, .int x1_6), (0, .ref a), (2, .int x2)]) hx hb dX6_calledSet_29 rfl hl (by decide) rfl (fun ls hl => ?_)
          obtain ⟨x2_8, e_9⟩ : ∃ y : Int32, y = (x2 + (1 : Int32)) := ⟨_, rfl⟩
          replace h := h x2_8 e_9
          refine lv_iinc (v := x2_8) (lv' := [(2, .int x2_8), (1, .int x1_6), (0, .ref a)]) hx hb dX6_calledSet_30 hl (k := 2) rfl (by rw [e_9]; rfl) (by decide) rfl (fun ls hl => ?_)
          refine lv_goto (tgt := 4) hx hb dX6_calledSet_33 (by decide) ?_
          exact ih4 x1_6 x2_8 _ _ _ h hP hD hS (lv_sub hl [2, 1, 0] rfl)
set_option maxHeartbeats 4000000 in
set_option maxRecDepth 100000 in
theorem c_X6_calledSet (l : Launch) (dC : Nat → ClassId) (dI : Nat → Nat → Nat) (cyC cyI cyZ : ClassId) (sz : Nat) (a a_reader a_told a_draft a_course a_firstImage a_secondImage a_imageKept a_bestDigs a_heard a_told_seam a_told_yellow a_told_white a_told_fades a_told_worth a_course_rows : Nat) (v_traced : Int64) (v_told_seamTold : Int32) (v_told_boundTold : Int32) (v_told_lossTold : Int32) (v_told_bound : Int32) (v_told_loss : Int32) (v_told_things : Int32) (v_course_known : Int32) (v_course_rows : Nat → Int32) (v_told_fades : Nat → Int32) {Q : Int32 → Prop} (h : q_X6_calledSet v_told_bound v_told_things v_course_rows v_told_fades Q) : Met l yX6_calledSet wsX6_calledSet ({ frames := 3, cells := 0, slots := 0, locals := 74 }) (gPc [.ref a] (dC, dI) (gTy cyC cyI cyZ) sz [(a, .inr (6, [.ref a_reader, .ref a_told, .ref a_draft, .ref a_course, .ref a_firstImage, .ref a_secondImage, .ref a_imageKept, .ref a_bestDigs, .ref a_heard, .long v_traced])), (a_told, .inr (5, [.ref a_told_seam, .int v_told_seamTold, .int v_told_boundTold, .int v_told_lossTold, .int v_told_bound, .int v_told_loss, .int v_told_things, .ref a_told_yellow, .ref a_told_white, .ref a_told_fades, .ref a_told_worth])), (a_course, .inr (2, [.ref a_course_rows, .int v_course_known])), (a_course_rows, .inl (cyI, 165, .inl v_course_rows)), (a_told_fades, .inl (cyI, 6, .inl v_told_fades))]) (gQi0 Q (dC, dI) (va_A [(a, .inr (6, [.ref a_reader, .ref a_told, .ref a_draft, .ref a_course, .ref a_firstImage, .ref a_secondImage, .ref a_imageKept, .ref a_bestDigs, .ref a_heard, .long v_traced])), (a_told, .inr (5, [.ref a_told_seam, .int v_told_seamTold, .int v_told_boundTold, .int v_told_lossTold, .int v_told_bound, .int v_told_loss, .int v_told_things, .ref a_told_yellow, .ref a_told_white, .ref a_told_fades, .ref a_told_worth])), (a_course, .inr (2, [.ref a_course_rows, .int v_course_known])), (a_course_rows, .inl (cyI, 165, .inl v_course_rows)), (a_told_fades, .inl (cyI, 6, .inl v_told_fades))] sz) [(a, .inr (6, [.ref a_reader, .ref a_told, .ref a_draft, .ref a_course, .ref a_firstImage, .ref a_secondImage, .ref a_imageKept, .ref a_bestDigs, .ref a_heard, .long v_traced])), (a_told, .inr (5, [.ref a_told_seam, .int v_told_seamTold, .int v_told_boundTold, .int v_told_lossTold, .int v_told_bound, .int v_told_loss, .int v_told_things, .ref a_told_yellow, .ref a_told_white, .ref a_told_fades, .ref a_told_worth])), (a_course, .inr (2, [.ref a_course_rows, .int v_course_known])), (a_course_rows, .inl (cyI, 165, .inl v_course_rows)), (a_told_fades, .inl (cyI, 6, .inl v_told_fades))]) 0 0 (va_A [(a, .inr (6, [.ref a_reader, .ref a_told, .ref a_draft, .ref a_course, .ref a_firstImage, .ref a_secondImage, .ref a_imageKept, .ref a_bestDigs, .ref a_heard, .long v_traced])), (a_told, .inr (5, [.ref a_told_seam, .int v_told_seamTold, .int v_told_boundTold, .int v_told_lossTold, .int v_told_bound, .int v_told_loss, .int v_told_things, .ref a_told_yellow, .ref a_told_white, .ref a_told_fades, .ref a_told_worth])), (a_course, .inr (2, [.ref a_course_rows, .int v_course_known])), (a_course_rows, .inl (cyI, 165, .inl v_course_rows)), (a_told_fades, .inl (cyI, 6, .inl v_told_fades))] sz) := by
  refine gMet (cc := cX6_calledSet) (maxL := 3) (ret := (some .int)) (own := RX6) (fun A => gQi0 Q (dC, dI) A [(a, .inr (6, [.ref a_reader, .ref a_told, .ref a_draft, .ref a_course, .ref a_firstImage, .ref a_secondImage, .ref a_imageKept, .ref a_bestDigs, .ref a_heard, .long v_traced])), (a_told, .inr (5, [.ref a_told_seam, .int v_told_seamTold, .int v_told_boundTold, .int v_told_lossTold, .int v_told_bound, .int v_told_loss, .int v_told_things, .ref a_told_yellow, .ref a_told_white, .ref a_told_fades, .ref a_told_worth])), (a_course, .inr (2, [.ref a_course_rows, .int v_course_known])), (a_course_rows, .inl (cyI, 165, .inl v_course_rows)), (a_told_fades, .inl (cyI, 6, .inl v_told_fades))]) (by decide) rfl rfl (Nat.le_of_ble_eq_true rfl) ?_
  intro p e s m below meth c A ls C0 _ hK hN hP hD hA hl
  obtain ⟨hx, hb, hr, hml, hown, hts, hlocks⟩ := id C0
  have f159 := hN.link (args := _) (w := .fieldLinkNest RX6 159 "LastOchre$Told" "things" "I" "LastOchre") 19 rfl
  have f19 := hts (.fieldLink RX6 19 "LastOchre" "told" "LLastOchre$Told;") (by decide +kernel)
  have hS : va_S A s.heap s.heap [] := va_S.rf
  replace hl : lv_has ls 3 [(0, .ref a)] := hl
  unfold q_X6_calledSet at h
  obtain ⟨n, h⟩ := h
  have ih4 := w_X6_calledSet dC dI cyC cyI cyZ a a_reader a_told a_draft a_course a_firstImage a_secondImage a_imageKept a_bestDigs a_heard a_told_seam a_told_yellow a_told_white a_told_fades a_told_worth a_course_rows v_traced v_told_seamTold v_told_boundTold v_told_lossTold v_told_bound v_told_loss v_told_things v_course_known v_course_rows v_told_fades Q C0 hK hN hA n
  unfold F_X6_calledSet_e at h
  refine lv_iconst (v := 0) hx hb dX6_calledSet_0 (by decide) ?_
  refine lv_istore_n (lv' := [(1, .int (0 : Int32)), (0, .ref a)]) hx hb dX6_calledSet_1 rfl hl (by decide) rfl (fun ls hl => ?_)
  refine lv_iconst (v := 0) hx hb dX6_calledSet_2 (by decide) ?_
  refine lv_istore_n (lv' := [(2, .int (0 : Int32)), (1, .int (0 : Int32)), (0, .ref a)]) hx hb dX6_calledSet_3 rfl hl (by decide) rfl (fun ls hl => ?_)
  exact ih4 (0 : Int32) (0 : Int32) _ _ _ h hP hD hS (lv_sub hl [2, 1, 0] rfl)

def F_X6_keep_e (v_course_known : Int32) (v_course_rows : Nat → Int32) (p0 : Int32) (Q : Int32 → Int32 → (Nat → Int32) → (Nat → Int32) → Int32 → (Nat → Int32) → Prop) (v_firstImage_known : Int32) (v_firstImage_rows : Nat → Int32) (v_imageKept : Nat → Int32) (v_secondImage_known : Int32) (v_secondImage_rows : Nat → Int32) : Prop :=
  q_X6_within p0 (0 : Int32) (1 : Int32) (fun (r_1 : Int32) => (¬ r_1 = 0 → ((p0 = 0 → (q_X2_copyFrom v_firstImage_known v_course_known v_course_rows v_firstImage_rows (fun (u_4 : Int32) (u_5 : Nat → Int32) => vp_in p0 2 ∧ (∀ f_7 : Nat → Int32, f_7 = upd v_imageKept (p0).toNatClampNeg (vp_nar .boolean (1 : Int32)) → (q_X2_year v_course_rows (fun (r_9 : Int32) => Q r_9 u_4 u_5 f_7 v_secondImage_known v_secondImage_rows)))))) ∧ (¬ p0 = 0 → (q_X2_copyFrom v_secondImage_known v_course_known v_course_rows v_secondImage_rows (fun (u_10 : Int32) (u_11 : Nat → Int32) => vp_in p0 2 ∧ (∀ f_13 : Nat → Int32, f_13 = upd v_imageKept (p0).toNatClampNeg (vp_nar .boolean (1 : Int32)) → (q_X2_year v_course_rows (fun (r_15 : Int32) => Q r_15 v_firstImage_known v_firstImage_rows f_13 u_10 u_11)))))))) ∧ (r_1 = 0 → (Q (-1 : Int32) v_firstImage_known v_firstImage_rows v_imageKept v_secondImage_known v_secondImage_rows)))
def q_X6_keep (v_course_known : Int32) (v_firstImage_known : Int32) (v_course_rows : Nat → Int32) (v_firstImage_rows : Nat → Int32) (v_imageKept : Nat → Int32) (v_secondImage_known : Int32) (v_secondImage_rows : Nat → Int32) (p0 : Int32) (Q : Int32 → Int32 → (Nat → Int32) → (Nat → Int32) → Int32 → (Nat → Int32) → Prop) : Prop := F_X6_keep_e v_course_known v_course_rows p0 Q v_firstImage_known v_firstImage_rows v_imageKept v_secondImage_known v_secondImage_rows
theorem iwX6_keep_X6 : ∀ w ∈ wsX60, w ∈ wsX6_keep := by decide +kernel
theorem hdV_X6_keep : yX6_keep.cls = RX6 ∧ yX6_keep.cls ≠ "java/lang/invoke/MethodHandle" ∧ yX6_keep.cls ≠ "java/lang/invoke/VarHandle" ∧ (parseMethodDescriptor yX6_keep.desc).map (fun d => d.parameters.length) = some 1 := by decide +kernel
set_option maxHeartbeats 4000000 in
set_option maxRecDepth 100000 in
theorem c_X6_keep (l : Launch) (dC : Nat → ClassId) (dI : Nat → Nat → Nat) (cyC cyI cyZ : ClassId) (sz : Nat) (a a_reader a_told a_draft a_course a_firstImage a_secondImage a_imageKept a_bestDigs a_heard a_course_rows a_firstImage_rows a_secondImage_rows : Nat) (v_traced : Int64) (v_course_known : Int32) (v_firstImage_known : Int32) (v_course_rows : Nat → Int32) (v_firstImage_rows : Nat → Int32) (v_imageKept : Nat → Int32) (v_secondImage_known : Int32) (v_secondImage_rows : Nat → Int32) (p0 : Int32) {Q : Int32 → Int32 → (Nat → Int32) → (Nat → Int32) → Int32 → (Nat → Int32) → Prop} (h : q_X6_keep v_course_known v_firstImage_known v_course_rows v_firstImage_rows v_imageKept v_secondImage_known v_secondImage_rows p0 Q) : Met l yX6_keep wsX6_keep ({ frames := 2, cells := 0, slots := 0, locals := 61 }) (gPc [.ref a, .int p0] (dC, dI) (gTy cyC cyI cyZ) sz [(a, .inr (6, [.ref a_reader, .ref a_told, .ref a_draft, .ref a_course, .ref a_firstImage, .ref a_secondImage, .ref a_imageKept, .ref a_bestDigs, .ref a_heard, .long v_traced])), (a_course, .inr (2, [.ref a_course_rows, .int v_course_known])), (a_firstImage, .inr (2, [.ref a_firstImage_rows, .int v_firstImage_known])), (a_course_rows, .inl (cyI, 165, .inl v_course_rows)), (a_firstImage_rows, .inl (cyI, 165, .inl v_firstImage_rows)), (a_imageKept, .inl (cyZ, 2, .inl v_imageKept)), (a_secondImage, .inr (2, [.ref a_secondImage_rows, .int v_secondImage_known])), (a_secondImage_rows, .inl (cyI, 165, .inl v_secondImage_rows))]) (gQi5 Q (dC, dI) (va_A [(a, .inr (6, [.ref a_reader, .ref a_told, .ref a_draft, .ref a_course, .ref a_firstImage, .ref a_secondImage, .ref a_imageKept, .ref a_bestDigs, .ref a_heard, .long v_traced])), (a_course, .inr (2, [.ref a_course_rows, .int v_course_known])), (a_firstImage, .inr (2, [.ref a_firstImage_rows, .int v_firstImage_known])), (a_course_rows, .inl (cyI, 165, .inl v_course_rows)), (a_firstImage_rows, .inl (cyI, 165, .inl v_firstImage_rows)), (a_imageKept, .inl (cyZ, 2, .inl v_imageKept)), (a_secondImage, .inr (2, [.ref a_secondImage_rows, .int v_secondImage_known])), (a_secondImage_rows, .inl (cyI, 165, .inl v_secondImage_rows))] sz) (fun (u1 : Int32) (u2 : Nat → Int32) (u3 : Nat → Int32) (u4 : Int32) (u5 : Nat → Int32) => [(a, .inr (6, [.ref a_reader, .ref a_told, .ref a_draft, .ref a_course, .ref a_firstImage, .ref a_secondImage, .ref a_imageKept, .ref a_bestDigs, .ref a_heard, .long v_traced])), (a_course, .inr (2, [.ref a_course_rows, .int v_course_known])), (a_firstImage, .inr (2, [.ref a_firstImage_rows, .int u1])), (a_course_rows, .inl (cyI, 165, .inl v_course_rows)), (a_firstImage_rows, .inl (cyI, 165, .inl u2)), (a_imageKept, .inl (cyZ, 2, .inl u3)), (a_secondImage, .inr (2, [.ref a_secondImage_rows, .int u4])), (a_secondImage_rows, .inl (cyI, 165, .inl u5))])) 0 0 (va_A [(a, .inr (6, [.ref a_reader, .ref a_told, .ref a_draft, .ref a_course, .ref a_firstImage, .ref a_secondImage, .ref a_imageKept, .ref a_bestDigs, .ref a_heard, .long v_traced])), (a_course, .inr (2, [.ref a_course_rows, .int v_course_known])), (a_firstImage, .inr (2, [.ref a_firstImage_rows, .int v_firstImage_known])), (a_course_rows, .inl (cyI, 165, .inl v_course_rows)), (a_firstImage_rows, .inl (cyI, 165, .inl v_firstImage_rows)), (a_imageKept, .inl (cyZ, 2, .inl v_imageKept)), (a_secondImage, .inr (2, [.ref a_secondImage_rows, .int v_secondImage_known])), (a_secondImage_rows, .inl (cyI, 165, .inl v_secondImage_rows))] sz) := by
  refine gMet (cc := cX6_keep) (maxL := 2) (ret := (some .int)) (own := RX6) (fun A => gQi5 Q (dC, dI) A (fun (u1 : Int32) (u2 : Nat → Int32) (u3 : Nat → Int32) (u4 : Int32) (u5 : Nat → Int32) => [(a, .inr (6, [.ref a_reader, .ref a_told, .ref a_draft, .ref a_course, .ref a_firstImage, .ref a_secondImage, .ref a_imageKept, .ref a_bestDigs, .ref a_heard, .long v_traced])), (a_course, .inr (2, [.ref a_course_rows, .int v_course_known])), (a_firstImage, .inr (2, [.ref a_firstImage_rows, .int u1])), (a_course_rows, .inl (cyI, 165, .inl v_course_rows)), (a_firstImage_rows, .inl (cyI, 165, .inl u2)), (a_imageKept, .inl (cyZ, 2, .inl u3)), (a_secondImage, .inr (2, [.ref a_secondImage_rows, .int u4])), (a_secondImage_rows, .inl (cyI, 165, .inl u5))])) (by decide) rfl rfl (Nat.le_of_ble_eq_true rfl) ?_
  intro p e s m below meth c A ls C0 _ hK hN hP hD hA hl
  obtain ⟨hx, hb, hr, hml, hown, hts, hlocks⟩ := id C0
  have f29 := hts (.fieldLink RX6 29 "LastOchre" "course" "LLastOchre$Course;") (by decide +kernel)
  have f39 := hts (.fieldLink RX6 39 "LastOchre" "imageKept" "[Z") (by decide +kernel)
  have hS : va_S A s.heap s.heap [] := va_S.rf
  replace hl : lv_has ls 2 [(0, .ref a), (1, .int p0)] := hl
  unfold q_X6_keep at h
  unfold F_X6_keep_e at h
  refine lv_iload_n hx hb dX6_keep_0 rfl (lv_at hl 1 rfl) ?_
  refine lv_iconst (v := 0) hx hb dX6_keep_1 (by decide) ?_
  refine lv_iconst (v := 1) hx hb dX6_keep_2 (by decide) ?_
  refine gS_i0 (As := [.int p0, .int (0 : Int32), .int (1 : Int32)]) (rest := []) ⟨hx, hb, hml, hown, hts⟩ (c_X6_within l dC dI cyC cyI cyZ _ p0 (0 : Int32) (1 : Int32) h) (va_cwS 3 hts gX6_keep_X6_within rfl rfl rfl hdS_X6_within ⟨Nat.le_of_ble_eq_true rfl, Nat.le_of_ble_eq_true rfl⟩) hK hN hP hD hS hA [] (by decide) rfl rfl hl.1 rfl (Nat.le_of_ble_eq_true rfl) dX6_keep_3 ⟨Nat.zero_le _, Nat.zero_le _⟩ (fun r_1 H locs h hP hS => ?_)
  refine lv_if_ne (tgt := 11) hx hb dX6_keep_6 (by decide) (fun c_2 => ?_) (fun c_2 => ?_)
  · replace h := h.1 c_2
    refine lv_aload_n hx hb dX6_keep_11 rfl (lv_at hl 0 rfl) ?_
    refine lv_iload_n hx hb dX6_keep_12 rfl (lv_at hl 1 rfl) ?_
    refine gV_r0 (As := [.int p0]) (rest := []) ⟨hx, hb, hml, hown, hts⟩ (c_X6_imageOf l dC dI cyC cyI cyZ _ a a_reader a_told a_draft a_course a_firstImage a_secondImage a_imageKept a_bestDigs a_heard v_traced p0) (cwV 1 hts gX6_keep_X6_imageOf rfl rfl rfl hdV_X6_imageOf ⟨Nat.le_of_ble_eq_true rfl, Nat.le_of_ble_eq_true rfl⟩) hK hN hP hD hS hA [0] (by decide) rfl (ci := 6) rfl rfl rfl hl.1 rfl (Nat.le_of_ble_eq_true rfl) dX6_keep_13 ⟨Nat.zero_le _, Nat.zero_le _⟩ (fun ra H locs hra hP hS => ?_)
    rcases hra with ⟨c_3, hra⟩ | ⟨c_3, hra⟩ <;> rw [hra]
    · replace h := h.1 c_3
      refine lv_aload_n hx hb dX6_keep_16 rfl (lv_at hl 0 rfl) ?_
      refine va_get (D := (dC, dI)) (ci := 6) (v := .ref a_course) (C := RX6) (T := TX6) (N := 10) hx hb hts iwX6_keep_X6 hown hK hP 0 rfl rfl 3 (by decide) f29 (fun _ h9 => h9) rfl dX6_keep_17 ?_
      refine gV_v2 (As := [.ref a_course]) (rest := []) ⟨hx, hb, hml, hown, hts⟩ (c_X2_copyFrom l dC dI cyC cyI cyZ _ a_firstImage a_firstImage_rows a_course a_course_rows v_firstImage_known v_course_known v_course_rows v_firstImage_rows h) (cwV 1 hts gX6_keep_X2_copyFrom rfl rfl rfl hdV_X2_copyFrom ⟨Nat.le_of_ble_eq_true rfl, Nat.le_of_ble_eq_true rfl⟩) hK hN hP hD hS hA [2, 1, 3, 4] (by decide) rfl (ci := 2) rfl rfl rfl hl.1 rfl (Nat.le_of_ble_eq_true rfl) dX6_keep_20 ⟨Nat.zero_le _, Nat.zero_le _⟩ (wr := [(a, .inr (6, [.ref a_reader, .ref a_told, .ref a_draft, .ref a_course, .ref a_firstImage, .ref a_secondImage, .ref a_imageKept, .ref a_bestDigs, .ref a_heard, .long v_traced])), (a_imageKept, .inl (cyZ, 2, .inl v_imageKept)), (a_secondImage, .inr (2, [.ref a_secondImage_rows, .int v_secondImage_known])), (a_secondImage_rows, .inl (cyI, 165, .inl v_secondImage_rows))]) [0, 5, 6, 7] rfl (by decide) (by decide) (fun u_4 u_5 H locs h hP hD hS => ?_)
      replace hP : va_P (dC, dI) vwCl [(a, .inr (6, [.ref a_reader, .ref a_told, .ref a_draft, .ref a_course, .ref a_firstImage, .ref a_secondImage, .ref a_imageKept, .ref a_bestDigs, .ref a_heard, .long v_traced])), (a_imageKept, .inl (cyZ, 2, .inl v_imageKept)), (a_secondImage, .inr (2, [.ref a_secondImage_rows, .int v_secondImage_known])), (a_secondImage_rows, .inl (cyI, 165, .inl v_secondImage_rows)), (a_firstImage, .inr (2, [.ref a_firstImage_rows, .int u_4])), (a_course, .inr (2, [.ref a_course_rows, .int v_course_known])), (a_course_rows, .inl (cyI, 165, .inl v_course_rows)), (a_firstImage_rows, .inl (cyI, 165, .inl u_5))] H := hP
      replace hD : va_D A [(a, .inr (6, [.ref a_reader, .ref a_told, .ref a_draft, .ref a_course, .ref a_firstImage, .ref a_secondImage, .ref a_imageKept, .ref a_bestDigs, .ref a_heard, .long v_traced])), (a_imageKept, .inl (cyZ, 2, .inl v_imageKept)), (a_secondImage, .inr (2, [.ref a_secondImage_rows, .int v_secondImage_known])), (a_secondImage_rows, .inl (cyI, 165, .inl v_secondImage_rows)), (a_firstImage, .inr (2, [.ref a_firstImage_rows, .int u_4])), (a_course, .inr (2, [.ref a_course_rows, .int v_course_known])), (a_course_rows, .inl (cyI, 165, .inl v_course_rows)), (a_firstImage_rows, .inl (cyI, 165, .inl u_5))] := hD
      refine lv_aload_n hx hb dX6_keep_23 rfl (lv_at hl 0 rfl) ?_
      refine va_get (D := (dC, dI)) (ci := 6) (v := .ref a_imageKept) (C := RX6) (T := TX6) (N := 10) hx hb hts iwX6_keep_X6 hown hK hP 0 rfl rfl 6 (by decide) f39 (fun _ h9 => h9) rfl dX6_keep_24 ?_
      refine lv_iload_n hx hb dX6_keep_27 rfl (lv_at hl 1 rfl) ?_
      refine lv_iconst (v := 1) hx hb dX6_keep_28 (by decide) ?_
      have g_6 := h.1
      replace h := h.2
      refine va_zast hx hb hK hP hD hS 1 2 rfl rfl g_6 dX6_keep_29 (fun H locs hP hD hS => ?_)
      obtain ⟨f_7, e_8⟩ : ∃ y : Nat → Int32, y = upd v_imageKept (p0).toNatClampNeg (vp_nar .boolean (1 : Int32)) := ⟨_, rfl⟩
      replace h := h f_7 e_8
      replace hP : va_P (dC, dI) vwCl [(a, .inr (6, [.ref a_reader, .ref a_told, .ref a_draft, .ref a_course, .ref a_firstImage, .ref a_secondImage, .ref a_imageKept, .ref a_bestDigs, .ref a_heard, .long v_traced])), (a_imageKept, .inl (cyZ, 2, .inl f_7)), (a_secondImage, .inr (2, [.ref a_secondImage_rows, .int v_secondImage_known])), (a_secondImage_rows, .inl (cyI, 165, .inl v_secondImage_rows)), (a_firstImage, .inr (2, [.ref a_firstImage_rows, .int u_4])), (a_course, .inr (2, [.ref a_course_rows, .int v_course_known])), (a_course_rows, .inl (cyI, 165, .inl v_course_rows)), (a_firstImage_rows, .inl (cyI, 165, .inl u_5))] H := by rw [e_8]; exact hP
      replace hD : va_D A [(a, .inr (6, [.ref a_reader, .ref a_told, .ref a_draft, .ref a_course, .ref a_firstImage, .ref a_secondImage, .ref a_imageKept, .ref a_bestDigs, .ref a_heard, .long v_traced])), (a_imageKept, .inl (cyZ, 2, .inl f_7)), (a_secondImage, .inr (2, [.ref a_secondImage_rows, .int v_secondImage_known])), (a_secondImage_rows, .inl (cyI, 165, .inl v_secondImage_rows)), (a_firstImage, .inr (2, [.ref a_firstImage_rows, .int u_4])), (a_course, .inr (2, [.ref a_course_rows, .int v_course_known])), (a_course_rows, .inl (cyI, 165, .inl v_course_rows)), (a_firstImage_rows, .inl (cyI, 165, .inl u_5))] := by rw [e_8]; exact hD
      refine lv_aload_n hx hb dX6_keep_30 rfl (lv_at hl 0 rfl) ?_
      refine va_get (D := (dC, dI)) (ci := 6) (v := .ref a_course) (C := RX6) (T := TX6) (N := 10) hx hb hts iwX6_keep_X6 hown hK hP 0 rfl rfl 3 (by decide) f29 (fun _ h9 => h9) rfl dX6_keep_31 ?_
      refine gV_i0 (As := []) (rest := []) ⟨hx, hb, hml, hown, hts⟩ (c_X2_year l dC dI cyC cyI cyZ _ a_course a_course_rows v_course_known v_course_rows h) (cwV 0 hts gX6_keep_X2_year rfl rfl rfl hdV_X2_year ⟨Nat.le_of_ble_eq_true rfl, Nat.le_of_ble_eq_true rfl⟩) hK hN hP hD hS hA [5, 6] (by decide) rfl (ci := 2) rfl rfl rfl hl.1 rfl (Nat.le_of_ble_eq_true rfl) dX6_keep_34 ⟨Nat.zero_le _, Nat.zero_le _⟩ (fun r_9 H locs h hP hS => ?_)
      exact gri5 hx hb hr hlocks h (hP.sub (ws' := [(a, .inr (6, [.ref a_reader, .ref a_told, .ref a_draft, .ref a_course, .ref a_firstImage, .ref a_secondImage, .ref a_imageKept, .ref a_bestDigs, .ref a_heard, .long v_traced])), (a_course, .inr (2, [.ref a_course_rows, .int v_course_known])), (a_firstImage, .inr (2, [.ref a_firstImage_rows, .int u_4])), (a_course_rows, .inl (cyI, 165, .inl v_course_rows)), (a_firstImage_rows, .inl (cyI, 165, .inl u_5)), (a_imageKept, .inl (cyZ, 2, .inl f_7)), (a_secondImage, .inr (2, [.ref a_secondImage_rows, .int v_secondImage_known])), (a_secondImage_rows, .inl (cyI, 165, .inl v_secondImage_rows))]) [0, 5, 4, 6, 7, 1, 2, 3] rfl) (hD.sub (ws' := [(a, .inr (6, [.ref a_reader, .ref a_told, .ref a_draft, .ref a_course, .ref a_firstImage, .ref a_secondImage, .ref a_imageKept, .ref a_bestDigs, .ref a_heard, .long v_traced])), (a_course, .inr (2, [.ref a_course_rows, .int v_course_known])), (a_firstImage, .inr (2, [.ref a_firstImage_rows, .int u_4])), (a_course_rows, .inl (cyI, 165, .inl v_course_rows)), (a_firstImage_rows, .inl (cyI, 165, .inl u_5)), (a_imageKept, .inl (cyZ, 2, .inl f_7)), (a_secondImage, .inr (2, [.ref a_secondImage_rows, .int v_secondImage_known])), (a_secondImage_rows, .inl (cyI, 165, .inl v_secondImage_rows))]) [0, 5, 4, 6, 7, 1, 2, 3] (by decide) rfl) hS dX6_keep_37
    · replace h := h.2 c_3
      refine lv_aload_n hx hb dX6_keep_16 rfl (lv_at hl 0 rfl) ?_
      refine va_get (D := (dC, dI)) (ci := 6) (v := .ref a_course) (C := RX6) (T := TX6) (N := 10) hx hb hts iwX6_keep_X6 hown hK hP 0 rfl rfl 3 (by decide) f29 (fun _ h9 => h9) rfl dX6_keep_17 ?_
      refine gV_v2 (As := [.ref a_course]) (rest := []) ⟨hx, hb, hml, hown, hts⟩ (c_X2_copyFrom l dC dI cyC cyI cyZ _ a_secondImage a_secondImage_rows a_course a_course_rows v_secondImage_known v_course_known v_course_rows v_secondImage_rows h) (cwV 1 hts gX6_keep_X2_copyFrom rfl rfl rfl hdV_X2_copyFrom ⟨Nat.le_of_ble_eq_true rfl, Nat.le_of_ble_eq_true rfl⟩) hK hN hP hD hS hA [6, 1, 3, 7] (by decide) rfl (ci := 2) rfl rfl rfl hl.1 rfl (Nat.le_of_ble_eq_true rfl) dX6_keep_20 ⟨Nat.zero_le _, Nat.zero_le _⟩ (wr := [(a, .inr (6, [.ref a_reader, .ref a_told, .ref a_draft, .ref a_course, .ref a_firstImage, .ref a_secondImage, .ref a_imageKept, .ref a_bestDigs, .ref a_heard, .long v_traced])), (a_firstImage, .inr (2, [.ref a_firstImage_rows, .int v_firstImage_known])), (a_firstImage_rows, .inl (cyI, 165, .inl v_firstImage_rows)), (a_imageKept, .inl (cyZ, 2, .inl v_imageKept))]) [0, 2, 4, 5] rfl (by decide) (by decide) (fun u_10 u_11 H locs h hP hD hS => ?_)
      replace hP : va_P (dC, dI) vwCl [(a, .inr (6, [.ref a_reader, .ref a_told, .ref a_draft, .ref a_course, .ref a_firstImage, .ref a_secondImage, .ref a_imageKept, .ref a_bestDigs, .ref a_heard, .long v_traced])), (a_firstImage, .inr (2, [.ref a_firstImage_rows, .int v_firstImage_known])), (a_firstImage_rows, .inl (cyI, 165, .inl v_firstImage_rows)), (a_imageKept, .inl (cyZ, 2, .inl v_imageKept)), (a_secondImage, .inr (2, [.ref a_secondImage_rows, .int u_10])), (a_course, .inr (2, [.ref a_course_rows, .int v_course_known])), (a_course_rows, .inl (cyI, 165, .inl v_course_rows)), (a_secondImage_rows, .inl (cyI, 165, .inl u_11))] H := hP
      replace hD : va_D A [(a, .inr (6, [.ref a_reader, .ref a_told, .ref a_draft, .ref a_course, .ref a_firstImage, .ref a_secondImage, .ref a_imageKept, .ref a_bestDigs, .ref a_heard, .long v_traced])), (a_firstImage, .inr (2, [.ref a_firstImage_rows, .int v_firstImage_known])), (a_firstImage_rows, .inl (cyI, 165, .inl v_firstImage_rows)), (a_imageKept, .inl (cyZ, 2, .inl v_imageKept)), (a_secondImage, .inr (2, [.ref a_secondImage_rows, .int u_10])), (a_course, .inr (2, [.ref a_course_rows, .int v_course_known])), (a_course_rows, .inl (cyI, 165, .inl v_course_rows)), (a_secondImage_rows, .inl (cyI, 165, .inl u_11))] := hD
      refine lv_aload_n hx hb dX6_keep_23 rfl (lv_at hl 0 rfl) ?_
      refine va_get (D := (dC, dI)) (ci := 6) (v := .ref a_imageKept) (C := RX6) (T := TX6) (N := 10) hx hb hts iwX6_keep_X6 hown hK hP 0 rfl rfl 6 (by decide) f39 (fun _ h9 => h9) rfl dX6_keep_24 ?_
      refine lv_iload_n hx hb dX6_keep_27 rfl (lv_at hl 1 rfl) ?_
      refine lv_iconst (v := 1) hx hb dX6_keep_28 (by decide) ?_
      have g_12 := h.1
      replace h := h.2
      refine va_zast hx hb hK hP hD hS 3 2 rfl rfl g_12 dX6_keep_29 (fun H locs hP hD hS => ?_)
      obtain ⟨f_13, e_14⟩ : ∃ y : Nat → Int32, y = upd v_imageKept (p0).toNatClampNeg (vp_nar .boolean (1 : Int32)) := ⟨_, rfl⟩
      replace h := h f_13 e_14
      replace hP : va_P (dC, dI) vwCl [(a, .inr (6, [.ref a_reader, .ref a_told, .ref a_draft, .ref a_course, .ref a_firstImage, .ref a_secondImage, .ref a_imageKept, .ref a_bestDigs, .ref a_heard, .long v_traced])), (a_firstImage, .inr (2, [.ref a_firstImage_rows, .int v_firstImage_known])), (a_firstImage_rows, .inl (cyI, 165, .inl v_firstImage_rows)), (a_imageKept, .inl (cyZ, 2, .inl f_13)), (a_secondImage, .inr (2, [.ref a_secondImage_rows, .int u_10])), (a_course, .inr (2, [.ref a_course_rows, .int v_course_known])), (a_course_rows, .inl (cyI, 165, .inl v_course_rows)), (a_secondImage_rows, .inl (cyI, 165, .inl u_11))] H := by rw [e_14]; exact hP
      replace hD : va_D A [(a, .inr (6, [.ref a_reader, .ref a_told, .ref a_draft, .ref a_course, .ref a_firstImage, .ref a_secondImage, .ref a_imageKept, .ref a_bestDigs, .ref a_heard, .long v_traced])), (a_firstImage, .inr (2, [.ref a_firstImage_rows, .int v_firstImage_known])), (a_firstImage_rows, .inl (cyI, 165, .inl v_firstImage_rows)), (a_imageKept, .inl (cyZ, 2, .inl f_13)), (a_secondImage, .inr (2, [.ref a_secondImage_rows, .int u_10])), (a_course, .inr (2, [.ref a_course_rows, .int v_course_known])), (a_course_rows, .inl (cyI, 165, .inl v_course_rows)), (a_secondImage_rows, .inl (cyI, 165, .inl u_11))] := by rw [e_14]; exact hD
      refine lv_aload_n hx hb dX6_keep_30 rfl (lv_at hl 0 rfl) ?_
      refine va_get (D := (dC, dI)) (ci := 6) (v := .ref a_course) (C := RX6) (T := TX6) (N := 10) hx hb hts iwX6_keep_X6 hown hK hP 0 rfl rfl 3 (by decide) f29 (fun _ h9 => h9) rfl dX6_keep_31 ?_
      refine gV_i0 (As := []) (rest := []) ⟨hx, hb, hml, hown, hts⟩ (c_X2_year l dC dI cyC cyI cyZ _ a_course a_course_rows v_course_known v_course_rows h) (cwV 0 hts gX6_keep_X2_year rfl rfl rfl hdV_X2_year ⟨Nat.le_of_ble_eq_true rfl, Nat.le_of_ble_eq_true rfl⟩) hK hN hP hD hS hA [5, 6] (by decide) rfl (ci := 2) rfl rfl rfl hl.1 rfl (Nat.le_of_ble_eq_true rfl) dX6_keep_34 ⟨Nat.zero_le _, Nat.zero_le _⟩ (fun r_15 H locs h hP hS => ?_)
      exact gri5 hx hb hr hlocks h (hP.sub (ws' := [(a, .inr (6, [.ref a_reader, .ref a_told, .ref a_draft, .ref a_course, .ref a_firstImage, .ref a_secondImage, .ref a_imageKept, .ref a_bestDigs, .ref a_heard, .long v_traced])), (a_course, .inr (2, [.ref a_course_rows, .int v_course_known])), (a_firstImage, .inr (2, [.ref a_firstImage_rows, .int v_firstImage_known])), (a_course_rows, .inl (cyI, 165, .inl v_course_rows)), (a_firstImage_rows, .inl (cyI, 165, .inl v_firstImage_rows)), (a_imageKept, .inl (cyZ, 2, .inl f_13)), (a_secondImage, .inr (2, [.ref a_secondImage_rows, .int u_10])), (a_secondImage_rows, .inl (cyI, 165, .inl u_11))]) [0, 5, 1, 6, 2, 3, 4, 7] rfl) (hD.sub (ws' := [(a, .inr (6, [.ref a_reader, .ref a_told, .ref a_draft, .ref a_course, .ref a_firstImage, .ref a_secondImage, .ref a_imageKept, .ref a_bestDigs, .ref a_heard, .long v_traced])), (a_course, .inr (2, [.ref a_course_rows, .int v_course_known])), (a_firstImage, .inr (2, [.ref a_firstImage_rows, .int v_firstImage_known])), (a_course_rows, .inl (cyI, 165, .inl v_course_rows)), (a_firstImage_rows, .inl (cyI, 165, .inl v_firstImage_rows)), (a_imageKept, .inl (cyZ, 2, .inl f_13)), (a_secondImage, .inr (2, [.ref a_secondImage_rows, .int u_10])), (a_secondImage_rows, .inl (cyI, 165, .inl u_11))]) [0, 5, 1, 6, 2, 3, 4, 7] (by decide) rfl) hS dX6_keep_37
  · replace h := h.2 c_2
    refine lv_iconst (v := -1) hx hb dX6_keep_9 (by decide) ?_
    exact gri5 hx hb hr hlocks h hP hD hS dX6_keep_10

def F_X6_back_e (v_imageKept : Nat → Int32) (v_firstImage_known : Int32) (v_firstImage_rows : Nat → Int32) (v_secondImage_known : Int32) (v_secondImage_rows : Nat → Int32) (p0 : Int32) (Q : Int32 → Int32 → (Nat → Int32) → Prop) (v_course_known : Int32) (v_course_rows : Nat → Int32) : Prop :=
  q_X6_within p0 (0 : Int32) (1 : Int32) (fun (r_1 : Int32) => (¬ r_1 = 0 → (vp_in p0 2 ∧ ((¬ (v_imageKept (p0).toNatClampNeg) = 0 → ((p0 = 0 → (q_X2_copyFrom v_course_known v_firstImage_known v_firstImage_rows v_course_rows (fun (u_6 : Int32) (u_7 : Nat → Int32) => q_X2_year u_7 (fun (r_8 : Int32) => Q r_8 u_6 u_7)))) ∧ (¬ p0 = 0 → (q_X2_copyFrom v_course_known v_secondImage_known v_secondImage_rows v_course_rows (fun (u_9 : Int32) (u_10 : Nat → Int32) => q_X2_year u_10 (fun (r_11 : Int32) => Q r_11 u_9 u_10)))))) ∧ ((v_imageKept (p0).toNatClampNeg) = 0 → (Q (-2 : Int32) v_course_known v_course_rows))))) ∧ (r_1 = 0 → (Q (-1 : Int32) v_course_known v_course_rows)))
def q_X6_back (v_imageKept : Nat → Int32) (v_firstImage_known : Int32) (v_course_known : Int32) (v_firstImage_rows : Nat → Int32) (v_course_rows : Nat → Int32) (v_secondImage_known : Int32) (v_secondImage_rows : Nat → Int32) (p0 : Int32) (Q : Int32 → Int32 → (Nat → Int32) → Prop) : Prop := F_X6_back_e v_imageKept v_firstImage_known v_firstImage_rows v_secondImage_known v_secondImage_rows p0 Q v_course_known v_course_rows
theorem iwX6_back_X6 : ∀ w ∈ wsX60, w ∈ wsX6_back := by decide +kernel
theorem hdV_X6_back : yX6_back.cls = RX6 ∧ yX6_back.cls ≠ "java/lang/invoke/MethodHandle" ∧ yX6_back.cls ≠ "java/lang/invoke/VarHandle" ∧ (parseMethodDescriptor yX6_back.desc).map (fun d => d.parameters.length) = some 1 := by decide +kernel
set_option maxHeartbeats 4000000 in
set_option maxRecDepth 100000 in
theorem c_X6_back (l : Launch) (dC : Nat → ClassId) (dI : Nat → Nat → Nat) (cyC cyI cyZ : ClassId) (sz : Nat) (a a_reader a_told a_draft a_course a_firstImage a_secondImage a_imageKept a_bestDigs a_heard a_firstImage_rows a_course_rows a_secondImage_rows : Nat) (v_traced : Int64) (v_imageKept : Nat → Int32) (v_firstImage_known : Int32) (v_course_known : Int32) (v_firstImage_rows : Nat → Int32) (v_course_rows : Nat → Int32) (v_secondImage_known : Int32) (v_secondImage_rows : Nat → Int32) (p0 : Int32) {Q : Int32 → Int32 → (Nat → Int32) → Prop} (h : q_X6_back v_imageKept v_firstImage_known v_course_known v_firstImage_rows v_course_rows v_secondImage_known v_secondImage_rows p0 Q) : Met l yX6_back wsX6_back ({ frames := 2, cells := 0, slots := 0, locals := 61 }) (gPc [.ref a, .int p0] (dC, dI) (gTy cyC cyI cyZ) sz [(a, .inr (6, [.ref a_reader, .ref a_told, .ref a_draft, .ref a_course, .ref a_firstImage, .ref a_secondImage, .ref a_imageKept, .ref a_bestDigs, .ref a_heard, .long v_traced])), (a_imageKept, .inl (cyZ, 2, .inl v_imageKept)), (a_firstImage, .inr (2, [.ref a_firstImage_rows, .int v_firstImage_known])), (a_course, .inr (2, [.ref a_course_rows, .int v_course_known])), (a_firstImage_rows, .inl (cyI, 165, .inl v_firstImage_rows)), (a_course_rows, .inl (cyI, 165, .inl v_course_rows)), (a_secondImage, .inr (2, [.ref a_secondImage_rows, .int v_secondImage_known])), (a_secondImage_rows, .inl (cyI, 165, .inl v_secondImage_rows))]) (gQi2 Q (dC, dI) (va_A [(a, .inr (6, [.ref a_reader, .ref a_told, .ref a_draft, .ref a_course, .ref a_firstImage, .ref a_secondImage, .ref a_imageKept, .ref a_bestDigs, .ref a_heard, .long v_traced])), (a_imageKept, .inl (cyZ, 2, .inl v_imageKept)), (a_firstImage, .inr (2, [.ref a_firstImage_rows, .int v_firstImage_known])), (a_course, .inr (2, [.ref a_course_rows, .int v_course_known])), (a_firstImage_rows, .inl (cyI, 165, .inl v_firstImage_rows)), (a_course_rows, .inl (cyI, 165, .inl v_course_rows)), (a_secondImage, .inr (2, [.ref a_secondImage_rows, .int v_secondImage_known])), (a_secondImage_rows, .inl (cyI, 165, .inl v_secondImage_rows))] sz) (fun (u1 : Int32) (u2 : Nat → Int32) => [(a, .inr (6, [.ref a_reader, .ref a_told, .ref a_draft, .ref a_course, .ref a_firstImage, .ref a_secondImage, .ref a_imageKept, .ref a_bestDigs, .ref a_heard, .long v_traced])), (a_imageKept, .inl (cyZ, 2, .inl v_imageKept)), (a_firstImage, .inr (2, [.ref a_firstImage_rows, .int v_firstImage_known])), (a_course, .inr (2, [.ref a_course_rows, .int u1])), (a_firstImage_rows, .inl (cyI, 165, .inl v_firstImage_rows)), (a_course_rows, .inl (cyI, 165, .inl u2)), (a_secondImage, .inr (2, [.ref a_secondImage_rows, .int v_secondImage_known])), (a_secondImage_rows, .inl (cyI, 165, .inl v_secondImage_rows))])) 0 0 (va_A [(a, .inr (6, [.ref a_reader, .ref a_told, .ref a_draft, .ref a_course, .ref a_firstImage, .ref a_secondImage, .ref a_imageKept, .ref a_bestDigs, .ref a_heard, .long v_traced])), (a_imageKept, .inl (cyZ, 2, .inl v_imageKept)), (a_firstImage, .inr (2, [.ref a_firstImage_rows, .int v_firstImage_known])), (a_course, .inr (2, [.ref a_course_rows, .int v_course_known])), (a_firstImage_rows, .inl (cyI, 165, .inl v_firstImage_rows)), (a_course_rows, .inl (cyI, 165, .inl v_course_rows)), (a_secondImage, .inr (2, [.ref a_secondImage_rows, .int v_secondImage_known])), (a_secondImage_rows, .inl (cyI, 165, .inl v_secondImage_rows))] sz) := by
  refine gMet (cc := cX6_back) (maxL := 2) (ret := (some .int)) (own := RX6) (fun A => gQi2 Q (dC, dI) A (fun (u1 : Int32) (u2 : Nat → Int32) => [(a, .inr (6, [.ref a_reader, .ref a_told, .ref a_draft, .ref a_course, .ref a_firstImage, .ref a_secondImage, .ref a_imageKept, .ref a_bestDigs, .ref a_heard, .long v_traced])), (a_imageKept, .inl (cyZ, 2, .inl v_imageKept)), (a_firstImage, .inr (2, [.ref a_firstImage_rows, .int v_firstImage_known])), (a_course, .inr (2, [.ref a_course_rows, .int u1])), (a_firstImage_rows, .inl (cyI, 165, .inl v_firstImage_rows)), (a_course_rows, .inl (cyI, 165, .inl u2)), (a_secondImage, .inr (2, [.ref a_secondImage_rows, .int v_secondImage_known])), (a_secondImage_rows, .inl (cyI, 165, .inl v_secondImage_rows))])) (by decide) rfl rfl (Nat.le_of_ble_eq_true rfl) ?_
  intro p e s m below meth c A ls C0 _ hK hN hP hD hA hl
  obtain ⟨hx, hb, hr, hml, hown, hts, hlocks⟩ := id C0
  have f29 := hts (.fieldLink RX6 29 "LastOchre" "course" "LLastOchre$Course;") (by decide +kernel)
  have f39 := hts (.fieldLink RX6 39 "LastOchre" "imageKept" "[Z") (by decide +kernel)
  have hS : va_S A s.heap s.heap [] := va_S.rf
  replace hl : lv_has ls 2 [(0, .ref a), (1, .int p0)] := hl
  unfold q_X6_back at h
  unfold F_X6_back_e at h
  refine lv_iload_n hx hb dX6_back_0 rfl (lv_at hl 1 rfl) ?_
  refine lv_iconst (v := 0) hx hb dX6_back_1 (by decide) ?_
  refine lv_iconst (v := 1) hx hb dX6_back_2 (by decide) ?_
  refine gS_i0 (As := [.int p0, .int (0 : Int32), .int (1 : Int32)]) (rest := []) ⟨hx, hb, hml, hown, hts⟩ (c_X6_within l dC dI cyC cyI cyZ _ p0 (0 : Int32) (1 : Int32) h) (va_cwS 3 hts gX6_back_X6_within rfl rfl rfl hdS_X6_within ⟨Nat.le_of_ble_eq_true rfl, Nat.le_of_ble_eq_true rfl⟩) hK hN hP hD hS hA [] (by decide) rfl rfl hl.1 rfl (Nat.le_of_ble_eq_true rfl) dX6_back_3 ⟨Nat.zero_le _, Nat.zero_le _⟩ (fun r_1 H locs h hP hS => ?_)
  refine lv_if_ne (tgt := 11) hx hb dX6_back_6 (by decide) (fun c_2 => ?_) (fun c_2 => ?_)
  · replace h := h.1 c_2
    refine lv_aload_n hx hb dX6_back_11 rfl (lv_at hl 0 rfl) ?_
    refine va_get (D := (dC, dI)) (ci := 6) (v := .ref a_imageKept) (C := RX6) (T := TX6) (N := 10) hx hb hts iwX6_back_X6 hown hK hP 0 rfl rfl 6 (by decide) f39 (fun _ h9 => h9) rfl dX6_back_12 ?_
    refine lv_iload_n hx hb dX6_back_15 rfl (lv_at hl 1 rfl) ?_
    have g_3 := h.1
    replace h := h.2
    refine va_zald hx hb hK hP 1 2 rfl rfl g_3 dX6_back_16 ?_
    refine lv_if_ne (tgt := 23) hx hb dX6_back_17 (by decide) (fun c_4 => ?_) (fun c_4 => ?_)
    · replace h := h.1 c_4
      refine lv_aload_n hx hb dX6_back_23 rfl (lv_at hl 0 rfl) ?_
      refine va_get (D := (dC, dI)) (ci := 6) (v := .ref a_course) (C := RX6) (T := TX6) (N := 10) hx hb hts iwX6_back_X6 hown hK hP 0 rfl rfl 3 (by decide) f29 (fun _ h9 => h9) rfl dX6_back_24 ?_
      refine lv_aload_n hx hb dX6_back_27 rfl (lv_at hl 0 rfl) ?_
      refine lv_iload_n hx hb dX6_back_28 rfl (lv_at hl 1 rfl) ?_
      refine gV_r0 (As := [.int p0]) (rest := [.ref a_course]) ⟨hx, hb, hml, hown, hts⟩ (c_X6_imageOf l dC dI cyC cyI cyZ _ a a_reader a_told a_draft a_course a_firstImage a_secondImage a_imageKept a_bestDigs a_heard v_traced p0) (cwV 1 hts gX6_back_X6_imageOf rfl rfl rfl hdV_X6_imageOf ⟨Nat.le_of_ble_eq_true rfl, Nat.le_of_ble_eq_true rfl⟩) hK hN hP hD hS hA [0] (by decide) rfl (ci := 6) rfl rfl rfl hl.1 rfl (Nat.le_of_ble_eq_true rfl) dX6_back_29 ⟨Nat.zero_le _, Nat.zero_le _⟩ (fun ra H locs hra hP hS => ?_)
      rcases hra with ⟨c_5, hra⟩ | ⟨c_5, hra⟩ <;> rw [hra]
      · replace h := h.1 c_5
        refine gV_v2 (As := [.ref a_firstImage]) (rest := []) ⟨hx, hb, hml, hown, hts⟩ (c_X2_copyFrom l dC dI cyC cyI cyZ _ a_course a_course_rows a_firstImage a_firstImage_rows v_course_known v_firstImage_known v_firstImage_rows v_course_rows h) (cwV 1 hts gX6_back_X2_copyFrom rfl rfl rfl hdV_X2_copyFrom ⟨Nat.le_of_ble_eq_true rfl, Nat.le_of_ble_eq_true rfl⟩) hK hN hP hD hS hA [3, 2, 4, 5] (by decide) rfl (ci := 2) rfl rfl rfl hl.1 rfl (Nat.le_of_ble_eq_true rfl) dX6_back_32 ⟨Nat.zero_le _, Nat.zero_le _⟩ (wr := [(a, .inr (6, [.ref a_reader, .ref a_told, .ref a_draft, .ref a_course, .ref a_firstImage, .ref a_secondImage, .ref a_imageKept, .ref a_bestDigs, .ref a_heard, .long v_traced])), (a_imageKept, .inl (cyZ, 2, .inl v_imageKept)), (a_secondImage, .inr (2, [.ref a_secondImage_rows, .int v_secondImage_known])), (a_secondImage_rows, .inl (cyI, 165, .inl v_secondImage_rows))]) [0, 1, 6, 7] rfl (by decide) (by decide) (fun u_6 u_7 H locs h hP hD hS => ?_)
        replace hP : va_P (dC, dI) vwCl [(a, .inr (6, [.ref a_reader, .ref a_told, .ref a_draft, .ref a_course, .ref a_firstImage, .ref a_secondImage, .ref a_imageKept, .ref a_bestDigs, .ref a_heard, .long v_traced])), (a_imageKept, .inl (cyZ, 2, .inl v_imageKept)), (a_secondImage, .inr (2, [.ref a_secondImage_rows, .int v_secondImage_known])), (a_secondImage_rows, .inl (cyI, 165, .inl v_secondImage_rows)), (a_course, .inr (2, [.ref a_course_rows, .int u_6])), (a_firstImage, .inr (2, [.ref a_firstImage_rows, .int v_firstImage_known])), (a_firstImage_rows, .inl (cyI, 165, .inl v_firstImage_rows)), (a_course_rows, .inl (cyI, 165, .inl u_7))] H := hP
        replace hD : va_D A [(a, .inr (6, [.ref a_reader, .ref a_told, .ref a_draft, .ref a_course, .ref a_firstImage, .ref a_secondImage, .ref a_imageKept, .ref a_bestDigs, .ref a_heard, .long v_traced])), (a_imageKept, .inl (cyZ, 2, .inl v_imageKept)), (a_secondImage, .inr (2, [.ref a_secondImage_rows, .int v_secondImage_known])), (a_secondImage_rows, .inl (cyI, 165, .inl v_secondImage_rows)), (a_course, .inr (2, [.ref a_course_rows, .int u_6])), (a_firstImage, .inr (2, [.ref a_firstImage_rows, .int v_firstImage_known])), (a_firstImage_rows, .inl (cyI, 165, .inl v_firstImage_rows)), (a_course_rows, .inl (cyI, 165, .inl u_7))] := hD
        refine lv_aload_n hx hb dX6_back_35 rfl (lv_at hl 0 rfl) ?_
        refine va_get (D := (dC, dI)) (ci := 6) (v := .ref a_course) (C := RX6) (T := TX6) (N := 10) hx hb hts iwX6_back_X6 hown hK hP 0 rfl rfl 3 (by decide) f29 (fun _ h9 => h9) rfl dX6_back_36 ?_
        refine gV_i0 (As := []) (rest := []) ⟨hx, hb, hml, hown, hts⟩ (c_X2_year l dC dI cyC cyI cyZ _ a_course a_course_rows u_6 u_7 h) (cwV 0 hts gX6_back_X2_year rfl rfl rfl hdV_X2_year ⟨Nat.le_of_ble_eq_true rfl, Nat.le_of_ble_eq_true rfl⟩) hK hN hP hD hS hA [4, 7] (by decide) rfl (ci := 2) rfl rfl rfl hl.1 rfl (Nat.le_of_ble_eq_true rfl) dX6_back_39 ⟨Nat.zero_le _, Nat.zero_le _⟩ (fun r_8 H locs h hP hS => ?_)
        exact gri2 hx hb hr hlocks h (hP.sub (ws' := [(a, .inr (6, [.ref a_reader, .ref a_told, .ref a_draft, .ref a_course, .ref a_firstImage, .ref a_secondImage, .ref a_imageKept, .ref a_bestDigs, .ref a_heard, .long v_traced])), (a_imageKept, .inl (cyZ, 2, .inl v_imageKept)), (a_firstImage, .inr (2, [.ref a_firstImage_rows, .int v_firstImage_known])), (a_course, .inr (2, [.ref a_course_rows, .int u_6])), (a_firstImage_rows, .inl (cyI, 165, .inl v_firstImage_rows)), (a_course_rows, .inl (cyI, 165, .inl u_7)), (a_secondImage, .inr (2, [.ref a_secondImage_rows, .int v_secondImage_known])), (a_secondImage_rows, .inl (cyI, 165, .inl v_secondImage_rows))]) [0, 1, 5, 4, 6, 7, 2, 3] rfl) (hD.sub (ws' := [(a, .inr (6, [.ref a_reader, .ref a_told, .ref a_draft, .ref a_course, .ref a_firstImage, .ref a_secondImage, .ref a_imageKept, .ref a_bestDigs, .ref a_heard, .long v_traced])), (a_imageKept, .inl (cyZ, 2, .inl v_imageKept)), (a_firstImage, .inr (2, [.ref a_firstImage_rows, .int v_firstImage_known])), (a_course, .inr (2, [.ref a_course_rows, .int u_6])), (a_firstImage_rows, .inl (cyI, 165, .inl v_firstImage_rows)), (a_course_rows, .inl (cyI, 165, .inl u_7)), (a_secondImage, .inr (2, [.ref a_secondImage_rows, .int v_secondImage_known])), (a_secondImage_rows, .inl (cyI, 165, .inl v_secondImage_rows))]) [0, 1, 5, 4, 6, 7, 2, 3] (by decide) rfl) hS dX6_back_42
      · replace h := h.2 c_5
        refine gV_v2 (As := [.ref a_secondImage]) (rest := []) ⟨hx, hb, hml, hown, hts⟩ (c_X2_copyFrom l dC dI cyC cyI cyZ _ a_course a_course_rows a_secondImage a_secondImage_rows v_course_known v_secondImage_known v_secondImage_rows v_course_rows h) (cwV 1 hts gX6_back_X2_copyFrom rfl rfl rfl hdV_X2_copyFrom ⟨Nat.le_of_ble_eq_true rfl, Nat.le_of_ble_eq_true rfl⟩) hK hN hP hD hS hA [3, 6, 7, 5] (by decide) rfl (ci := 2) rfl rfl rfl hl.1 rfl (Nat.le_of_ble_eq_true rfl) dX6_back_32 ⟨Nat.zero_le _, Nat.zero_le _⟩ (wr := [(a, .inr (6, [.ref a_reader, .ref a_told, .ref a_draft, .ref a_course, .ref a_firstImage, .ref a_secondImage, .ref a_imageKept, .ref a_bestDigs, .ref a_heard, .long v_traced])), (a_imageKept, .inl (cyZ, 2, .inl v_imageKept)), (a_firstImage, .inr (2, [.ref a_firstImage_rows, .int v_firstImage_known])), (a_firstImage_rows, .inl (cyI, 165, .inl v_firstImage_rows))]) [0, 1, 2, 4] rfl (by decide) (by decide) (fun u_9 u_10 H locs h hP hD hS => ?_)
        replace hP : va_P (dC, dI) vwCl [(a, .inr (6, [.ref a_reader, .ref a_told, .ref a_draft, .ref a_course, .ref a_firstImage, .ref a_secondImage, .ref a_imageKept, .ref a_bestDigs, .ref a_heard, .long v_traced])), (a_imageKept, .inl (cyZ, 2, .inl v_imageKept)), (a_firstImage, .inr (2, [.ref a_firstImage_rows, .int v_firstImage_known])), (a_firstImage_rows, .inl (cyI, 165, .inl v_firstImage_rows)), (a_course, .inr (2, [.ref a_course_rows, .int u_9])), (a_secondImage, .inr (2, [.ref a_secondImage_rows, .int v_secondImage_known])), (a_secondImage_rows, .inl (cyI, 165, .inl v_secondImage_rows)), (a_course_rows, .inl (cyI, 165, .inl u_10))] H := hP
        replace hD : va_D A [(a, .inr (6, [.ref a_reader, .ref a_told, .ref a_draft, .ref a_course, .ref a_firstImage, .ref a_secondImage, .ref a_imageKept, .ref a_bestDigs, .ref a_heard, .long v_traced])), (a_imageKept, .inl (cyZ, 2, .inl v_imageKept)), (a_firstImage, .inr (2, [.ref a_firstImage_rows, .int v_firstImage_known])), (a_firstImage_rows, .inl (cyI, 165, .inl v_firstImage_rows)), (a_course, .inr (2, [.ref a_course_rows, .int u_9])), (a_secondImage, .inr (2, [.ref a_secondImage_rows, .int v_secondImage_known])), (a_secondImage_rows, .inl (cyI, 165, .inl v_secondImage_rows)), (a_course_rows, .inl (cyI, 165, .inl u_10))] := hD
        refine lv_aload_n hx hb dX6_back_35 rfl (lv_at hl 0 rfl) ?_
        refine va_get (D := (dC, dI)) (ci := 6) (v := .ref a_course) (C := RX6) (T := TX6) (N := 10) hx hb hts iwX6_back_X6 hown hK hP 0 rfl rfl 3 (by decide) f29 (fun _ h9 => h9) rfl dX6_back_36 ?_
        refine gV_i0 (As := []) (rest := []) ⟨hx, hb, hml, hown, hts⟩ (c_X2_year l dC dI cyC cyI cyZ _ a_course a_course_rows u_9 u_10 h) (cwV 0 hts gX6_back_X2_year rfl rfl rfl hdV_X2_year ⟨Nat.le_of_ble_eq_true rfl, Nat.le_of_ble_eq_true rfl⟩) hK hN hP hD hS hA [4, 7] (by decide) rfl (ci := 2) rfl rfl rfl hl.1 rfl (Nat.le_of_ble_eq_true rfl) dX6_back_39 ⟨Nat.zero_le _, Nat.zero_le _⟩ (fun r_11 H locs h hP hS => ?_)
        exact gri2 hx hb hr hlocks h (hP.sub (ws' := [(a, .inr (6, [.ref a_reader, .ref a_told, .ref a_draft, .ref a_course, .ref a_firstImage, .ref a_secondImage, .ref a_imageKept, .ref a_bestDigs, .ref a_heard, .long v_traced])), (a_imageKept, .inl (cyZ, 2, .inl v_imageKept)), (a_firstImage, .inr (2, [.ref a_firstImage_rows, .int v_firstImage_known])), (a_course, .inr (2, [.ref a_course_rows, .int u_9])), (a_firstImage_rows, .inl (cyI, 165, .inl v_firstImage_rows)), (a_course_rows, .inl (cyI, 165, .inl u_10)), (a_secondImage, .inr (2, [.ref a_secondImage_rows, .int v_secondImage_known])), (a_secondImage_rows, .inl (cyI, 165, .inl v_secondImage_rows))]) [0, 1, 2, 4, 3, 7, 5, 6] rfl) (hD.sub (ws' := [(a, .inr (6, [.ref a_reader, .ref a_told, .ref a_draft, .ref a_course, .ref a_firstImage, .ref a_secondImage, .ref a_imageKept, .ref a_bestDigs, .ref a_heard, .long v_traced])), (a_imageKept, .inl (cyZ, 2, .inl v_imageKept)), (a_firstImage, .inr (2, [.ref a_firstImage_rows, .int v_firstImage_known])), (a_course, .inr (2, [.ref a_course_rows, .int u_9])), (a_firstImage_rows, .inl (cyI, 165, .inl v_firstImage_rows)), (a_course_rows, .inl (cyI, 165, .inl u_10)), (a_secondImage, .inr (2, [.ref a_secondImage_rows, .int v_secondImage_known])), (a_secondImage_rows, .inl (cyI, 165, .inl v_secondImage_rows))]) [0, 1, 2, 4, 3, 7, 5, 6] (by decide) rfl) hS dX6_back_42
    · replace h := h.2 c_4
      refine lv_bipush (v := -2) hx hb dX6_back_20 (by decide) ?_
      exact gri2 hx hb hr hlocks h hP hD hS dX6_back_22
  · replace h := h.2 c_2
    refine lv_iconst (v := -1) hx hb dX6_back_9 (by decide) ?_
    exact gri2 hx hb hr hlocks h hP hD hS dX6_back_10

def F_X6_count_e (v_told_bound : Int32) (v_told_loss : Int32) (v_told_things : Int32) (v_told_seam_w : Int32) (v_told_seam_h : Int32) (v_heard_length : Int32) (v_course_known : Int32) (v_reader_length : Int32) (p0 : Int32) (Q : Int32 → Prop)  : Prop :=
  (p0 = (0 : Int32) → (Q v_told_seam_w)) ∧ (p0 = (1 : Int32) → (Q v_told_seam_h)) ∧ (p0 = (2 : Int32) → (Q v_told_things)) ∧ (p0 = (3 : Int32) → (Q v_told_bound)) ∧ (p0 = (4 : Int32) → (Q v_told_loss)) ∧ (p0 = (5 : Int32) → (Q v_heard_length)) ∧ (p0 = (6 : Int32) → (Q v_course_known)) ∧ (p0 = (7 : Int32) → (Q v_reader_length)) ∧ ((¬ p0 = (0 : Int32) ∧ ¬ p0 = (1 : Int32) ∧ ¬ p0 = (2 : Int32) ∧ ¬ p0 = (3 : Int32) ∧ ¬ p0 = (4 : Int32) ∧ ¬ p0 = (5 : Int32) ∧ ¬ p0 = (6 : Int32) ∧ ¬ p0 = (7 : Int32)) → (Q (-1 : Int32)))
def q_X6_count (v_told_bound : Int32) (v_told_loss : Int32) (v_told_things : Int32) (v_told_seam_w : Int32) (v_told_seam_h : Int32) (v_heard_length : Int32) (v_course_known : Int32) (v_reader_length : Int32) (p0 : Int32) (Q : Int32 → Prop) : Prop := F_X6_count_e v_told_bound v_told_loss v_told_things v_told_seam_w v_told_seam_h v_heard_length v_course_known v_reader_length p0 Q 
theorem iwX6_count_X1 : ∀ w ∈ wsX10, w ∈ wsX6_count := by decide +kernel
theorem iwX6_count_X2 : ∀ w ∈ wsX20, w ∈ wsX6_count := by decide +kernel
theorem iwX6_count_X3 : ∀ w ∈ wsX30, w ∈ wsX6_count := by decide +kernel
theorem iwX6_count_X4 : ∀ w ∈ wsX40, w ∈ wsX6_count := by decide +kernel
theorem iwX6_count_X5 : ∀ w ∈ wsX50, w ∈ wsX6_count := by decide +kernel
theorem iwX6_count_X6 : ∀ w ∈ wsX60, w ∈ wsX6_count := by decide +kernel
theorem hdV_X6_count : yX6_count.cls = RX6 ∧ yX6_count.cls ≠ "java/lang/invoke/MethodHandle" ∧ yX6_count.cls ≠ "java/lang/invoke/VarHandle" ∧ (parseMethodDescriptor yX6_count.desc).map (fun d => d.parameters.length) = some 1 := by decide +kernel
set_option maxHeartbeats 4000000 in
set_option maxRecDepth 100000 in
theorem c_X6_count (l : Launch) (dC : Nat → ClassId) (dI : Nat → Nat → Nat) (cyC cyI cyZ : ClassId) (sz : Nat) (a a_reader a_told a_draft a_course a_firstImage a_secondImage a_imageKept a_bestDigs a_heard a_told_seam a_told_yellow a_told_white a_told_fades a_told_worth a_told_seam_parts a_heard_parts a_heard_path a_heard_firstRow a_course_rows a_reader_bytes : Nat) (v_traced : Int64) (v_told_seamTold : Int32) (v_told_boundTold : Int32) (v_told_lossTold : Int32) (v_told_bound : Int32) (v_told_loss : Int32) (v_told_things : Int32) (v_told_seam_w : Int32) (v_told_seam_h : Int32) (v_told_seam_all : Int32) (v_told_seam_top : Int32) (v_told_seam_left : Int32) (v_told_seam_right : Int32) (v_heard_length : Int32) (v_heard_found : Int32) (v_heard_inEach : Int32) (v_heard_lookedFrom : Int32) (v_course_known : Int32) (v_reader_length : Int32) (v_reader_place : Int32) (v_reader_tokenStart : Int32) (p0 : Int32) {Q : Int32 → Prop} (h : q_X6_count v_told_bound v_told_loss v_told_things v_told_seam_w v_told_seam_h v_heard_length v_course_known v_reader_length p0 Q) : Met l yX6_count wsX6_count ({ frames := 0, cells := 0, slots := 0, locals := 0 }) (gPc [.ref a, .int p0] (dC, dI) (gTy cyC cyI cyZ) sz [(a, .inr (6, [.ref a_reader, .ref a_told, .ref a_draft, .ref a_course, .ref a_firstImage, .ref a_secondImage, .ref a_imageKept, .ref a_bestDigs, .ref a_heard, .long v_traced])), (a_told, .inr (5, [.ref a_told_seam, .int v_told_seamTold, .int v_told_boundTold, .int v_told_lossTold, .int v_told_bound, .int v_told_loss, .int v_told_things, .ref a_told_yellow, .ref a_told_white, .ref a_told_fades, .ref a_told_worth])), (a_told_seam, .inr (4, [.int v_told_seam_w, .int v_told_seam_h, .ref a_told_seam_parts, .int v_told_seam_all, .int v_told_seam_top, .int v_told_seam_left, .int v_told_seam_right])), (a_heard, .inr (1, [.ref a_heard_parts, .int v_heard_length, .ref a_heard_path, .ref a_heard_firstRow, .int v_heard_found, .int v_heard_inEach, .int v_heard_lookedFrom])), (a_course, .inr (2, [.ref a_course_rows, .int v_course_known])), (a_reader, .inr (3, [.ref a_reader_bytes, .int v_reader_length, .int v_reader_place, .int v_reader_tokenStart]))]) (gQi0 Q (dC, dI) (va_A [(a, .inr (6, [.ref a_reader, .ref a_told, .ref a_draft, .ref a_course, .ref a_firstImage, .ref a_secondImage, .ref a_imageKept, .ref a_bestDigs, .ref a_heard, .long v_traced])), (a_told, .inr (5, [.ref a_told_seam, .int v_told_seamTold, .int v_told_boundTold, .int v_told_lossTold, .int v_told_bound, .int v_told_loss, .int v_told_things, .ref a_told_yellow, .ref a_told_white, .ref a_told_fades, .ref a_told_worth])), (a_told_seam, .inr (4, [.int v_told_seam_w, .int v_told_seam_h, .ref a_told_seam_parts, .int v_told_seam_all, .int v_told_seam_top, .int v_told_seam_left, .int v_told_seam_right])), (a_heard, .inr (1, [.ref a_heard_parts, .int v_heard_length, .ref a_heard_path, .ref a_heard_firstRow, .int v_heard_found, .int v_heard_inEach, .int v_heard_lookedFrom])), (a_course, .inr (2, [.ref a_course_rows, .int v_course_known])), (a_reader, .inr (3, [.ref a_reader_bytes, .int v_reader_length, .int v_reader_place, .int v_reader_tokenStart]))] sz) [(a, .inr (6, [.ref a_reader, .ref a_told, .ref a_draft, .ref a_course, .ref a_firstImage, .ref a_secondImage, .ref a_imageKept, .ref a_bestDigs, .ref a_heard, .long v_traced])), (a_told, .inr (5, [.ref a_told_seam, .int v_told_seamTold, .int v_told_boundTold, .int v_told_lossTold, .int v_told_bound, .int v_told_loss, .int v_told_things, .ref a_told_yellow, .ref a_told_white, .ref a_told_fades, .ref a_told_worth])), (a_told_seam, .inr (4, [.int v_told_seam_w, .int v_told_seam_h, .ref a_told_seam_parts, .int v_told_seam_all, .int v_told_seam_top, .int v_told_seam_left, .int v_told_seam_right])), (a_heard, .inr (1, [.ref a_heard_parts, .int v_heard_length, .ref a_heard_path, .ref a_heard_firstRow, .int v_heard_found, .int v_heard_inEach, .int v_heard_lookedFrom])), (a_course, .inr (2, [.ref a_course_rows, .int v_course_known])), (a_reader, .inr (3, [.ref a_reader_bytes, .int v_reader_length, .int v_reader_place, .int v_reader_tokenStart]))]) 0 0 (va_A [(a, .inr (6, [.ref a_reader, .ref a_told, .ref a_draft, .ref a_course, .ref a_firstImage, .ref a_secondImage, .ref a_imageKept, .ref a_bestDigs, .ref a_heard, .long v_traced])), (a_told, .inr (5, [.ref a_told_seam, .int v_told_seamTold, .int v_told_boundTold, .int v_told_lossTold, .int v_told_bound, .int v_told_loss, .int v_told_things, .ref a_told_yellow, .ref a_told_white, .ref a_told_fades, .ref a_told_worth])), (a_told_seam, .inr (4, [.int v_told_seam_w, .int v_told_seam_h, .ref a_told_seam_parts, .int v_told_seam_all, .int v_told_seam_top, .int v_told_seam_left, .int v_told_seam_right])), (a_heard, .inr (1, [.ref a_heard_parts, .int v_heard_length, .ref a_heard_path, .ref a_heard_firstRow, .int v_heard_found, .int v_heard_inEach, .int v_heard_lookedFrom])), (a_course, .inr (2, [.ref a_course_rows, .int v_course_known])), (a_reader, .inr (3, [.ref a_reader_bytes, .int v_reader_length, .int v_reader_place, .int v_reader_tokenStart]))] sz) := by
  refine gMet (cc := cX6_count) (maxL := 2) (ret := (some .int)) (own := RX6) (fun A => gQi0 Q (dC, dI) A [(a, .inr (6, [.ref a_reader, .ref a_told, .ref a_draft, .ref a_course, .ref a_firstImage, .ref a_secondImage, .ref a_imageKept, .ref a_bestDigs, .ref a_heard, .long v_traced])), (a_told, .inr (5, [.ref a_told_seam, .int v_told_seamTold, .int v_told_boundTold, .int v_told_lossTold, .int v_told_bound, .int v_told_loss, .int v_told_things, .ref a_told_yellow, .ref a_told_white, .ref a_told_fades, .ref a_told_worth])), (a_told_seam, .inr (4, [.int v_told_seam_w, .int v_told_seam_h, .ref a_told_seam_parts, .int v_told_seam_all, .int v_told_seam_top, .int v_told_seam_left, .int v_told_seam_right])), (a_heard, .inr (1, [.ref a_heard_parts, .int v_heard_length, .ref a_heard_path, .ref a_heard_firstRow, .int v_heard_found, .int v_heard_inEach, .int v_heard_lookedFrom])), (a_course, .inr (2, [.ref a_course_rows, .int v_course_known])), (a_reader, .inr (3, [.ref a_reader_bytes, .int v_reader_length, .int v_reader_place, .int v_reader_tokenStart]))]) (by decide) rfl rfl (Nat.le_of_ble_eq_true rfl) ?_
  intro p e s m below meth c A ls C0 _ hK hN hP hD hA hl
  obtain ⟨hx, hb, hr, hml, hown, hts, hlocks⟩ := id C0
  have f10 := hts (.fieldLink RX6 10 "LastOchre" "reader" "LLastOchre$Reader;") (by decide +kernel)
  have f159 := hN.link (args := ([.ref a, .int p0].toArray)) (w := .fieldLinkNest RX6 159 "LastOchre$Told" "things" "I" "LastOchre") 19 rfl
  have f176 := hN.link (args := ([.ref a, .int p0].toArray)) (w := .fieldLinkNest RX6 176 "LastOchre$Course" "known" "I" "LastOchre") 28 rfl
  have f19 := hts (.fieldLink RX6 19 "LastOchre" "told" "LLastOchre$Told;") (by decide +kernel)
  have f216 := hN.link (args := ([.ref a, .int p0].toArray)) (w := .fieldLinkNest RX6 216 "LastOchre$Told" "bound" "I" "LastOchre") 14 rfl
  have f240 := hN.link (args := ([.ref a, .int p0].toArray)) (w := .fieldLinkNest RX6 240 "LastOchre$Came" "length" "I" "LastOchre") 31 rfl
  have f281 := hN.link (args := ([.ref a, .int p0].toArray)) (w := .fieldLinkNest RX6 281 "LastOchre$Seam" "w" "I" "LastOchre") 1 rfl
  have f284 := hN.link (args := ([.ref a, .int p0].toArray)) (w := .fieldLinkNest RX6 284 "LastOchre$Seam" "h" "I" "LastOchre") 2 rfl
  have f287 := hN.link (args := ([.ref a, .int p0].toArray)) (w := .fieldLinkNest RX6 287 "LastOchre$Told" "loss" "I" "LastOchre") 16 rfl
  have f29 := hts (.fieldLink RX6 29 "LastOchre" "course" "LLastOchre$Course;") (by decide +kernel)
  have f53 := hts (.fieldLink RX6 53 "LastOchre" "heard" "LLastOchre$Came;") (by decide +kernel)
  have f69 := hN.link (args := ([.ref a, .int p0].toArray)) (w := .fieldLinkNest RX6 69 "LastOchre$Reader" "length" "I" "LastOchre") 0 rfl
  have f85 := hN.link (args := ([.ref a, .int p0].toArray)) (w := .fieldLinkNest RX6 85 "LastOchre$Told" "seam" "LLastOchre$Seam;" "LastOchre") 8 rfl
  have hS : va_S A s.heap s.heap [] := va_S.rf
  replace hl : lv_has ls 2 [(0, .ref a), (1, .int p0)] := hl
  unfold q_X6_count at h
  unfold F_X6_count_e at h
  refine lv_iload_n hx hb dX6_count_0 rfl (lv_at hl 1 rfl) ?_
  refine (Classical.em (p0 = (0 : Int32))).elim (fun c_1 => ?_) (fun c_1 => ?_)
  · replace h := h.1 c_1
    refine lv_tableIn (off := 47) (tgt := 48) hx hb dX6_count_1 (by rw [c_1]; decide) (by rw [c_1]; decide) (by rw [c_1]; rfl) (by decide) ?_
    refine lv_aload_n hx hb dX6_count_48 rfl (lv_at hl 0 rfl) ?_
    refine va_get (D := (dC, dI)) (ci := 6) (v := .ref a_told) (C := RX6) (T := TX6) (N := 10) hx hb hts iwX6_count_X6 hown hK hP 0 rfl rfl 1 (by decide) f19 (fun _ h9 => h9) rfl dX6_count_49 ?_
    refine va_getN (host := "LastOchre") (D := (dC, dI)) (ci := 5) (v := .ref a_told_seam) (C := RX5) (T := TX5) (N := 11) hx hb hts iwX6_count_X5 hown hK hP 1 rfl rfl 0 (by decide) f85 (fun _ h9 => h9) rfl dX6_count_52 ?_
    refine va_getN (host := "LastOchre") (D := (dC, dI)) (ci := 4) (v := .int v_told_seam_w) (C := RX4) (T := TX4) (N := 7) hx hb hts iwX6_count_X4 hown hK hP 2 rfl rfl 0 (by decide) f281 (fun _ h9 => h9) rfl dX6_count_55 ?_
    exact gri0 hx hb hr hlocks h hP hD hS dX6_count_58
  refine (Classical.em (p0 = (1 : Int32))).elim (fun c_2 => ?_) (fun c_2 => ?_)
  · replace h := h.2.1 c_2
    refine lv_tableIn (off := 58) (tgt := 59) hx hb dX6_count_1 (by rw [c_2]; decide) (by rw [c_2]; decide) (by rw [c_2]; rfl) (by decide) ?_
    refine lv_aload_n hx hb dX6_count_59 rfl (lv_at hl 0 rfl) ?_
    refine va_get (D := (dC, dI)) (ci := 6) (v := .ref a_told) (C := RX6) (T := TX6) (N := 10) hx hb hts iwX6_count_X6 hown hK hP 0 rfl rfl 1 (by decide) f19 (fun _ h9 => h9) rfl dX6_count_60 ?_
    refine va_getN (host := "LastOchre") (D := (dC, dI)) (ci := 5) (v := .ref a_told_seam) (C := RX5) (T := TX5) (N := 11) hx hb hts iwX6_count_X5 hown hK hP 1 rfl rfl 0 (by decide) f85 (fun _ h9 => h9) rfl dX6_count_63 ?_
    refine va_getN (host := "LastOchre") (D := (dC, dI)) (ci := 4) (v := .int v_told_seam_h) (C := RX4) (T := TX4) (N := 7) hx hb hts iwX6_count_X4 hown hK hP 2 rfl rfl 1 (by decide) f284 (fun _ h9 => h9) rfl dX6_count_66 ?_
    exact gri0 hx hb hr hlocks h hP hD hS dX6_count_69
  refine (Classical.em (p0 = (2 : Int32))).elim (fun c_3 => ?_) (fun c_3 => ?_)
  · replace h := h.2.2.1 c_3
    refine lv_tableIn (off := 69) (tgt := 70) hx hb dX6_count_1 (by rw [c_3]; decide) (by rw [c_3]; decide) (by rw [c_3]; rfl) (by decide) ?_
    refine lv_aload_n hx hb dX6_count_70 rfl (lv_at hl 0 rfl) ?_
    refine va_get (D := (dC, dI)) (ci := 6) (v := .ref a_told) (C := RX6) (T := TX6) (N := 10) hx hb hts iwX6_count_X6 hown hK hP 0 rfl rfl 1 (by decide) f19 (fun _ h9 => h9) rfl dX6_count_71 ?_
    refine va_getN (host := "LastOchre") (D := (dC, dI)) (ci := 5) (v := .int v_told_things) (C := RX5) (T := TX5) (N := 11) hx hb hts iwX6_count_X5 hown hK hP 1 rfl rfl 6 (by decide) f159 (fun _ h9 => h9) rfl dX6_count_74 ?_
    exact gri0 hx hb hr hlocks h hP hD hS dX6_count_77
  refine (Classical.em (p0 = (3 : Int32))).elim (fun c_4 => ?_) (fun c_4 => ?_)
  · replace h := h.2.2.2.1 c_4
    refine lv_tableIn (off := 77) (tgt := 78) hx hb dX6_count_1 (by rw [c_4]; decide) (by rw [c_4]; decide) (by rw [c_4]; rfl) (by decide) ?_
    refine lv_aload_n hx hb dX6_count_78 rfl (lv_at hl 0 rfl) ?_
    refine va_get (D := (dC, dI)) (ci := 6) (v := .ref a_told) (C := RX6) (T := TX6) (N := 10) hx hb hts iwX6_count_X6 hown hK hP 0 rfl rfl 1 (by decide) f19 (fun _ h9 => h9) rfl dX6_count_79 ?_
    refine va_getN (host := "LastOchre") (D := (dC, dI)) (ci := 5) (v := .int v_told_bound) (C := RX5) (T := TX5) (N := 11) hx hb hts iwX6_count_X5 hown hK hP 1 rfl rfl 4 (by decide) f216 (fun _ h9 => h9) rfl dX6_count_82 ?_
    exact gri0 hx hb hr hlocks h hP hD hS dX6_count_85
  refine (Classical.em (p0 = (4 : Int32))).elim (fun c_5 => ?_) (fun c_5 => ?_)
  · replace h := h.2.2.2.2.1 c_5
    refine lv_tableIn (off := 85) (tgt := 86) hx hb dX6_count_1 (by rw [c_5]; decide) (by rw [c_5]; decide) (by rw [c_5]; rfl) (by decide) ?_
    refine lv_aload_n hx hb dX6_count_86 rfl (lv_at hl 0 rfl) ?_
    refine va_get (D := (dC, dI)) (ci := 6) (v := .ref a_told) (C := RX6) (T := TX6) (N := 10) hx hb hts iwX6_count_X6 hown hK hP 0 rfl rfl 1 (by decide) f19 (fun _ h9 => h9) rfl dX6_count_87 ?_
    refine va_getN (host := "LastOchre") (D := (dC, dI)) (ci := 5) (v := .int v_told_loss) (C := RX5) (T := TX5) (N := 11) hx hb hts iwX6_count_X5 hown hK hP 1 rfl rfl 5 (by decide) f287 (fun _ h9 => h9) rfl dX6_count_90 ?_
    exact gri0 hx hb hr hlocks h hP hD hS dX6_count_93
  refine (Classical.em (p0 = (5 : Int32))).elim (fun c_6 => ?_) (fun c_6 => ?_)
  · replace h := h.2.2.2.2.2.1 c_6
    refine lv_tableIn (off := 93) (tgt := 94) hx hb dX6_count_1 (by rw [c_6]; decide) (by rw [c_6]; decide) (by rw [c_6]; rfl) (by decide) ?_
    refine lv_aload_n hx hb dX6_count_94 rfl (lv_at hl 0 rfl) ?_
    refine va_get (D := (dC, dI)) (ci := 6) (v := .ref a_heard) (C := RX6) (T := TX6) (N := 10) hx hb hts iwX6_count_X6 hown hK hP 0 rfl rfl 8 (by decide) f53 (fun _ h9 => h9) rfl dX6_count_95 ?_
    refine va_getN (host := "LastOchre") (D := (dC, dI)) (ci := 1) (v := .int v_heard_length) (C := RX1) (T := TX1) (N := 7) hx hb hts iwX6_count_X1 hown hK hP 3 rfl rfl 1 (by decide) f240 (fun _ h9 => h9) rfl dX6_count_98 ?_
    exact gri0 hx hb hr hlocks h hP hD hS dX6_count_101
  refine (Classical.em (p0 = (6 : Int32))).elim (fun c_7 => ?_) (fun c_7 => ?_)
  · replace h := h.2.2.2.2.2.2.1 c_7
    refine lv_tableIn (off := 101) (tgt := 102) hx hb dX6_count_1 (by rw [c_7]; decide) (by rw [c_7]; decide) (by rw [c_7]; rfl) (by decide) ?_
    refine lv_aload_n hx hb dX6_count_102 rfl (lv_at hl 0 rfl) ?_
    refine va_get (D := (dC, dI)) (ci := 6) (v := .ref a_course) (C := RX6) (T := TX6) (N := 10) hx hb hts iwX6_count_X6 hown hK hP 0 rfl rfl 3 (by decide) f29 (fun _ h9 => h9) rfl dX6_count_103 ?_
    refine va_getN (host := "LastOchre") (D := (dC, dI)) (ci := 2) (v := .int v_course_known) (C := RX2) (T := TX2) (N := 2) hx hb hts iwX6_count_X2 hown hK hP 4 rfl rfl 1 (by decide) f176 (fun _ h9 => h9) rfl dX6_count_106 ?_
    exact gri0 hx hb hr hlocks h hP hD hS dX6_count_109
  refine (Classical.em (p0 = (7 : Int32))).elim (fun c_8 => ?_) (fun c_8 => ?_)
  · replace h := h.2.2.2.2.2.2.2.1 c_8
    refine lv_tableIn (off := 109) (tgt := 110) hx hb dX6_count_1 (by rw [c_8]; decide) (by rw [c_8]; decide) (by rw [c_8]; rfl) (by decide) ?_
    refine lv_aload_n hx hb dX6_count_110 rfl (lv_at hl 0 rfl) ?_
    refine va_get (D := (dC, dI)) (ci := 6) (v := .ref a_reader) (C := RX6) (T := TX6) (N := 10) hx hb hts iwX6_count_X6 hown hK hP 0 rfl rfl 0 (by decide) f10 (fun _ h9 => h9) rfl dX6_count_111 ?_
    refine va_getN (host := "LastOchre") (D := (dC, dI)) (ci := 3) (v := .int v_reader_length) (C := RX3) (T := TX3) (N := 4) hx hb hts iwX6_count_X3 hown hK hP 5 rfl rfl 1 (by decide) f69 (fun _ h9 => h9) rfl dX6_count_114 ?_
    exact gri0 hx hb hr hlocks h hP hD hS dX6_count_117
  replace h := h.2.2.2.2.2.2.2.2 ⟨c_1, c_2, c_3, c_4, c_5, c_6, c_7, c_8⟩
  have t_9 := sw_ne (a := 0) c_1 (by decide)
  have t_10 := sw_ne (a := 1) c_2 (by decide)
  have t_11 := sw_ne (a := 2) c_3 (by decide)
  have t_12 := sw_ne (a := 3) c_4 (by decide)
  have t_13 := sw_ne (a := 4) c_5 (by decide)
  have t_14 := sw_ne (a := 5) c_6 (by decide)
  have t_15 := sw_ne (a := 6) c_7 (by decide)
  have t_16 := sw_ne (a := 7) c_8 (by decide)
  refine lv_tableOut (tgt := 118) hx hb dX6_count_1 (by omega) (by decide) ?_
  refine lv_iconst (v := -1) hx hb dX6_count_118 (by decide) ?_
  exact gri0 hx hb hr hlocks h hP hD hS dX6_count_119

def F_X6_trace_e (v_traced : Int64) (Q : Int64 → Prop)  : Prop :=
  Q v_traced
def q_X6_trace (v_traced : Int64) (Q : Int64 → Prop) : Prop := F_X6_trace_e v_traced Q 
theorem iwX6_trace_X6 : ∀ w ∈ wsX60, w ∈ wsX6_trace := by decide +kernel
theorem hdV_X6_trace : yX6_trace.cls = RX6 ∧ yX6_trace.cls ≠ "java/lang/invoke/MethodHandle" ∧ yX6_trace.cls ≠ "java/lang/invoke/VarHandle" ∧ (parseMethodDescriptor yX6_trace.desc).map (fun d => d.parameters.length) = some 0 := by decide +kernel
set_option maxHeartbeats 4000000 in
set_option maxRecDepth 100000 in
theorem c_X6_trace (l : Launch) (dC : Nat → ClassId) (dI : Nat → Nat → Nat) (cyC cyI cyZ : ClassId) (sz : Nat) (a a_reader a_told a_draft a_course a_firstImage a_secondImage a_imageKept a_bestDigs a_heard : Nat) (v_traced : Int64) {Q : Int64 → Prop} (h : q_X6_trace v_traced Q) : Met l yX6_trace wsX6_trace ({ frames := 0, cells := 0, slots := 0, locals := 0 }) (gPc [.ref a] (dC, dI) (gTy cyC cyI cyZ) sz [(a, .inr (6, [.ref a_reader, .ref a_told, .ref a_draft, .ref a_course, .ref a_firstImage, .ref a_secondImage, .ref a_imageKept, .ref a_bestDigs, .ref a_heard, .long v_traced]))]) (gQl0 Q (dC, dI) (va_A [(a, .inr (6, [.ref a_reader, .ref a_told, .ref a_draft, .ref a_course, .ref a_firstImage, .ref a_secondImage, .ref a_imageKept, .ref a_bestDigs, .ref a_heard, .long v_traced]))] sz) [(a, .inr (6, [.ref a_reader, .ref a_told, .ref a_draft, .ref a_course, .ref a_firstImage, .ref a_secondImage, .ref a_imageKept, .ref a_bestDigs, .ref a_heard, .long v_traced]))]) 0 0 (va_A [(a, .inr (6, [.ref a_reader, .ref a_told, .ref a_draft, .ref a_course, .ref a_firstImage, .ref a_secondImage, .ref a_imageKept, .ref a_bestDigs, .ref a_heard, .long v_traced]))] sz) := by
  refine gMet (cc := cX6_trace) (maxL := 1) (ret := (some .long)) (own := RX6) (fun A => gQl0 Q (dC, dI) A [(a, .inr (6, [.ref a_reader, .ref a_told, .ref a_draft, .ref a_course, .ref a_firstImage, .ref a_secondImage, .ref a_imageKept, .ref a_bestDigs, .ref a_heard, .long v_traced]))]) (by decide) rfl rfl (Nat.le_of_ble_eq_true rfl) ?_
  intro p e s m below meth c A ls C0 _ hK hN hP hD hA hl
  obtain ⟨hx, hb, hr, hml, hown, hts, hlocks⟩ := id C0
  have f57 := hts (.fieldLink RX6 57 "LastOchre" "traced" "J") (by decide +kernel)
  have hS : va_S A s.heap s.heap [] := va_S.rf
  replace hl : lv_has ls 1 [(0, .ref a)] := hl
  unfold q_X6_trace at h
  unfold F_X6_trace_e at h
  refine lv_aload_n hx hb dX6_trace_0 rfl (lv_at hl 0 rfl) ?_
  refine va_get (D := (dC, dI)) (ci := 6) (v := .long v_traced) (C := RX6) (T := TX6) (N := 10) hx hb hts iwX6_trace_X6 hown hK hP 0 rfl rfl 9 (by decide) f57 (fun _ h9 => h9) rfl dX6_trace_1 ?_
  exact grl0 hx hb hr hlocks h hP hD hS dX6_trace_4

def F_X7_in_e (p0 : Int64) (p1 : Int64) (p2 : Int64) (Q : Int32 → Prop)  : Prop :=
  ((lg_cmp p0 p1) < 0 → (Q (0 : Int32))) ∧ (¬ (lg_cmp p0 p1) < 0 → ((0 < (lg_cmp p0 p2) → (Q (0 : Int32))) ∧ (¬ 0 < (lg_cmp p0 p2) → (Q (1 : Int32)))))
def q_X7_in (p0 : Int64) (p1 : Int64) (p2 : Int64) (Q : Int32 → Prop) : Prop := F_X7_in_e p0 p1 p2 Q 
theorem hdS_X7_in : yX7_in.cls ≠ "java/lang/invoke/MethodHandle" ∧ yX7_in.cls ≠ "java/lang/invoke/VarHandle" ∧ (parseMethodDescriptor yX7_in.desc).map (fun d => d.parameters.length) = some 3 := by decide +kernel
set_option maxHeartbeats 4000000 in
set_option maxRecDepth 100000 in
theorem c_X7_in (l : Launch) (dC : Nat → ClassId) (dI : Nat → Nat → Nat) (cyC cyI cyZ : ClassId) (sz : Nat) (p0 : Int64) (p1 : Int64) (p2 : Int64) {Q : Int32 → Prop} (h : q_X7_in p0 p1 p2 Q) : Met l yX7_in wsX7_in ({ frames := 0, cells := 0, slots := 0, locals := 0 }) (gPc [.long p0, .long p1, .long p2] (dC, dI) (gTy cyC cyI cyZ) sz []) (gQi0 Q (dC, dI) (va_A [] sz) []) 0 0 (va_A [] sz) := by
  refine gMet (cc := cX7_in) (maxL := 6) (ret := (some .boolean)) (own := RX7) (fun A => gQi0 Q (dC, dI) A []) (by decide) rfl rfl (Nat.le_of_ble_eq_true rfl) ?_
  intro p e s m below meth c A ls C0 _ hK hN hP hD hA hl
  obtain ⟨hx, hb, hr, hml, hown, hts, hlocks⟩ := id C0
  have hS : va_S A s.heap s.heap [] := va_S.rf
  replace hl : lv_has ls 6 [(0, .long p0), (2, .long p1), (4, .long p2)] := hl
  unfold q_X7_in at h
  unfold F_X7_in_e at h
  refine lv_lload_n hx hb dX7_in_0 rfl (lv_at hl 0 rfl) ?_
  refine lv_lload_n hx hb dX7_in_1 rfl (lv_at hl 1 rfl) ?_
  refine W.lcmp hx hb dX7_in_2 ?_
  refine lv_if_lt (tgt := 17) hx hb dX7_in_3 (by decide) (fun c_1 => ?_) (fun c_1 => ?_)
  · replace h := h.1 c_1
    refine lv_iconst (v := 0) hx hb dX7_in_17 (by decide) ?_
    exact grz0 hx hb hr hlocks rfl h hP hD hS dX7_in_18
  · replace h := h.2 c_1
    refine lv_lload_n hx hb dX7_in_6 rfl (lv_at hl 0 rfl) ?_
    refine lv_lload hx hb dX7_in_7 (lv_at hl 2 rfl) ?_
    refine W.lcmp hx hb dX7_in_9 ?_
    refine lv_if_gt (tgt := 17) hx hb dX7_in_10 (by decide) (fun c_2 => ?_) (fun c_2 => ?_)
    · replace h := h.1 c_2
      refine lv_iconst (v := 0) hx hb dX7_in_17 (by decide) ?_
      exact grz0 hx hb hr hlocks rfl h hP hD hS dX7_in_18
    · replace h := h.2 c_2
      refine lv_iconst (v := 1) hx hb dX7_in_13 (by decide) ?_
      refine lv_goto (tgt := 18) hx hb dX7_in_14 (by decide) ?_
      exact grz0 hx hb hr hlocks rfl h hP hD hS dX7_in_18

def F_X7_type_e (p0 : Int32) (Q : Int32 → Int32 → (Nat → Int32) → Prop) (v_size : Int32) (v_text : Nat → Int32) : Prop :=
  q_X7_in ((p0).toInt64) (0 : Int64) (255 : Int64) (fun (r_1 : Int32) => (¬ r_1 = 0 → ((¬ v_size = (150 : Int32) → (vp_in v_size 150 ∧ (∀ f_5 : Nat → Int32, f_5 = upd v_text (v_size).toNatClampNeg p0 → (∀ n_7 : Int32, n_7 = (v_size + (1 : Int32)) → (Q n_7 n_7 f_5))))) ∧ (v_size = (150 : Int32) → (Q (-3 : Int32) v_size v_text)))) ∧ (r_1 = 0 → (Q (-1 : Int32) v_size v_text)))
def q_X7_type (v_size : Int32) (v_text : Nat → Int32) (p0 : Int32) (Q : Int32 → Int32 → (Nat → Int32) → Prop) : Prop := F_X7_type_e p0 Q v_size v_text
theorem iwX7_type_X7 : ∀ w ∈ wsX70, w ∈ wsX7_type := by decide +kernel
theorem hdV_X7_type : yX7_type.cls = RX7 ∧ yX7_type.cls ≠ "java/lang/invoke/MethodHandle" ∧ yX7_type.cls ≠ "java/lang/invoke/VarHandle" ∧ (parseMethodDescriptor yX7_type.desc).map (fun d => d.parameters.length) = some 1 := by decide +kernel
set_option maxHeartbeats 4000000 in
set_option maxRecDepth 100000 in
theorem c_X7_type (l : Launch) (dC : Nat → ClassId) (dI : Nat → Nat → Nat) (cyC cyI cyZ : ClassId) (sz : Nat) (a a_text a_read a_hill a_now a_undone a_need a_cameOf a_places a_firstRow a_kept : Nat) (v_size : Int32) (v_at : Int32) (v_begin : Int32) (v_token : Int32) (v_told : Int32) (v_undos : Int32) (v_cames : Int32) (v_each : Int32) (v_trace : Int64) (v_text : Nat → Int32) (p0 : Int32) {Q : Int32 → Int32 → (Nat → Int32) → Prop} (h : q_X7_type v_size v_text p0 Q) : Met l yX7_type wsX7_type ({ frames := 1, cells := 0, slots := 0, locals := 25 }) (gPc [.ref a, .int p0] (dC, dI) (gTy cyC cyI cyZ) sz [(a, .inr (7, [.ref a_text, .int v_size, .int v_at, .int v_begin, .int v_token, .int v_told, .ref a_read, .ref a_hill, .ref a_now, .ref a_undone, .int v_undos, .ref a_need, .int v_cames, .ref a_cameOf, .ref a_places, .ref a_firstRow, .int v_each, .long v_trace, .ref a_kept])), (a_text, .inl (cyI, 150, .inl v_text))]) (gQi2 Q (dC, dI) (va_A [(a, .inr (7, [.ref a_text, .int v_size, .int v_at, .int v_begin, .int v_token, .int v_told, .ref a_read, .ref a_hill, .ref a_now, .ref a_undone, .int v_undos, .ref a_need, .int v_cames, .ref a_cameOf, .ref a_places, .ref a_firstRow, .int v_each, .long v_trace, .ref a_kept])), (a_text, .inl (cyI, 150, .inl v_text))] sz) (fun (u1 : Int32) (u2 : Nat → Int32) => [(a, .inr (7, [.ref a_text, .int u1, .int v_at, .int v_begin, .int v_token, .int v_told, .ref a_read, .ref a_hill, .ref a_now, .ref a_undone, .int v_undos, .ref a_need, .int v_cames, .ref a_cameOf, .ref a_places, .ref a_firstRow, .int v_each, .long v_trace, .ref a_kept])), (a_text, .inl (cyI, 150, .inl u2))])) 0 0 (va_A [(a, .inr (7, [.ref a_text, .int v_size, .int v_at, .int v_begin, .int v_token, .int v_told, .ref a_read, .ref a_hill, .ref a_now, .ref a_undone, .int v_undos, .ref a_need, .int v_cames, .ref a_cameOf, .ref a_places, .ref a_firstRow, .int v_each, .long v_trace, .ref a_kept])), (a_text, .inl (cyI, 150, .inl v_text))] sz) := by
  refine gMet (cc := cX7_type) (maxL := 2) (ret := (some .int)) (own := RX7) (fun A => gQi2 Q (dC, dI) A (fun (u1 : Int32) (u2 : Nat → Int32) => [(a, .inr (7, [.ref a_text, .int u1, .int v_at, .int v_begin, .int v_token, .int v_told, .ref a_read, .ref a_hill, .ref a_now, .ref a_undone, .int v_undos, .ref a_need, .int v_cames, .ref a_cameOf, .ref a_places, .ref a_firstRow, .int v_each, .long v_trace, .ref a_kept])), (a_text, .inl (cyI, 150, .inl u2))])) (by decide) rfl rfl (Nat.le_of_ble_eq_true rfl) ?_
  intro p e s m below meth c A ls C0 _ hK hN hP hD hA hl
  obtain ⟨hx, hb, hr, hml, hown, hts, hlocks⟩ := id C0
  have f52 := hts (.fieldLink RX7 52 "LastOchreModel" "size" "I") (by decide +kernel)
  have f7 := hts (.fieldLink RX7 7 "LastOchreModel" "text" "[I") (by decide +kernel)
  have hS : va_S A s.heap s.heap [] := va_S.rf
  replace hl : lv_has ls 2 [(0, .ref a), (1, .int p0)] := hl
  unfold q_X7_type at h
  unfold F_X7_type_e at h
  refine lv_iload_n hx hb dX7_type_0 rfl (lv_at hl 1 rfl) ?_
  refine lv_i2l hx hb dX7_type_1 rfl ?_
  refine lv_lconst (v := 0) hx hb dX7_type_2 (by decide) ?_
  refine lv_ldc2 (v := 255) hx hb hown (hts (.constantLong RX7 46 (255)) (by decide +kernel)) dX7_type_3 ?_
  refine gS_i0 (As := [.long ((p0).toInt64), .long (0 : Int64), .long (255 : Int64)]) (rest := []) ⟨hx, hb, hml, hown, hts⟩ (c_X7_in l dC dI cyC cyI cyZ _ ((p0).toInt64) (0 : Int64) (255 : Int64) h) (va_cwS 3 hts gX7_type_X7_in rfl rfl rfl hdS_X7_in ⟨Nat.le_of_ble_eq_true rfl, Nat.le_of_ble_eq_true rfl⟩) hK hN hP hD hS hA [] (by decide) rfl rfl hl.1 rfl (Nat.le_of_ble_eq_true rfl) dX7_type_6 ⟨Nat.zero_le _, Nat.zero_le _⟩ (fun r_1 H locs h hP hS => ?_)
  refine lv_if_ne (tgt := 14) hx hb dX7_type_9 (by decide) (fun c_2 => ?_) (fun c_2 => ?_)
  · replace h := h.1 c_2
    refine lv_aload_n hx hb dX7_type_14 rfl (lv_at hl 0 rfl) ?_
    refine va_get (D := (dC, dI)) (ci := 7) (v := .int v_size) (C := RX7) (T := TX7) (N := 19) hx hb hts iwX7_type_X7 hown hK hP 0 rfl rfl 1 (by decide) f52 (fun _ h9 => h9) rfl dX7_type_15 ?_
    refine lv_sipush (v := 150) hx hb dX7_type_18 (by decide) ?_
    refine lv_icmp_ne (tgt := 27) hx hb dX7_type_21 (by decide) (fun c_3 => ?_) (fun c_3 => ?_)
    · replace h := h.1 c_3
      refine lv_aload_n hx hb dX7_type_27 rfl (lv_at hl 0 rfl) ?_
      refine va_get (D := (dC, dI)) (ci := 7) (v := .ref a_text) (C := RX7) (T := TX7) (N := 19) hx hb hts iwX7_type_X7 hown hK hP 0 rfl rfl 0 (by decide) f7 (fun _ h9 => h9) rfl dX7_type_28 ?_
      refine lv_aload_n hx hb dX7_type_31 rfl (lv_at hl 0 rfl) ?_
      refine va_get (D := (dC, dI)) (ci := 7) (v := .int v_size) (C := RX7) (T := TX7) (N := 19) hx hb hts iwX7_type_X7 hown hK hP 0 rfl rfl 1 (by decide) f52 (fun _ h9 => h9) rfl dX7_type_32 ?_
      refine lv_iload_n hx hb dX7_type_35 rfl (lv_at hl 1 rfl) ?_
      have g_4 := h.1
      replace h := h.2
      refine va_iast hx hb hK hP hD hS 1 0 rfl rfl g_4 dX7_type_36 (fun H locs hP hD hS => ?_)
      obtain ⟨f_5, e_6⟩ : ∃ y : Nat → Int32, y = upd v_text (v_size).toNatClampNeg p0 := ⟨_, rfl⟩
      replace h := h f_5 e_6
      replace hP : va_P (dC, dI) vwCl [(a, .inr (7, [.ref a_text, .int v_size, .int v_at, .int v_begin, .int v_token, .int v_told, .ref a_read, .ref a_hill, .ref a_now, .ref a_undone, .int v_undos, .ref a_need, .int v_cames, .ref a_cameOf, .ref a_places, .ref a_firstRow, .int v_each, .long v_trace, .ref a_kept])), (a_text, .inl (cyI, 150, .inl f_5))] H := by rw [e_6]; exact hP
      replace hD : va_D A [(a, .inr (7, [.ref a_text, .int v_size, .int v_at, .int v_begin, .int v_token, .int v_told, .ref a_read, .ref a_hill, .ref a_now, .ref a_undone, .int v_undos, .ref a_need, .int v_cames, .ref a_cameOf, .ref a_places, .ref a_firstRow, .int v_each, .long v_trace, .ref a_kept])), (a_text, .inl (cyI, 150, .inl f_5))] := by rw [e_6]; exact hD
      refine lv_aload_n hx hb dX7_type_37 rfl (lv_at hl 0 rfl) ?_
      refine lv_dup hx hb dX7_type_38 rfl ?_
      refine va_get (D := (dC, dI)) (ci := 7) (v := .int v_size) (C := RX7) (T := TX7) (N := 19) hx hb hts iwX7_type_X7 hown hK hP 0 rfl rfl 1 (by decide) f52 (fun _ h9 => h9) rfl dX7_type_39 ?_
      refine lv_iconst (v := 1) hx hb dX7_type_42 (by decide) ?_
      refine lv_iadd hx hb dX7_type_43 ?_
      refine lv_topi (fun n_7 e_8 => ?_)
      replace h := h n_7 e_8
      refine va_put (D := (dC, dI)) (ci := 7) (v := .int n_7) (ty := .int) (C := RX7) (T := TX7) (N := 19) hx hb hts iwX7_type_X7 tyX7 tyX7_ok nmX7 hown hK hP hD hS 0 rfl rfl 1 (by decide) f52 (fun _ h9 => h9) rfl (by decide +kernel) rfl rfl (Nat.le_of_ble_eq_true rfl) dX7_type_44 (fun H locs hP hD hS => ?_)
      replace hP : va_P (dC, dI) vwCl [(a, .inr (7, [.ref a_text, .int n_7, .int v_at, .int v_begin, .int v_token, .int v_told, .ref a_read, .ref a_hill, .ref a_now, .ref a_undone, .int v_undos, .ref a_need, .int v_cames, .ref a_cameOf, .ref a_places, .ref a_firstRow, .int v_each, .long v_trace, .ref a_kept])), (a_text, .inl (cyI, 150, .inl f_5))] H := hP
      replace hD : va_D A [(a, .inr (7, [.ref a_text, .int n_7, .int v_at, .int v_begin, .int v_token, .int v_told, .ref a_read, .ref a_hill, .ref a_now, .ref a_undone, .int v_undos, .ref a_need, .int v_cames, .ref a_cameOf, .ref a_places, .ref a_firstRow, .int v_each, .long v_trace, .ref a_kept])), (a_text, .inl (cyI, 150, .inl f_5))] := hD
      refine lv_aload_n hx hb dX7_type_47 rfl (lv_at hl 0 rfl) ?_
      refine va_get (D := (dC, dI)) (ci := 7) (v := .int n_7) (C := RX7) (T := TX7) (N := 19) hx hb hts iwX7_type_X7 hown hK hP 0 rfl rfl 1 (by decide) f52 (fun _ h9 => h9) rfl dX7_type_48 ?_
      exact gri2 hx hb hr hlocks h hP hD hS dX7_type_51
    · replace h := h.2 c_3
      refine lv_bipush (v := -3) hx hb dX7_type_24 (by decide) ?_
      exact gri2 hx hb hr hlocks h hP hD hS dX7_type_26
  · replace h := h.2 c_2
    refine lv_iconst (v := -1) hx hb dX7_type_12 (by decide) ?_
    exact gri2 hx hb hr hlocks h hP hD hS dX7_type_13

def F_X7_clear_e  (Q : Int32 → Int32 → Prop) (v_size : Int32) : Prop :=
  Q v_size (0 : Int32)
def q_X7_clear (v_size : Int32) (Q : Int32 → Int32 → Prop) : Prop := F_X7_clear_e  Q v_size
theorem iwX7_clear_X7 : ∀ w ∈ wsX70, w ∈ wsX7_clear := by decide +kernel
theorem hdV_X7_clear : yX7_clear.cls = RX7 ∧ yX7_clear.cls ≠ "java/lang/invoke/MethodHandle" ∧ yX7_clear.cls ≠ "java/lang/invoke/VarHandle" ∧ (parseMethodDescriptor yX7_clear.desc).map (fun d => d.parameters.length) = some 0 := by decide +kernel
set_option maxHeartbeats 4000000 in
set_option maxRecDepth 100000 in
theorem c_X7_clear (l : Launch) (dC : Nat → ClassId) (dI : Nat → Nat → Nat) (cyC cyI cyZ : ClassId) (sz : Nat) (a a_text a_read a_hill a_now a_undone a_need a_cameOf a_places a_firstRow a_kept : Nat) (v_size : Int32) (v_at : Int32) (v_begin : Int32) (v_token : Int32) (v_told : Int32) (v_undos : Int32) (v_cames : Int32) (v_each : Int32) (v_trace : Int64) {Q : Int32 → Int32 → Prop} (h : q_X7_clear v_size Q) : Met l yX7_clear wsX7_clear ({ frames := 0, cells := 0, slots := 0, locals := 0 }) (gPc [.ref a] (dC, dI) (gTy cyC cyI cyZ) sz [(a, .inr (7, [.ref a_text, .int v_size, .int v_at, .int v_begin, .int v_token, .int v_told, .ref a_read, .ref a_hill, .ref a_now, .ref a_undone, .int v_undos, .ref a_need, .int v_cames, .ref a_cameOf, .ref a_places, .ref a_firstRow, .int v_each, .long v_trace, .ref a_kept]))]) (gQi1 Q (dC, dI) (va_A [(a, .inr (7, [.ref a_text, .int v_size, .int v_at, .int v_begin, .int v_token, .int v_told, .ref a_read, .ref a_hill, .ref a_now, .ref a_undone, .int v_undos, .ref a_need, .int v_cames, .ref a_cameOf, .ref a_places, .ref a_firstRow, .int v_each, .long v_trace, .ref a_kept]))] sz) (fun (u1 : Int32) => [(a, .inr (7, [.ref a_text, .int u1, .int v_at, .int v_begin, .int v_token, .int v_told, .ref a_read, .ref a_hill, .ref a_now, .ref a_undone, .int v_undos, .ref a_need, .int v_cames, .ref a_cameOf, .ref a_places, .ref a_firstRow, .int v_each, .long v_trace, .ref a_kept]))])) 0 0 (va_A [(a, .inr (7, [.ref a_text, .int v_size, .int v_at, .int v_begin, .int v_token, .int v_told, .ref a_read, .ref a_hill, .ref a_now, .ref a_undone, .int v_undos, .ref a_need, .int v_cames, .ref a_cameOf, .ref a_places, .ref a_firstRow, .int v_each, .long v_trace, .ref a_kept]))] sz) := by
  refine gMet (cc := cX7_clear) (maxL := 2) (ret := (some .int)) (own := RX7) (fun A => gQi1 Q (dC, dI) A (fun (u1 : Int32) => [(a, .inr (7, [.ref a_text, .int u1, .int v_at, .int v_begin, .int v_token, .int v_told, .ref a_read, .ref a_hill, .ref a_now, .ref a_undone, .int v_undos, .ref a_need, .int v_cames, .ref a_cameOf, .ref a_places, .ref a_firstRow, .int v_each, .long v_trace, .ref a_kept]))])) (by decide) rfl rfl (Nat.le_of_ble_eq_true rfl) ?_
  intro p e s m below meth c A ls C0 _ hK hN hP hD hA hl
  obtain ⟨hx, hb, hr, hml, hown, hts, hlocks⟩ := id C0
  have f52 := hts (.fieldLink RX7 52 "LastOchreModel" "size" "I") (by decide +kernel)
  have hS : va_S A s.heap s.heap [] := va_S.rf
  replace hl : lv_has ls 2 [(0, .ref a)] := hl
  unfold q_X7_clear at h
  unfold F_X7_clear_e at h
  refine lv_aload_n hx hb dX7_clear_0 rfl (lv_at hl 0 rfl) ?_
  refine va_get (D := (dC, dI)) (ci := 7) (v := .int v_size) (C := RX7) (T := TX7) (N := 19) hx hb hts iwX7_clear_X7 hown hK hP 0 rfl rfl 1 (by decide) f52 (fun _ h9 => h9) rfl dX7_clear_1 ?_
  refine lv_istore_n (lv' := [(1, .int v_size), (0, .ref a)]) hx hb dX7_clear_4 rfl hl (by decide) rfl (fun ls hl => ?_)
  refine lv_aload_n hx hb dX7_clear_5 rfl (lv_at hl 1 rfl) ?_
  refine lv_iconst (v := 0) hx hb dX7_clear_6 (by decide) ?_
  refine va_put (D := (dC, dI)) (ci := 7) (v := .int (0 : Int32)) (ty := .int) (C := RX7) (T := TX7) (N := 19) hx hb hts iwX7_clear_X7 tyX7 tyX7_ok nmX7 hown hK hP hD hS 0 rfl rfl 1 (by decide) f52 (fun _ h9 => h9) rfl (by decide +kernel) rfl rfl (Nat.le_of_ble_eq_true rfl) dX7_clear_7 (fun H locs hP hD hS => ?_)
  replace hP : va_P (dC, dI) vwCl [(a, .inr (7, [.ref a_text, .int (0 : Int32), .int v_at, .int v_begin, .int v_token, .int v_told, .ref a_read, .ref a_hill, .ref a_now, .ref a_undone, .int v_undos, .ref a_need, .int v_cames, .ref a_cameOf, .ref a_places, .ref a_firstRow, .int v_each, .long v_trace, .ref a_kept]))] H := hP
  replace hD : va_D A [(a, .inr (7, [.ref a_text, .int (0 : Int32), .int v_at, .int v_begin, .int v_token, .int v_told, .ref a_read, .ref a_hill, .ref a_now, .ref a_undone, .int v_undos, .ref a_need, .int v_cames, .ref a_cameOf, .ref a_places, .ref a_firstRow, .int v_each, .long v_trace, .ref a_kept]))] := hD
  refine lv_iload_n hx hb dX7_clear_10 rfl (lv_at hl 0 rfl) ?_
  exact gri1 hx hb hr hlocks h hP hD hS dX7_clear_11

def F_X7_isLetter_e (p0 : Int32) (Q : Int32 → Prop)  : Prop :=
  q_X7_in ((p0).toInt64) (97 : Int64) (122 : Int64) (fun (r_1 : Int32) => narrow .boolean (.int r_1) = .int r_1 ∧ (Q r_1))
def q_X7_isLetter (p0 : Int32) (Q : Int32 → Prop) : Prop := F_X7_isLetter_e p0 Q 
theorem hdS_X7_isLetter : yX7_isLetter.cls ≠ "java/lang/invoke/MethodHandle" ∧ yX7_isLetter.cls ≠ "java/lang/invoke/VarHandle" ∧ (parseMethodDescriptor yX7_isLetter.desc).map (fun d => d.parameters.length) = some 1 := by decide +kernel
set_option maxHeartbeats 4000000 in
set_option maxRecDepth 100000 in
theorem c_X7_isLetter (l : Launch) (dC : Nat → ClassId) (dI : Nat → Nat → Nat) (cyC cyI cyZ : ClassId) (sz : Nat) (p0 : Int32) {Q : Int32 → Prop} (h : q_X7_isLetter p0 Q) : Met l yX7_isLetter wsX7_isLetter ({ frames := 1, cells := 0, slots := 0, locals := 25 }) (gPc [.int p0] (dC, dI) (gTy cyC cyI cyZ) sz []) (gQi0 Q (dC, dI) (va_A [] sz) []) 0 0 (va_A [] sz) := by
  refine gMet (cc := cX7_isLetter) (maxL := 1) (ret := (some .boolean)) (own := RX7) (fun A => gQi0 Q (dC, dI) A []) (by decide) rfl rfl (Nat.le_of_ble_eq_true rfl) ?_
  intro p e s m below meth c A ls C0 _ hK hN hP hD hA hl
  obtain ⟨hx, hb, hr, hml, hown, hts, hlocks⟩ := id C0
  have hS : va_S A s.heap s.heap [] := va_S.rf
  replace hl : lv_has ls 1 [(0, .int p0)] := hl
  unfold q_X7_isLetter at h
  unfold F_X7_isLetter_e at h
  refine lv_iload_n hx hb dX7_isLetter_0 rfl (lv_at hl 0 rfl) ?_
  refine lv_i2l hx hb dX7_isLetter_1 rfl ?_
  refine lv_ldc2 (v := 97) hx hb hown (hts (.constantLong RX7 56 (97)) (by decide +kernel)) dX7_isLetter_2 ?_
  refine lv_ldc2 (v := 122) hx hb hown (hts (.constantLong RX7 58 (122)) (by decide +kernel)) dX7_isLetter_5 ?_
  refine gS_i0 (As := [.long ((p0).toInt64), .long (97 : Int64), .long (122 : Int64)]) (rest := []) ⟨hx, hb, hml, hown, hts⟩ (c_X7_in l dC dI cyC cyI cyZ _ ((p0).toInt64) (97 : Int64) (122 : Int64) h) (va_cwS 3 hts gX7_isLetter_X7_in rfl rfl rfl hdS_X7_in ⟨Nat.le_of_ble_eq_true rfl, Nat.le_of_ble_eq_true rfl⟩) hK hN hP hD hS hA [] (by decide) rfl rfl hl.1 rfl (Nat.le_of_ble_eq_true rfl) dX7_isLetter_8 ⟨Nat.zero_le _, Nat.zero_le _⟩ (fun r_1 H locs h hP hS => ?_)
  have g_2 := h.1
  replace h := h.2
  exact grz0 hx hb hr hlocks g_2 h hP hD hS dX7_isLetter_11

def F_X7_isFigure_e (p0 : Int32) (Q : Int32 → Prop)  : Prop :=
  q_X7_in ((p0).toInt64) (48 : Int64) (57 : Int64) (fun (r_1 : Int32) => narrow .boolean (.int r_1) = .int r_1 ∧ (Q r_1))
def q_X7_isFigure (p0 : Int32) (Q : Int32 → Prop) : Prop := F_X7_isFigure_e p0 Q 
theorem hdS_X7_isFigure : yX7_isFigure.cls ≠ "java/lang/invoke/MethodHandle" ∧ yX7_isFigure.cls ≠ "java/lang/invoke/VarHandle" ∧ (parseMethodDescriptor yX7_isFigure.desc).map (fun d => d.parameters.length) = some 1 := by decide +kernel
set_option maxHeartbeats 4000000 in
set_option maxRecDepth 100000 in
theorem c_X7_isFigure (l : Launch) (dC : Nat → ClassId) (dI : Nat → Nat → Nat) (cyC cyI cyZ : ClassId) (sz : Nat) (p0 : Int32) {Q : Int32 → Prop} (h : q_X7_isFigure p0 Q) : Met l yX7_isFigure wsX7_isFigure ({ frames := 1, cells := 0, slots := 0, locals := 25 }) (gPc [.int p0] (dC, dI) (gTy cyC cyI cyZ) sz []) (gQi0 Q (dC, dI) (va_A [] sz) []) 0 0 (va_A [] sz) := by
  refine gMet (cc := cX7_isFigure) (maxL := 1) (ret := (some .boolean)) (own := RX7) (fun A => gQi0 Q (dC, dI) A []) (by decide) rfl rfl (Nat.le_of_ble_eq_true rfl) ?_
  intro p e s m below meth c A ls C0 _ hK hN hP hD hA hl
  obtain ⟨hx, hb, hr, hml, hown, hts, hlocks⟩ := id C0
  have hS : va_S A s.heap s.heap [] := va_S.rf
  replace hl : lv_has ls 1 [(0, .int p0)] := hl
  unfold q_X7_isFigure at h
  unfold F_X7_isFigure_e at h
  refine lv_iload_n hx hb dX7_isFigure_0 rfl (lv_at hl 0 rfl) ?_
  refine lv_i2l hx hb dX7_isFigure_1 rfl ?_
  refine lv_ldc2 (v := 48) hx hb hown (hts (.constantLong RX7 60 (48)) (by decide +kernel)) dX7_isFigure_2 ?_
  refine lv_ldc2 (v := 57) hx hb hown (hts (.constantLong RX7 62 (57)) (by decide +kernel)) dX7_isFigure_5 ?_
  refine gS_i0 (As := [.long ((p0).toInt64), .long (48 : Int64), .long (57 : Int64)]) (rest := []) ⟨hx, hb, hml, hown, hts⟩ (c_X7_in l dC dI cyC cyI cyZ _ ((p0).toInt64) (48 : Int64) (57 : Int64) h) (va_cwS 3 hts gX7_isFigure_X7_in rfl rfl rfl hdS_X7_in ⟨Nat.le_of_ble_eq_true rfl, Nat.le_of_ble_eq_true rfl⟩) hK hN hP hD hS hA [] (by decide) rfl rfl hl.1 rfl (Nat.le_of_ble_eq_true rfl) dX7_isFigure_8 ⟨Nat.zero_le _, Nat.zero_le _⟩ (fun r_1 H locs h hP hS => ?_)
  have g_2 := h.1
  replace h := h.2
  exact grz0 hx hb hr hlocks g_2 h hP hD hS dX7_isFigure_11

def F_X7_readLetters_e (v_size : Int32) (v_begin : Int32) (v_text : Nat → Int32) (Q : Int32 → Int32 → Int32 → Prop) (rec : Nat → Int32 → Int32 → Int32 → Prop) (v_at : Int32) (v_token : Int32) (v_told : Int32) : Prop :=
  vp_in v_at 150 ∧ (∀ n_2 : Int32, n_2 = (v_text (v_at).toNatClampNeg) → (rec 13 v_at v_token n_2))
def F_X7_readLetters_13 (v_size : Int32) (v_begin : Int32) (v_text : Nat → Int32) (Q : Int32 → Int32 → Int32 → Prop) (rec : Nat → Int32 → Int32 → Int32 → Prop) (v_at : Int32) (v_token : Int32) (v_told : Int32) : Prop :=
  (v_size ≤ v_at → (rec 52 v_at v_token v_told)) ∧ (¬ v_size ≤ v_at → (vp_in v_at 150 ∧ (q_X7_isLetter (v_text (v_at).toNatClampNeg) (fun (r_6 : Int32) => (r_6 = 0 → (rec 52 v_at v_token v_told)) ∧ (¬ r_6 = 0 → (∀ n_8 : Int32, n_8 = (v_at + (1 : Int32)) → (rec 13 n_8 v_token v_told)))))))
def F_X7_readLetters_52 (v_size : Int32) (v_begin : Int32) (v_text : Nat → Int32) (Q : Int32 → Int32 → Int32 → Prop) (rec : Nat → Int32 → Int32 → Int32 → Prop) (v_at : Int32) (v_token : Int32) (v_told : Int32) : Prop :=
  (¬ (v_at - v_begin) = (1 : Int32) → (Q v_at (4 : Int32) v_told)) ∧ ((v_at - v_begin) = (1 : Int32) → ((v_told = (115 : Int32) → (Q v_at (1 : Int32) v_told)) ∧ (¬ v_told = (115 : Int32) → ((v_told = (116 : Int32) → (Q v_at (1 : Int32) v_told)) ∧ (¬ v_told = (116 : Int32) → ((v_told = (98 : Int32) → (Q v_at (1 : Int32) v_told)) ∧ (¬ v_told = (98 : Int32) → ((¬ v_told = (108 : Int32) → (Q v_at (4 : Int32) v_told)) ∧ (v_told = (108 : Int32) → (Q v_at (1 : Int32) v_told))))))))))
def wp_X7_readLetters (v_size : Int32) (v_begin : Int32) (v_text : Nat → Int32) (Q : Int32 → Int32 → Int32 → Prop) : Nat → Nat → Int32 → Int32 → Int32 → Prop
  | 0 => fun _ _ _ _ => False
  | n + 1 => fun t v_at v_token v_told => if t = 13 then F_X7_readLetters_13 v_size v_begin v_text Q (wp_X7_readLetters v_size v_begin v_text Q n) v_at v_token v_told else if t = 52 then F_X7_readLetters_52 v_size v_begin v_text Q (wp_X7_readLetters v_size v_begin v_text Q n) v_at v_token v_told else False
def q_X7_readLetters (v_size : Int32) (v_at : Int32) (v_begin : Int32) (v_token : Int32) (v_told : Int32) (v_text : Nat → Int32) (Q : Int32 → Int32 → Int32 → Prop) : Prop := ∃ n, F_X7_readLetters_e v_size v_begin v_text Q (wp_X7_readLetters v_size v_begin v_text Q n) v_at v_token v_told
theorem iwX7_readLetters_X7 : ∀ w ∈ wsX70, w ∈ wsX7_readLetters := by decide +kernel
theorem hdV_X7_readLetters : yX7_readLetters.cls = RX7 ∧ yX7_readLetters.cls ≠ "java/lang/invoke/MethodHandle" ∧ yX7_readLetters.cls ≠ "java/lang/invoke/VarHandle" ∧ (parseMethodDescriptor yX7_readLetters.desc).map (fun d => d.parameters.length) = some 0 := by decide +kernel
set_option maxHeartbeats 4000000 in
set_option maxRecDepth 100000 in
theorem w_X7_readLetters {p : Program} {l : Launch} {e : Env} {s : State} {m : MethodId} {args : Array Value} {below : List Frame} {meth : Method} {c : Code} {A : Nat → Prop} (dC : Nat → ClassId) (dI : Nat → Nat → Nat) (cyC cyI cyZ : ClassId) (a a_text a_read a_hill a_now a_undone a_need a_cameOf a_places a_firstRow a_kept : Nat) (v_size : Int32) (v_begin : Int32) (v_undos : Int32) (v_cames : Int32) (v_each : Int32) (v_trace : Int64) (v_text : Nat → Int32) (Q : Int32 → Int32 → Int32 → Prop) (C0 : gAt cX7_readLetters none 1 RX7 wsX7_readLetters p s m meth c args) (hK : va_K (dC, dI) vwCl (gTy cyC cyI cyZ) s) (hN : nU s) (hA : ∀ q, s.heap.size ≤ q → A q) : ∀ n : Nat, (∀ (v_at : Int32) (v_token : Int32) (v_told : Int32) (H : Heap) (locs : List Loc) (ls : Array Slot), wp_X7_readLetters v_size v_begin v_text Q n 13 v_at v_token v_told → va_P (dC, dI) vwCl [(a, .inr (7, [.ref a_text, .int v_size, .int v_at, .int v_begin, .int v_token, .int v_told, .ref a_read, .ref a_hill, .ref a_now, .ref a_undone, .int v_undos, .ref a_need, .int v_cames, .ref a_cameOf, .ref a_places, .ref a_firstRow, .int v_each, .long v_trace, .ref a_kept])), (a_text, .inl (cyI, 150, .inl v_text))] H → va_D A [(a, .inr (7, [.ref a_text, .int v_size, .int v_at, .int v_begin, .int v_token, .int v_told, .ref a_read, .ref a_hill, .ref a_now, .ref a_undone, .int v_undos, .ref a_need, .int v_cames, .ref a_cameOf, .ref a_places, .ref a_firstRow, .int v_each, .long v_trace, .ref a_kept])), (a_text, .inl (cyI, 150, .inl v_text))] → va_S A s.heap H locs → lv_has ls 1 [(0, .ref a)] → W p l e { frames := 2, cells := 0, slots := 0, locals := 45 } s m args below meth c H locs 0 0 (MQ below (gQv3 Q (dC, dI) A (fun (u1 : Int32) (u2 : Int32) (u3 : Int32) => [(a, .inr (7, [.ref a_text, .int v_size, .int u1, .int v_begin, .int u2, .int u3, .ref a_read, .ref a_hill, .ref a_now, .ref a_undone, .int v_undos, .ref a_need, .int v_cames, .ref a_cameOf, .ref a_places, .ref a_firstRow, .int v_each, .long v_trace, .ref a_kept])), (a_text, .inl (cyI, 150, .inl v_text))])) args s 0 0 A) (F0 m 13 ls [])) ∧ (∀ (v_at : Int32) (v_token : Int32) (v_told : Int32) (H : Heap) (locs : List Loc) (ls : Array Slot), wp_X7_readLetters v_size v_begin v_text Q n 52 v_at v_token v_told → va_P (dC, dI) vwCl [(a, .inr (7, [.ref a_text, .int v_size, .int v_at, .int v_begin, .int v_token, .int v_told, .ref a_read, .ref a_hill, .ref a_now, .ref a_undone, .int v_undos, .ref a_need, .int v_cames, .ref a_cameOf, .ref a_places, .ref a_firstRow, .int v_each, .long v_trace, .ref a_kept])), (a_text, .inl (cyI, 150, .inl v_text))] H → va_D A [(a, .inr (7, [.ref a_text, .int v_size, .int v_at, .int v_begin, .int v_token, .int v_told, .ref a_read, .ref a_hill, .ref a_now, .ref a_undone, .int v_undos, .ref a_need, .int v_cames, .ref a_cameOf, .ref a_places, .ref a_firstRow, .int v_each, .long v_trace, .ref a_kept])), (a_text, .inl (cyI, 150, .inl v_text))] → va_S A s.heap H locs → lv_has ls 1 [(0, .ref a)] → W p l e { frames := 2, cells := 0, slots := 0, locals := 45 } s m args below meth c H locs 0 0 (MQ below (gQv3 Q (dC, dI) A (fun (u1 : Int32) (u2 : Int32) (u3 : Int32) => [(a, .inr (7, [.ref a_text, .int v_size, .int u1, .int v_begin, .int u2, .int u3, .ref a_read, .ref a_hill, .ref a_now, .ref a_undone, .int v_undos, .ref a_need, .int v_cames, .ref a_cameOf, .ref a_places, .ref a_firstRow, .int v_each, .long v_trace, .ref a_kept])), (a_text, .inl (cyI, 150, .inl v_text))])) args s 0 0 A) (F0 m 52 ls [])) := by
  obtain ⟨hx, hb, hr, hml, hown, hts, hlocks⟩ := id C0
  have f52 := hts (.fieldLink RX7 52 "LastOchreModel" "size" "I") (by decide +kernel)
  have f64 := hts (.fieldLink RX7 64 "LastOchreModel" "at" "I") (by decide +kernel)
  have f67 := hts (.fieldLink RX7 67 "LastOchreModel" "told" "I") (by decide +kernel)
  have f7 := hts (.fieldLink RX7 7 "LastOchreModel" "text" "[I") (by decide +kernel)
  have f74 := hts (.fieldLink RX7 74 "LastOchreModel" "begin" "I") (by decide +kernel)
  have f77 := hts (.fieldLink RX7 77 "LastOchreModel" "token" "I") (by decide +kernel)
  intro n
  induction n with
  | zero => exact ⟨fun _ _ _ _ _ _ h => absurd h id, fun _ _ _ _ _ _ h => absurd h id⟩
  | succ n ih =>
    obtain ⟨ih13, ih52⟩ := ih
    refine ⟨?_, ?_⟩
    · intro v_at v_token v_told H locs ls h hP hD hS hl
      replace h : F_X7_readLetters_13 v_size v_begin v_text Q (wp_X7_readLetters v_size v_begin v_text Q n) v_at v_token v_told := h
      unfold F_X7_readLetters_13 at h
      refine lv_aload_n hx hb dX7_readLetters_13 rfl (lv_at hl 0 rfl) ?_
      refine va_get (D := (dC, dI)) (ci := 7) (v := .int v_at) (C := RX7) (T := TX7) (N := 19) hx hb hts iwX7_readLetters_X7 hown hK hP 0 rfl rfl 2 (by decide) f64 (fun _ h9 => h9) rfl dX7_readLetters_14 ?_
      refine lv_aload_n hx hb dX7_readLetters_17 rfl (lv_at hl 0 rfl) ?_
      refine va_get (D := (dC, dI)) (ci := 7) (v := .int v_size) (C := RX7) (T := TX7) (N := 19) hx hb hts iwX7_readLetters_X7 hown hK hP 0 rfl rfl 1 (by decide) f52 (fun _ h9 => h9) rfl dX7_readLetters_18 ?_
      refine lv_icmp_ge (tgt := 52) hx hb dX7_readLetters_21 (by decide) (fun c_4 => ?_) (fun c_4 => ?_)
      · replace h := h.1 c_4
        exact ih52 v_at v_token v_told _ _ _ h hP hD hS (lv_sub hl [0] rfl)
      · replace h := h.2 c_4
        refine lv_aload_n hx hb dX7_readLetters_24 rfl (lv_at hl 0 rfl) ?_
        refine va_get (D := (dC, dI)) (ci := 7) (v := .ref a_text) (C := RX7) (T := TX7) (N := 19) hx hb hts iwX7_readLetters_X7 hown hK hP 0 rfl rfl 0 (by decide) f7 (fun _ h9 => h9) rfl dX7_readLetters_25 ?_
        refine lv_aload_n hx hb dX7_readLetters_28 rfl (lv_at hl 0 rfl) ?_
        refine va_get (D := (dC, dI)) (ci := 7) (v := .int v_at) (C := RX7) (T := TX7) (N := 19) hx hb hts iwX7_readLetters_X7 hown hK hP 0 rfl rfl 2 (by decide) f64 (fun _ h9 => h9) rfl dX7_readLetters_29 ?_
        have g_5 := h.1
        replace h := h.2
        refine va_iald hx hb hK hP 1 0 rfl rfl g_5 dX7_readLetters_32 ?_
        refine gS_i0 (As := [.int (v_text (v_at).toNatClampNeg)]) (rest := []) ⟨hx, hb, hml, hown, hts⟩ (c_X7_isLetter l dC dI cyC cyI cyZ _ (v_text (v_at).toNatClampNeg) h) (va_cwS 1 hts gX7_readLetters_X7_isLetter rfl rfl rfl hdS_X7_isLetter ⟨Nat.le_of_ble_eq_true rfl, Nat.le_of_ble_eq_true rfl⟩) hK hN hP hD hS hA [] (by decide) rfl rfl hl.1 rfl (Nat.le_of_ble_eq_true rfl) dX7_readLetters_33 ⟨Nat.zero_le _, Nat.zero_le _⟩ (fun r_6 H locs h hP hS => ?_)
        refine lv_if_eq (tgt := 52) hx hb dX7_readLetters_36 (by decide) (fun c_7 => ?_) (fun c_7 => ?_)
        · replace h := h.1 c_7
          exact ih52 v_at v_token v_told _ _ _ h hP hD hS (lv_sub hl [0] rfl)
        · replace h := h.2 c_7
          refine lv_aload_n hx hb dX7_readLetters_39 rfl (lv_at hl 0 rfl) ?_
          refine lv_dup hx hb dX7_readLetters_40 rfl ?_
          refine va_get (D := (dC, dI)) (ci := 7) (v := .int v_at) (C := RX7) (T := TX7) (N := 19) hx hb hts iwX7_readLetters_X7 hown hK hP 0 rfl rfl 2 (by decide) f64 (fun _ h9 => h9) rfl dX7_readLetters_41 ?_
          refine lv_iconst (v := 1) hx hb dX7_readLetters_44 (by decide) ?_
          refine lv_iadd hx hb dX7_readLetters_45 ?_
          refine lv_topi (fun n_8 e_9 => ?_)
          replace h := h n_8 e_9
          refine va_put (D := (dC, dI)) (ci := 7) (v := .int n_8) (ty := .int) (C := RX7) (T := TX7) (N := 19) hx hb hts iwX7_readLetters_X7 tyX7 tyX7_ok nmX7 hown hK hP hD hS 0 rfl rfl 2 (by decide) f64 (fun _ h9 => h9) rfl (by decide +kernel) rfl rfl (Nat.le_of_ble_eq_true rfl) dX7_readLetters_46 (fun H locs hP hD hS => ?_)
          replace hP : va_P (dC, dI) vwCl [(a, .inr (7, [.ref a_text, .int v_size, .int n_8, .int v_begin, .int v_token, .int v_told, .ref a_read, .ref a_hill, .ref a_now, .ref a_undone, .int v_undos, .ref a_need, .int v_cames, .ref a_cameOf, .ref a_places, .ref a_firstRow, .int v_each, .long v_trace, .ref a_kept])), (a_text, .inl (cyI, 150, .inl v_text))] H := hP
          replace hD : va_D A [(a, .inr (7, [.ref a_text, .int v_size, .int n_8, .int v_begin, .int v_token, .int v_told, .ref a_read, .ref a_hill, .ref a_now, .ref a_undone, .int v_undos, .ref a_need, .int v_cames, .ref a_cameOf, .ref a_places, .ref a_firstRow, .int v_each, .long v_trace, .ref a_kept])), (a_text, .inl (cyI, 150, .inl v_text))] := hD
          refine lv_goto (tgt := 13) hx hb dX7_readLetters_49 (by decide) ?_
          exact ih13 n_8 v_token v_told _ _ _ h hP hD hS (lv_sub hl [0] rfl)
    · intro v_at v_token v_told H locs ls h hP hD hS hl
      replace h : F_X7_readLetters_52 v_size v_begin v_text Q (wp_X7_readLetters v_size v_begin v_text Q n) v_at v_token v_told := h
      unfold F_X7_readLetters_52 at h
      refine lv_aload_n hx hb dX7_readLetters_52 rfl (lv_at hl 0 rfl) ?_
      refine lv_aload_n hx hb dX7_readLetters_53 rfl (lv_at hl 0 rfl) ?_
      refine va_get (D := (dC, dI)) (ci := 7) (v := .int v_at) (C := RX7) (T := TX7) (N := 19) hx hb hts iwX7_readLetters_X7 hown hK hP 0 rfl rfl 2 (by decide) f64 (fun _ h9 => h9) rfl dX7_readLetters_54 ?_
      refine lv_aload_n hx hb dX7_readLetters_57 rfl (lv_at hl 0 rfl) ?_
      refine va_get (D := (dC, dI)) (ci := 7) (v := .int v_begin) (C := RX7) (T := TX7) (N := 19) hx hb hts iwX7_readLetters_X7 hown hK hP 0 rfl rfl 3 (by decide) f74 (fun _ h9 => h9) rfl dX7_readLetters_58 ?_
      refine lv_isub hx hb dX7_readLetters_61 ?_
      refine lv_iconst (v := 1) hx hb dX7_readLetters_62 (by decide) ?_
      refine lv_icmp_ne (tgt := 106) hx hb dX7_readLetters_63 (by decide) (fun c_10 => ?_) (fun c_10 => ?_)
      · replace h := h.1 c_10
        refine lv_iconst (v := 4) hx hb dX7_readLetters_106 (by decide) ?_
        refine va_put (D := (dC, dI)) (ci := 7) (v := .int (4 : Int32)) (ty := .int) (C := RX7) (T := TX7) (N := 19) hx hb hts iwX7_readLetters_X7 tyX7 tyX7_ok nmX7 hown hK hP hD hS 0 rfl rfl 4 (by decide) f77 (fun _ h9 => h9) rfl (by decide +kernel) rfl rfl (Nat.le_of_ble_eq_true rfl) dX7_readLetters_107 (fun H locs hP hD hS => ?_)
        replace hP : va_P (dC, dI) vwCl [(a, .inr (7, [.ref a_text, .int v_size, .int v_at, .int v_begin, .int (4 : Int32), .int v_told, .ref a_read, .ref a_hill, .ref a_now, .ref a_undone, .int v_undos, .ref a_need, .int v_cames, .ref a_cameOf, .ref a_places, .ref a_firstRow, .int v_each, .long v_trace, .ref a_kept])), (a_text, .inl (cyI, 150, .inl v_text))] H := hP
        replace hD : va_D A [(a, .inr (7, [.ref a_text, .int v_size, .int v_at, .int v_begin, .int (4 : Int32), .int v_told, .ref a_read, .ref a_hill, .ref a_now, .ref a_undone, .int v_undos, .ref a_need, .int v_cames, .ref a_cameOf, .ref a_places, .ref a_firstRow, .int v_each, .long v_trace, .ref a_kept])), (a_text, .inl (cyI, 150, .inl v_text))] := hD
        exact grv3 hx hb hr hlocks h hP hD hS dX7_readLetters_110
      · replace h := h.2 c_10
        refine lv_aload_n hx hb dX7_readLetters_66 rfl (lv_at hl 0 rfl) ?_
        refine va_get (D := (dC, dI)) (ci := 7) (v := .int v_told) (C := RX7) (T := TX7) (N := 19) hx hb hts iwX7_readLetters_X7 hown hK hP 0 rfl rfl 5 (by decide) f67 (fun _ h9 => h9) rfl dX7_readLetters_67 ?_
        refine lv_bipush (v := 115) hx hb dX7_readLetters_70 (by decide) ?_
        refine lv_icmp_eq (tgt := 102) hx hb dX7_readLetters_72 (by decide) (fun c_11 => ?_) (fun c_11 => ?_)
        · replace h := h.1 c_11
          refine lv_iconst (v := 1) hx hb dX7_readLetters_102 (by decide) ?_
          refine lv_goto (tgt := 107) hx hb dX7_readLetters_103 (by decide) ?_
          refine va_put (D := (dC, dI)) (ci := 7) (v := .int (1 : Int32)) (ty := .int) (C := RX7) (T := TX7) (N := 19) hx hb hts iwX7_readLetters_X7 tyX7 tyX7_ok nmX7 hown hK hP hD hS 0 rfl rfl 4 (by decide) f77 (fun _ h9 => h9) rfl (by decide +kernel) rfl rfl (Nat.le_of_ble_eq_true rfl) dX7_readLetters_107 (fun H locs hP hD hS => ?_)
          replace hP : va_P (dC, dI) vwCl [(a, .inr (7, [.ref a_text, .int v_size, .int v_at, .int v_begin, .int (1 : Int32), .int v_told, .ref a_read, .ref a_hill, .ref a_now, .ref a_undone, .int v_undos, .ref a_need, .int v_cames, .ref a_cameOf, .ref a_places, .ref a_firstRow, .int v_each, .long v_trace, .ref a_kept])), (a_text, .inl (cyI, 150, .inl v_text))] H := hP
          replace hD : va_D A [(a, .inr (7, [.ref a_text, .int v_size, .int v_at, .int v_begin, .int (1 : Int32), .int v_told, .ref a_read, .ref a_hill, .ref a_now, .ref a_undone, .int v_undos, .ref a_need, .int v_cames, .ref a_cameOf, .ref a_places, .ref a_firstRow, .int v_each, .long v_trace, .ref a_kept])), (a_text, .inl (cyI, 150, .inl v_text))] := hD
          exact grv3 hx hb hr hlocks h hP hD hS dX7_readLetters_110
        · replace h := h.2 c_11
          refine lv_aload_n hx hb dX7_readLetters_75 rfl (lv_at hl 0 rfl) ?_
          refine va_get (D := (dC, dI)) (ci := 7) (v := .int v_told) (C := RX7) (T := TX7) (N := 19) hx hb hts iwX7_readLetters_X7 hown hK hP 0 rfl rfl 5 (by decide) f67 (fun _ h9 => h9) rfl dX7_readLetters_76 ?_
          refine lv_bipush (v := 116) hx hb dX7_readLetters_79 (by decide) ?_
          refine lv_icmp_eq (tgt := 102) hx hb dX7_readLetters_81 (by decide) (fun c_12 => ?_) (fun c_12 => ?_)
          · replace h := h.1 c_12
            refine lv_iconst (v := 1) hx hb dX7_readLetters_102 (by decide) ?_
            refine lv_goto (tgt := 107) hx hb dX7_readLetters_103 (by decide) ?_
            refine va_put (D := (dC, dI)) (ci := 7) (v := .int (1 : Int32)) (ty := .int) (C := RX7) (T := TX7) (N := 19) hx hb hts iwX7_readLetters_X7 tyX7 tyX7_ok nmX7 hown hK hP hD hS 0 rfl rfl 4 (by decide) f77 (fun _ h9 => h9) rfl (by decide +kernel) rfl rfl (Nat.le_of_ble_eq_true rfl) dX7_readLetters_107 (fun H locs hP hD hS => ?_)
            replace hP : va_P (dC, dI) vwCl [(a, .inr (7, [.ref a_text, .int v_size, .int v_at, .int v_begin, .int (1 : Int32), .int v_told, .ref a_read, .ref a_hill, .ref a_now, .ref a_undone, .int v_undos, .ref a_need, .int v_cames, .ref a_cameOf, .ref a_places, .ref a_firstRow, .int v_each, .long v_trace, .ref a_kept])), (a_text, .inl (cyI, 150, .inl v_text))] H := hP
            replace hD : va_D A [(a, .inr (7, [.ref a_text, .int v_size, .int v_at, .int v_begin, .int (1 : Int32), .int v_told, .ref a_read, .ref a_hill, .ref a_now, .ref a_undone, .int v_undos, .ref a_need, .int v_cames, .ref a_cameOf, .ref a_places, .ref a_firstRow, .int v_each, .long v_trace, .ref a_kept])), (a_text, .inl (cyI, 150, .inl v_text))] := hD
            exact grv3 hx hb hr hlocks h hP hD hS dX7_readLetters_110
          · replace h := h.2 c_12
            refine lv_aload_n hx hb dX7_readLetters_84 rfl (lv_at hl 0 rfl) ?_
            refine va_get (D := (dC, dI)) (ci := 7) (v := .int v_told) (C := RX7) (T := TX7) (N := 19) hx hb hts iwX7_readLetters_X7 hown hK hP 0 rfl rfl 5 (by decide) f67 (fun _ h9 => h9) rfl dX7_readLetters_85 ?_
            refine lv_bipush (v := 98) hx hb dX7_readLetters_88 (by decide) ?_
            refine lv_icmp_eq (tgt := 102) hx hb dX7_readLetters_90 (by decide) (fun c_13 => ?_) (fun c_13 => ?_)
            · replace h := h.1 c_13
              refine lv_iconst (v := 1) hx hb dX7_readLetters_102 (by decide) ?_
              refine lv_goto (tgt := 107) hx hb dX7_readLetters_103 (by decide) ?_
              refine va_put (D := (dC, dI)) (ci := 7) (v := .int (1 : Int32)) (ty := .int) (C := RX7) (T := TX7) (N := 19) hx hb hts iwX7_readLetters_X7 tyX7 tyX7_ok nmX7 hown hK hP hD hS 0 rfl rfl 4 (by decide) f77 (fun _ h9 => h9) rfl (by decide +kernel) rfl rfl (Nat.le_of_ble_eq_true rfl) dX7_readLetters_107 (fun H locs hP hD hS => ?_)
              replace hP : va_P (dC, dI) vwCl [(a, .inr (7, [.ref a_text, .int v_size, .int v_at, .int v_begin, .int (1 : Int32), .int v_told, .ref a_read, .ref a_hill, .ref a_now, .ref a_undone, .int v_undos, .ref a_need, .int v_cames, .ref a_cameOf, .ref a_places, .ref a_firstRow, .int v_each, .long v_trace, .ref a_kept])), (a_text, .inl (cyI, 150, .inl v_text))] H := hP
              replace hD : va_D A [(a, .inr (7, [.ref a_text, .int v_size, .int v_at, .int v_begin, .int (1 : Int32), .int v_told, .ref a_read, .ref a_hill, .ref a_now, .ref a_undone, .int v_undos, .ref a_need, .int v_cames, .ref a_cameOf, .ref a_places, .ref a_firstRow, .int v_each, .long v_trace, .ref a_kept])), (a_text, .inl (cyI, 150, .inl v_text))] := hD
              exact grv3 hx hb hr hlocks h hP hD hS dX7_readLetters_110
            · replace h := h.2 c_13
              refine lv_aload_n hx hb dX7_readLetters_93 rfl (lv_at hl 0 rfl) ?_
              refine va_get (D := (dC, dI)) (ci := 7) (v := .int v_told) (C := RX7) (T := TX7) (N := 19) hx hb hts iwX7_readLetters_X7 hown hK hP 0 rfl rfl 5 (by decide) f67 (fun _ h9 => h9) rfl dX7_readLetters_94 ?_
              refine lv_bipush (v := 108) hx hb dX7_readLetters_97 (by decide) ?_
              refine lv_icmp_ne (tgt := 106) hx hb dX7_readLetters_99 (by decide) (fun c_14 => ?_) (fun c_14 => ?_)
              · replace h := h.1 c_14
                refine lv_iconst (v := 4) hx hb dX7_readLetters_106 (by decide) ?_
                refine va_put (D := (dC, dI)) (ci := 7) (v := .int (4 : Int32)) (ty := .int) (C := RX7) (T := TX7) (N := 19) hx hb hts iwX7_readLetters_X7 tyX7 tyX7_ok nmX7 hown hK hP hD hS 0 rfl rfl 4 (by decide) f77 (fun _ h9 => h9) rfl (by decide +kernel) rfl rfl (Nat.le_of_ble_eq_true rfl) dX7_readLetters_107 (fun H locs hP hD hS => ?_)
                replace hP : va_P (dC, dI) vwCl [(a, .inr (7, [.ref a_text, .int v_size, .int v_at, .int v_begin, .int (4 : Int32), .int v_told, .ref a_read, .ref a_hill, .ref a_now, .ref a_undone, .int v_undos, .ref a_need, .int v_cames, .ref a_cameOf, .ref a_places, .ref a_firstRow, .int v_each, .long v_trace, .ref a_kept])), (a_text, .inl (cyI, 150, .inl v_text))] H := hP
                replace hD : va_D A [(a, .inr (7, [.ref a_text, .int v_size, .int v_at, .int v_begin, .int (4 : Int32), .int v_told, .ref a_read, .ref a_hill, .ref a_now, .ref a_undone, .int v_undos, .ref a_need, .int v_cames, .ref a_cameOf, .ref a_places, .ref a_firstRow, .int v_each, .long v_trace, .ref a_kept])), (a_text, .inl (cyI, 150, .inl v_text))] := hD
                exact grv3 hx hb hr hlocks h hP hD hS dX7_readLetters_110
              · replace h := h.2 c_14
                refine lv_iconst (v := 1) hx hb dX7_readLetters_102 (by decide) ?_
                refine lv_goto (tgt := 107) hx hb dX7_readLetters_103 (by decide) ?_
                refine va_put (D := (dC, dI)) (ci := 7) (v := .int (1 : Int32)) (ty := .int) (C := RX7) (T := TX7) (N := 19) hx hb hts iwX7_readLetters_X7 tyX7 tyX7_ok nmX7 hown hK hP hD hS 0 rfl rfl 4 (by decide) f77 (fun _ h9 => h9) rfl (by decide +kernel) rfl rfl (Nat.le_of_ble_eq_true rfl) dX7_readLetters_107 (fun H locs hP hD hS => ?_)
                replace hP : va_P (dC, dI) vwCl [(a, .inr (7, [.ref a_text, .int v_size, .int v_at, .int v_begin, .int (1 : Int32), .int v_told, .ref a_read, .ref a_hill, .ref a_now, .ref a_undone, .int v_undos, .ref a_need, .int v_cames, .ref a_cameOf, .ref a_places, .ref a_firstRow, .int v_each, .long v_trace, .ref a_kept])), (a_text, .inl (cyI, 150, .inl v_text))] H := hP
                replace hD : va_D A [(a, .inr (7, [.ref a_text, .int v_size, .int v_at, .int v_begin, .int (1 : Int32), .int v_told, .ref a_read, .ref a_hill, .ref a_now, .ref a_undone, .int v_undos, .ref a_need, .int v_cames, .ref a_cameOf, .ref a_places, .ref a_firstRow, .int v_each, .long v_trace, .ref a_kept])), (a_text, .inl (cyI, 150, .inl v_text))] := hD
                exact grv3 hx hb hr hlocks h hP hD hS dX7_readLetters_110
set_option maxHeartbeats 4000000 in
set_option maxRecDepth 100000 in
theorem c_X7_readLetters (l : Launch) (dC : Nat → ClassId) (dI : Nat → Nat → Nat) (cyC cyI cyZ : ClassId) (sz : Nat) (a a_text a_read a_hill a_now a_undone a_need a_cameOf a_places a_firstRow a_kept : Nat) (v_size : Int32) (v_at : Int32) (v_begin : Int32) (v_token : Int32) (v_told : Int32) (v_undos : Int32) (v_cames : Int32) (v_each : Int32) (v_trace : Int64) (v_text : Nat → Int32) {Q : Int32 → Int32 → Int32 → Prop} (h : q_X7_readLetters v_size v_at v_begin v_token v_told v_text Q) : Met l yX7_readLetters wsX7_readLetters ({ frames := 2, cells := 0, slots := 0, locals := 45 }) (gPc [.ref a] (dC, dI) (gTy cyC cyI cyZ) sz [(a, .inr (7, [.ref a_text, .int v_size, .int v_at, .int v_begin, .int v_token, .int v_told, .ref a_read, .ref a_hill, .ref a_now, .ref a_undone, .int v_undos, .ref a_need, .int v_cames, .ref a_cameOf, .ref a_places, .ref a_firstRow, .int v_each, .long v_trace, .ref a_kept])), (a_text, .inl (cyI, 150, .inl v_text))]) (gQv3 Q (dC, dI) (va_A [(a, .inr (7, [.ref a_text, .int v_size, .int v_at, .int v_begin, .int v_token, .int v_told, .ref a_read, .ref a_hill, .ref a_now, .ref a_undone, .int v_undos, .ref a_need, .int v_cames, .ref a_cameOf, .ref a_places, .ref a_firstRow, .int v_each, .long v_trace, .ref a_kept])), (a_text, .inl (cyI, 150, .inl v_text))] sz) (fun (u1 : Int32) (u2 : Int32) (u3 : Int32) => [(a, .inr (7, [.ref a_text, .int v_size, .int u1, .int v_begin, .int u2, .int u3, .ref a_read, .ref a_hill, .ref a_now, .ref a_undone, .int v_undos, .ref a_need, .int v_cames, .ref a_cameOf, .ref a_places, .ref a_firstRow, .int v_each, .long v_trace, .ref a_kept])), (a_text, .inl (cyI, 150, .inl v_text))])) 0 0 (va_A [(a, .inr (7, [.ref a_text, .int v_size, .int v_at, .int v_begin, .int v_token, .int v_told, .ref a_read, .ref a_hill, .ref a_now, .ref a_undone, .int v_undos, .ref a_need, .int v_cames, .ref a_cameOf, .ref a_places, .ref a_firstRow, .int v_each, .long v_trace, .ref a_kept])), (a_text, .inl (cyI, 150, .inl v_text))] sz) := by
  refine gMet (cc := cX7_readLetters) (maxL := 1) (ret := none) (own := RX7) (fun A => gQv3 Q (dC, dI) A (fun (u1 : Int32) (u2 : Int32) (u3 : Int32) => [(a, .inr (7, [.ref a_text, .int v_size, .int u1, .int v_begin, .int u2, .int u3, .ref a_read, .ref a_hill, .ref a_now, .ref a_undone, .int v_undos, .ref a_need, .int v_cames, .ref a_cameOf, .ref a_places, .ref a_firstRow, .int v_each, .long v_trace, .ref a_kept])), (a_text, .inl (cyI, 150, .inl v_text))])) (by decide) rfl rfl (Nat.le_of_ble_eq_true rfl) ?_
  intro p e s m below meth c A ls C0 _ hK hN hP hD hA hl
  obtain ⟨hx, hb, hr, hml, hown, hts, hlocks⟩ := id C0
  have f52 := hts (.fieldLink RX7 52 "LastOchreModel" "size" "I") (by decide +kernel)
  have f64 := hts (.fieldLink RX7 64 "LastOchreModel" "at" "I") (by decide +kernel)
  have f67 := hts (.fieldLink RX7 67 "LastOchreModel" "told" "I") (by decide +kernel)
  have f7 := hts (.fieldLink RX7 7 "LastOchreModel" "text" "[I") (by decide +kernel)
  have f74 := hts (.fieldLink RX7 74 "LastOchreModel" "begin" "I") (by decide +kernel)
  have f77 := hts (.fieldLink RX7 77 "LastOchreModel" "token" "I") (by decide +kernel)
  have hS : va_S A s.heap s.heap [] := va_S.rf
  replace hl : lv_has ls 1 [(0, .ref a)] := hl
  unfold q_X7_readLetters at h
  obtain ⟨n, h⟩ := h
  obtain ⟨ih13, ih52⟩ := w_X7_readLetters (l := l) (e := e) (below := below) dC dI cyC cyI cyZ a a_text a_read a_hill a_now a_undone a_need a_cameOf a_places a_firstRow a_kept v_size v_begin v_undos v_cames v_each v_trace v_text Q C0 hK hN hA n
  unfold F_X7_readLetters_e at h
  refine lv_aload_n hx hb dX7_readLetters_0 rfl (lv_at hl 0 rfl) ?_
  refine lv_aload_n hx hb dX7_readLetters_1 rfl (lv_at hl 0 rfl) ?_
  refine va_get (D := (dC, dI)) (ci := 7) (v := .ref a_text) (C := RX7) (T := TX7) (N := 19) hx hb hts iwX7_readLetters_X7 hown hK hP 0 rfl rfl 0 (by decide) f7 (fun _ h9 => h9) rfl dX7_readLetters_2 ?_
  refine lv_aload_n hx hb dX7_readLetters_5 rfl (lv_at hl 0 rfl) ?_
  refine va_get (D := (dC, dI)) (ci := 7) (v := .int v_at) (C := RX7) (T := TX7) (N := 19) hx hb hts iwX7_readLetters_X7 hown hK hP 0 rfl rfl 2 (by decide) f64 (fun _ h9 => h9) rfl dX7_readLetters_6 ?_
  have g_1 := h.1
  replace h := h.2
  refine va_iald hx hb hK hP 1 0 rfl rfl g_1 dX7_readLetters_9 ?_
  refine lv_topi (fun n_2 e_3 => ?_)
  replace h := h n_2 e_3
  refine va_put (D := (dC, dI)) (ci := 7) (v := .int n_2) (ty := .int) (C := RX7) (T := TX7) (N := 19) hx hb hts iwX7_readLetters_X7 tyX7 tyX7_ok nmX7 hown hK hP hD hS 0 rfl rfl 5 (by decide) f67 (fun _ h9 => h9) rfl (by decide +kernel) rfl rfl (Nat.le_of_ble_eq_true rfl) dX7_readLetters_10 (fun H locs hP hD hS => ?_)
  replace hP : va_P (dC, dI) vwCl [(a, .inr (7, [.ref a_text, .int v_size, .int v_at, .int v_begin, .int v_token, .int n_2, .ref a_read, .ref a_hill, .ref a_now, .ref a_undone, .int v_undos, .ref a_need, .int v_cames, .ref a_cameOf, .ref a_places, .ref a_firstRow, .int v_each, .long v_trace, .ref a_kept])), (a_text, .inl (cyI, 150, .inl v_text))] H := hP
  replace hD : va_D A [(a, .inr (7, [.ref a_text, .int v_size, .int v_at, .int v_begin, .int v_token, .int n_2, .ref a_read, .ref a_hill, .ref a_now, .ref a_undone, .int v_undos, .ref a_need, .int v_cames, .ref a_cameOf, .ref a_places, .ref a_firstRow, .int v_each, .long v_trace, .ref a_kept])), (a_text, .inl (cyI, 150, .inl v_text))] := hD
  exact ih13 v_at v_token n_2 _ _ _ h hP hD hS (lv_sub hl [0] rfl)

def F_X7_readNumber_e (v_size : Int32) (v_begin : Int32) (v_text : Nat → Int32) (Q : Int32 → Int32 → Int32 → Prop) (rec : Nat → Int32 → Int32 → Int32 → Int32 → Int32 → Prop) (v_at : Int32) (v_token : Int32) (v_told : Int32) : Prop :=
  rec 2 (0 : Int32) 0 v_at v_token v_told
def F_X7_readNumber_2 (v_size : Int32) (v_begin : Int32) (v_text : Nat → Int32) (Q : Int32 → Int32 → Int32 → Prop) (rec : Nat → Int32 → Int32 → Int32 → Int32 → Int32 → Prop) (x1 : Int32) (k0 : Int32) (v_at : Int32) (v_token : Int32) (v_told : Int32) : Prop :=
  (v_size ≤ v_at → (rec 69 x1 0 v_at v_token v_told)) ∧ (¬ v_size ≤ v_at → (vp_in v_at 150 ∧ (q_X7_isFigure (v_text (v_at).toNatClampNeg) (fun (r_3 : Int32) => (r_3 = 0 → (rec 69 x1 0 v_at v_token v_told)) ∧ (¬ r_3 = 0 → ((x1 ≤ (99 : Int32) → (vp_in v_at 150 ∧ (rec 55 0 ((((10 : Int32) * x1) + (v_text (v_at).toNatClampNeg)) - (48 : Int32)) v_at v_token v_told))) ∧ (¬ x1 ≤ (99 : Int32) → (rec 55 0 x1 v_at v_token v_told))))))))
def F_X7_readNumber_55 (v_size : Int32) (v_begin : Int32) (v_text : Nat → Int32) (Q : Int32 → Int32 → Int32 → Prop) (rec : Nat → Int32 → Int32 → Int32 → Int32 → Int32 → Prop) (x1 : Int32) (k0 : Int32) (v_at : Int32) (v_token : Int32) (v_told : Int32) : Prop :=
  ∀ n_7 : Int32, n_7 = (v_at + (1 : Int32)) → (rec 2 k0 0 n_7 v_token v_told)
def F_X7_readNumber_69 (v_size : Int32) (v_begin : Int32) (v_text : Nat → Int32) (Q : Int32 → Int32 → Int32 → Prop) (rec : Nat → Int32 → Int32 → Int32 → Int32 → Int32 → Prop) (x1 : Int32) (k0 : Int32) (v_at : Int32) (v_token : Int32) (v_told : Int32) : Prop :=
  ((99 : Int32) < x1 → (Q v_at (4 : Int32) x1)) ∧ (¬ (99 : Int32) < x1 → (((v_at - v_begin) ≤ (1 : Int32) → (Q v_at (2 : Int32) x1)) ∧ (¬ (v_at - v_begin) ≤ (1 : Int32) → (vp_in v_begin 150 ∧ ((¬ (v_text (v_begin).toNatClampNeg) = (48 : Int32) → (Q v_at (2 : Int32) x1)) ∧ ((v_text (v_begin).toNatClampNeg) = (48 : Int32) → (Q v_at (4 : Int32) x1)))))))
def wp_X7_readNumber (v_size : Int32) (v_begin : Int32) (v_text : Nat → Int32) (Q : Int32 → Int32 → Int32 → Prop) : Nat → Nat → Int32 → Int32 → Int32 → Int32 → Int32 → Prop
  | 0 => fun _ _ _ _ _ _ => False
  | n + 1 => fun t x1 k0 v_at v_token v_told => if t = 2 then F_X7_readNumber_2 v_size v_begin v_text Q (wp_X7_readNumber v_size v_begin v_text Q n) x1 k0 v_at v_token v_told else if t = 55 then F_X7_readNumber_55 v_size v_begin v_text Q (wp_X7_readNumber v_size v_begin v_text Q n) x1 k0 v_at v_token v_told else if t = 69 then F_X7_readNumber_69 v_size v_begin v_text Q (wp_X7_readNumber v_size v_begin v_text Q n) x1 k0 v_at v_token v_told else False
def q_X7_readNumber (v_size : Int32) (v_at : Int32) (v_begin : Int32) (v_token : Int32) (v_told : Int32) (v_text : Nat → Int32) (Q : Int32 → Int32 → Int32 → Prop) : Prop := ∃ n, F_X7_readNumber_e v_size v_begin v_text Q (wp_X7_readNumber v_size v_begin v_text Q n) v_at v_token v_told
theorem iwX7_readNumber_X7 : ∀ w ∈ wsX70, w ∈ wsX7_readNumber := by decide +kernel
theorem hdV_X7_readNumber : yX7_readNumber.cls = RX7 ∧ yX7_readNumber.cls ≠ "java/lang/invoke/MethodHandle" ∧ yX7_readNumber.cls ≠ "java/lang/invoke/VarHandle" ∧ (parseMethodDescriptor yX7_readNumber.desc).map (fun d => d.parameters.length) = some 0 := by decide +kernel
set_option maxHeartbeats 4000000 in
set_option maxRecDepth 100000 in
theorem w_X7_readNumber {p : Program} {l : Launch} {e : Env} {s : State} {m : MethodId} {args : Array Value} {below : List Frame} {meth : Method} {c : Code} {A : Nat → Prop} (dC : Nat → ClassId) (dI : Nat → Nat → Nat) (cyC cyI cyZ : ClassId) (a a_text a_read a_hill a_now a_undone a_need a_cameOf a_places a_firstRow a_kept : Nat) (v_size : Int32) (v_begin : Int32) (v_undos : Int32) (v_cames : Int32) (v_each : Int32) (v_trace : Int64) (v_text : Nat → Int32) (Q : Int32 → Int32 → Int32 → Prop) (C0 : gAt cX7_readNumber none 2 RX7 wsX7_readNumber p s m meth c args) (hK : va_K (dC, dI) vwCl (gTy cyC cyI cyZ) s) (hN : nU s) (hA : ∀ q, s.heap.size ≤ q → A q) : ∀ n : Nat, (∀ (x1 : Int32) (k0 : Int32) (v_at : Int32) (v_token : Int32) (v_told : Int32) (H : Heap) (locs : List Loc) (ls : Array Slot), wp_X7_readNumber v_size v_begin v_text Q n 2 x1 k0 v_at v_token v_told → va_P (dC, dI) vwCl [(a, .inr (7, [.ref a_text, .int v_size, .int v_at, .int v_begin, .int v_token, .int v_told, .ref a_read, .ref a_hill, .ref a_now, .ref a_undone, .int v_undos, .ref a_need, .int v_cames, .ref a_cameOf, .ref a_places, .ref a_firstRow, .int v_each, .long v_trace, .ref a_kept])), (a_text, .inl (cyI, 150, .inl v_text))] H → va_D A [(a, .inr (7, [.ref a_text, .int v_size, .int v_at, .int v_begin, .int v_token, .int v_told, .ref a_read, .ref a_hill, .ref a_now, .ref a_undone, .int v_undos, .ref a_need, .int v_cames, .ref a_cameOf, .ref a_places, .ref a_firstRow, .int v_each, .long v_trace, .ref a_kept])), (a_text, .inl (cyI, 150, .inl v_text))] → va_S A s.heap H locs → lv_has ls 2 [(0, .ref a), (1, .int x1)] → W p l e { frames := 2, cells := 0, slots := 0, locals := 45 } s m args below meth c H locs 0 0 (MQ below (gQv3 Q (dC, dI) A (fun (u1 : Int32) (u2 : Int32) (u3 : Int32) => [(a, .inr (7, [.ref a_text, .int v_size, .int u1, .int v_begin, .int u2, .int u3, .ref a_read, .ref a_hill, .ref a_now, .ref a_undone, .int v_undos, .ref a_need, .int v_cames, .ref a_cameOf, .ref a_places, .ref a_firstRow, .int v_each, .long v_trace, .ref a_kept])), (a_text, .inl (cyI, 150, .inl v_text))])) args s 0 0 A) (F0 m 2 ls [])) ∧ (∀ (x1 : Int32) (k0 : Int32) (v_at : Int32) (v_token : Int32) (v_told : Int32) (H : Heap) (locs : List Loc) (ls : Array Slot), wp_X7_readNumber v_size v_begin v_text Q n 55 x1 k0 v_at v_token v_told → va_P (dC, dI) vwCl [(a, .inr (7, [.ref a_text, .int v_size, .int v_at, .int v_begin, .int v_token, .int v_told, .ref a_read, .ref a_hill, .ref a_now, .ref a_undone, .int v_undos, .ref a_need, .int v_cames, .ref a_cameOf, .ref a_places, .ref a_firstRow, .int v_each, .long v_trace, .ref a_kept])), (a_text, .inl (cyI, 150, .inl v_text))] H → va_D A [(a, .inr (7, [.ref a_text, .int v_size, .int v_at, .int v_begin, .int v_token, .int v_told, .ref a_read, .ref a_hill, .ref a_now, .ref a_undone, .int v_undos, .ref a_need, .int v_cames, .ref a_cameOf, .ref a_places, .ref a_firstRow, .int v_each, .long v_trace, .ref a_kept])), (a_text, .inl (cyI, 150, .inl v_text))] → va_S A s.heap H locs → lv_has ls 2 [(0, .ref a)] → W p l e { frames := 2, cells := 0, slots := 0, locals := 45 } s m args below meth c H locs 0 0 (MQ below (gQv3 Q (dC, dI) A (fun (u1 : Int32) (u2 : Int32) (u3 : Int32) => [(a, .inr (7, [.ref a_text, .int v_size, .int u1, .int v_begin, .int u2, .int u3, .ref a_read, .ref a_hill, .ref a_now, .ref a_undone, .int v_undos, .ref a_need, .int v_cames, .ref a_cameOf, .ref a_places, .ref a_firstRow, .int v_each, .long v_trace, .ref a_kept])), (a_text, .inl (cyI, 150, .inl v_text))])) args s 0 0 A) (F0 m 55 ls [.int k0])) ∧ (∀ (x1 : Int32) (k0 : Int32) (v_at : Int32) (v_token : Int32) (v_told : Int32) (H : Heap) (locs : List Loc) (ls : Array Slot), wp_X7_readNumber v_size v_begin v_text Q n 69 x1 k0 v_at v_token v_told → va_P (dC, dI) vwCl [(a, .inr (7, [.ref a_text, .int v_size, .int v_at, .int v_begin, .int v_token, .int v_told, .ref a_read, .ref a_hill, .ref a_now, .ref a_undone, .int v_undos, .ref a_need, .int v_cames, .ref a_cameOf, .ref a_places, .ref a_firstRow, .int v_each, .long v_trace, .ref a_kept])), (a_text, .inl (cyI, 150, .inl v_text))] H → va_D A [(a, .inr (7, [.ref a_text, .int v_size, .int v_at, .int v_begin, .int v_token, .int v_told, .ref a_read, .ref a_hill, .ref a_now, .ref a_undone, .int v_undos, .ref a_need, .int v_cames, .ref a_cameOf, .ref a_places, .ref a_firstRow, .int v_each, .long v_trace, .ref a_kept])), (a_text, .inl (cyI, 150, .inl v_text))] → va_S A s.heap H locs → lv_has ls 2 [(0, .ref a), (1, .int x1)] → W p l e { frames := 2, cells := 0, slots := 0, locals := 45 } s m args below meth c H locs 0 0 (MQ below (gQv3 Q (dC, dI) A (fun (u1 : Int32) (u2 : Int32) (u3 : Int32) => [(a, .inr (7, [.ref a_text, .int v_size, .int u1, .int v_begin, .int u2, .int u3, .ref a_read, .ref a_hill, .ref a_now, .ref a_undone, .int v_undos, .ref a_need, .int v_cames, .ref a_cameOf, .ref a_places, .ref a_firstRow, .int v_each, .long v_trace, .ref a_kept])), (a_text, .inl (cyI, 150, .inl v_text))])) args s 0 0 A) (F0 m 69 ls [])) := by
  obtain ⟨hx, hb, hr, hml, hown, hts, hlocks⟩ := id C0
  have f52 := hts (.fieldLink RX7 52 "LastOchreModel" "size" "I") (by decide +kernel)
  have f64 := hts (.fieldLink RX7 64 "LastOchreModel" "at" "I") (by decide +kernel)
  have f67 := hts (.fieldLink RX7 67 "LastOchreModel" "told" "I") (by decide +kernel)
  have f7 := hts (.fieldLink RX7 7 "LastOchreModel" "text" "[I") (by decide +kernel)
  have f74 := hts (.fieldLink RX7 74 "LastOchreModel" "begin" "I") (by decide +kernel)
  have f77 := hts (.fieldLink RX7 77 "LastOchreModel" "token" "I") (by decide +kernel)
  intro n
  induction n with
  | zero => exact ⟨fun _ _ _ _ _ _ _ _ h => absurd h id, fun _ _ _ _ _ _ _ _ h => absurd h id, fun _ _ _ _ _ _ _ _ h => absurd h id⟩
  | succ n ih =>
    obtain ⟨ih2, ih55, ih69⟩ := ih
    refine ⟨?_, ?_, ?_⟩
    · intro x1 k0 v_at v_token v_told H locs ls h hP hD hS hl
      replace h : F_X7_readNumber_2 v_size v_begin v_text Q (wp_X7_readNumber v_size v_begin v_text Q n) x1 k0 v_at v_token v_told := h
      unfold F_X7_readNumber_2 at h
      refine lv_aload_n hx hb dX7_readNumber_2 rfl (lv_at hl 0 rfl) ?_
      refine va_get (D := (dC, dI)) (ci := 7) (v := .int v_at) (C := RX7) (T := TX7) (N := 19) hx hb hts iwX7_readNumber_X7 hown hK hP 0 rfl rfl 2 (by decide) f64 (fun _ h9 => h9) rfl dX7_readNumber_3 ?_
      refine lv_aload_n hx hb dX7_readNumber_6 rfl (lv_at hl 0 rfl) ?_
      refine va_get (D := (dC, dI)) (ci := 7) (v := .int v_size) (C := RX7) (T := TX7) (N := 19) hx hb hts iwX7_readNumber_X7 hown hK hP 0 rfl rfl 1 (by decide) f52 (fun _ h9 => h9) rfl dX7_readNumber_7 ?_
      refine lv_icmp_ge (tgt := 69) hx hb dX7_readNumber_10 (by decide) (fun c_1 => ?_) (fun c_1 => ?_)
      · replace h := h.1 c_1
        exact ih69 x1 0 v_at v_token v_told _ _ _ h hP hD hS (lv_sub hl [0, 1] rfl)
      · replace h := h.2 c_1
        refine lv_aload_n hx hb dX7_readNumber_13 rfl (lv_at hl 0 rfl) ?_
        refine va_get (D := (dC, dI)) (ci := 7) (v := .ref a_text) (C := RX7) (T := TX7) (N := 19) hx hb hts iwX7_readNumber_X7 hown hK hP 0 rfl rfl 0 (by decide) f7 (fun _ h9 => h9) rfl dX7_readNumber_14 ?_
        refine lv_aload_n hx hb dX7_readNumber_17 rfl (lv_at hl 0 rfl) ?_
        refine va_get (D := (dC, dI)) (ci := 7) (v := .int v_at) (C := RX7) (T := TX7) (N := 19) hx hb hts iwX7_readNumber_X7 hown hK hP 0 rfl rfl 2 (by decide) f64 (fun _ h9 => h9) rfl dX7_readNumber_18 ?_
        have g_2 := h.1
        replace h := h.2
        refine va_iald hx hb hK hP 1 0 rfl rfl g_2 dX7_readNumber_21 ?_
        refine gS_i0 (As := [.int (v_text (v_at).toNatClampNeg)]) (rest := []) ⟨hx, hb, hml, hown, hts⟩ (c_X7_isFigure l dC dI cyC cyI cyZ _ (v_text (v_at).toNatClampNeg) h) (va_cwS 1 hts gX7_readNumber_X7_isFigure rfl rfl rfl hdS_X7_isFigure ⟨Nat.le_of_ble_eq_true rfl, Nat.le_of_ble_eq_true rfl⟩) hK hN hP hD hS hA [] (by decide) rfl rfl hl.1 rfl (Nat.le_of_ble_eq_true rfl) dX7_readNumber_22 ⟨Nat.zero_le _, Nat.zero_le _⟩ (fun r_3 H locs h hP hS => ?_)
        refine lv_if_eq (tgt := 69) hx hb dX7_readNumber_25 (by decide) (fun c_4 => ?_) (fun c_4 => ?_)
        · replace h := h.1 c_4
          exact ih69 x1 0 v_at v_token v_told _ _ _ h hP hD hS (lv_sub hl [0, 1] rfl)
        · replace h := h.2 c_4
          refine lv_iload_n hx hb dX7_readNumber_28 rfl (lv_at hl 1 rfl) ?_
          refine lv_bipush (v := 99) hx hb dX7_readNumber_29 (by decide) ?_
          refine lv_icmp_le (tgt := 38) hx hb dX7_readNumber_31 (by decide) (fun c_5 => ?_) (fun c_5 => ?_)
          · replace h := h.1 c_5
            refine lv_bipush (v := 10) hx hb dX7_readNumber_38 (by decide) ?_
            refine lv_iload_n hx hb dX7_readNumber_40 rfl (lv_at hl 1 rfl) ?_
            refine lv_imul hx hb dX7_readNumber_41 ?_
            refine lv_aload_n hx hb dX7_readNumber_42 rfl (lv_at hl 0 rfl) ?_
            refine va_get (D := (dC, dI)) (ci := 7) (v := .ref a_text) (C := RX7) (T := TX7) (N := 19) hx hb hts iwX7_readNumber_X7 hown hK hP 0 rfl rfl 0 (by decide) f7 (fun _ h9 => h9) rfl dX7_readNumber_43 ?_
            refine lv_aload_n hx hb dX7_readNumber_46 rfl (lv_at hl 0 rfl) ?_
            refine va_get (D := (dC, dI)) (ci := 7) (v := .int v_at) (C := RX7) (T := TX7) (N := 19) hx hb hts iwX7_readNumber_X7 hown hK hP 0 rfl rfl 2 (by decide) f64 (fun _ h9 => h9) rfl dX7_readNumber_47 ?_
            have g_6 := h.1
            replace h := h.2
            refine va_iald hx hb hK hP 1 0 rfl rfl g_6 dX7_readNumber_50 ?_
            refine lv_iadd hx hb dX7_readNumber_51 ?_
            refine lv_bipush (v := 48) hx hb dX7_readNumber_52 (by decide) ?_
            refine lv_isub hx hb dX7_readNumber_54 ?_
            exact ih55 0 ((((10 : Int32) * x1) + (v_text (v_at).toNatClampNeg)) - (48 : Int32)) v_at v_token v_told _ _ _ h hP hD hS (lv_sub hl [0] rfl)
          · replace h := h.2 c_5
            refine lv_iload_n hx hb dX7_readNumber_34 rfl (lv_at hl 1 rfl) ?_
            refine lv_goto (tgt := 55) hx hb dX7_readNumber_35 (by decide) ?_
            exact ih55 0 x1 v_at v_token v_told _ _ _ h hP hD hS (lv_sub hl [0] rfl)
    · intro x1 k0 v_at v_token v_told H locs ls h hP hD hS hl
      replace h : F_X7_readNumber_55 v_size v_begin v_text Q (wp_X7_readNumber v_size v_begin v_text Q n) x1 k0 v_at v_token v_told := h
      unfold F_X7_readNumber_55 at h
      refine lv_istore_n (lv' := [(1, .int k0), (0, .ref a)]) hx hb dX7_readNumber_55 rfl hl (by decide) rfl (fun ls hl => ?_)
      refine lv_aload_n hx hb dX7_readNumber_56 rfl (lv_at hl 1 rfl) ?_
      refine lv_dup hx hb dX7_readNumber_57 rfl ?_
      refine va_get (D := (dC, dI)) (ci := 7) (v := .int v_at) (C := RX7) (T := TX7) (N := 19) hx hb hts iwX7_readNumber_X7 hown hK hP 0 rfl rfl 2 (by decide) f64 (fun _ h9 => h9) rfl dX7_readNumber_58 ?_
      refine lv_iconst (v := 1) hx hb dX7_readNumber_61 (by decide) ?_
      refine lv_iadd hx hb dX7_readNumber_62 ?_
      refine lv_topi (fun n_7 e_8 => ?_)
      replace h := h n_7 e_8
      refine va_put (D := (dC, dI)) (ci := 7) (v := .int n_7) (ty := .int) (C := RX7) (T := TX7) (N := 19) hx hb hts iwX7_readNumber_X7 tyX7 tyX7_ok nmX7 hown hK hP hD hS 0 rfl rfl 2 (by decide) f64 (fun _ h9 => h9) rfl (by decide +kernel) rfl rfl (Nat.le_of_ble_eq_true rfl) dX7_readNumber_63 (fun H locs hP hD hS => ?_)
      replace hP : va_P (dC, dI) vwCl [(a, .inr (7, [.ref a_text, .int v_size, .int n_7, .int v_begin, .int v_token, .int v_told, .ref a_read, .ref a_hill, .ref a_now, .ref a_undone, .int v_undos, .ref a_need, .int v_cames, .ref a_cameOf, .ref a_places, .ref a_firstRow, .int v_each, .long v_trace, .ref a_kept])), (a_text, .inl (cyI, 150, .inl v_text))] H := hP
      replace hD : va_D A [(a, .inr (7, [.ref a_text, .int v_size, .int n_7, .int v_begin, .int v_token, .int v_told, .ref a_read, .ref a_hill, .ref a_now, .ref a_undone, .int v_undos, .ref a_need, .int v_cames, .ref a_cameOf, .ref a_places, .ref a_firstRow, .int v_each, .long v_trace, .ref a_kept])), (a_text, .inl (cyI, 150, .inl v_text))] := hD
      refine lv_goto (tgt := 2) hx hb dX7_readNumber_66 (by decide) ?_
      exact ih2 k0 0 n_7 v_token v_told _ _ _ h hP hD hS (lv_sub hl [1, 0] rfl)
    · intro x1 k0 v_at v_token v_told H locs ls h hP hD hS hl
      replace h : F_X7_readNumber_69 v_size v_begin v_text Q (wp_X7_readNumber v_size v_begin v_text Q n) x1 k0 v_at v_token v_told := h
      unfold F_X7_readNumber_69 at h
      refine lv_aload_n hx hb dX7_readNumber_69 rfl (lv_at hl 0 rfl) ?_
      refine lv_iload_n hx hb dX7_readNumber_70 rfl (lv_at hl 1 rfl) ?_
      refine lv_bipush (v := 99) hx hb dX7_readNumber_71 (by decide) ?_
      refine lv_icmp_gt (tgt := 103) hx hb dX7_readNumber_73 (by decide) (fun c_9 => ?_) (fun c_9 => ?_)
      · replace h := h.1 c_9
        refine lv_iconst (v := 4) hx hb dX7_readNumber_103 (by decide) ?_
        refine lv_goto (tgt := 108) hx hb dX7_readNumber_104 (by decide) ?_
        refine va_put (D := (dC, dI)) (ci := 7) (v := .int (4 : Int32)) (ty := .int) (C := RX7) (T := TX7) (N := 19) hx hb hts iwX7_readNumber_X7 tyX7 tyX7_ok nmX7 hown hK hP hD hS 0 rfl rfl 4 (by decide) f77 (fun _ h9 => h9) rfl (by decide +kernel) rfl rfl (Nat.le_of_ble_eq_true rfl) dX7_readNumber_108 (fun H locs hP hD hS => ?_)
        replace hP : va_P (dC, dI) vwCl [(a, .inr (7, [.ref a_text, .int v_size, .int v_at, .int v_begin, .int (4 : Int32), .int v_told, .ref a_read, .ref a_hill, .ref a_now, .ref a_undone, .int v_undos, .ref a_need, .int v_cames, .ref a_cameOf, .ref a_places, .ref a_firstRow, .int v_each, .long v_trace, .ref a_kept])), (a_text, .inl (cyI, 150, .inl v_text))] H := hP
        replace hD : va_D A [(a, .inr (7, [.ref a_text, .int v_size, .int v_at, .int v_begin, .int (4 : Int32), .int v_told, .ref a_read, .ref a_hill, .ref a_now, .ref a_undone, .int v_undos, .ref a_need, .int v_cames, .ref a_cameOf, .ref a_places, .ref a_firstRow, .int v_each, .long v_trace, .ref a_kept])), (a_text, .inl (cyI, 150, .inl v_text))] := hD
        refine lv_aload_n hx hb dX7_readNumber_111 rfl (lv_at hl 0 rfl) ?_
        refine lv_iload_n hx hb dX7_readNumber_112 rfl (lv_at hl 1 rfl) ?_
        refine va_put (D := (dC, dI)) (ci := 7) (v := .int x1) (ty := .int) (C := RX7) (T := TX7) (N := 19) hx hb hts iwX7_readNumber_X7 tyX7 tyX7_ok nmX7 hown hK hP hD hS 0 rfl rfl 5 (by decide) f67 (fun _ h9 => h9) rfl (by decide +kernel) rfl rfl (Nat.le_of_ble_eq_true rfl) dX7_readNumber_113 (fun H locs hP hD hS => ?_)
        replace hP : va_P (dC, dI) vwCl [(a, .inr (7, [.ref a_text, .int v_size, .int v_at, .int v_begin, .int (4 : Int32), .int x1, .ref a_read, .ref a_hill, .ref a_now, .ref a_undone, .int v_undos, .ref a_need, .int v_cames, .ref a_cameOf, .ref a_places, .ref a_firstRow, .int v_each, .long v_trace, .ref a_kept])), (a_text, .inl (cyI, 150, .inl v_text))] H := hP
        replace hD : va_D A [(a, .inr (7, [.ref a_text, .int v_size, .int v_at, .int v_begin, .int (4 : Int32), .int x1, .ref a_read, .ref a_hill, .ref a_now, .ref a_undone, .int v_undos, .ref a_need, .int v_cames, .ref a_cameOf, .ref a_places, .ref a_firstRow, .int v_each, .long v_trace, .ref a_kept])), (a_text, .inl (cyI, 150, .inl v_text))] := hD
        exact grv3 hx hb hr hlocks h hP hD hS dX7_readNumber_116
      · replace h := h.2 c_9
        refine lv_aload_n hx hb dX7_readNumber_76 rfl (lv_at hl 0 rfl) ?_
        refine va_get (D := (dC, dI)) (ci := 7) (v := .int v_at) (C := RX7) (T := TX7) (N := 19) hx hb hts iwX7_readNumber_X7 hown hK hP 0 rfl rfl 2 (by decide) f64 (fun _ h9 => h9) rfl dX7_readNumber_77 ?_
        refine lv_aload_n hx hb dX7_readNumber_80 rfl (lv_at hl 0 rfl) ?_
        refine va_get (D := (dC, dI)) (ci := 7) (v := .int v_begin) (C := RX7) (T := TX7) (N := 19) hx hb hts iwX7_readNumber_X7 hown hK hP 0 rfl rfl 3 (by decide) f74 (fun _ h9 => h9) rfl dX7_readNumber_81 ?_
        refine lv_isub hx hb dX7_readNumber_84 ?_
        refine lv_iconst (v := 1) hx hb dX7_readNumber_85 (by decide) ?_
        refine lv_icmp_le (tgt := 107) hx hb dX7_readNumber_86 (by decide) (fun c_10 => ?_) (fun c_10 => ?_)
        · replace h := h.1 c_10
          refine lv_iconst (v := 2) hx hb dX7_readNumber_107 (by decide) ?_
          refine va_put (D := (dC, dI)) (ci := 7) (v := .int (2 : Int32)) (ty := .int) (C := RX7) (T := TX7) (N := 19) hx hb hts iwX7_readNumber_X7 tyX7 tyX7_ok nmX7 hown hK hP hD hS 0 rfl rfl 4 (by decide) f77 (fun _ h9 => h9) rfl (by decide +kernel) rfl rfl (Nat.le_of_ble_eq_true rfl) dX7_readNumber_108 (fun H locs hP hD hS => ?_)
          replace hP : va_P (dC, dI) vwCl [(a, .inr (7, [.ref a_text, .int v_size, .int v_at, .int v_begin, .int (2 : Int32), .int v_told, .ref a_read, .ref a_hill, .ref a_now, .ref a_undone, .int v_undos, .ref a_need, .int v_cames, .ref a_cameOf, .ref a_places, .ref a_firstRow, .int v_each, .long v_trace, .ref a_kept])), (a_text, .inl (cyI, 150, .inl v_text))] H := hP
          replace hD : va_D A [(a, .inr (7, [.ref a_text, .int v_size, .int v_at, .int v_begin, .int (2 : Int32), .int v_told, .ref a_read, .ref a_hill, .ref a_now, .ref a_undone, .int v_undos, .ref a_need, .int v_cames, .ref a_cameOf, .ref a_places, .ref a_firstRow, .int v_each, .long v_trace, .ref a_kept])), (a_text, .inl (cyI, 150, .inl v_text))] := hD
          refine lv_aload_n hx hb dX7_readNumber_111 rfl (lv_at hl 0 rfl) ?_
          refine lv_iload_n hx hb dX7_readNumber_112 rfl (lv_at hl 1 rfl) ?_
          refine va_put (D := (dC, dI)) (ci := 7) (v := .int x1) (ty := .int) (C := RX7) (T := TX7) (N := 19) hx hb hts iwX7_readNumber_X7 tyX7 tyX7_ok nmX7 hown hK hP hD hS 0 rfl rfl 5 (by decide) f67 (fun _ h9 => h9) rfl (by decide +kernel) rfl rfl (Nat.le_of_ble_eq_true rfl) dX7_readNumber_113 (fun H locs hP hD hS => ?_)
          replace hP : va_P (dC, dI) vwCl [(a, .inr (7, [.ref a_text, .int v_size, .int v_at, .int v_begin, .int (2 : Int32), .int x1, .ref a_read, .ref a_hill, .ref a_now, .ref a_undone, .int v_undos, .ref a_need, .int v_cames, .ref a_cameOf, .ref a_places, .ref a_firstRow, .int v_each, .long v_trace, .ref a_kept])), (a_text, .inl (cyI, 150, .inl v_text))] H := hP
          replace hD : va_D A [(a, .inr (7, [.ref a_text, .int v_size, .int v_at, .int v_begin, .int (2 : Int32), .int x1, .ref a_read, .ref a_hill, .ref a_now, .ref a_undone, .int v_undos, .ref a_need, .int v_cames, .ref a_cameOf, .ref a_places, .ref a_firstRow, .int v_each, .long v_trace, .ref a_kept])), (a_text, .inl (cyI, 150, .inl v_text))] := hD
          exact grv3 hx hb hr hlocks h hP hD hS dX7_readNumber_116
        · replace h := h.2 c_10
          refine lv_aload_n hx hb dX7_readNumber_89 rfl (lv_at hl 0 rfl) ?_
          refine va_get (D := (dC, dI)) (ci := 7) (v := .ref a_text) (C := RX7) (T := TX7) (N := 19) hx hb hts iwX7_readNumber_X7 hown hK hP 0 rfl rfl 0 (by decide) f7 (fun _ h9 => h9) rfl dX7_readNumber_90 ?_
          refine lv_aload_n hx hb dX7_readNumber_93 rfl (lv_at hl 0 rfl) ?_
          refine va_get (D := (dC, dI)) (ci := 7) (v := .int v_begin) (C := RX7) (T := TX7) (N := 19) hx hb hts iwX7_readNumber_X7 hown hK hP 0 rfl rfl 3 (by decide) f74 (fun _ h9 => h9) rfl dX7_readNumber_94 ?_
          have g_11 := h.1
          replace h := h.2
          refine va_iald hx hb hK hP 1 0 rfl rfl g_11 dX7_readNumber_97 ?_
          refine lv_bipush (v := 48) hx hb dX7_readNumber_98 (by decide) ?_
          refine lv_icmp_ne (tgt := 107) hx hb dX7_readNumber_100 (by decide) (fun c_12 => ?_) (fun c_12 => ?_)
          · replace h := h.1 c_12
            refine lv_iconst (v := 2) hx hb dX7_readNumber_107 (by decide) ?_
            refine va_put (D := (dC, dI)) (ci := 7) (v := .int (2 : Int32)) (ty := .int) (C := RX7) (T := TX7) (N := 19) hx hb hts iwX7_readNumber_X7 tyX7 tyX7_ok nmX7 hown hK hP hD hS 0 rfl rfl 4 (by decide) f77 (fun _ h9 => h9) rfl (by decide +kernel) rfl rfl (Nat.le_of_ble_eq_true rfl) dX7_readNumber_108 (fun H locs hP hD hS => ?_)
            replace hP : va_P (dC, dI) vwCl [(a, .inr (7, [.ref a_text, .int v_size, .int v_at, .int v_begin, .int (2 : Int32), .int v_told, .ref a_read, .ref a_hill, .ref a_now, .ref a_undone, .int v_undos, .ref a_need, .int v_cames, .ref a_cameOf, .ref a_places, .ref a_firstRow, .int v_each, .long v_trace, .ref a_kept])), (a_text, .inl (cyI, 150, .inl v_text))] H := hP
            replace hD : va_D A [(a, .inr (7, [.ref a_text, .int v_size, .int v_at, .int v_begin, .int (2 : Int32), .int v_told, .ref a_read, .ref a_hill, .ref a_now, .ref a_undone, .int v_undos, .ref a_need, .int v_cames, .ref a_cameOf, .ref a_places, .ref a_firstRow, .int v_each, .long v_trace, .ref a_kept])), (a_text, .inl (cyI, 150, .inl v_text))] := hD
            refine lv_aload_n hx hb dX7_readNumber_111 rfl (lv_at hl 0 rfl) ?_
            refine lv_iload_n hx hb dX7_readNumber_112 rfl (lv_at hl 1 rfl) ?_
            refine va_put (D := (dC, dI)) (ci := 7) (v := .int x1) (ty := .int) (C := RX7) (T := TX7) (N := 19) hx hb hts iwX7_readNumber_X7 tyX7 tyX7_ok nmX7 hown hK hP hD hS 0 rfl rfl 5 (by decide) f67 (fun _ h9 => h9) rfl (by decide +kernel) rfl rfl (Nat.le_of_ble_eq_true rfl) dX7_readNumber_113 (fun H locs hP hD hS => ?_)
            replace hP : va_P (dC, dI) vwCl [(a, .inr (7, [.ref a_text, .int v_size, .int v_at, .int v_begin, .int (2 : Int32), .int x1, .ref a_read, .ref a_hill, .ref a_now, .ref a_undone, .int v_undos, .ref a_need, .int v_cames, .ref a_cameOf, .ref a_places, .ref a_firstRow, .int v_each, .long v_trace, .ref a_kept])), (a_text, .inl (cyI, 150, .inl v_text))] H := hP
            replace hD : va_D A [(a, .inr (7, [.ref a_text, .int v_size, .int v_at, .int v_begin, .int (2 : Int32), .int x1, .ref a_read, .ref a_hill, .ref a_now, .ref a_undone, .int v_undos, .ref a_need, .int v_cames, .ref a_cameOf, .ref a_places, .ref a_firstRow, .int v_each, .long v_trace, .ref a_kept])), (a_text, .inl (cyI, 150, .inl v_text))] := hD
            exact grv3 hx hb hr hlocks h hP hD hS dX7_readNumber_116
          · replace h := h.2 c_12
            refine lv_iconst (v := 4) hx hb dX7_readNumber_103 (by decide) ?_
            refine lv_goto (tgt := 108) hx hb dX7_readNumber_104 (by decide) ?_
            refine va_put (D := (dC, dI)) (ci := 7) (v := .int (4 : Int32)) (ty := .int) (C := RX7) (T := TX7) (N := 19) hx hb hts iwX7_readNumber_X7 tyX7 tyX7_ok nmX7 hown hK hP hD hS 0 rfl rfl 4 (by decide) f77 (fun _ h9 => h9) rfl (by decide +kernel) rfl rfl (Nat.le_of_ble_eq_true rfl) dX7_readNumber_108 (fun H locs hP hD hS => ?_)
            replace hP : va_P (dC, dI) vwCl [(a, .inr (7, [.ref a_text, .int v_size, .int v_at, .int v_begin, .int (4 : Int32), .int v_told, .ref a_read, .ref a_hill, .ref a_now, .ref a_undone, .int v_undos, .ref a_need, .int v_cames, .ref a_cameOf, .ref a_places, .ref a_firstRow, .int v_each, .long v_trace, .ref a_kept])), (a_text, .inl (cyI, 150, .inl v_text))] H := hP
            replace hD : va_D A [(a, .inr (7, [.ref a_text, .int v_size, .int v_at, .int v_begin, .int (4 : Int32), .int v_told, .ref a_read, .ref a_hill, .ref a_now, .ref a_undone, .int v_undos, .ref a_need, .int v_cames, .ref a_cameOf, .ref a_places, .ref a_firstRow, .int v_each, .long v_trace, .ref a_kept])), (a_text, .inl (cyI, 150, .inl v_text))] := hD
            refine lv_aload_n hx hb dX7_readNumber_111 rfl (lv_at hl 0 rfl) ?_
            refine lv_iload_n hx hb dX7_readNumber_112 rfl (lv_at hl 1 rfl) ?_
            refine va_put (D := (dC, dI)) (ci := 7) (v := .int x1) (ty := .int) (C := RX7) (T := TX7) (N := 19) hx hb hts iwX7_readNumber_X7 tyX7 tyX7_ok nmX7 hown hK hP hD hS 0 rfl rfl 5 (by decide) f67 (fun _ h9 => h9) rfl (by decide +kernel) rfl rfl (Nat.le_of_ble_eq_true rfl) dX7_readNumber_113 (fun H locs hP hD hS => ?_)
            replace hP : va_P (dC, dI) vwCl [(a, .inr (7, [.ref a_text, .int v_size, .int v_at, .int v_begin, .int (4 : Int32), .int x1, .ref a_read, .ref a_hill, .ref a_now, .ref a_undone, .int v_undos, .ref a_need, .int v_cames, .ref a_cameOf, .ref a_places, .ref a_firstRow, .int v_each, .long v_trace, .ref a_kept])), (a_text, .inl (cyI, 150, .inl v_text))] H := hP
            replace hD : va_D A [(a, .inr (7, [.ref a_text, .int v_size, .int v_at, .int v_begin, .int (4 : Int32), .int x1, .ref a_read, .ref a_hill, .ref a_now, .ref a_undone, .int v_undos, .ref a_need, .int v_cames, .ref a_cameOf, .ref a_places, .ref a_firstRow, .int v_each, .long v_trace, .ref a_kept])), (a_text, .inl (cyI, 150, .inl v_text))] := hD
            exact grv3 hx hb hr hlocks h hP hD hS dX7_readNumber_116
set_option maxHeartbeats 4000000 in
set_option maxRecDepth 100000 in
theorem c_X7_readNumber (l : Launch) (dC : Nat → ClassId) (dI : Nat → Nat → Nat) (cyC cyI cyZ : ClassId) (sz : Nat) (a a_text a_read a_hill a_now a_undone a_need a_cameOf a_places a_firstRow a_kept : Nat) (v_size : Int32) (v_at : Int32) (v_begin : Int32) (v_token : Int32) (v_told : Int32) (v_undos : Int32) (v_cames : Int32) (v_each : Int32) (v_trace : Int64) (v_text : Nat → Int32) {Q : Int32 → Int32 → Int32 → Prop} (h : q_X7_readNumber v_size v_at v_begin v_token v_told v_text Q) : Met l yX7_readNumber wsX7_readNumber ({ frames := 2, cells := 0, slots := 0, locals := 45 }) (gPc [.ref a] (dC, dI) (gTy cyC cyI cyZ) sz [(a, .inr (7, [.ref a_text, .int v_size, .int v_at, .int v_begin, .int v_token, .int v_told, .ref a_read, .ref a_hill, .ref a_now, .ref a_undone, .int v_undos, .ref a_need, .int v_cames, .ref a_cameOf, .ref a_places, .ref a_firstRow, .int v_each, .long v_trace, .ref a_kept])), (a_text, .inl (cyI, 150, .inl v_text))]) (gQv3 Q (dC, dI) (va_A [(a, .inr (7, [.ref a_text, .int v_size, .int v_at, .int v_begin, .int v_token, .int v_told, .ref a_read, .ref a_hill, .ref a_now, .ref a_undone, .int v_undos, .ref a_need, .int v_cames, .ref a_cameOf, .ref a_places, .ref a_firstRow, .int v_each, .long v_trace, .ref a_kept])), (a_text, .inl (cyI, 150, .inl v_text))] sz) (fun (u1 : Int32) (u2 : Int32) (u3 : Int32) => [(a, .inr (7, [.ref a_text, .int v_size, .int u1, .int v_begin, .int u2, .int u3, .ref a_read, .ref a_hill, .ref a_now, .ref a_undone, .int v_undos, .ref a_need, .int v_cames, .ref a_cameOf, .ref a_places, .ref a_firstRow, .int v_each, .long v_trace, .ref a_kept])), (a_text, .inl (cyI, 150, .inl v_text))])) 0 0 (va_A [(a, .inr (7, [.ref a_text, .int v_size, .int v_at, .int v_begin, .int v_token, .int v_told, .ref a_read, .ref a_hill, .ref a_now, .ref a_undone, .int v_undos, .ref a_need, .int v_cames, .ref a_cameOf, .ref a_places, .ref a_firstRow, .int v_each, .long v_trace, .ref a_kept])), (a_text, .inl (cyI, 150, .inl v_text))] sz) := by
  refine gMet (cc := cX7_readNumber) (maxL := 2) (ret := none) (own := RX7) (fun A => gQv3 Q (dC, dI) A (fun (u1 : Int32) (u2 : Int32) (u3 : Int32) => [(a, .inr (7, [.ref a_text, .int v_size, .int u1, .int v_begin, .int u2, .int u3, .ref a_read, .ref a_hill, .ref a_now, .ref a_undone, .int v_undos, .ref a_need, .int v_cames, .ref a_cameOf, .ref a_places, .ref a_firstRow, .int v_each, .long v_trace, .ref a_kept])), (a_text, .inl (cyI, 150, .inl v_text))])) (by decide) rfl rfl (Nat.le_of_ble_eq_true rfl) ?_
  intro p e s m below meth c A ls C0 _ hK hN hP hD hA hl
  obtain ⟨hx, hb, hr, hml, hown, hts, hlocks⟩ := id C0
  have f52 := hts (.fieldLink RX7 52 "LastOchreModel" "size" "I") (by decide +kernel)
  have f64 := hts (.fieldLink RX7 64 "LastOchreModel" "at" "I") (by decide +kernel)
  have f67 := hts (.fieldLink RX7 67 "LastOchreModel" "told" "I") (by decide +kernel)
  have f7 := hts (.fieldLink RX7 7 "LastOchreModel" "text" "[I") (by decide +kernel)
  have f74 := hts (.fieldLink RX7 74 "LastOchreModel" "begin" "I") (by decide +kernel)
  have f77 := hts (.fieldLink RX7 77 "LastOchreModel" "token" "I") (by decide +kernel)
  have hS : va_S A s.heap s.heap [] := va_S.rf
  replace hl : lv_has ls 2 [(0, .ref a)] := hl
  unfold q_X7_readNumber at h
  obtain ⟨n, h⟩ := h
  obtain ⟨ih2, ih55, ih69⟩ := w_X7_readNumber (l := l) (e := e) (below := below) dC dI cyC cyI cyZ a a_text a_read a_hill a_now a_undone a_need a_cameOf a_places a_firstRow a_kept v_size v_begin v_undos v_cames v_each v_trace v_text Q C0 hK hN hA n
  unfold F_X7_readNumber_e at h
  refine lv_iconst (v := 0) hx hb dX7_readNumber_0 (by decide) ?_
  refine lv_istore_n (lv' := [(1, .int (0 : Int32)), (0, .ref a)]) hx hb dX7_readNumber_1 rfl hl (by decide) rfl (fun ls hl => ?_)
  exact ih2 (0 : Int32) 0 v_at v_token v_told _ _ _ h hP hD hS (lv_sub hl [1, 0] rfl)

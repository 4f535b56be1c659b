def F_X5_wipe_e  (Q : Int32 → Int32 → Int32 → Int32 → Int32 → Int32 → Int32 → Int32 → Int32 → Int32 → Int32 → Int32 → (Nat → Int32) → Prop) (v_seamTold : Int32) (v_boundTold : Int32) (v_lossTold : Int32) (v_bound : Int32) (v_loss : Int32) (v_things : Int32) (v_seam_w : Int32) (v_seam_h : Int32) (v_seam_all : Int32) (v_seam_top : Int32) (v_seam_left : Int32) (v_seam_right : Int32) (v_seam_parts : Nat → Int32) : Prop :=
  q_X4_shape v_seam_w v_seam_h v_seam_all v_seam_top v_seam_left v_seam_right v_seam_parts (0 : Int32) (0 : Int32) (fun (u_1 : Int32) (u_2 : Int32) (u_3 : Int32) (u_4 : Int32) (u_5 : Int32) (u_6 : Int32) (u_7 : Nat → Int32) => Q (0 : Int32) (0 : Int32) (0 : Int32) (5 : Int32) (3 : Int32) (0 : Int32) u_1 u_2 u_3 u_4 u_5 u_6 u_7)
def q_X5_wipe (v_seamTold : Int32) (v_boundTold : Int32) (v_lossTold : Int32) (v_bound : Int32) (v_loss : Int32) (v_things : Int32) (v_seam_w : Int32) (v_seam_h : Int32) (v_seam_all : Int32) (v_seam_top : Int32) (v_seam_left : Int32) (v_seam_right : Int32) (v_seam_parts : Nat → Int32) (Q : Int32 → Int32 → Int32 → Int32 → Int32 → Int32 → Int32 → Int32 → Int32 → Int32 → Int32 → Int32 → (Nat → Int32) → Prop) : Prop := F_X5_wipe_e  Q v_seamTold v_boundTold v_lossTold v_bound v_loss v_things v_seam_w v_seam_h v_seam_all v_seam_top v_seam_left v_seam_right v_seam_parts
theorem iwX5_wipe_X5 : ∀ w ∈ wsX50, w ∈ wsX5_wipe := by decide +kernel
theorem hdV_X5_wipe : yX5_wipe.cls = RX5 ∧ yX5_wipe.cls ≠ "java/lang/invoke/MethodHandle" ∧ yX5_wipe.cls ≠ "java/lang/invoke/VarHandle" ∧ (parseMethodDescriptor yX5_wipe.desc).map (fun d => d.parameters.length) = some 0 := by decide +kernel
set_option maxHeartbeats 4000000 in
set_option maxRecDepth 100000 in
theorem c_X5_wipe (l : Launch) (dC : Nat → ClassId) (dI : Nat → Nat → Nat) (cyC cyI cyZ : ClassId) (sz : Nat) (a a_seam a_yellow a_white a_fades a_worth a_seam_parts : Nat) (v_seamTold : Int32) (v_boundTold : Int32) (v_lossTold : Int32) (v_bound : Int32) (v_loss : Int32) (v_things : Int32) (v_seam_w : Int32) (v_seam_h : Int32) (v_seam_all : Int32) (v_seam_top : Int32) (v_seam_left : Int32) (v_seam_right : Int32) (v_seam_parts : Nat → Int32) {Q : Int32 → Int32 → Int32 → Int32 → Int32 → Int32 → Int32 → Int32 → Int32 → Int32 → Int32 → Int32 → (Nat → Int32) → Prop} (h : q_X5_wipe v_seamTold v_boundTold v_lossTold v_bound v_loss v_things v_seam_w v_seam_h v_seam_all v_seam_top v_seam_left v_seam_right v_seam_parts Q) : Met l yX5_wipe wsX5_wipe ({ frames := 2, cells := 0, slots := 0, locals := 45 }) (gPc [.ref a] (dC, dI) (gTy cyC cyI cyZ) sz [(a, .inr (5, [.ref a_seam, .int v_seamTold, .int v_boundTold, .int v_lossTold, .int v_bound, .int v_loss, .int v_things, .ref a_yellow, .ref a_white, .ref a_fades, .ref a_worth])), (a_seam, .inr (4, [.int v_seam_w, .int v_seam_h, .ref a_seam_parts, .int v_seam_all, .int v_seam_top, .int v_seam_left, .int v_seam_right])), (a_seam_parts, .inl (cyI, 16, .inl v_seam_parts))]) (gQv13 Q (dC, dI) (va_A [(a, .inr (5, [.ref a_seam, .int v_seamTold, .int v_boundTold, .int v_lossTold, .int v_bound, .int v_loss, .int v_things, .ref a_yellow, .ref a_white, .ref a_fades, .ref a_worth])), (a_seam, .inr (4, [.int v_seam_w, .int v_seam_h, .ref a_seam_parts, .int v_seam_all, .int v_seam_top, .int v_seam_left, .int v_seam_right])), (a_seam_parts, .inl (cyI, 16, .inl v_seam_parts))] sz) (fun (u1 : Int32) (u2 : Int32) (u3 : Int32) (u4 : Int32) (u5 : Int32) (u6 : Int32) (u7 : Int32) (u8 : Int32) (u9 : Int32) (u10 : Int32) (u11 : Int32) (u12 : Int32) (u13 : Nat → Int32) => [(a, .inr (5, [.ref a_seam, .int u1, .int u2, .int u3, .int u4, .int u5, .int u6, .ref a_yellow, .ref a_white, .ref a_fades, .ref a_worth])), (a_seam, .inr (4, [.int u7, .int u8, .ref a_seam_parts, .int u9, .int u10, .int u11, .int u12])), (a_seam_parts, .inl (cyI, 16, .inl u13))])) 0 0 (va_A [(a, .inr (5, [.ref a_seam, .int v_seamTold, .int v_boundTold, .int v_lossTold, .int v_bound, .int v_loss, .int v_things, .ref a_yellow, .ref a_white, .ref a_fades, .ref a_worth])), (a_seam, .inr (4, [.int v_seam_w, .int v_seam_h, .ref a_seam_parts, .int v_seam_all, .int v_seam_top, .int v_seam_left, .int v_seam_right])), (a_seam_parts, .inl (cyI, 16, .inl v_seam_parts))] sz) := by
  refine gMet (cc := cX5_wipe) (maxL := 1) (ret := none) (own := RX5) (fun A => gQv13 Q (dC, dI) A (fun (u1 : Int32) (u2 : Int32) (u3 : Int32) (u4 : Int32) (u5 : Int32) (u6 : Int32) (u7 : Int32) (u8 : Int32) (u9 : Int32) (u10 : Int32) (u11 : Int32) (u12 : Int32) (u13 : Nat → Int32) => [(a, .inr (5, [.ref a_seam, .int u1, .int u2, .int u3, .int u4, .int u5, .int u6, .ref a_yellow, .ref a_white, .ref a_fades, .ref a_worth])), (a_seam, .inr (4, [.int u7, .int u8, .ref a_seam_parts, .int u9, .int u10, .int u11, .int u12])), (a_seam_parts, .inl (cyI, 16, .inl u13))])) (by decide) rfl rfl (Nat.le_of_ble_eq_true rfl) ?_
  intro p e s m below meth c A ls C0 _ hK hN hP hD hA hl
  obtain ⟨hx, hb, hr, hml, hown, hts, hlocks⟩ := id C0
  have f12 := hts (.fieldLink RX5 12 "LastOchre$Told" "seam" "LLastOchre$Seam;") (by decide +kernel)
  have f18 := hts (.fieldLink RX5 18 "LastOchre$Told" "bound" "I") (by decide +kernel)
  have f22 := hts (.fieldLink RX5 22 "LastOchre$Told" "loss" "I") (by decide +kernel)
  have f42 := hts (.fieldLink RX5 42 "LastOchre$Told" "seamTold" "Z") (by decide +kernel)
  have f46 := hts (.fieldLink RX5 46 "LastOchre$Told" "boundTold" "Z") (by decide +kernel)
  have f49 := hts (.fieldLink RX5 49 "LastOchre$Told" "lossTold" "Z") (by decide +kernel)
  have f52 := hts (.fieldLink RX5 52 "LastOchre$Told" "things" "I") (by decide +kernel)
  have hS : va_S A s.heap s.heap [] := va_S.rf
  replace hl : lv_has ls 1 [(0, .ref a)] := hl
  unfold q_X5_wipe at h
  unfold F_X5_wipe_e at h
  refine lv_aload_n hx hb dX5_wipe_0 rfl (lv_at hl 0 rfl) ?_
  refine va_get (D := (dC, dI)) (ci := 5) (v := .ref a_seam) (C := RX5) (T := TX5) (N := 11) hx hb hts iwX5_wipe_X5 hown hK hP 0 rfl rfl 0 (by decide) f12 (fun _ h9 => h9) rfl dX5_wipe_1 ?_
  refine lv_iconst (v := 0) hx hb dX5_wipe_4 (by decide) ?_
  refine lv_iconst (v := 0) hx hb dX5_wipe_5 (by decide) ?_
  refine gV_v7 (As := [.int (0 : Int32), .int (0 : Int32)]) (rest := []) ⟨hx, hb, hml, hown, hts⟩ (c_X4_shape l dC dI cyC cyI cyZ _ a_seam a_seam_parts v_seam_w v_seam_h v_seam_all v_seam_top v_seam_left v_seam_right v_seam_parts (0 : Int32) (0 : Int32) h) (cwV 2 hts gX5_wipe_X4_shape rfl rfl rfl hdV_X4_shape ⟨Nat.le_of_ble_eq_true rfl, Nat.le_of_ble_eq_true rfl⟩) hK hN hP hD hS hA [1, 2] (by decide) rfl (ci := 4) rfl rfl rfl hl.1 rfl (Nat.le_of_ble_eq_true rfl) dX5_wipe_6 ⟨Nat.zero_le _, Nat.zero_le _⟩ (wr := [(a, .inr (5, [.ref a_seam, .int v_seamTold, .int v_boundTold, .int v_lossTold, .int v_bound, .int v_loss, .int v_things, .ref a_yellow, .ref a_white, .ref a_fades, .ref a_worth]))]) [0] rfl (by decide) (by decide) (fun u_1 u_2 u_3 u_4 u_5 u_6 u_7 H locs h hP hD hS => ?_)
  replace hP : va_P (dC, dI) vwCl [(a, .inr (5, [.ref a_seam, .int v_seamTold, .int v_boundTold, .int v_lossTold, .int v_bound, .int v_loss, .int v_things, .ref a_yellow, .ref a_white, .ref a_fades, .ref a_worth])), (a_seam, .inr (4, [.int u_1, .int u_2, .ref a_seam_parts, .int u_3, .int u_4, .int u_5, .int u_6])), (a_seam_parts, .inl (cyI, 16, .inl u_7))] H := hP
  replace hD : va_D A [(a, .inr (5, [.ref a_seam, .int v_seamTold, .int v_boundTold, .int v_lossTold, .int v_bound, .int v_loss, .int v_things, .ref a_yellow, .ref a_white, .ref a_fades, .ref a_worth])), (a_seam, .inr (4, [.int u_1, .int u_2, .ref a_seam_parts, .int u_3, .int u_4, .int u_5, .int u_6])), (a_seam_parts, .inl (cyI, 16, .inl u_7))] := hD
  refine lv_aload_n hx hb dX5_wipe_9 rfl (lv_at hl 0 rfl) ?_
  refine lv_iconst (v := 0) hx hb dX5_wipe_10 (by decide) ?_
  refine va_put (D := (dC, dI)) (ci := 5) (v := .int (0 : Int32)) (ty := .boolean) (C := RX5) (T := TX5) (N := 11) hx hb hts iwX5_wipe_X5 tyX5 tyX5_ok nmX5 hown hK hP hD hS 0 rfl rfl 1 (by decide) f42 (fun _ h9 => h9) rfl (by decide +kernel) rfl rfl (Nat.le_of_ble_eq_true rfl) dX5_wipe_11 (fun H locs hP hD hS => ?_)
  replace hP : va_P (dC, dI) vwCl [(a, .inr (5, [.ref a_seam, .int (0 : Int32), .int v_boundTold, .int v_lossTold, .int v_bound, .int v_loss, .int v_things, .ref a_yellow, .ref a_white, .ref a_fades, .ref a_worth])), (a_seam, .inr (4, [.int u_1, .int u_2, .ref a_seam_parts, .int u_3, .int u_4, .int u_5, .int u_6])), (a_seam_parts, .inl (cyI, 16, .inl u_7))] H := hP
  replace hD : va_D A [(a, .inr (5, [.ref a_seam, .int (0 : Int32), .int v_boundTold, .int v_lossTold, .int v_bound, .int v_loss, .int v_things, .ref a_yellow, .ref a_white, .ref a_fades, .ref a_worth])), (a_seam, .inr (4, [.int u_1, .int u_2, .ref a_seam_parts, .int u_3, .int u_4, .int u_5, .int u_6])), (a_seam_parts, .inl (cyI, 16, .inl u_7))] := hD
  refine lv_aload_n hx hb dX5_wipe_14 rfl (lv_at hl 0 rfl) ?_
  refine lv_iconst (v := 0) hx hb dX5_wipe_15 (by decide) ?_
  refine va_put (D := (dC, dI)) (ci := 5) (v := .int (0 : Int32)) (ty := .boolean) (C := RX5) (T := TX5) (N := 11) hx hb hts iwX5_wipe_X5 tyX5 tyX5_ok nmX5 hown hK hP hD hS 0 rfl rfl 2 (by decide) f46 (fun _ h9 => h9) rfl (by decide +kernel) rfl rfl (Nat.le_of_ble_eq_true rfl) dX5_wipe_16 (fun H locs hP hD hS => ?_)
  replace hP : va_P (dC, dI) vwCl [(a, .inr (5, [.ref a_seam, .int (0 : Int32), .int (0 : Int32), .int v_lossTold, .int v_bound, .int v_loss, .int v_things, .ref a_yellow, .ref a_white, .ref a_fades, .ref a_worth])), (a_seam, .inr (4, [.int u_1, .int u_2, .ref a_seam_parts, .int u_3, .int u_4, .int u_5, .int u_6])), (a_seam_parts, .inl (cyI, 16, .inl u_7))] H := hP
  replace hD : va_D A [(a, .inr (5, [.ref a_seam, .int (0 : Int32), .int (0 : Int32), .int v_lossTold, .int v_bound, .int v_loss, .int v_things, .ref a_yellow, .ref a_white, .ref a_fades, .ref a_worth])), (a_seam, .inr (4, [.int u_1, .int u_2, .ref a_seam_parts, .int u_3, .int u_4, .int u_5, .int u_6])), (a_seam_parts, .inl (cyI, 16, .inl u_7))] := hD
  refine lv_aload_n hx hb dX5_wipe_19 rfl (lv_at hl 0 rfl) ?_
  refine lv_iconst (v := 0) hx hb dX5_wipe_20 (by decide) ?_
  refine va_put (D := (dC, dI)) (ci := 5) (v := .int (0 : Int32)) (ty := .boolean) (C := RX5) (T := TX5) (N := 11) hx hb hts iwX5_wipe_X5 tyX5 tyX5_ok nmX5 hown hK hP hD hS 0 rfl rfl 3 (by decide) f49 (fun _ h9 => h9) rfl (by decide +kernel) rfl rfl (Nat.le_of_ble_eq_true rfl) dX5_wipe_21 (fun H locs hP hD hS => ?_)
  replace hP : va_P (dC, dI) vwCl [(a, .inr (5, [.ref a_seam, .int (0 : Int32), .int (0 : Int32), .int (0 : Int32), .int v_bound, .int v_loss, .int v_things, .ref a_yellow, .ref a_white, .ref a_fades, .ref a_worth])), (a_seam, .inr (4, [.int u_1, .int u_2, .ref a_seam_parts, .int u_3, .int u_4, .int u_5, .int u_6])), (a_seam_parts, .inl (cyI, 16, .inl u_7))] H := hP
  replace hD : va_D A [(a, .inr (5, [.ref a_seam, .int (0 : Int32), .int (0 : Int32), .int (0 : Int32), .int v_bound, .int v_loss, .int v_things, .ref a_yellow, .ref a_white, .ref a_fades, .ref a_worth])), (a_seam, .inr (4, [.int u_1, .int u_2, .ref a_seam_parts, .int u_3, .int u_4, .int u_5, .int u_6])), (a_seam_parts, .inl (cyI, 16, .inl u_7))] := hD
  refine lv_aload_n hx hb dX5_wipe_24 rfl (lv_at hl 0 rfl) ?_
  refine lv_iconst (v := 5) hx hb dX5_wipe_25 (by decide) ?_
  refine va_put (D := (dC, dI)) (ci := 5) (v := .int (5 : Int32)) (ty := .int) (C := RX5) (T := TX5) (N := 11) hx hb hts iwX5_wipe_X5 tyX5 tyX5_ok nmX5 hown hK hP hD hS 0 rfl rfl 4 (by decide) f18 (fun _ h9 => h9) rfl (by decide +kernel) rfl rfl (Nat.le_of_ble_eq_true rfl) dX5_wipe_26 (fun H locs hP hD hS => ?_)
  replace hP : va_P (dC, dI) vwCl [(a, .inr (5, [.ref a_seam, .int (0 : Int32), .int (0 : Int32), .int (0 : Int32), .int (5 : Int32), .int v_loss, .int v_things, .ref a_yellow, .ref a_white, .ref a_fades, .ref a_worth])), (a_seam, .inr (4, [.int u_1, .int u_2, .ref a_seam_parts, .int u_3, .int u_4, .int u_5, .int u_6])), (a_seam_parts, .inl (cyI, 16, .inl u_7))] H := hP
  replace hD : va_D A [(a, .inr (5, [.ref a_seam, .int (0 : Int32), .int (0 : Int32), .int (0 : Int32), .int (5 : Int32), .int v_loss, .int v_things, .ref a_yellow, .ref a_white, .ref a_fades, .ref a_worth])), (a_seam, .inr (4, [.int u_1, .int u_2, .ref a_seam_parts, .int u_3, .int u_4, .int u_5, .int u_6])), (a_seam_parts, .inl (cyI, 16, .inl u_7))] := hD
  refine lv_aload_n hx hb dX5_wipe_29 rfl (lv_at hl 0 rfl) ?_
  refine lv_iconst (v := 3) hx hb dX5_wipe_30 (by decide) ?_
  refine va_put (D := (dC, dI)) (ci := 5) (v := .int (3 : Int32)) (ty := .int) (C := RX5) (T := TX5) (N := 11) hx hb hts iwX5_wipe_X5 tyX5 tyX5_ok nmX5 hown hK hP hD hS 0 rfl rfl 5 (by decide) f22 (fun _ h9 => h9) rfl (by decide +kernel) rfl rfl (Nat.le_of_ble_eq_true rfl) dX5_wipe_31 (fun H locs hP hD hS => ?_)
  replace hP : va_P (dC, dI) vwCl [(a, .inr (5, [.ref a_seam, .int (0 : Int32), .int (0 : Int32), .int (0 : Int32), .int (5 : Int32), .int (3 : Int32), .int v_things, .ref a_yellow, .ref a_white, .ref a_fades, .ref a_worth])), (a_seam, .inr (4, [.int u_1, .int u_2, .ref a_seam_parts, .int u_3, .int u_4, .int u_5, .int u_6])), (a_seam_parts, .inl (cyI, 16, .inl u_7))] H := hP
  replace hD : va_D A [(a, .inr (5, [.ref a_seam, .int (0 : Int32), .int (0 : Int32), .int (0 : Int32), .int (5 : Int32), .int (3 : Int32), .int v_things, .ref a_yellow, .ref a_white, .ref a_fades, .ref a_worth])), (a_seam, .inr (4, [.int u_1, .int u_2, .ref a_seam_parts, .int u_3, .int u_4, .int u_5, .int u_6])), (a_seam_parts, .inl (cyI, 16, .inl u_7))] := hD
  refine lv_aload_n hx hb dX5_wipe_34 rfl (lv_at hl 0 rfl) ?_
  refine lv_iconst (v := 0) hx hb dX5_wipe_35 (by decide) ?_
  refine va_put (D := (dC, dI)) (ci := 5) (v := .int (0 : Int32)) (ty := .int) (C := RX5) (T := TX5) (N := 11) hx hb hts iwX5_wipe_X5 tyX5 tyX5_ok nmX5 hown hK hP hD hS 0 rfl rfl 6 (by decide) f52 (fun _ h9 => h9) rfl (by decide +kernel) rfl rfl (Nat.le_of_ble_eq_true rfl) dX5_wipe_36 (fun H locs hP hD hS => ?_)
  replace hP : va_P (dC, dI) vwCl [(a, .inr (5, [.ref a_seam, .int (0 : Int32), .int (0 : Int32), .int (0 : Int32), .int (5 : Int32), .int (3 : Int32), .int (0 : Int32), .ref a_yellow, .ref a_white, .ref a_fades, .ref a_worth])), (a_seam, .inr (4, [.int u_1, .int u_2, .ref a_seam_parts, .int u_3, .int u_4, .int u_5, .int u_6])), (a_seam_parts, .inl (cyI, 16, .inl u_7))] H := hP
  replace hD : va_D A [(a, .inr (5, [.ref a_seam, .int (0 : Int32), .int (0 : Int32), .int (0 : Int32), .int (5 : Int32), .int (3 : Int32), .int (0 : Int32), .ref a_yellow, .ref a_white, .ref a_fades, .ref a_worth])), (a_seam, .inr (4, [.int u_1, .int u_2, .ref a_seam_parts, .int u_3, .int u_4, .int u_5, .int u_6])), (a_seam_parts, .inl (cyI, 16, .inl u_7))] := hD
  exact grv13 hx hb hr hlocks h hP hD hS dX5_wipe_39

def F_X3_findToken_e (v_length : Int32) (v_bytes : Nat → Int32) (Q : Int32 → Int32 → Prop) (rec : Nat → Int32 → Int32 → Prop) (v_place : Int32) (v_tokenStart : Int32) : Prop :=
  rec 0 v_place v_tokenStart
def F_X3_findToken_0 (v_length : Int32) (v_bytes : Nat → Int32) (Q : Int32 → Int32 → Prop) (rec : Nat → Int32 → Int32 → Prop) (v_place : Int32) (v_tokenStart : Int32) : Prop :=
  (v_length ≤ v_place → (Q v_place v_place)) ∧ (¬ v_length ≤ v_place → (vp_in v_place 150 ∧ ((¬ (v_bytes (v_place).toNatClampNeg) = (32 : Int32) → (Q v_place v_place)) ∧ ((v_bytes (v_place).toNatClampNeg) = (32 : Int32) → (∀ n_4 : Int32, n_4 = (v_place + (1 : Int32)) → (rec 0 n_4 v_tokenStart))))))
def wp_X3_findToken (v_length : Int32) (v_bytes : Nat → Int32) (Q : Int32 → Int32 → Prop) : Nat → Nat → Int32 → Int32 → Prop
  | 0 => fun _ _ _ => False
  | n + 1 => fun t v_place v_tokenStart => if t = 0 then F_X3_findToken_0 v_length v_bytes Q (wp_X3_findToken v_length v_bytes Q n) v_place v_tokenStart else False
def q_X3_findToken (v_length : Int32) (v_place : Int32) (v_tokenStart : Int32) (v_bytes : Nat → Int32) (Q : Int32 → Int32 → Prop) : Prop := ∃ n, F_X3_findToken_e v_length v_bytes Q (wp_X3_findToken v_length v_bytes Q n) v_place v_tokenStart
theorem iwX3_findToken_X3 : ∀ w ∈ wsX30, w ∈ wsX3_findToken := by decide +kernel
theorem hdV_X3_findToken : yX3_findToken.cls = RX3 ∧ yX3_findToken.cls ≠ "java/lang/invoke/MethodHandle" ∧ yX3_findToken.cls ≠ "java/lang/invoke/VarHandle" ∧ (parseMethodDescriptor yX3_findToken.desc).map (fun d => d.parameters.length) = some 0 := by decide +kernel
set_option maxHeartbeats 4000000 in
set_option maxRecDepth 100000 in
theorem w_X3_findToken {p : Program} {l : Launch} {e : Env} {s : State} {m : MethodId} {args : Array Value} {below : List Frame} {meth : Method} {c : Code} {A : Nat → Prop} (dC : Nat → ClassId) (dI : Nat → Nat → Nat) (cyC cyI cyZ : ClassId) (a a_bytes : Nat) (v_length : Int32) (v_bytes : Nat → Int32) (Q : Int32 → Int32 → Prop) (C0 : gAt cX3_findToken none 1 RX3 wsX3_findToken p s m meth c args) (hK : va_K (dC, dI) vwCl (gTy cyC cyI cyZ) s) (hN : nU s) (hA : ∀ q, s.heap.size ≤ q → A q) : ∀ n : Nat, (∀ (v_place : Int32) (v_tokenStart : Int32) (H : Heap) (locs : List Loc) (ls : Array Slot), wp_X3_findToken v_length v_bytes Q n 0 v_place v_tokenStart → va_P (dC, dI) vwCl [(a, .inr (3, [.ref a_bytes, .int v_length, .int v_place, .int v_tokenStart])), (a_bytes, .inl (cyC, 150, .inl v_bytes))] H → va_D A [(a, .inr (3, [.ref a_bytes, .int v_length, .int v_place, .int v_tokenStart])), (a_bytes, .inl (cyC, 150, .inl v_bytes))] → va_S A s.heap H locs → lv_has ls 1 [(0, .ref a)] → W p l e { frames := 0, cells := 0, slots := 0, locals := 0 } s m args below meth c H locs 0 0 (MQ below (gQv2 Q (dC, dI) A (fun (u1 : Int32) (u2 : Int32) => [(a, .inr (3, [.ref a_bytes, .int v_length, .int u1, .int u2])), (a_bytes, .inl (cyC, 150, .inl v_bytes))])) args s 0 0 A) (F0 m 0 ls [])) := by
  obtain ⟨hx, hb, hr, hml, hown, hts, hlocks⟩ := id C0
  have f15 := hts (.fieldLink RX3 15 "LastOchre$Reader" "length" "I") (by decide +kernel)
  have f24 := hts (.fieldLink RX3 24 "LastOchre$Reader" "place" "I") (by decide +kernel)
  have f30 := hts (.fieldLink RX3 30 "LastOchre$Reader" "tokenStart" "I") (by decide +kernel)
  have f9 := hts (.fieldLink RX3 9 "LastOchre$Reader" "bytes" "[C") (by decide +kernel)
  intro n
  induction n with
  | zero => exact fun _ _ _ _ _ h => absurd h id
  | succ n ih =>
    have ih0 := ih
    · intro v_place v_tokenStart H locs ls h hP hD hS hl
      replace h : F_X3_findToken_0 v_length v_bytes Q (wp_X3_findToken v_length v_bytes Q n) v_place v_tokenStart := h
      unfold F_X3_findToken_0 at h
      refine lv_aload_n hx hb dX3_findToken_0 rfl (lv_at hl 0 rfl) ?_
      refine va_get (D := (dC, dI)) (ci := 3) (v := .int v_place) (C := RX3) (T := TX3) (N := 4) hx hb hts iwX3_findToken_X3 hown hK hP 0 rfl rfl 2 (by decide) f24 (fun _ h9 => h9) rfl dX3_findToken_1 ?_
      refine lv_aload_n hx hb dX3_findToken_4 rfl (lv_at hl 0 rfl) ?_
      refine va_get (D := (dC, dI)) (ci := 3) (v := .int v_length) (C := RX3) (T := TX3) (N := 4) hx hb hts iwX3_findToken_X3 hown hK hP 0 rfl rfl 1 (by decide) f15 (fun _ h9 => h9) rfl dX3_findToken_5 ?_
      refine lv_icmp_ge (tgt := 38) hx hb dX3_findToken_8 (by decide) (fun c_1 => ?_) (fun c_1 => ?_)
      · replace h := h.1 c_1
        refine lv_aload_n hx hb dX3_findToken_38 rfl (lv_at hl 0 rfl) ?_
        refine lv_aload_n hx hb dX3_findToken_39 rfl (lv_at hl 0 rfl) ?_
        refine va_get (D := (dC, dI)) (ci := 3) (v := .int v_place) (C := RX3) (T := TX3) (N := 4) hx hb hts iwX3_findToken_X3 hown hK hP 0 rfl rfl 2 (by decide) f24 (fun _ h9 => h9) rfl dX3_findToken_40 ?_
        refine va_put (D := (dC, dI)) (ci := 3) (v := .int v_place) (ty := .int) (C := RX3) (T := TX3) (N := 4) hx hb hts iwX3_findToken_X3 tyX3 tyX3_ok nmX3 hown hK hP hD hS 0 rfl rfl 3 (by decide) f30 (fun _ h9 => h9) rfl (by decide +kernel) rfl rfl (Nat.le_of_ble_eq_true rfl) dX3_findToken_43 (fun H locs hP hD hS => ?_)
        replace hP : va_P (dC, dI) vwCl [(a, .inr (3, [.ref a_bytes, .int v_length, .int v_place, .int v_place])), (a_bytes, .inl (cyC, 150, .inl v_bytes))] H := hP
        replace hD : va_D A [(a, .inr (3, [.ref a_bytes, .int v_length, .int v_place, .int v_place])), (a_bytes, .inl (cyC, 150, .inl v_bytes))] := hD
        exact grv2 hx hb hr hlocks h hP hD hS dX3_findToken_46
      · replace h := h.2 c_1
        refine lv_aload_n hx hb dX3_findToken_11 rfl (lv_at hl 0 rfl) ?_
        refine va_get (D := (dC, dI)) (ci := 3) (v := .ref a_bytes) (C := RX3) (T := TX3) (N := 4) hx hb hts iwX3_findToken_X3 hown hK hP 0 rfl rfl 0 (by decide) f9 (fun _ h9 => h9) rfl dX3_findToken_12 ?_
        refine lv_aload_n hx hb dX3_findToken_15 rfl (lv_at hl 0 rfl) ?_
        refine va_get (D := (dC, dI)) (ci := 3) (v := .int v_place) (C := RX3) (T := TX3) (N := 4) hx hb hts iwX3_findToken_X3 hown hK hP 0 rfl rfl 2 (by decide) f24 (fun _ h9 => h9) rfl dX3_findToken_16 ?_
        have g_2 := h.1
        replace h := h.2
        refine va_cald hx hb hK hP 1 1 rfl rfl g_2 dX3_findToken_19 ?_
        refine lv_bipush (v := 32) hx hb dX3_findToken_20 (by decide) ?_
        refine lv_icmp_ne (tgt := 38) hx hb dX3_findToken_22 (by decide) (fun c_3 => ?_) (fun c_3 => ?_)
        · replace h := h.1 c_3
          refine lv_aload_n hx hb dX3_findToken_38 rfl (lv_at hl 0 rfl) ?_
          refine lv_aload_n hx hb dX3_findToken_39 rfl (lv_at hl 0 rfl) ?_
          refine va_get (D := (dC, dI)) (ci := 3) (v := .int v_place) (C := RX3) (T := TX3) (N := 4) hx hb hts iwX3_findToken_X3 hown hK hP 0 rfl rfl 2 (by decide) f24 (fun _ h9 => h9) rfl dX3_findToken_40 ?_
          refine va_put (D := (dC, dI)) (ci := 3) (v := .int v_place) (ty := .int) (C := RX3) (T := TX3) (N := 4) hx hb hts iwX3_findToken_X3 tyX3 tyX3_ok nmX3 hown hK hP hD hS 0 rfl rfl 3 (by decide) f30 (fun _ h9 => h9) rfl (by decide +kernel) rfl rfl (Nat.le_of_ble_eq_true rfl) dX3_findToken_43 (fun H locs hP hD hS => ?_)
          replace hP : va_P (dC, dI) vwCl [(a, .inr (3, [.ref a_bytes, .int v_length, .int v_place, .int v_place])), (a_bytes, .inl (cyC, 150, .inl v_bytes))] H := hP
          replace hD : va_D A [(a, .inr (3, [.ref a_bytes, .int v_length, .int v_place, .int v_place])), (a_bytes, .inl (cyC, 150, .inl v_bytes))] := hD
          exact grv2 hx hb hr hlocks h hP hD hS dX3_findToken_46
        · replace h := h.2 c_3
          refine lv_aload_n hx hb dX3_findToken_25 rfl (lv_at hl 0 rfl) ?_
          refine lv_dup hx hb dX3_findToken_26 rfl ?_
          refine va_get (D := (dC, dI)) (ci := 3) (v := .int v_place) (C := RX3) (T := TX3) (N := 4) hx hb hts iwX3_findToken_X3 hown hK hP 0 rfl rfl 2 (by decide) f24 (fun _ h9 => h9) rfl dX3_findToken_27 ?_
          refine lv_iconst (v := 1) hx hb dX3_findToken_30 (by decide) ?_
          refine lv_iadd hx hb dX3_findToken_31 ?_
          refine lv_topi (fun n_4 e_5 => ?_)
          replace h := h n_4 e_5
          refine va_put (D := (dC, dI)) (ci := 3) (v := .int n_4) (ty := .int) (C := RX3) (T := TX3) (N := 4) hx hb hts iwX3_findToken_X3 tyX3 tyX3_ok nmX3 hown hK hP hD hS 0 rfl rfl 2 (by decide) f24 (fun _ h9 => h9) rfl (by decide +kernel) rfl rfl (Nat.le_of_ble_eq_true rfl) dX3_findToken_32 (fun H locs hP hD hS => ?_)
          replace hP : va_P (dC, dI) vwCl [(a, .inr (3, [.ref a_bytes, .int v_length, .int n_4, .int v_tokenStart])), (a_bytes, .inl (cyC, 150, .inl v_bytes))] H := hP
          replace hD : va_D A [(a, .inr (3, [.ref a_bytes, .int v_length, .int n_4, .int v_tokenStart])), (a_bytes, .inl (cyC, 150, .inl v_bytes))] := hD
          refine lv_goto (tgt := 0) hx hb dX3_findToken_35 (by decide) ?_
          exact ih0 n_4 v_tokenStart _ _ _ h hP hD hS (lv_sub hl [0] rfl)
set_option maxHeartbeats 4000000 in
set_option maxRecDepth 100000 in
theorem c_X3_findToken (l : Launch) (dC : Nat → ClassId) (dI : Nat → Nat → Nat) (cyC cyI cyZ : ClassId) (sz : Nat) (a a_bytes : Nat) (v_length : Int32) (v_place : Int32) (v_tokenStart : Int32) (v_bytes : Nat → Int32) {Q : Int32 → Int32 → Prop} (h : q_X3_findToken v_length v_place v_tokenStart v_bytes Q) : Met l yX3_findToken wsX3_findToken ({ frames := 0, cells := 0, slots := 0, locals := 0 }) (gPc [.ref a] (dC, dI) (gTy cyC cyI cyZ) sz [(a, .inr (3, [.ref a_bytes, .int v_length, .int v_place, .int v_tokenStart])), (a_bytes, .inl (cyC, 150, .inl v_bytes))]) (gQv2 Q (dC, dI) (va_A [(a, .inr (3, [.ref a_bytes, .int v_length, .int v_place, .int v_tokenStart])), (a_bytes, .inl (cyC, 150, .inl v_bytes))] sz) (fun (u1 : Int32) (u2 : Int32) => [(a, .inr (3, [.ref a_bytes, .int v_length, .int u1, .int u2])), (a_bytes, .inl (cyC, 150, .inl v_bytes))])) 0 0 (va_A [(a, .inr (3, [.ref a_bytes, .int v_length, .int v_place, .int v_tokenStart])), (a_bytes, .inl (cyC, 150, .inl v_bytes))] sz) := by
  refine gMet (cc := cX3_findToken) (maxL := 1) (ret := none) (own := RX3) (fun A => gQv2 Q (dC, dI) A (fun (u1 : Int32) (u2 : Int32) => [(a, .inr (3, [.ref a_bytes, .int v_length, .int u1, .int u2])), (a_bytes, .inl (cyC, 150, .inl v_bytes))])) (by decide) rfl rfl (Nat.le_of_ble_eq_true rfl) ?_
  intro p e s m below meth c A ls C0 _ hK hN hP hD hA hl
  obtain ⟨hx, hb, hr, hml, hown, hts, hlocks⟩ := id C0
  have f15 := hts (.fieldLink RX3 15 "LastOchre$Reader" "length" "I") (by decide +kernel)
  have f24 := hts (.fieldLink RX3 24 "LastOchre$Reader" "place" "I") (by decide +kernel)
  have f30 := hts (.fieldLink RX3 30 "LastOchre$Reader" "tokenStart" "I") (by decide +kernel)
  have f9 := hts (.fieldLink RX3 9 "LastOchre$Reader" "bytes" "[C") (by decide +kernel)
  have hS : va_S A s.heap s.heap [] := va_S.rf
  replace hl : lv_has ls 1 [(0, .ref a)] := hl
  unfold q_X3_findToken at h
  obtain ⟨n, h⟩ := h
  have ih0 := w_X3_findToken (l := l) (e := e) (below := below) dC dI cyC cyI cyZ a a_bytes v_length v_bytes Q C0 hK hN hA n
  unfold F_X3_findToken_e at h
  exact ih0 v_place v_tokenStart _ _ _ h hP hD hS (lv_sub hl [0] rfl)

def F_X6_within_e (p0 : Int32) (p1 : Int32) (p2 : Int32) (Q : Int32 → Prop)  : Prop :=
  (p0 < p1 → (Q (0 : Int32))) ∧ (¬ p0 < p1 → ((p2 < p0 → (Q (0 : Int32))) ∧ (¬ p2 < p0 → (Q (1 : Int32)))))
def q_X6_within (p0 : Int32) (p1 : Int32) (p2 : Int32) (Q : Int32 → Prop) : Prop := F_X6_within_e p0 p1 p2 Q 
theorem hdS_X6_within : yX6_within.cls ≠ "java/lang/invoke/MethodHandle" ∧ yX6_within.cls ≠ "java/lang/invoke/VarHandle" ∧ (parseMethodDescriptor yX6_within.desc).map (fun d => d.parameters.length) = some 3 := by decide +kernel
set_option maxHeartbeats 4000000 in
set_option maxRecDepth 100000 in
theorem c_X6_within (l : Launch) (dC : Nat → ClassId) (dI : Nat → Nat → Nat) (cyC cyI cyZ : ClassId) (sz : Nat) (p0 : Int32) (p1 : Int32) (p2 : Int32) {Q : Int32 → Prop} (h : q_X6_within p0 p1 p2 Q) : Met l yX6_within wsX6_within ({ frames := 0, cells := 0, slots := 0, locals := 0 }) (gPc [.int p0, .int p1, .int p2] (dC, dI) (gTy cyC cyI cyZ) sz []) (gQi0 Q (dC, dI) (va_A [] sz) []) 0 0 (va_A [] sz) := by
  refine gMet (cc := cX6_within) (maxL := 3) (ret := (some .boolean)) (own := RX6) (fun A => gQi0 Q (dC, dI) A []) (by decide) rfl rfl (Nat.le_of_ble_eq_true rfl) ?_
  intro p e s m below meth c A ls C0 _ hK hN hP hD hA hl
  obtain ⟨hx, hb, hr, hml, hown, hts, hlocks⟩ := id C0
  have hS : va_S A s.heap s.heap [] := va_S.rf
  replace hl : lv_has ls 3 [(0, .int p0), (1, .int p1), (2, .int p2)] := hl
  unfold q_X6_within at h
  unfold F_X6_within_e at h
  refine lv_iload_n hx hb dX6_within_0 rfl (lv_at hl 0 rfl) ?_
  refine lv_iload_n hx hb dX6_within_1 rfl (lv_at hl 1 rfl) ?_
  refine lv_icmp_lt (tgt := 14) hx hb dX6_within_2 (by decide) (fun c_1 => ?_) (fun c_1 => ?_)
  · replace h := h.1 c_1
    refine lv_iconst (v := 0) hx hb dX6_within_14 (by decide) ?_
    exact grz0 hx hb hr hlocks rfl h hP hD hS dX6_within_15
  · replace h := h.2 c_1
    refine lv_iload_n hx hb dX6_within_5 rfl (lv_at hl 0 rfl) ?_
    refine lv_iload_n hx hb dX6_within_6 rfl (lv_at hl 2 rfl) ?_
    refine lv_icmp_gt (tgt := 14) hx hb dX6_within_7 (by decide) (fun c_2 => ?_) (fun c_2 => ?_)
    · replace h := h.1 c_2
      refine lv_iconst (v := 0) hx hb dX6_within_14 (by decide) ?_
      exact grz0 hx hb hr hlocks rfl h hP hD hS dX6_within_15
    · replace h := h.2 c_2
      refine lv_iconst (v := 1) hx hb dX6_within_10 (by decide) ?_
      refine lv_goto (tgt := 15) hx hb dX6_within_11 (by decide) ?_
      exact grz0 hx hb hr hlocks rfl h hP hD hS dX6_within_15

def F_X3_isLetterAt_e (v_length : Int32) (v_bytes : Nat → Int32) (p0 : Int32) (Q : Int32 → Prop)  : Prop :=
  (v_length ≤ p0 → (Q (0 : Int32))) ∧ (¬ v_length ≤ p0 → (vp_in p0 150 ∧ (q_X6_within (v_bytes (p0).toNatClampNeg) (97 : Int32) (122 : Int32) (fun (r_3 : Int32) => (r_3 = 0 → (Q (0 : Int32))) ∧ (¬ r_3 = 0 → (Q (1 : Int32)))))))
def q_X3_isLetterAt (v_length : Int32) (v_bytes : Nat → Int32) (p0 : Int32) (Q : Int32 → Prop) : Prop := F_X3_isLetterAt_e v_length v_bytes p0 Q 
theorem iwX3_isLetterAt_X3 : ∀ w ∈ wsX30, w ∈ wsX3_isLetterAt := by decide +kernel
theorem hdV_X3_isLetterAt : yX3_isLetterAt.cls = RX3 ∧ yX3_isLetterAt.cls ≠ "java/lang/invoke/MethodHandle" ∧ yX3_isLetterAt.cls ≠ "java/lang/invoke/VarHandle" ∧ (parseMethodDescriptor yX3_isLetterAt.desc).map (fun d => d.parameters.length) = some 1 := by decide +kernel
set_option maxHeartbeats 4000000 in
set_option maxRecDepth 100000 in
theorem c_X3_isLetterAt (l : Launch) (dC : Nat → ClassId) (dI : Nat → Nat → Nat) (cyC cyI cyZ : ClassId) (sz : Nat) (a a_bytes : Nat) (v_length : Int32) (v_place : Int32) (v_tokenStart : Int32) (v_bytes : Nat → Int32) (p0 : Int32) {Q : Int32 → Prop} (h : q_X3_isLetterAt v_length v_bytes p0 Q) : Met l yX3_isLetterAt wsX3_isLetterAt ({ frames := 1, cells := 0, slots := 0, locals := 22 }) (gPc [.ref a, .int p0] (dC, dI) (gTy cyC cyI cyZ) sz [(a, .inr (3, [.ref a_bytes, .int v_length, .int v_place, .int v_tokenStart])), (a_bytes, .inl (cyC, 150, .inl v_bytes))]) (gQi0 Q (dC, dI) (va_A [(a, .inr (3, [.ref a_bytes, .int v_length, .int v_place, .int v_tokenStart])), (a_bytes, .inl (cyC, 150, .inl v_bytes))] sz) [(a, .inr (3, [.ref a_bytes, .int v_length, .int v_place, .int v_tokenStart])), (a_bytes, .inl (cyC, 150, .inl v_bytes))]) 0 0 (va_A [(a, .inr (3, [.ref a_bytes, .int v_length, .int v_place, .int v_tokenStart])), (a_bytes, .inl (cyC, 150, .inl v_bytes))] sz) := by
  refine gMet (cc := cX3_isLetterAt) (maxL := 2) (ret := (some .boolean)) (own := RX3) (fun A => gQi0 Q (dC, dI) A [(a, .inr (3, [.ref a_bytes, .int v_length, .int v_place, .int v_tokenStart])), (a_bytes, .inl (cyC, 150, .inl v_bytes))]) (by decide) rfl rfl (Nat.le_of_ble_eq_true rfl) ?_
  intro p e s m below meth c A ls C0 _ hK hN hP hD hA hl
  obtain ⟨hx, hb, hr, hml, hown, hts, hlocks⟩ := id C0
  have f15 := hts (.fieldLink RX3 15 "LastOchre$Reader" "length" "I") (by decide +kernel)
  have f9 := hts (.fieldLink RX3 9 "LastOchre$Reader" "bytes" "[C") (by decide +kernel)
  have hS : va_S A s.heap s.heap [] := va_S.rf
  replace hl : lv_has ls 2 [(0, .ref a), (1, .int p0)] := hl
  unfold q_X3_isLetterAt at h
  unfold F_X3_isLetterAt_e at h
  refine lv_iload_n hx hb dX3_isLetterAt_0 rfl (lv_at hl 1 rfl) ?_
  refine lv_aload_n hx hb dX3_isLetterAt_1 rfl (lv_at hl 0 rfl) ?_
  refine va_get (D := (dC, dI)) (ci := 3) (v := .int v_length) (C := RX3) (T := TX3) (N := 4) hx hb hts iwX3_isLetterAt_X3 hown hK hP 0 rfl rfl 1 (by decide) f15 (fun _ h9 => h9) rfl dX3_isLetterAt_2 ?_
  refine lv_icmp_ge (tgt := 28) hx hb dX3_isLetterAt_5 (by decide) (fun c_1 => ?_) (fun c_1 => ?_)
  · replace h := h.1 c_1
    refine lv_iconst (v := 0) hx hb dX3_isLetterAt_28 (by decide) ?_
    exact grz0 hx hb hr hlocks rfl h hP hD hS dX3_isLetterAt_29
  · replace h := h.2 c_1
    refine lv_aload_n hx hb dX3_isLetterAt_8 rfl (lv_at hl 0 rfl) ?_
    refine va_get (D := (dC, dI)) (ci := 3) (v := .ref a_bytes) (C := RX3) (T := TX3) (N := 4) hx hb hts iwX3_isLetterAt_X3 hown hK hP 0 rfl rfl 0 (by decide) f9 (fun _ h9 => h9) rfl dX3_isLetterAt_9 ?_
    refine lv_iload_n hx hb dX3_isLetterAt_12 rfl (lv_at hl 1 rfl) ?_
    have g_2 := h.1
    replace h := h.2
    refine va_cald hx hb hK hP 1 1 rfl rfl g_2 dX3_isLetterAt_13 ?_
    refine lv_bipush (v := 97) hx hb dX3_isLetterAt_14 (by decide) ?_
    refine lv_bipush (v := 122) hx hb dX3_isLetterAt_16 (by decide) ?_
    refine gN_i0 (As := [.int (v_bytes (p0).toNatClampNeg), .int (97 : Int32), .int (122 : Int32)]) (rest := []) ⟨hx, hb, hml, hown, hts⟩ (c_X6_within l dC dI cyC cyI cyZ _ (v_bytes (p0).toNatClampNeg) (97 : Int32) (122 : Int32) h) ⟨va_cnB 3 hts gX3_isLetterAt_X6_within_n109 rfl rfl rfl (hN.at 41 rfl) (hts (.initialized RX6) (by decide +kernel)) hdS_X6_within ⟨Nat.le_of_ble_eq_true rfl, Nat.le_of_ble_eq_true rfl⟩, hts (.static yX6_within) (by decide +kernel), trivial⟩ hK hN hP hD hS hA [] (by decide) rfl rfl hl.1 rfl (Nat.le_of_ble_eq_true rfl) dX3_isLetterAt_18 ⟨Nat.zero_le _, Nat.zero_le _⟩ (fun r_3 H locs h hP hS => ?_)
    refine lv_if_eq (tgt := 28) hx hb dX3_isLetterAt_21 (by decide) (fun c_4 => ?_) (fun c_4 => ?_)
    · replace h := h.1 c_4
      refine lv_iconst (v := 0) hx hb dX3_isLetterAt_28 (by decide) ?_
      exact grz0 hx hb hr hlocks rfl h hP hD hS dX3_isLetterAt_29
    · replace h := h.2 c_4
      refine lv_iconst (v := 1) hx hb dX3_isLetterAt_24 (by decide) ?_
      refine lv_goto (tgt := 29) hx hb dX3_isLetterAt_25 (by decide) ?_
      exact grz0 hx hb hr hlocks rfl h hP hD hS dX3_isLetterAt_29

def F_X3_readLetter_e (v_length : Int32) (v_tokenStart : Int32) (v_bytes : Nat → Int32) (Q : Int32 → Int32 → Prop) (v_place : Int32) : Prop :=
  q_X3_isLetterAt v_length v_bytes v_place (fun (r_1 : Int32) => (r_1 = 0 → (Q (-1 : Int32) v_place)) ∧ (¬ r_1 = 0 → (q_X3_isLetterAt v_length v_bytes (v_place + (1 : Int32)) (fun (r_3 : Int32) => (r_3 = 0 → (∀ n_5 : Int32, n_5 = (v_place + (1 : Int32)) → (vp_in v_tokenStart 150 ∧ (Q (v_bytes (v_tokenStart).toNatClampNeg) n_5)))) ∧ (¬ r_3 = 0 → (Q (-1 : Int32) v_place))))))
def q_X3_readLetter (v_length : Int32) (v_place : Int32) (v_tokenStart : Int32) (v_bytes : Nat → Int32) (Q : Int32 → Int32 → Prop) : Prop := F_X3_readLetter_e v_length v_tokenStart v_bytes Q v_place
theorem iwX3_readLetter_X3 : ∀ w ∈ wsX30, w ∈ wsX3_readLetter := by decide +kernel
theorem hdV_X3_readLetter : yX3_readLetter.cls = RX3 ∧ yX3_readLetter.cls ≠ "java/lang/invoke/MethodHandle" ∧ yX3_readLetter.cls ≠ "java/lang/invoke/VarHandle" ∧ (parseMethodDescriptor yX3_readLetter.desc).map (fun d => d.parameters.length) = some 0 := by decide +kernel
set_option maxHeartbeats 4000000 in
set_option maxRecDepth 100000 in
theorem c_X3_readLetter (l : Launch) (dC : Nat → ClassId) (dI : Nat → Nat → Nat) (cyC cyI cyZ : ClassId) (sz : Nat) (a a_bytes : Nat) (v_length : Int32) (v_place : Int32) (v_tokenStart : Int32) (v_bytes : Nat → Int32) {Q : Int32 → Int32 → Prop} (h : q_X3_readLetter v_length v_place v_tokenStart v_bytes Q) : Met l yX3_readLetter wsX3_readLetter ({ frames := 2, cells := 0, slots := 0, locals := 43 }) (gPc [.ref a] (dC, dI) (gTy cyC cyI cyZ) sz [(a, .inr (3, [.ref a_bytes, .int v_length, .int v_place, .int v_tokenStart])), (a_bytes, .inl (cyC, 150, .inl v_bytes))]) (gQi1 Q (dC, dI) (va_A [(a, .inr (3, [.ref a_bytes, .int v_length, .int v_place, .int v_tokenStart])), (a_bytes, .inl (cyC, 150, .inl v_bytes))] sz) (fun (u1 : Int32) => [(a, .inr (3, [.ref a_bytes, .int v_length, .int u1, .int v_tokenStart])), (a_bytes, .inl (cyC, 150, .inl v_bytes))])) 0 0 (va_A [(a, .inr (3, [.ref a_bytes, .int v_length, .int v_place, .int v_tokenStart])), (a_bytes, .inl (cyC, 150, .inl v_bytes))] sz) := by
  refine gMet (cc := cX3_readLetter) (maxL := 1) (ret := (some .int)) (own := RX3) (fun A => gQi1 Q (dC, dI) A (fun (u1 : Int32) => [(a, .inr (3, [.ref a_bytes, .int v_length, .int u1, .int v_tokenStart])), (a_bytes, .inl (cyC, 150, .inl v_bytes))])) (by decide) rfl rfl (Nat.le_of_ble_eq_true rfl) ?_
  intro p e s m below meth c A ls C0 _ hK hN hP hD hA hl
  obtain ⟨hx, hb, hr, hml, hown, hts, hlocks⟩ := id C0
  have f24 := hts (.fieldLink RX3 24 "LastOchre$Reader" "place" "I") (by decide +kernel)
  have f30 := hts (.fieldLink RX3 30 "LastOchre$Reader" "tokenStart" "I") (by decide +kernel)
  have f9 := hts (.fieldLink RX3 9 "LastOchre$Reader" "bytes" "[C") (by decide +kernel)
  have hS : va_S A s.heap s.heap [] := va_S.rf
  replace hl : lv_has ls 1 [(0, .ref a)] := hl
  unfold q_X3_readLetter at h
  unfold F_X3_readLetter_e at h
  refine lv_aload_n hx hb dX3_readLetter_0 rfl (lv_at hl 0 rfl) ?_
  refine lv_aload_n hx hb dX3_readLetter_1 rfl (lv_at hl 0 rfl) ?_
  refine va_get (D := (dC, dI)) (ci := 3) (v := .int v_place) (C := RX3) (T := TX3) (N := 4) hx hb hts iwX3_readLetter_X3 hown hK hP 0 rfl rfl 2 (by decide) f24 (fun _ h9 => h9) rfl dX3_readLetter_2 ?_
  refine gV_i0 (As := [.int v_place]) (rest := []) ⟨hx, hb, hml, hown, hts⟩ (c_X3_isLetterAt l dC dI cyC cyI cyZ _ a a_bytes v_length v_place v_tokenStart v_bytes v_place h) (cwV 1 hts gX3_readLetter_X3_isLetterAt rfl rfl rfl hdV_X3_isLetterAt ⟨Nat.le_of_ble_eq_true rfl, Nat.le_of_ble_eq_true rfl⟩) hK hN hP hD hS hA [0, 1] (by decide) rfl (ci := 3) rfl rfl rfl hl.1 rfl (Nat.le_of_ble_eq_true rfl) dX3_readLetter_5 ⟨Nat.zero_le _, Nat.zero_le _⟩ (fun r_1 H locs h hP hS => ?_)
  refine lv_if_eq (tgt := 24) hx hb dX3_readLetter_8 (by decide) (fun c_2 => ?_) (fun c_2 => ?_)
  · replace h := h.1 c_2
    refine lv_iconst (v := -1) hx hb dX3_readLetter_24 (by decide) ?_
    exact gri1 hx hb hr hlocks h hP hD hS dX3_readLetter_25
  · replace h := h.2 c_2
    refine lv_aload_n hx hb dX3_readLetter_11 rfl (lv_at hl 0 rfl) ?_
    refine lv_aload_n hx hb dX3_readLetter_12 rfl (lv_at hl 0 rfl) ?_
    refine va_get (D := (dC, dI)) (ci := 3) (v := .int v_place) (C := RX3) (T := TX3) (N := 4) hx hb hts iwX3_readLetter_X3 hown hK hP 0 rfl rfl 2 (by decide) f24 (fun _ h9 => h9) rfl dX3_readLetter_13 ?_
    refine lv_iconst (v := 1) hx hb dX3_readLetter_16 (by decide) ?_
    refine lv_iadd hx hb dX3_readLetter_17 ?_
    refine gV_i0 (As := [.int (v_place + (1 : Int32))]) (rest := []) ⟨hx, hb, hml, hown, hts⟩ (c_X3_isLetterAt l dC dI cyC cyI cyZ _ a a_bytes v_length v_place v_tokenStart v_bytes (v_place + (1 : Int32)) h) (cwV 1 hts gX3_readLetter_X3_isLetterAt rfl rfl rfl hdV_X3_isLetterAt ⟨Nat.le_of_ble_eq_true rfl, Nat.le_of_ble_eq_true rfl⟩) hK hN hP hD hS hA [0, 1] (by decide) rfl (ci := 3) rfl rfl rfl hl.1 rfl (Nat.le_of_ble_eq_true rfl) dX3_readLetter_18 ⟨Nat.zero_le _, Nat.zero_le _⟩ (fun r_3 H locs h hP hS => ?_)
    refine lv_if_eq (tgt := 26) hx hb dX3_readLetter_21 (by decide) (fun c_4 => ?_) (fun c_4 => ?_)
    · replace h := h.1 c_4
      refine lv_aload_n hx hb dX3_readLetter_26 rfl (lv_at hl 0 rfl) ?_
      refine lv_dup hx hb dX3_readLetter_27 rfl ?_
      refine va_get (D := (dC, dI)) (ci := 3) (v := .int v_place) (C := RX3) (T := TX3) (N := 4) hx hb hts iwX3_readLetter_X3 hown hK hP 0 rfl rfl 2 (by decide) f24 (fun _ h9 => h9) rfl dX3_readLetter_28 ?_
      refine lv_iconst (v := 1) hx hb dX3_readLetter_31 (by decide) ?_
      refine lv_iadd hx hb dX3_readLetter_32 ?_
      refine lv_topi (fun n_5 e_6 => ?_)
      replace h := h n_5 e_6
      refine va_put (D := (dC, dI)) (ci := 3) (v := .int n_5) (ty := .int) (C := RX3) (T := TX3) (N := 4) hx hb hts iwX3_readLetter_X3 tyX3 tyX3_ok nmX3 hown hK hP hD hS 0 rfl rfl 2 (by decide) f24 (fun _ h9 => h9) rfl (by decide +kernel) rfl rfl (Nat.le_of_ble_eq_true rfl) dX3_readLetter_33 (fun H locs hP hD hS => ?_)
      replace hP : va_P (dC, dI) vwCl [(a, .inr (3, [.ref a_bytes, .int v_length, .int n_5, .int v_tokenStart])), (a_bytes, .inl (cyC, 150, .inl v_bytes))] H := hP
      replace hD : va_D A [(a, .inr (3, [.ref a_bytes, .int v_length, .int n_5, .int v_tokenStart])), (a_bytes, .inl (cyC, 150, .inl v_bytes))] := hD
      refine lv_aload_n hx hb dX3_readLetter_36 rfl (lv_at hl 0 rfl) ?_
      refine va_get (D := (dC, dI)) (ci := 3) (v := .ref a_bytes) (C := RX3) (T := TX3) (N := 4) hx hb hts iwX3_readLetter_X3 hown hK hP 0 rfl rfl 0 (by decide) f9 (fun _ h9 => h9) rfl dX3_readLetter_37 ?_
      refine lv_aload_n hx hb dX3_readLetter_40 rfl (lv_at hl 0 rfl) ?_
      refine va_get (D := (dC, dI)) (ci := 3) (v := .int v_tokenStart) (C := RX3) (T := TX3) (N := 4) hx hb hts iwX3_readLetter_X3 hown hK hP 0 rfl rfl 3 (by decide) f30 (fun _ h9 => h9) rfl dX3_readLetter_41 ?_
      have g_7 := h.1
      replace h := h.2
      refine va_cald hx hb hK hP 1 1 rfl rfl g_7 dX3_readLetter_44 ?_
      exact gri1 hx hb hr hlocks h hP hD hS dX3_readLetter_45
    · replace h := h.2 c_4
      refine lv_iconst (v := -1) hx hb dX3_readLetter_24 (by decide) ?_
      exact gri1 hx hb hr hlocks h hP hD hS dX3_readLetter_25

def F_X3_isDigitAt_e (v_length : Int32) (v_bytes : Nat → Int32) (p0 : Int32) (Q : Int32 → Prop)  : Prop :=
  (v_length ≤ p0 → (Q (0 : Int32))) ∧ (¬ v_length ≤ p0 → (vp_in p0 150 ∧ (q_X6_within (v_bytes (p0).toNatClampNeg) (48 : Int32) (57 : Int32) (fun (r_3 : Int32) => (r_3 = 0 → (Q (0 : Int32))) ∧ (¬ r_3 = 0 → (Q (1 : Int32)))))))
def q_X3_isDigitAt (v_length : Int32) (v_bytes : Nat → Int32) (p0 : Int32) (Q : Int32 → Prop) : Prop := F_X3_isDigitAt_e v_length v_bytes p0 Q 
theorem iwX3_isDigitAt_X3 : ∀ w ∈ wsX30, w ∈ wsX3_isDigitAt := by decide +kernel
theorem hdV_X3_isDigitAt : yX3_isDigitAt.cls = RX3 ∧ yX3_isDigitAt.cls ≠ "java/lang/invoke/MethodHandle" ∧ yX3_isDigitAt.cls ≠ "java/lang/invoke/VarHandle" ∧ (parseMethodDescriptor yX3_isDigitAt.desc).map (fun d => d.parameters.length) = some 1 := by decide +kernel
set_option maxHeartbeats 4000000 in
set_option maxRecDepth 100000 in
theorem c_X3_isDigitAt (l : Launch) (dC : Nat → ClassId) (dI : Nat → Nat → Nat) (cyC cyI cyZ : ClassId) (sz : Nat) (a a_bytes : Nat) (v_length : Int32) (v_place : Int32) (v_tokenStart : Int32) (v_bytes : Nat → Int32) (p0 : Int32) {Q : Int32 → Prop} (h : q_X3_isDigitAt v_length v_bytes p0 Q) : Met l yX3_isDigitAt wsX3_isDigitAt ({ frames := 1, cells := 0, slots := 0, locals := 22 }) (gPc [.ref a, .int p0] (dC, dI) (gTy cyC cyI cyZ) sz [(a, .inr (3, [.ref a_bytes, .int v_length, .int v_place, .int v_tokenStart])), (a_bytes, .inl (cyC, 150, .inl v_bytes))]) (gQi0 Q (dC, dI) (va_A [(a, .inr (3, [.ref a_bytes, .int v_length, .int v_place, .int v_tokenStart])), (a_bytes, .inl (cyC, 150, .inl v_bytes))] sz) [(a, .inr (3, [.ref a_bytes, .int v_length, .int v_place, .int v_tokenStart])), (a_bytes, .inl (cyC, 150, .inl v_bytes))]) 0 0 (va_A [(a, .inr (3, [.ref a_bytes, .int v_length, .int v_place, .int v_tokenStart])), (a_bytes, .inl (cyC, 150, .inl v_bytes))] sz) := by
  refine gMet (cc := cX3_isDigitAt) (maxL := 2) (ret := (some .boolean)) (own := RX3) (fun A => gQi0 Q (dC, dI) A [(a, .inr (3, [.ref a_bytes, .int v_length, .int v_place, .int v_tokenStart])), (a_bytes, .inl (cyC, 150, .inl v_bytes))]) (by decide) rfl rfl (Nat.le_of_ble_eq_true rfl) ?_
  intro p e s m below meth c A ls C0 _ hK hN hP hD hA hl
  obtain ⟨hx, hb, hr, hml, hown, hts, hlocks⟩ := id C0
  have f15 := hts (.fieldLink RX3 15 "LastOchre$Reader" "length" "I") (by decide +kernel)
  have f9 := hts (.fieldLink RX3 9 "LastOchre$Reader" "bytes" "[C") (by decide +kernel)
  have hS : va_S A s.heap s.heap [] := va_S.rf
  replace hl : lv_has ls 2 [(0, .ref a), (1, .int p0)] := hl
  unfold q_X3_isDigitAt at h
  unfold F_X3_isDigitAt_e at h
  refine lv_iload_n hx hb dX3_isDigitAt_0 rfl (lv_at hl 1 rfl) ?_
  refine lv_aload_n hx hb dX3_isDigitAt_1 rfl (lv_at hl 0 rfl) ?_
  refine va_get (D := (dC, dI)) (ci := 3) (v := .int v_length) (C := RX3) (T := TX3) (N := 4) hx hb hts iwX3_isDigitAt_X3 hown hK hP 0 rfl rfl 1 (by decide) f15 (fun _ h9 => h9) rfl dX3_isDigitAt_2 ?_
  refine lv_icmp_ge (tgt := 28) hx hb dX3_isDigitAt_5 (by decide) (fun c_1 => ?_) (fun c_1 => ?_)
  · replace h := h.1 c_1
    refine lv_iconst (v := 0) hx hb dX3_isDigitAt_28 (by decide) ?_
    exact grz0 hx hb hr hlocks rfl h hP hD hS dX3_isDigitAt_29
  · replace h := h.2 c_1
    refine lv_aload_n hx hb dX3_isDigitAt_8 rfl (lv_at hl 0 rfl) ?_
    refine va_get (D := (dC, dI)) (ci := 3) (v := .ref a_bytes) (C := RX3) (T := TX3) (N := 4) hx hb hts iwX3_isDigitAt_X3 hown hK hP 0 rfl rfl 0 (by decide) f9 (fun _ h9 => h9) rfl dX3_isDigitAt_9 ?_
    refine lv_iload_n hx hb dX3_isDigitAt_12 rfl (lv_at hl 1 rfl) ?_
    have g_2 := h.1
    replace h := h.2
    refine va_cald hx hb hK hP 1 1 rfl rfl g_2 dX3_isDigitAt_13 ?_
    refine lv_bipush (v := 48) hx hb dX3_isDigitAt_14 (by decide) ?_
    refine lv_bipush (v := 57) hx hb dX3_isDigitAt_16 (by decide) ?_
    refine gN_i0 (As := [.int (v_bytes (p0).toNatClampNeg), .int (48 : Int32), .int (57 : Int32)]) (rest := []) ⟨hx, hb, hml, hown, hts⟩ (c_X6_within l dC dI cyC cyI cyZ _ (v_bytes (p0).toNatClampNeg) (48 : Int32) (57 : Int32) h) ⟨va_cnB 3 hts gX3_isDigitAt_X6_within_n109 rfl rfl rfl (hN.at 41 rfl) (hts (.initialized RX6) (by decide +kernel)) hdS_X6_within ⟨Nat.le_of_ble_eq_true rfl, Nat.le_of_ble_eq_true rfl⟩, hts (.static yX6_within) (by decide +kernel), trivial⟩ hK hN hP hD hS hA [] (by decide) rfl rfl hl.1 rfl (Nat.le_of_ble_eq_true rfl) dX3_isDigitAt_18 ⟨Nat.zero_le _, Nat.zero_le _⟩ (fun r_3 H locs h hP hS => ?_)
    refine lv_if_eq (tgt := 28) hx hb dX3_isDigitAt_21 (by decide) (fun c_4 => ?_) (fun c_4 => ?_)
    · replace h := h.1 c_4
      refine lv_iconst (v := 0) hx hb dX3_isDigitAt_28 (by decide) ?_
      exact grz0 hx hb hr hlocks rfl h hP hD hS dX3_isDigitAt_29
    · replace h := h.2 c_4
      refine lv_iconst (v := 1) hx hb dX3_isDigitAt_24 (by decide) ?_
      refine lv_goto (tgt := 29) hx hb dX3_isDigitAt_25 (by decide) ?_
      exact grz0 hx hb hr hlocks rfl h hP hD hS dX3_isDigitAt_29

def F_X3_readNumber_e (v_length : Int32) (v_bytes : Nat → Int32) (p0 : Int32) (p1 : Int32) (Q : Int32 → Int32 → Int32 → Prop) (rec : Nat → Int32 → Int32 → Int32 → Prop) (v_place : Int32) (v_tokenStart : Int32) : Prop :=
  q_X3_findToken v_length v_place v_tokenStart v_bytes (fun (u_1 : Int32) (u_2 : Int32) => rec 4 0 u_1 u_2)
def F_X3_readNumber_4 (v_length : Int32) (v_bytes : Nat → Int32) (p0 : Int32) (p1 : Int32) (Q : Int32 → Int32 → Int32 → Prop) (rec : Nat → Int32 → Int32 → Int32 → Prop) (x4 : Int32) (v_place : Int32) (v_tokenStart : Int32) : Prop :=
  (v_length ≤ v_place → (rec 39 0 v_place v_tokenStart)) ∧ (¬ v_length ≤ v_place → (q_X3_isDigitAt v_length v_bytes v_place (fun (r_4 : Int32) => (r_4 = 0 → (rec 39 0 v_place v_tokenStart)) ∧ (¬ r_4 = 0 → (∀ n_6 : Int32, n_6 = (v_place + (1 : Int32)) → (rec 4 0 n_6 v_tokenStart))))))
def F_X3_readNumber_39 (v_length : Int32) (v_bytes : Nat → Int32) (p0 : Int32) (p1 : Int32) (Q : Int32 → Int32 → Int32 → Prop) (rec : Nat → Int32 → Int32 → Int32 → Prop) (x4 : Int32) (v_place : Int32) (v_tokenStart : Int32) : Prop :=
  ∀ x3_8 : Int32, x3_8 = (v_place - v_tokenStart) → ((x3_8 < (1 : Int32) → (Q (-1 : Int32) v_place v_tokenStart)) ∧ (¬ x3_8 < (1 : Int32) → ((x3_8 ≤ (2 : Int32) → (vp_in v_tokenStart 150 ∧ (∀ x4_13 : Int32, x4_13 = ((v_bytes (v_tokenStart).toNatClampNeg) - (48 : Int32)) → ((¬ x3_8 = (2 : Int32) → (rec 109 x4_13 v_place v_tokenStart)) ∧ (x3_8 = (2 : Int32) → ((¬ x4_13 = 0 → (vp_in (v_tokenStart + (1 : Int32)) 150 ∧ (∀ x4_18 : Int32, x4_18 = ((((10 : Int32) * x4_13) + (v_bytes ((v_tokenStart + (1 : Int32))).toNatClampNeg)) - (48 : Int32)) → (rec 109 x4_18 v_place v_tokenStart)))) ∧ (x4_13 = 0 → (Q (-1 : Int32) v_place v_tokenStart)))))))) ∧ (¬ x3_8 ≤ (2 : Int32) → (Q (-1 : Int32) v_place v_tokenStart)))))
def F_X3_readNumber_109 (v_length : Int32) (v_bytes : Nat → Int32) (p0 : Int32) (p1 : Int32) (Q : Int32 → Int32 → Int32 → Prop) (rec : Nat → Int32 → Int32 → Int32 → Prop) (x4 : Int32) (v_place : Int32) (v_tokenStart : Int32) : Prop :=
  q_X6_within x4 p0 p1 (fun (r_20 : Int32) => (r_20 = 0 → (Q (-1 : Int32) v_place v_tokenStart)) ∧ (¬ r_20 = 0 → (Q x4 v_place v_tokenStart)))
def wp_X3_readNumber (v_length : Int32) (v_bytes : Nat → Int32) (p0 : Int32) (p1 : Int32) (Q : Int32 → Int32 → Int32 → Prop) : Nat → Nat → Int32 → Int32 → Int32 → Prop
  | 0 => fun _ _ _ _ => False
  | n + 1 => fun t x4 v_place v_tokenStart => if t = 4 then F_X3_readNumber_4 v_length v_bytes p0 p1 Q (wp_X3_readNumber v_length v_bytes p0 p1 Q n) x4 v_place v_tokenStart else if t = 39 then F_X3_readNumber_39 v_length v_bytes p0 p1 Q (wp_X3_readNumber v_length v_bytes p0 p1 Q n) x4 v_place v_tokenStart else if t = 109 then F_X3_readNumber_109 v_length v_bytes p0 p1 Q (wp_X3_readNumber v_length v_bytes p0 p1 Q n) x4 v_place v_tokenStart else False
def q_X3_readNumber (v_length : Int32) (v_place : Int32) (v_tokenStart : Int32) (v_bytes : Nat → Int32) (p0 : Int32) (p1 : Int32) (Q : Int32 → Int32 → Int32 → Prop) : Prop := ∃ n, F_X3_readNumber_e v_length v_bytes p0 p1 Q (wp_X3_readNumber v_length v_bytes p0 p1 Q n) v_place v_tokenStart
theorem iwX3_readNumber_X3 : ∀ w ∈ wsX30, w ∈ wsX3_readNumber := by decide +kernel
theorem hdV_X3_readNumber : yX3_readNumber.cls = RX3 ∧ yX3_readNumber.cls ≠ "java/lang/invoke/MethodHandle" ∧ yX3_readNumber.cls ≠ "java/lang/invoke/VarHandle" ∧ (parseMethodDescriptor yX3_readNumber.desc).map (fun d => d.parameters.length) = some 2 := by decide +kernel
set_option maxHeartbeats 4000000 in
set_option maxRecDepth 100000 in
theorem w_X3_readNumber {p : Program} {l : Launch} {e : Env} {s : State} {m : MethodId} {args : Array Value} {below : List Frame} {meth : Method} {c : Code} {A : Nat → Prop} (dC : Nat → ClassId) (dI : Nat → Nat → Nat) (cyC cyI cyZ : ClassId) (a a_bytes : Nat) (v_length : Int32) (v_bytes : Nat → Int32) (p0 : Int32) (p1 : Int32) (Q : Int32 → Int32 → Int32 → Prop) (C0 : gAt cX3_readNumber (some .int) 5 RX3 wsX3_readNumber p s m meth c args) (hK : va_K (dC, dI) vwCl (gTy cyC cyI cyZ) s) (hN : nU s) (hA : ∀ q, s.heap.size ≤ q → A q) : ∀ n : Nat, (∀ (x4 : Int32) (v_place : Int32) (v_tokenStart : Int32) (H : Heap) (locs : List Loc) (ls : Array Slot), wp_X3_readNumber v_length v_bytes p0 p1 Q n 4 x4 v_place v_tokenStart → va_P (dC, dI) vwCl [(a, .inr (3, [.ref a_bytes, .int v_length, .int v_place, .int v_tokenStart])), (a_bytes, .inl (cyC, 150, .inl v_bytes))] H → va_D A [(a, .inr (3, [.ref a_bytes, .int v_length, .int v_place, .int v_tokenStart])), (a_bytes, .inl (cyC, 150, .inl v_bytes))] → va_S A s.heap H locs → lv_has ls 5 [(0, .ref a), (1, .int p0), (2, .int p1)] → W p l e { frames := 2, cells := 0, slots := 0, locals := 43 } s m args below meth c H locs 0 0 (MQ below (gQi2 Q (dC, dI) A (fun (u1 : Int32) (u2 : Int32) => [(a, .inr (3, [.ref a_bytes, .int v_length, .int u1, .int u2])), (a_bytes, .inl (cyC, 150, .inl v_bytes))])) args s 0 0 A) (F0 m 4 ls [])) ∧ (∀ (x4 : Int32) (v_place : Int32) (v_tokenStart : Int32) (H : Heap) (locs : List Loc) (ls : Array Slot), wp_X3_readNumber v_length v_bytes p0 p1 Q n 39 x4 v_place v_tokenStart → va_P (dC, dI) vwCl [(a, .inr (3, [.ref a_bytes, .int v_length, .int v_place, .int v_tokenStart])), (a_bytes, .inl (cyC, 150, .inl v_bytes))] H → va_D A [(a, .inr (3, [.ref a_bytes, .int v_length, .int v_place, .int v_tokenStart])), (a_bytes, .inl (cyC, 150, .inl v_bytes))] → va_S A s.heap H locs → lv_has ls 5 [(0, .ref a), (1, .int p0), (2, .int p1)] → W p l e { frames := 2, cells := 0, slots := 0, locals := 43 } s m args below meth c H locs 0 0 (MQ below (gQi2 Q (dC, dI) A (fun (u1 : Int32) (u2 : Int32) => [(a, .inr (3, [.ref a_bytes, .int v_length, .int u1, .int u2])), (a_bytes, .inl (cyC, 150, .inl v_bytes))])) args s 0 0 A) (F0 m 39 ls [])) ∧ (∀ (x4 : Int32) (v_place : Int32) (v_tokenStart : Int32) (H : Heap) (locs : List Loc) (ls : Array Slot), wp_X3_readNumber v_length v_bytes p0 p1 Q n 109 x4 v_place v_tokenStart → va_P (dC, dI) vwCl [(a, .inr (3, [.ref a_bytes, .int v_length, .int v_place, .int v_tokenStart])), (a_bytes, .inl (cyC, 150, .inl v_bytes))] H → va_D A [(a, .inr (3, [.ref a_bytes, .int v_length, .int v_place, .int v_tokenStart])), (a_bytes, .inl (cyC, 150, .inl v_bytes))] → va_S A s.heap H locs → lv_has ls 5 [(1, .int p0), (2, .int p1), (4, .int x4)] → W p l e { frames := 2, cells := 0, slots := 0, locals := 43 } s m args below meth c H locs 0 0 (MQ below (gQi2 Q (dC, dI) A (fun (u1 : Int32) (u2 : Int32) => [(a, .inr (3, [.ref a_bytes, .int v_length, .int u1, .int u2])), (a_bytes, .inl (cyC, 150, .inl v_bytes))])) args s 0 0 A) (F0 m 109 ls [])) := by
  obtain ⟨hx, hb, hr, hml, hown, hts, hlocks⟩ := id C0
  have f15 := hts (.fieldLink RX3 15 "LastOchre$Reader" "length" "I") (by decide +kernel)
  have f24 := hts (.fieldLink RX3 24 "LastOchre$Reader" "place" "I") (by decide +kernel)
  have f30 := hts (.fieldLink RX3 30 "LastOchre$Reader" "tokenStart" "I") (by decide +kernel)
  have f9 := hts (.fieldLink RX3 9 "LastOchre$Reader" "bytes" "[C") (by decide +kernel)
  intro n
  induction n with
  | zero => exact ⟨fun _ _ _ _ _ _ h => absurd h id, fun _ _ _ _ _ _ h => absurd h id, fun _ _ _ _ _ _ h => absurd h id⟩
  | succ n ih =>
    obtain ⟨ih4, ih39, ih109⟩ := ih
    refine ⟨?_, ?_, ?_⟩
    · intro x4 v_place v_tokenStart H locs ls h hP hD hS hl
      replace h : F_X3_readNumber_4 v_length v_bytes p0 p1 Q (wp_X3_readNumber v_length v_bytes p0 p1 Q n) x4 v_place v_tokenStart := h
      unfold F_X3_readNumber_4 at h
      refine lv_aload_n hx hb dX3_readNumber_4 rfl (lv_at hl 0 rfl) ?_
      refine va_get (D := (dC, dI)) (ci := 3) (v := .int v_place) (C := RX3) (T := TX3) (N := 4) hx hb hts iwX3_readNumber_X3 hown hK hP 0 rfl rfl 2 (by decide) f24 (fun _ h9 => h9) rfl dX3_readNumber_5 ?_
      refine lv_aload_n hx hb dX3_readNumber_8 rfl (lv_at hl 0 rfl) ?_
      refine va_get (D := (dC, dI)) (ci := 3) (v := .int v_length) (C := RX3) (T := TX3) (N := 4) hx hb hts iwX3_readNumber_X3 hown hK hP 0 rfl rfl 1 (by decide) f15 (fun _ h9 => h9) rfl dX3_readNumber_9 ?_
      refine lv_icmp_ge (tgt := 39) hx hb dX3_readNumber_12 (by decide) (fun c_3 => ?_) (fun c_3 => ?_)
      · replace h := h.1 c_3
        exact ih39 0 v_place v_tokenStart _ _ _ h hP hD hS (lv_sub hl [0, 1, 2] rfl)
      · replace h := h.2 c_3
        refine lv_aload_n hx hb dX3_readNumber_15 rfl (lv_at hl 0 rfl) ?_
        refine lv_aload_n hx hb dX3_readNumber_16 rfl (lv_at hl 0 rfl) ?_
        refine va_get (D := (dC, dI)) (ci := 3) (v := .int v_place) (C := RX3) (T := TX3) (N := 4) hx hb hts iwX3_readNumber_X3 hown hK hP 0 rfl rfl 2 (by decide) f24 (fun _ h9 => h9) rfl dX3_readNumber_17 ?_
        refine gV_i0 (As := [.int v_place]) (rest := []) ⟨hx, hb, hml, hown, hts⟩ (c_X3_isDigitAt l dC dI cyC cyI cyZ _ a a_bytes v_length v_place v_tokenStart v_bytes v_place h) (cwV 1 hts gX3_readNumber_X3_isDigitAt rfl rfl rfl hdV_X3_isDigitAt ⟨Nat.le_of_ble_eq_true rfl, Nat.le_of_ble_eq_true rfl⟩) hK hN hP hD hS hA [0, 1] (by decide) rfl (ci := 3) rfl rfl rfl hl.1 rfl (Nat.le_of_ble_eq_true rfl) dX3_readNumber_20 ⟨Nat.zero_le _, Nat.zero_le _⟩ (fun r_4 H locs h hP hS => ?_)
        refine lv_if_eq (tgt := 39) hx hb dX3_readNumber_23 (by decide) (fun c_5 => ?_) (fun c_5 => ?_)
        · replace h := h.1 c_5
          exact ih39 0 v_place v_tokenStart _ _ _ h hP hD hS (lv_sub hl [0, 1, 2] rfl)
        · replace h := h.2 c_5
          refine lv_aload_n hx hb dX3_readNumber_26 rfl (lv_at hl 0 rfl) ?_
          refine lv_dup hx hb dX3_readNumber_27 rfl ?_
          refine va_get (D := (dC, dI)) (ci := 3) (v := .int v_place) (C := RX3) (T := TX3) (N := 4) hx hb hts iwX3_readNumber_X3 hown hK hP 0 rfl rfl 2 (by decide) f24 (fun _ h9 => h9) rfl dX3_readNumber_28 ?_
          refine lv_iconst (v := 1) hx hb dX3_readNumber_31 (by decide) ?_
          refine lv_iadd hx hb dX3_readNumber_32 ?_
          refine lv_topi (fun n_6 e_7 => ?_)
          replace h := h n_6 e_7
          refine va_put (D := (dC, dI)) (ci := 3) (v := .int n_6) (ty := .int) (C := RX3) (T := TX3) (N := 4) hx hb hts iwX3_readNumber_X3 tyX3 tyX3_ok nmX3 hown hK hP hD hS 0 rfl rfl 2 (by decide) f24 (fun _ h9 => h9) rfl (by decide +kernel) rfl rfl (Nat.le_of_ble_eq_true rfl) dX3_readNumber_33 (fun H locs hP hD hS => ?_)
          replace hP : va_P (dC, dI) vwCl [(a, .inr (3, [.ref a_bytes, .int v_length, .int n_6, .int v_tokenStart])), (a_bytes, .inl (cyC, 150, .inl v_bytes))] H := hP
          replace hD : va_D A [(a, .inr (3, [.ref a_bytes, .int v_length, .int n_6, .int v_tokenStart])), (a_bytes, .inl (cyC, 150, .inl v_bytes))] := hD
          refine lv_goto (tgt := 4) hx hb dX3_readNumber_36 (by decide) ?_
          exact ih4 0 n_6 v_tokenStart _ _ _ h hP hD hS (lv_sub hl [0, 1, 2] rfl)
    · intro x4 v_place v_tokenStart H locs ls h hP hD hS hl
      replace h : F_X3_readNumber_39 v_length v_bytes p0 p1 Q (wp_X3_readNumber v_length v_bytes p0 p1 Q n) x4 v_place v_tokenStart := h
      unfold F_X3_readNumber_39 at h
      refine lv_aload_n hx hb dX3_readNumber_39 rfl (lv_at hl 0 rfl) ?_
      refine va_get (D := (dC, dI)) (ci := 3) (v := .int v_place) (C := RX3) (T := TX3) (N := 4) hx hb hts iwX3_readNumber_X3 hown hK hP 0 rfl rfl 2 (by decide) f24 (fun _ h9 => h9) rfl dX3_readNumber_40 ?_
      refine lv_aload_n hx hb dX3_readNumber_43 rfl (lv_at hl 0 rfl) ?_
      refine va_get (D := (dC, dI)) (ci := 3) (v := .int v_tokenStart) (C := RX3) (T := TX3) (N := 4) hx hb hts iwX3_readNumber_X3 hown hK hP 0 rfl rfl 3 (by decide) f30 (fun _ h9 => h9) rfl dX3_readNumber_44 ?_
      refine lv_isub hx hb dX3_readNumber_47 ?_
      refine lv_topi (fun x3_8 e_9 => ?_)
      replace h := h x3_8 e_9
      refine lv_istore_n (lv' := [(3, .int x3_8), (0, .ref a), (1, .int p0), (2, .int p1)]) hx hb dX3_readNumber_48 rfl hl (by decide) rfl (fun ls hl => ?_)
      refine lv_iload_n hx hb dX3_readNumber_49 rfl (lv_at hl 0 rfl) ?_
      refine lv_iconst (v := 1) hx hb dX3_readNumber_50 (by decide) ?_
      refine lv_icmp_lt (tgt := 59) hx hb dX3_readNumber_51 (by decide) (fun c_10 => ?_) (fun c_10 => ?_)
      · replace h := h.1 c_10
        refine lv_iconst (v := -1) hx hb dX3_readNumber_59 (by decide) ?_
        exact gri2 hx hb hr hlocks h hP hD hS dX3_readNumber_60
      · replace h := h.2 c_10
        refine lv_iload_n hx hb dX3_readNumber_54 rfl (lv_at hl 0 rfl) ?_
        refine lv_iconst (v := 2) hx hb dX3_readNumber_55 (by decide) ?_
        refine lv_icmp_le (tgt := 61) hx hb dX3_readNumber_56 (by decide) (fun c_11 => ?_) (fun c_11 => ?_)
        · replace h := h.1 c_11
          refine lv_aload_n hx hb dX3_readNumber_61 rfl (lv_at hl 1 rfl) ?_
          refine va_get (D := (dC, dI)) (ci := 3) (v := .ref a_bytes) (C := RX3) (T := TX3) (N := 4) hx hb hts iwX3_readNumber_X3 hown hK hP 0 rfl rfl 0 (by decide) f9 (fun _ h9 => h9) rfl dX3_readNumber_62 ?_
          refine lv_aload_n hx hb dX3_readNumber_65 rfl (lv_at hl 1 rfl) ?_
          refine va_get (D := (dC, dI)) (ci := 3) (v := .int v_tokenStart) (C := RX3) (T := TX3) (N := 4) hx hb hts iwX3_readNumber_X3 hown hK hP 0 rfl rfl 3 (by decide) f30 (fun _ h9 => h9) rfl dX3_readNumber_66 ?_
          have g_12 := h.1
          replace h := h.2
          refine va_cald hx hb hK hP 1 1 rfl rfl g_12 dX3_readNumber_69 ?_
          refine lv_bipush (v := 48) hx hb dX3_readNumber_70 (by decide) ?_
          refine lv_isub hx hb dX3_readNumber_72 ?_
          refine lv_topi (fun x4_13 e_14 => ?_)
          replace h := h x4_13 e_14
          refine lv_istore (lv' := [(4, .int x4_13), (3, .int x3_8), (0, .ref a), (1, .int p0), (2, .int p1)]) hx hb dX3_readNumber_73 hl (by decide) rfl (fun ls hl => ?_)
          refine lv_iload_n hx hb dX3_readNumber_75 rfl (lv_at hl 1 rfl) ?_
          refine lv_iconst (v := 2) hx hb dX3_readNumber_76 (by decide) ?_
          refine lv_icmp_ne (tgt := 109) hx hb dX3_readNumber_77 (by decide) (fun c_15 => ?_) (fun c_15 => ?_)
          · replace h := h.1 c_15
            exact ih109 x4_13 v_place v_tokenStart _ _ _ h hP hD hS (lv_sub hl [3, 4, 0] rfl)
          · replace h := h.2 c_15
            refine lv_iload hx hb dX3_readNumber_80 (lv_at hl 0 rfl) ?_
            refine lv_if_ne (tgt := 87) hx hb dX3_readNumber_82 (by decide) (fun c_16 => ?_) (fun c_16 => ?_)
            · replace h := h.1 c_16
              refine lv_bipush (v := 10) hx hb dX3_readNumber_87 (by decide) ?_
              refine lv_iload hx hb dX3_readNumber_89 (lv_at hl 0 rfl) ?_
              refine lv_imul hx hb dX3_readNumber_91 ?_
              refine lv_aload_n hx hb dX3_readNumber_92 rfl (lv_at hl 2 rfl) ?_
              refine va_get (D := (dC, dI)) (ci := 3) (v := .ref a_bytes) (C := RX3) (T := TX3) (N := 4) hx hb hts iwX3_readNumber_X3 hown hK hP 0 rfl rfl 0 (by decide) f9 (fun _ h9 => h9) rfl dX3_readNumber_93 ?_
              refine lv_aload_n hx hb dX3_readNumber_96 rfl (lv_at hl 2 rfl) ?_
              refine va_get (D := (dC, dI)) (ci := 3) (v := .int v_tokenStart) (C := RX3) (T := TX3) (N := 4) hx hb hts iwX3_readNumber_X3 hown hK hP 0 rfl rfl 3 (by decide) f30 (fun _ h9 => h9) rfl dX3_readNumber_97 ?_
              refine lv_iconst (v := 1) hx hb dX3_readNumber_100 (by decide) ?_
              refine lv_iadd hx hb dX3_readNumber_101 ?_
              have g_17 := h.1
              replace h := h.2
              refine va_cald hx hb hK hP 1 1 rfl rfl g_17 dX3_readNumber_102 ?_
              refine lv_iadd hx hb dX3_readNumber_103 ?_
              refine lv_bipush (v := 48) hx hb dX3_readNumber_104 (by decide) ?_
              refine lv_isub hx hb dX3_readNumber_106 ?_
              refine lv_topi (fun x4_18 e_19 => ?_)
              replace h := h x4_18 e_19
              refine lv_istore (lv' := [(4, .int x4_18), (3, .int x3_8), (0, .ref a), (1, .int p0), (2, .int p1)]) hx hb dX3_readNumber_107 hl (by decide) rfl (fun ls hl => ?_)
              exact ih109 x4_18 v_place v_tokenStart _ _ _ h hP hD hS (lv_sub hl [3, 4, 0] rfl)
            · replace h := h.2 c_16
              refine lv_iconst (v := -1) hx hb dX3_readNumber_85 (by decide) ?_
              exact gri2 hx hb hr hlocks h hP hD hS dX3_readNumber_86
        · replace h := h.2 c_11
          refine lv_iconst (v := -1) hx hb dX3_readNumber_59 (by decide) ?_
          exact gri2 hx hb hr hlocks h hP hD hS dX3_readNumber_60
    · intro x4 v_place v_tokenStart H locs ls h hP hD hS hl
      replace h : F_X3_readNumber_109 v_length v_bytes p0 p1 Q (wp_X3_readNumber v_length v_bytes p0 p1 Q n) x4 v_place v_tokenStart := h
      unfold F_X3_readNumber_109 at h
      refine lv_iload hx hb dX3_readNumber_109 (lv_at hl 2 rfl) ?_
      refine lv_iload_n hx hb dX3_readNumber_111 rfl (lv_at hl 0 rfl) ?_
      refine lv_iload_n hx hb dX3_readNumber_112 rfl (lv_at hl 1 rfl) ?_
      refine gN_i0 (As := [.int x4, .int p0, .int p1]) (rest := []) ⟨hx, hb, hml, hown, hts⟩ (c_X6_within l dC dI cyC cyI cyZ _ x4 p0 p1 h) ⟨va_cnB 3 hts gX3_readNumber_X6_within_n109 rfl rfl rfl (hN.at 41 rfl) (hts (.initialized RX6) (by decide +kernel)) hdS_X6_within ⟨Nat.le_of_ble_eq_true rfl, Nat.le_of_ble_eq_true rfl⟩, hts (.static yX6_within) (by decide +kernel), trivial⟩ hK hN hP hD hS hA [] (by decide) rfl rfl hl.1 rfl (Nat.le_of_ble_eq_true rfl) dX3_readNumber_113 ⟨Nat.zero_le _, Nat.zero_le _⟩ (fun r_20 H locs h hP hS => ?_)
      refine lv_if_eq (tgt := 124) hx hb dX3_readNumber_116 (by decide) (fun c_21 => ?_) (fun c_21 => ?_)
      · replace h := h.1 c_21
        refine lv_iconst (v := -1) hx hb dX3_readNumber_124 (by decide) ?_
        exact gri2 hx hb hr hlocks h hP hD hS dX3_readNumber_125
      · replace h := h.2 c_21
        refine lv_iload hx hb dX3_readNumber_119 (lv_at hl 2 rfl) ?_
        refine lv_goto (tgt := 125) hx hb dX3_readNumber_121 (by decide) ?_
        exact gri2 hx hb hr hlocks h hP hD hS dX3_readNumber_125
set_option maxHeartbeats 4000000 in
set_option maxRecDepth 100000 in
theorem c_X3_readNumber (l : Launch) (dC : Nat → ClassId) (dI : Nat → Nat → Nat) (cyC cyI cyZ : ClassId) (sz : Nat) (a a_bytes : Nat) (v_length : Int32) (v_place : Int32) (v_tokenStart : Int32) (v_bytes : Nat → Int32) (p0 : Int32) (p1 : Int32) {Q : Int32 → Int32 → Int32 → Prop} (h : q_X3_readNumber v_length v_place v_tokenStart v_bytes p0 p1 Q) : Met l yX3_readNumber wsX3_readNumber ({ frames := 2, cells := 0, slots := 0, locals := 43 }) (gPc [.ref a, .int p0, .int p1] (dC, dI) (gTy cyC cyI cyZ) sz [(a, .inr (3, [.ref a_bytes, .int v_length, .int v_place, .int v_tokenStart])), (a_bytes, .inl (cyC, 150, .inl v_bytes))]) (gQi2 Q (dC, dI) (va_A [(a, .inr (3, [.ref a_bytes, .int v_length, .int v_place, .int v_tokenStart])), (a_bytes, .inl (cyC, 150, .inl v_bytes))] sz) (fun (u1 : Int32) (u2 : Int32) => [(a, .inr (3, [.ref a_bytes, .int v_length, .int u1, .int u2])), (a_bytes, .inl (cyC, 150, .inl v_bytes))])) 0 0 (va_A [(a, .inr (3, [.ref a_bytes, .int v_length, .int v_place, .int v_tokenStart])), (a_bytes, .inl (cyC, 150, .inl v_bytes))] sz) := by
  refine gMet (cc := cX3_readNumber) (maxL := 5) (ret := (some .int)) (own := RX3) (fun A => gQi2 Q (dC, dI) A (fun (u1 : Int32) (u2 : Int32) => [(a, .inr (3, [.ref a_bytes, .int v_length, .int u1, .int u2])), (a_bytes, .inl (cyC, 150, .inl v_bytes))])) (by decide) rfl rfl (Nat.le_of_ble_eq_true rfl) ?_
  intro p e s m below meth c A ls C0 _ hK hN hP hD hA hl
  obtain ⟨hx, hb, hr, hml, hown, hts, hlocks⟩ := id C0
  have f15 := hts (.fieldLink RX3 15 "LastOchre$Reader" "length" "I") (by decide +kernel)
  have f24 := hts (.fieldLink RX3 24 "LastOchre$Reader" "place" "I") (by decide +kernel)
  have f30 := hts (.fieldLink RX3 30 "LastOchre$Reader" "tokenStart" "I") (by decide +kernel)
  have f9 := hts (.fieldLink RX3 9 "LastOchre$Reader" "bytes" "[C") (by decide +kernel)
  have hS : va_S A s.heap s.heap [] := va_S.rf
  replace hl : lv_has ls 5 [(0, .ref a), (1, .int p0), (2, .int p1)] := hl
  unfold q_X3_readNumber at h
  obtain ⟨n, h⟩ := h
  obtain ⟨ih4, ih39, ih109⟩ := w_X3_readNumber (l := l) (e := e) (below := below) dC dI cyC cyI cyZ a a_bytes v_length v_bytes p0 p1 Q C0 hK hN hA n
  unfold F_X3_readNumber_e at h
  refine lv_aload_n hx hb dX3_readNumber_0 rfl (lv_at hl 0 rfl) ?_
  refine gV_v2 (As := []) (rest := []) ⟨hx, hb, hml, hown, hts⟩ (c_X3_findToken l dC dI cyC cyI cyZ _ a a_bytes v_length v_place v_tokenStart v_bytes h) (cwV 0 hts gX3_readNumber_X3_findToken rfl rfl rfl hdV_X3_findToken ⟨Nat.le_of_ble_eq_true rfl, Nat.le_of_ble_eq_true rfl⟩) hK hN hP hD hS hA [0, 1] (by decide) rfl (ci := 3) rfl rfl rfl hl.1 rfl (Nat.le_of_ble_eq_true rfl) dX3_readNumber_1 ⟨Nat.zero_le _, Nat.zero_le _⟩ (wr := []) [] rfl (by decide) (by decide) (fun u_1 u_2 H locs h hP hD hS => ?_)
  replace hP : va_P (dC, dI) vwCl [(a, .inr (3, [.ref a_bytes, .int v_length, .int u_1, .int u_2])), (a_bytes, .inl (cyC, 150, .inl v_bytes))] H := hP
  replace hD : va_D A [(a, .inr (3, [.ref a_bytes, .int v_length, .int u_1, .int u_2])), (a_bytes, .inl (cyC, 150, .inl v_bytes))] := hD
  exact ih4 0 u_1 u_2 _ _ _ h hP hD hS (lv_sub hl [0, 1, 2] rfl)

def F_X3_readFigure_e (v_length : Int32) (v_bytes : Nat → Int32) (Q : Int32 → Int32 → Int32 → Prop) (v_place : Int32) (v_tokenStart : Int32) : Prop :=
  q_X3_findToken v_length v_place v_tokenStart v_bytes (fun (u_1 : Int32) (u_2 : Int32) => q_X3_isDigitAt v_length v_bytes u_1 (fun (r_3 : Int32) => (¬ r_3 = 0 → (∀ n_5 : Int32, n_5 = (u_1 + (1 : Int32)) → (vp_in u_2 150 ∧ (Q ((v_bytes (u_2).toNatClampNeg) - (48 : Int32)) n_5 u_2)))) ∧ (r_3 = 0 → (Q (-1 : Int32) u_1 u_2))))
def q_X3_readFigure (v_length : Int32) (v_place : Int32) (v_tokenStart : Int32) (v_bytes : Nat → Int32) (Q : Int32 → Int32 → Int32 → Prop) : Prop := F_X3_readFigure_e v_length v_bytes Q v_place v_tokenStart
theorem iwX3_readFigure_X3 : ∀ w ∈ wsX30, w ∈ wsX3_readFigure := by decide +kernel
theorem hdV_X3_readFigure : yX3_readFigure.cls = RX3 ∧ yX3_readFigure.cls ≠ "java/lang/invoke/MethodHandle" ∧ yX3_readFigure.cls ≠ "java/lang/invoke/VarHandle" ∧ (parseMethodDescriptor yX3_readFigure.desc).map (fun d => d.parameters.length) = some 0 := by decide +kernel
set_option maxHeartbeats 4000000 in
set_option maxRecDepth 100000 in
theorem c_X3_readFigure (l : Launch) (dC : Nat → ClassId) (dI : Nat → Nat → Nat) (cyC cyI cyZ : ClassId) (sz : Nat) (a a_bytes : Nat) (v_length : Int32) (v_place : Int32) (v_tokenStart : Int32) (v_bytes : Nat → Int32) {Q : Int32 → Int32 → Int32 → Prop} (h : q_X3_readFigure v_length v_place v_tokenStart v_bytes Q) : Met l yX3_readFigure wsX3_readFigure ({ frames := 2, cells := 0, slots := 0, locals := 43 }) (gPc [.ref a] (dC, dI) (gTy cyC cyI cyZ) sz [(a, .inr (3, [.ref a_bytes, .int v_length, .int v_place, .int v_tokenStart])), (a_bytes, .inl (cyC, 150, .inl v_bytes))]) (gQi2 Q (dC, dI) (va_A [(a, .inr (3, [.ref a_bytes, .int v_length, .int v_place, .int v_tokenStart])), (a_bytes, .inl (cyC, 150, .inl v_bytes))] sz) (fun (u1 : Int32) (u2 : Int32) => [(a, .inr (3, [.ref a_bytes, .int v_length, .int u1, .int u2])), (a_bytes, .inl (cyC, 150, .inl v_bytes))])) 0 0 (va_A [(a, .inr (3, [.ref a_bytes, .int v_length, .int v_place, .int v_tokenStart])), (a_bytes, .inl (cyC, 150, .inl v_bytes))] sz) := by
  refine gMet (cc := cX3_readFigure) (maxL := 1) (ret := (some .int)) (own := RX3) (fun A => gQi2 Q (dC, dI) A (fun (u1 : Int32) (u2 : Int32) => [(a, .inr (3, [.ref a_bytes, .int v_length, .int u1, .int u2])), (a_bytes, .inl (cyC, 150, .inl v_bytes))])) (by decide) rfl rfl (Nat.le_of_ble_eq_true rfl) ?_
  intro p e s m below meth c A ls C0 _ hK hN hP hD hA hl
  obtain ⟨hx, hb, hr, hml, hown, hts, hlocks⟩ := id C0
  have f24 := hts (.fieldLink RX3 24 "LastOchre$Reader" "place" "I") (by decide +kernel)
  have f30 := hts (.fieldLink RX3 30 "LastOchre$Reader" "tokenStart" "I") (by decide +kernel)
  have f9 := hts (.fieldLink RX3 9 "LastOchre$Reader" "bytes" "[C") (by decide +kernel)
  have hS : va_S A s.heap s.heap [] := va_S.rf
  replace hl : lv_has ls 1 [(0, .ref a)] := hl
  unfold q_X3_readFigure at h
  unfold F_X3_readFigure_e at h
  refine lv_aload_n hx hb dX3_readFigure_0 rfl (lv_at hl 0 rfl) ?_
  refine gV_v2 (As := []) (rest := []) ⟨hx, hb, hml, hown, hts⟩ (c_X3_findToken l dC dI cyC cyI cyZ _ a a_bytes v_length v_place v_tokenStart v_bytes h) (cwV 0 hts gX3_readFigure_X3_findToken rfl rfl rfl hdV_X3_findToken ⟨Nat.le_of_ble_eq_true rfl, Nat.le_of_ble_eq_true rfl⟩) hK hN hP hD hS hA [0, 1] (by decide) rfl (ci := 3) rfl rfl rfl hl.1 rfl (Nat.le_of_ble_eq_true rfl) dX3_readFigure_1 ⟨Nat.zero_le _, Nat.zero_le _⟩ (wr := []) [] rfl (by decide) (by decide) (fun u_1 u_2 H locs h hP hD hS => ?_)
  replace hP : va_P (dC, dI) vwCl [(a, .inr (3, [.ref a_bytes, .int v_length, .int u_1, .int u_2])), (a_bytes, .inl (cyC, 150, .inl v_bytes))] H := hP
  replace hD : va_D A [(a, .inr (3, [.ref a_bytes, .int v_length, .int u_1, .int u_2])), (a_bytes, .inl (cyC, 150, .inl v_bytes))] := hD
  refine lv_aload_n hx hb dX3_readFigure_4 rfl (lv_at hl 0 rfl) ?_
  refine lv_aload_n hx hb dX3_readFigure_5 rfl (lv_at hl 0 rfl) ?_
  refine va_get (D := (dC, dI)) (ci := 3) (v := .int u_1) (C := RX3) (T := TX3) (N := 4) hx hb hts iwX3_readFigure_X3 hown hK hP 0 rfl rfl 2 (by decide) f24 (fun _ h9 => h9) rfl dX3_readFigure_6 ?_
  refine gV_i0 (As := [.int u_1]) (rest := []) ⟨hx, hb, hml, hown, hts⟩ (c_X3_isDigitAt l dC dI cyC cyI cyZ _ a a_bytes v_length u_1 u_2 v_bytes u_1 h) (cwV 1 hts gX3_readFigure_X3_isDigitAt rfl rfl rfl hdV_X3_isDigitAt ⟨Nat.le_of_ble_eq_true rfl, Nat.le_of_ble_eq_true rfl⟩) hK hN hP hD hS hA [0, 1] (by decide) rfl (ci := 3) rfl rfl rfl hl.1 rfl (Nat.le_of_ble_eq_true rfl) dX3_readFigure_9 ⟨Nat.zero_le _, Nat.zero_le _⟩ (fun r_3 H locs h hP hS => ?_)
  refine lv_if_ne (tgt := 17) hx hb dX3_readFigure_12 (by decide) (fun c_4 => ?_) (fun c_4 => ?_)
  · replace h := h.1 c_4
    refine lv_aload_n hx hb dX3_readFigure_17 rfl (lv_at hl 0 rfl) ?_
    refine lv_dup hx hb dX3_readFigure_18 rfl ?_
    refine va_get (D := (dC, dI)) (ci := 3) (v := .int u_1) (C := RX3) (T := TX3) (N := 4) hx hb hts iwX3_readFigure_X3 hown hK hP 0 rfl rfl 2 (by decide) f24 (fun _ h9 => h9) rfl dX3_readFigure_19 ?_
    refine lv_iconst (v := 1) hx hb dX3_readFigure_22 (by decide) ?_
    refine lv_iadd hx hb dX3_readFigure_23 ?_
    refine lv_topi (fun n_5 e_6 => ?_)
    replace h := h n_5 e_6
    refine va_put (D := (dC, dI)) (ci := 3) (v := .int n_5) (ty := .int) (C := RX3) (T := TX3) (N := 4) hx hb hts iwX3_readFigure_X3 tyX3 tyX3_ok nmX3 hown hK hP hD hS 0 rfl rfl 2 (by decide) f24 (fun _ h9 => h9) rfl (by decide +kernel) rfl rfl (Nat.le_of_ble_eq_true rfl) dX3_readFigure_24 (fun H locs hP hD hS => ?_)
    replace hP : va_P (dC, dI) vwCl [(a, .inr (3, [.ref a_bytes, .int v_length, .int n_5, .int u_2])), (a_bytes, .inl (cyC, 150, .inl v_bytes))] H := hP
    replace hD : va_D A [(a, .inr (3, [.ref a_bytes, .int v_length, .int n_5, .int u_2])), (a_bytes, .inl (cyC, 150, .inl v_bytes))] := hD
    refine lv_aload_n hx hb dX3_readFigure_27 rfl (lv_at hl 0 rfl) ?_
    refine va_get (D := (dC, dI)) (ci := 3) (v := .ref a_bytes) (C := RX3) (T := TX3) (N := 4) hx hb hts iwX3_readFigure_X3 hown hK hP 0 rfl rfl 0 (by decide) f9 (fun _ h9 => h9) rfl dX3_readFigure_28 ?_
    refine lv_aload_n hx hb dX3_readFigure_31 rfl (lv_at hl 0 rfl) ?_
    refine va_get (D := (dC, dI)) (ci := 3) (v := .int u_2) (C := RX3) (T := TX3) (N := 4) hx hb hts iwX3_readFigure_X3 hown hK hP 0 rfl rfl 3 (by decide) f30 (fun _ h9 => h9) rfl dX3_readFigure_32 ?_
    have g_7 := h.1
    replace h := h.2
    refine va_cald hx hb hK hP 1 1 rfl rfl g_7 dX3_readFigure_35 ?_
    refine lv_bipush (v := 48) hx hb dX3_readFigure_36 (by decide) ?_
    refine lv_isub hx hb dX3_readFigure_38 ?_
    exact gri2 hx hb hr hlocks h hP hD hS dX3_readFigure_39
  · replace h := h.2 c_4
    refine lv_iconst (v := -1) hx hb dX3_readFigure_15 (by decide) ?_
    exact gri2 hx hb hr hlocks h hP hD hS dX3_readFigure_16

def F_X3_readEnd_e (v_length : Int32) (v_bytes : Nat → Int32) (Q : Int32 → Int32 → Int32 → Prop) (v_place : Int32) (v_tokenStart : Int32) : Prop :=
  q_X3_findToken v_length v_place v_tokenStart v_bytes (fun (u_1 : Int32) (u_2 : Int32) => (v_length ≤ u_1 → (Q (0 : Int32) u_1 u_2)) ∧ (¬ v_length ≤ u_1 → (vp_in u_1 150 ∧ (((v_bytes (u_1).toNatClampNeg) = (59 : Int32) → (∀ n_6 : Int32, n_6 = (u_1 + (1 : Int32)) → (Q (1 : Int32) n_6 u_2))) ∧ (¬ (v_bytes (u_1).toNatClampNeg) = (59 : Int32) → (Q (0 : Int32) u_1 u_2))))))
def q_X3_readEnd (v_length : Int32) (v_place : Int32) (v_tokenStart : Int32) (v_bytes : Nat → Int32) (Q : Int32 → Int32 → Int32 → Prop) : Prop := F_X3_readEnd_e v_length v_bytes Q v_place v_tokenStart
theorem iwX3_readEnd_X3 : ∀ w ∈ wsX30, w ∈ wsX3_readEnd := by decide +kernel
theorem hdV_X3_readEnd : yX3_readEnd.cls = RX3 ∧ yX3_readEnd.cls ≠ "java/lang/invoke/MethodHandle" ∧ yX3_readEnd.cls ≠ "java/lang/invoke/VarHandle" ∧ (parseMethodDescriptor yX3_readEnd.desc).map (fun d => d.parameters.length) = some 0 := by decide +kernel
set_option maxHeartbeats 4000000 in
set_option maxRecDepth 100000 in
theorem c_X3_readEnd (l : Launch) (dC : Nat → ClassId) (dI : Nat → Nat → Nat) (cyC cyI cyZ : ClassId) (sz : Nat) (a a_bytes : Nat) (v_length : Int32) (v_place : Int32) (v_tokenStart : Int32) (v_bytes : Nat → Int32) {Q : Int32 → Int32 → Int32 → Prop} (h : q_X3_readEnd v_length v_place v_tokenStart v_bytes Q) : Met l yX3_readEnd wsX3_readEnd ({ frames := 1, cells := 0, slots := 0, locals := 20 }) (gPc [.ref a] (dC, dI) (gTy cyC cyI cyZ) sz [(a, .inr (3, [.ref a_bytes, .int v_length, .int v_place, .int v_tokenStart])), (a_bytes, .inl (cyC, 150, .inl v_bytes))]) (gQi2 Q (dC, dI) (va_A [(a, .inr (3, [.ref a_bytes, .int v_length, .int v_place, .int v_tokenStart])), (a_bytes, .inl (cyC, 150, .inl v_bytes))] sz) (fun (u1 : Int32) (u2 : Int32) => [(a, .inr (3, [.ref a_bytes, .int v_length, .int u1, .int u2])), (a_bytes, .inl (cyC, 150, .inl v_bytes))])) 0 0 (va_A [(a, .inr (3, [.ref a_bytes, .int v_length, .int v_place, .int v_tokenStart])), (a_bytes, .inl (cyC, 150, .inl v_bytes))] sz) := by
  refine gMet (cc := cX3_readEnd) (maxL := 1) (ret := (some .boolean)) (own := RX3) (fun A => gQi2 Q (dC, dI) A (fun (u1 : Int32) (u2 : Int32) => [(a, .inr (3, [.ref a_bytes, .int v_length, .int u1, .int u2])), (a_bytes, .inl (cyC, 150, .inl v_bytes))])) (by decide) rfl rfl (Nat.le_of_ble_eq_true rfl) ?_
  intro p e s m below meth c A ls C0 _ hK hN hP hD hA hl
  obtain ⟨hx, hb, hr, hml, hown, hts, hlocks⟩ := id C0
  have f15 := hts (.fieldLink RX3 15 "LastOchre$Reader" "length" "I") (by decide +kernel)
  have f24 := hts (.fieldLink RX3 24 "LastOchre$Reader" "place" "I") (by decide +kernel)
  have f9 := hts (.fieldLink RX3 9 "LastOchre$Reader" "bytes" "[C") (by decide +kernel)
  have hS : va_S A s.heap s.heap [] := va_S.rf
  replace hl : lv_has ls 1 [(0, .ref a)] := hl
  unfold q_X3_readEnd at h
  unfold F_X3_readEnd_e at h
  refine lv_aload_n hx hb dX3_readEnd_0 rfl (lv_at hl 0 rfl) ?_
  refine gV_v2 (As := []) (rest := []) ⟨hx, hb, hml, hown, hts⟩ (c_X3_findToken l dC dI cyC cyI cyZ _ a a_bytes v_length v_place v_tokenStart v_bytes h) (cwV 0 hts gX3_readEnd_X3_findToken rfl rfl rfl hdV_X3_findToken ⟨Nat.le_of_ble_eq_true rfl, Nat.le_of_ble_eq_true rfl⟩) hK hN hP hD hS hA [0, 1] (by decide) rfl (ci := 3) rfl rfl rfl hl.1 rfl (Nat.le_of_ble_eq_true rfl) dX3_readEnd_1 ⟨Nat.zero_le _, Nat.zero_le _⟩ (wr := []) [] rfl (by decide) (by decide) (fun u_1 u_2 H locs h hP hD hS => ?_)
  replace hP : va_P (dC, dI) vwCl [(a, .inr (3, [.ref a_bytes, .int v_length, .int u_1, .int u_2])), (a_bytes, .inl (cyC, 150, .inl v_bytes))] H := hP
  replace hD : va_D A [(a, .inr (3, [.ref a_bytes, .int v_length, .int u_1, .int u_2])), (a_bytes, .inl (cyC, 150, .inl v_bytes))] := hD
  refine lv_aload_n hx hb dX3_readEnd_4 rfl (lv_at hl 0 rfl) ?_
  refine va_get (D := (dC, dI)) (ci := 3) (v := .int u_1) (C := RX3) (T := TX3) (N := 4) hx hb hts iwX3_readEnd_X3 hown hK hP 0 rfl rfl 2 (by decide) f24 (fun _ h9 => h9) rfl dX3_readEnd_5 ?_
  refine lv_aload_n hx hb dX3_readEnd_8 rfl (lv_at hl 0 rfl) ?_
  refine va_get (D := (dC, dI)) (ci := 3) (v := .int v_length) (C := RX3) (T := TX3) (N := 4) hx hb hts iwX3_readEnd_X3 hown hK hP 0 rfl rfl 1 (by decide) f15 (fun _ h9 => h9) rfl dX3_readEnd_9 ?_
  refine lv_icmp_ge (tgt := 29) hx hb dX3_readEnd_12 (by decide) (fun c_3 => ?_) (fun c_3 => ?_)
  · replace h := h.1 c_3
    refine lv_iconst (v := 0) hx hb dX3_readEnd_29 (by decide) ?_
    exact grz2 hx hb hr hlocks rfl h hP hD hS dX3_readEnd_30
  · replace h := h.2 c_3
    refine lv_aload_n hx hb dX3_readEnd_15 rfl (lv_at hl 0 rfl) ?_
    refine va_get (D := (dC, dI)) (ci := 3) (v := .ref a_bytes) (C := RX3) (T := TX3) (N := 4) hx hb hts iwX3_readEnd_X3 hown hK hP 0 rfl rfl 0 (by decide) f9 (fun _ h9 => h9) rfl dX3_readEnd_16 ?_
    refine lv_aload_n hx hb dX3_readEnd_19 rfl (lv_at hl 0 rfl) ?_
    refine va_get (D := (dC, dI)) (ci := 3) (v := .int u_1) (C := RX3) (T := TX3) (N := 4) hx hb hts iwX3_readEnd_X3 hown hK hP 0 rfl rfl 2 (by decide) f24 (fun _ h9 => h9) rfl dX3_readEnd_20 ?_
    have g_4 := h.1
    replace h := h.2
    refine va_cald hx hb hK hP 1 1 rfl rfl g_4 dX3_readEnd_23 ?_
    refine lv_bipush (v := 59) hx hb dX3_readEnd_24 (by decide) ?_
    refine lv_icmp_eq (tgt := 31) hx hb dX3_readEnd_26 (by decide) (fun c_5 => ?_) (fun c_5 => ?_)
    · replace h := h.1 c_5
      refine lv_aload_n hx hb dX3_readEnd_31 rfl (lv_at hl 0 rfl) ?_
      refine lv_dup hx hb dX3_readEnd_32 rfl ?_
      refine va_get (D := (dC, dI)) (ci := 3) (v := .int u_1) (C := RX3) (T := TX3) (N := 4) hx hb hts iwX3_readEnd_X3 hown hK hP 0 rfl rfl 2 (by decide) f24 (fun _ h9 => h9) rfl dX3_readEnd_33 ?_
      refine lv_iconst (v := 1) hx hb dX3_readEnd_36 (by decide) ?_
      refine lv_iadd hx hb dX3_readEnd_37 ?_
      refine lv_topi (fun n_6 e_7 => ?_)
      replace h := h n_6 e_7
      refine va_put (D := (dC, dI)) (ci := 3) (v := .int n_6) (ty := .int) (C := RX3) (T := TX3) (N := 4) hx hb hts iwX3_readEnd_X3 tyX3 tyX3_ok nmX3 hown hK hP hD hS 0 rfl rfl 2 (by decide) f24 (fun _ h9 => h9) rfl (by decide +kernel) rfl rfl (Nat.le_of_ble_eq_true rfl) dX3_readEnd_38 (fun H locs hP hD hS => ?_)
      replace hP : va_P (dC, dI) vwCl [(a, .inr (3, [.ref a_bytes, .int v_length, .int n_6, .int u_2])), (a_bytes, .inl (cyC, 150, .inl v_bytes))] H := hP
      replace hD : va_D A [(a, .inr (3, [.ref a_bytes, .int v_length, .int n_6, .int u_2])), (a_bytes, .inl (cyC, 150, .inl v_bytes))] := hD
      refine lv_iconst (v := 1) hx hb dX3_readEnd_41 (by decide) ?_
      exact grz2 hx hb hr hlocks rfl h hP hD hS dX3_readEnd_42
    · replace h := h.2 c_5
      refine lv_iconst (v := 0) hx hb dX3_readEnd_29 (by decide) ?_
      exact grz2 hx hb hr hlocks rfl h hP hD hS dX3_readEnd_30

def F_X3_readSeam_e (v_length : Int32) (v_bytes : Nat → Int32) (Q : Int32 → Int32 → Int32 → Int32 → Int32 → Int32 → Int32 → Int32 → Int32 → Int32 → (Nat → Int32) → Prop) (rec : Nat → Int32 → Int32 → Int32 → Int32 → Int32 → Int32 → Int32 → Int32 → Int32 → Int32 → Int32 → Int32 → (Nat → Int32) → Prop) (v_place : Int32) (v_tokenStart : Int32) (w0_seamTold : Int32) (w0_seam_w : Int32) (w0_seam_h : Int32) (w0_seam_all : Int32) (w0_seam_top : Int32) (w0_seam_left : Int32) (w0_seam_right : Int32) (w0_seam_parts : Nat → Int32) : Prop :=
  (w0_seamTold = 0 → (q_X3_readNumber v_length v_place v_tokenStart v_bytes (1 : Int32) (4 : Int32) (fun (r_2 : Int32) (u_3 : Int32) (u_4 : Int32) => (¬ r_2 = (-1 : Int32) → (q_X3_readNumber v_length u_3 u_4 v_bytes (1 : Int32) (4 : Int32) (fun (r_6 : Int32) (u_7 : Int32) (u_8 : Int32) => (¬ r_6 = (-1 : Int32) → (q_X4_shape w0_seam_w w0_seam_h w0_seam_all w0_seam_top w0_seam_left w0_seam_right w0_seam_parts r_2 r_6 (fun (u_10 : Int32) (u_11 : Int32) (u_12 : Int32) (u_13 : Int32) (u_14 : Int32) (u_15 : Int32) (u_16 : Nat → Int32) => rec 54 r_2 r_6 (0 : Int32) u_7 u_8 (1 : Int32) u_10 u_11 u_12 u_13 u_14 u_15 u_16))) ∧ (r_6 = (-1 : Int32) → (Q (0 : Int32) u_7 u_8 w0_seamTold w0_seam_w w0_seam_h w0_seam_all w0_seam_top w0_seam_left w0_seam_right w0_seam_parts))))) ∧ (r_2 = (-1 : Int32) → (Q (0 : Int32) u_3 u_4 w0_seamTold w0_seam_w w0_seam_h w0_seam_all w0_seam_top w0_seam_left w0_seam_right w0_seam_parts))))) ∧ (¬ w0_seamTold = 0 → (Q (0 : Int32) v_place v_tokenStart w0_seamTold w0_seam_w w0_seam_h w0_seam_all w0_seam_top w0_seam_left w0_seam_right w0_seam_parts))
def F_X3_readSeam_54 (v_length : Int32) (v_bytes : Nat → Int32) (Q : Int32 → Int32 → Int32 → Int32 → Int32 → Int32 → Int32 → Int32 → Int32 → Int32 → (Nat → Int32) → Prop) (rec : Nat → Int32 → Int32 → Int32 → Int32 → Int32 → Int32 → Int32 → Int32 → Int32 → Int32 → Int32 → Int32 → (Nat → Int32) → Prop) (x2 : Int32) (x3 : Int32) (x4 : Int32) (v_place : Int32) (v_tokenStart : Int32) (w0_seamTold : Int32) (w0_seam_w : Int32) (w0_seam_h : Int32) (w0_seam_all : Int32) (w0_seam_top : Int32) (w0_seam_left : Int32) (w0_seam_right : Int32) (w0_seam_parts : Nat → Int32) : Prop :=
  ((x2 * x3) ≤ x4 → (q_X3_readEnd v_length v_place v_tokenStart v_bytes (fun (r_18 : Int32) (u_19 : Int32) (u_20 : Int32) => narrow .boolean (.int r_18) = .int r_18 ∧ (Q r_18 u_19 u_20 w0_seamTold w0_seam_w w0_seam_h w0_seam_all w0_seam_top w0_seam_left w0_seam_right w0_seam_parts)))) ∧ (¬ (x2 * x3) ≤ x4 → (q_X3_readFigure v_length v_place v_tokenStart v_bytes (fun (r_22 : Int32) (u_23 : Int32) (u_24 : Int32) => (¬ r_22 = (-1 : Int32) → (vp_in x4 16 ∧ (∀ f_27 : Nat → Int32, f_27 = upd w0_seam_parts (x4).toNatClampNeg r_22 → (∀ x4_29 : Int32, x4_29 = (x4 + (1 : Int32)) → (rec 54 x2 x3 x4_29 u_23 u_24 w0_seamTold w0_seam_w w0_seam_h w0_seam_all w0_seam_top w0_seam_left w0_seam_right f_27))))) ∧ (r_22 = (-1 : Int32) → (Q (0 : Int32) u_23 u_24 w0_seamTold w0_seam_w w0_seam_h w0_seam_all w0_seam_top w0_seam_left w0_seam_right w0_seam_parts)))))
def wp_X3_readSeam (v_length : Int32) (v_bytes : Nat → Int32) (Q : Int32 → Int32 → Int32 → Int32 → Int32 → Int32 → Int32 → Int32 → Int32 → Int32 → (Nat → Int32) → Prop) : Nat → Nat → Int32 → Int32 → Int32 → Int32 → Int32 → Int32 → Int32 → Int32 → Int32 → Int32 → Int32 → Int32 → (Nat → Int32) → Prop
  | 0 => fun _ _ _ _ _ _ _ _ _ _ _ _ _ _ => False
  | n + 1 => fun t x2 x3 x4 v_place v_tokenStart w0_seamTold w0_seam_w w0_seam_h w0_seam_all w0_seam_top w0_seam_left w0_seam_right w0_seam_parts => if t = 54 then F_X3_readSeam_54 v_length v_bytes Q (wp_X3_readSeam v_length v_bytes Q n) x2 x3 x4 v_place v_tokenStart w0_seamTold w0_seam_w w0_seam_h w0_seam_all w0_seam_top w0_seam_left w0_seam_right w0_seam_parts else False
def q_X3_readSeam (v_length : Int32) (v_place : Int32) (v_tokenStart : Int32) (w0_seamTold : Int32) (v_bytes : Nat → Int32) (w0_seam_w : Int32) (w0_seam_h : Int32) (w0_seam_all : Int32) (w0_seam_top : Int32) (w0_seam_left : Int32) (w0_seam_right : Int32) (w0_seam_parts : Nat → Int32) (Q : Int32 → Int32 → Int32 → Int32 → Int32 → Int32 → Int32 → Int32 → Int32 → Int32 → (Nat → Int32) → Prop) : Prop := ∃ n, F_X3_readSeam_e v_length v_bytes Q (wp_X3_readSeam v_length v_bytes Q n) v_place v_tokenStart w0_seamTold w0_seam_w w0_seam_h w0_seam_all w0_seam_top w0_seam_left w0_seam_right w0_seam_parts
theorem iwX3_readSeam_X4 : ∀ w ∈ wsX40, w ∈ wsX3_readSeam := by decide +kernel
theorem iwX3_readSeam_X5 : ∀ w ∈ wsX50, w ∈ wsX3_readSeam := by decide +kernel
theorem hdV_X3_readSeam : yX3_readSeam.cls = RX3 ∧ yX3_readSeam.cls ≠ "java/lang/invoke/MethodHandle" ∧ yX3_readSeam.cls ≠ "java/lang/invoke/VarHandle" ∧ (parseMethodDescriptor yX3_readSeam.desc).map (fun d => d.parameters.length) = some 1 := by decide +kernel
set_option maxHeartbeats 4000000 in
set_option maxRecDepth 100000 in
theorem w_X3_readSeam {p : Program} {l : Launch} {e : Env} {s : State} {m : MethodId} {args : Array Value} {below : List Frame} {meth : Method} {c : Code} {A : Nat → Prop} (dC : Nat → ClassId) (dI : Nat → Nat → Nat) (cyC cyI cyZ : ClassId) (a a_bytes b0 b0_seam b0_yellow b0_white b0_fades b0_worth b0_seam_parts : Nat) (v_length : Int32) (w0_boundTold : Int32) (w0_lossTold : Int32) (w0_bound : Int32) (w0_loss : Int32) (w0_things : Int32) (v_bytes : Nat → Int32) (Q : Int32 → Int32 → Int32 → Int32 → Int32 → Int32 → Int32 → Int32 → Int32 → Int32 → (Nat → Int32) → Prop) (C0 : gAt cX3_readSeam (some .boolean) 6 RX3 wsX3_readSeam p s m meth c args) (hK : va_K (dC, dI) vwCl (gTy cyC cyI cyZ) s) (hN : nU s) (hA : ∀ q, s.heap.size ≤ q → A q) : ∀ n : Nat, (∀ (x2 : Int32) (x3 : Int32) (x4 : Int32) (v_place : Int32) (v_tokenStart : Int32) (w0_seamTold : Int32) (w0_seam_w : Int32) (w0_seam_h : Int32) (w0_seam_all : Int32) (w0_seam_top : Int32) (w0_seam_left : Int32) (w0_seam_right : Int32) (w0_seam_parts : Nat → Int32) (H : Heap) (locs : List Loc) (ls : Array Slot), wp_X3_readSeam v_length v_bytes Q n 54 x2 x3 x4 v_place v_tokenStart w0_seamTold w0_seam_w w0_seam_h w0_seam_all w0_seam_top w0_seam_left w0_seam_right w0_seam_parts → va_P (dC, dI) vwCl [(a, .inr (3, [.ref a_bytes, .int v_length, .int v_place, .int v_tokenStart])), (b0, .inr (5, [.ref b0_seam, .int w0_seamTold, .int w0_boundTold, .int w0_lossTold, .int w0_bound, .int w0_loss, .int w0_things, .ref b0_yellow, .ref b0_white, .ref b0_fades, .ref b0_worth])), (a_bytes, .inl (cyC, 150, .inl v_bytes)), (b0_seam, .inr (4, [.int w0_seam_w, .int w0_seam_h, .ref b0_seam_parts, .int w0_seam_all, .int w0_seam_top, .int w0_seam_left, .int w0_seam_right])), (b0_seam_parts, .inl (cyI, 16, .inl w0_seam_parts))] H → va_D A [(a, .inr (3, [.ref a_bytes, .int v_length, .int v_place, .int v_tokenStart])), (b0, .inr (5, [.ref b0_seam, .int w0_seamTold, .int w0_boundTold, .int w0_lossTold, .int w0_bound, .int w0_loss, .int w0_things, .ref b0_yellow, .ref b0_white, .ref b0_fades, .ref b0_worth])), (a_bytes, .inl (cyC, 150, .inl v_bytes)), (b0_seam, .inr (4, [.int w0_seam_w, .int w0_seam_h, .ref b0_seam_parts, .int w0_seam_all, .int w0_seam_top, .int w0_seam_left, .int w0_seam_right])), (b0_seam_parts, .inl (cyI, 16, .inl w0_seam_parts))] → va_S A s.heap H locs → lv_has ls 6 [(0, .ref a), (1, .ref b0), (2, .int x2), (3, .int x3), (4, .int x4)] → W p l e { frames := 3, cells := 0, slots := 0, locals := 67 } s m args below meth c H locs 0 0 (MQ below (gQi10 Q (dC, dI) A (fun (u1 : Int32) (u2 : Int32) (u3 : Int32) (u4 : Int32) (u5 : Int32) (u6 : Int32) (u7 : Int32) (u8 : Int32) (u9 : Int32) (u10 : Nat → Int32) => [(a, .inr (3, [.ref a_bytes, .int v_length, .int u1, .int u2])), (b0, .inr (5, [.ref b0_seam, .int u3, .int w0_boundTold, .int w0_lossTold, .int w0_bound, .int w0_loss, .int w0_things, .ref b0_yellow, .ref b0_white, .ref b0_fades, .ref b0_worth])), (a_bytes, .inl (cyC, 150, .inl v_bytes)), (b0_seam, .inr (4, [.int u4, .int u5, .ref b0_seam_parts, .int u6, .int u7, .int u8, .int u9])), (b0_seam_parts, .inl (cyI, 16, .inl u10))])) args s 0 0 A) (F0 m 54 ls [])) := by
  obtain ⟨hx, hb, hr, hml, hown, hts, hlocks⟩ := id C0
  have f53 := hN.link (args := (args)) (w := .fieldLinkNest RX3 53 "LastOchre$Told" "seamTold" "Z" "LastOchre") 10 rfl
  have f61 := hN.link (args := (args)) (w := .fieldLinkNest RX3 61 "LastOchre$Told" "seam" "LLastOchre$Seam;" "LastOchre") 9 rfl
  have f74 := hN.link (args := (args)) (w := .fieldLinkNest RX3 74 "LastOchre$Seam" "parts" "[I" "LastOchre") 5 rfl
  intro n
  induction n with
  | zero => exact fun _ _ _ _ _ _ _ _ _ _ _ _ _ _ _ _ h => absurd h id
  | succ n ih =>
    have ih54 := ih
    · intro x2 x3 x4 v_place v_tokenStart w0_seamTold w0_seam_w w0_seam_h w0_seam_all w0_seam_top w0_seam_left w0_seam_right w0_seam_parts H locs ls h hP hD hS hl
      replace h : F_X3_readSeam_54 v_length v_bytes Q (wp_X3_readSeam v_length v_bytes Q n) x2 x3 x4 v_place v_tokenStart w0_seamTold w0_seam_w w0_seam_h w0_seam_all w0_seam_top w0_seam_left w0_seam_right w0_seam_parts := h
      unfold F_X3_readSeam_54 at h
      refine lv_iload hx hb dX3_readSeam_54 (lv_at hl 4 rfl) ?_
      refine lv_iload_n hx hb dX3_readSeam_56 rfl (lv_at hl 2 rfl) ?_
      refine lv_iload_n hx hb dX3_readSeam_57 rfl (lv_at hl 3 rfl) ?_
      refine lv_imul hx hb dX3_readSeam_58 ?_
      refine lv_icmp_ge (tgt := 94) hx hb dX3_readSeam_59 (by decide) (fun c_17 => ?_) (fun c_17 => ?_)
      · replace h := h.1 c_17
        refine lv_aload_n hx hb dX3_readSeam_94 rfl (lv_at hl 0 rfl) ?_
        refine gV_i2 (As := []) (rest := []) ⟨hx, hb, hml, hown, hts⟩ (c_X3_readEnd l dC dI cyC cyI cyZ _ a a_bytes v_length v_place v_tokenStart v_bytes h) (cwV 0 hts gX3_readSeam_X3_readEnd rfl rfl rfl hdV_X3_readEnd ⟨Nat.le_of_ble_eq_true rfl, Nat.le_of_ble_eq_true rfl⟩) hK hN hP hD hS hA [0, 2] (by decide) rfl (ci := 3) rfl rfl rfl hl.1 rfl (Nat.le_of_ble_eq_true rfl) dX3_readSeam_95 ⟨Nat.zero_le _, Nat.zero_le _⟩ (wr := [(b0, .inr (5, [.ref b0_seam, .int w0_seamTold, .int w0_boundTold, .int w0_lossTold, .int w0_bound, .int w0_loss, .int w0_things, .ref b0_yellow, .ref b0_white, .ref b0_fades, .ref b0_worth])), (b0_seam, .inr (4, [.int w0_seam_w, .int w0_seam_h, .ref b0_seam_parts, .int w0_seam_all, .int w0_seam_top, .int w0_seam_left, .int w0_seam_right])), (b0_seam_parts, .inl (cyI, 16, .inl w0_seam_parts))]) [1, 3, 4] rfl (by decide) (by decide) (fun r_18 u_19 u_20 H locs h hP hD hS => ?_)
        replace hP : va_P (dC, dI) vwCl [(b0, .inr (5, [.ref b0_seam, .int w0_seamTold, .int w0_boundTold, .int w0_lossTold, .int w0_bound, .int w0_loss, .int w0_things, .ref b0_yellow, .ref b0_white, .ref b0_fades, .ref b0_worth])), (b0_seam, .inr (4, [.int w0_seam_w, .int w0_seam_h, .ref b0_seam_parts, .int w0_seam_all, .int w0_seam_top, .int w0_seam_left, .int w0_seam_right])), (b0_seam_parts, .inl (cyI, 16, .inl w0_seam_parts)), (a, .inr (3, [.ref a_bytes, .int v_length, .int u_19, .int u_20])), (a_bytes, .inl (cyC, 150, .inl v_bytes))] H := hP
        replace hD : va_D A [(b0, .inr (5, [.ref b0_seam, .int w0_seamTold, .int w0_boundTold, .int w0_lossTold, .int w0_bound, .int w0_loss, .int w0_things, .ref b0_yellow, .ref b0_white, .ref b0_fades, .ref b0_worth])), (b0_seam, .inr (4, [.int w0_seam_w, .int w0_seam_h, .ref b0_seam_parts, .int w0_seam_all, .int w0_seam_top, .int w0_seam_left, .int w0_seam_right])), (b0_seam_parts, .inl (cyI, 16, .inl w0_seam_parts)), (a, .inr (3, [.ref a_bytes, .int v_length, .int u_19, .int u_20])), (a_bytes, .inl (cyC, 150, .inl v_bytes))] := hD
        have g_21 := h.1
        replace h := h.2
        exact grz10 hx hb hr hlocks g_21 h (hP.sub (ws' := [(a, .inr (3, [.ref a_bytes, .int v_length, .int u_19, .int u_20])), (b0, .inr (5, [.ref b0_seam, .int w0_seamTold, .int w0_boundTold, .int w0_lossTold, .int w0_bound, .int w0_loss, .int w0_things, .ref b0_yellow, .ref b0_white, .ref b0_fades, .ref b0_worth])), (a_bytes, .inl (cyC, 150, .inl v_bytes)), (b0_seam, .inr (4, [.int w0_seam_w, .int w0_seam_h, .ref b0_seam_parts, .int w0_seam_all, .int w0_seam_top, .int w0_seam_left, .int w0_seam_right])), (b0_seam_parts, .inl (cyI, 16, .inl w0_seam_parts))]) [3, 0, 4, 1, 2] rfl) (hD.sub (ws' := [(a, .inr (3, [.ref a_bytes, .int v_length, .int u_19, .int u_20])), (b0, .inr (5, [.ref b0_seam, .int w0_seamTold, .int w0_boundTold, .int w0_lossTold, .int w0_bound, .int w0_loss, .int w0_things, .ref b0_yellow, .ref b0_white, .ref b0_fades, .ref b0_worth])), (a_bytes, .inl (cyC, 150, .inl v_bytes)), (b0_seam, .inr (4, [.int w0_seam_w, .int w0_seam_h, .ref b0_seam_parts, .int w0_seam_all, .int w0_seam_top, .int w0_seam_left, .int w0_seam_right])), (b0_seam_parts, .inl (cyI, 16, .inl w0_seam_parts))]) [3, 0, 4, 1, 2] (by decide) rfl) hS dX3_readSeam_98
      · replace h := h.2 c_17
        refine lv_aload_n hx hb dX3_readSeam_62 rfl (lv_at hl 0 rfl) ?_
        refine gV_i2 (As := []) (rest := []) ⟨hx, hb, hml, hown, hts⟩ (c_X3_readFigure l dC dI cyC cyI cyZ _ a a_bytes v_length v_place v_tokenStart v_bytes h) (cwV 0 hts gX3_readSeam_X3_readFigure rfl rfl rfl hdV_X3_readFigure ⟨Nat.le_of_ble_eq_true rfl, Nat.le_of_ble_eq_true rfl⟩) hK hN hP hD hS hA [0, 2] (by decide) rfl (ci := 3) rfl rfl rfl hl.1 rfl (Nat.le_of_ble_eq_true rfl) dX3_readSeam_63 ⟨Nat.zero_le _, Nat.zero_le _⟩ (wr := [(b0, .inr (5, [.ref b0_seam, .int w0_seamTold, .int w0_boundTold, .int w0_lossTold, .int w0_bound, .int w0_loss, .int w0_things, .ref b0_yellow, .ref b0_white, .ref b0_fades, .ref b0_worth])), (b0_seam, .inr (4, [.int w0_seam_w, .int w0_seam_h, .ref b0_seam_parts, .int w0_seam_all, .int w0_seam_top, .int w0_seam_left, .int w0_seam_right])), (b0_seam_parts, .inl (cyI, 16, .inl w0_seam_parts))]) [1, 3, 4] rfl (by decide) (by decide) (fun r_22 u_23 u_24 H locs h hP hD hS => ?_)
        replace hP : va_P (dC, dI) vwCl [(b0, .inr (5, [.ref b0_seam, .int w0_seamTold, .int w0_boundTold, .int w0_lossTold, .int w0_bound, .int w0_loss, .int w0_things, .ref b0_yellow, .ref b0_white, .ref b0_fades, .ref b0_worth])), (b0_seam, .inr (4, [.int w0_seam_w, .int w0_seam_h, .ref b0_seam_parts, .int w0_seam_all, .int w0_seam_top, .int w0_seam_left, .int w0_seam_right])), (b0_seam_parts, .inl (cyI, 16, .inl w0_seam_parts)), (a, .inr (3, [.ref a_bytes, .int v_length, .int u_23, .int u_24])), (a_bytes, .inl (cyC, 150, .inl v_bytes))] H := hP
        replace hD : va_D A [(b0, .inr (5, [.ref b0_seam, .int w0_seamTold, .int w0_boundTold, .int w0_lossTold, .int w0_bound, .int w0_loss, .int w0_things, .ref b0_yellow, .ref b0_white, .ref b0_fades, .ref b0_worth])), (b0_seam, .inr (4, [.int w0_seam_w, .int w0_seam_h, .ref b0_seam_parts, .int w0_seam_all, .int w0_seam_top, .int w0_seam_left, .int w0_seam_right])), (b0_seam_parts, .inl (cyI, 16, .inl w0_seam_parts)), (a, .inr (3, [.ref a_bytes, .int v_length, .int u_23, .int u_24])), (a_bytes, .inl (cyC, 150, .inl v_bytes))] := hD
        refine lv_istore (lv' := [(5, .int r_22), (0, .ref a), (1, .ref b0), (2, .int x2), (3, .int x3), (4, .int x4)]) hx hb dX3_readSeam_66 hl (by decide) rfl (fun ls hl => ?_)
        refine lv_iload hx hb dX3_readSeam_68 (lv_at hl 0 rfl) ?_
        refine lv_iconst (v := -1) hx hb dX3_readSeam_70 (by decide) ?_
        refine lv_icmp_ne (tgt := 76) hx hb dX3_readSeam_71 (by decide) (fun c_25 => ?_) (fun c_25 => ?_)
        · replace h := h.1 c_25
          refine lv_aload_n hx hb dX3_readSeam_76 rfl (lv_at hl 2 rfl) ?_
          refine va_getN (host := "LastOchre") (D := (dC, dI)) (ci := 5) (v := .ref b0_seam) (C := RX5) (T := TX5) (N := 11) hx hb hts iwX3_readSeam_X5 hown hK hP 0 rfl rfl 0 (by decide) f61 (fun _ h9 => h9) rfl dX3_readSeam_77 ?_
          refine va_getN (host := "LastOchre") (D := (dC, dI)) (ci := 4) (v := .ref b0_seam_parts) (C := RX4) (T := TX4) (N := 7) hx hb hts iwX3_readSeam_X4 hown hK hP 1 rfl rfl 2 (by decide) f74 (fun _ h9 => h9) rfl dX3_readSeam_80 ?_
          refine lv_iload hx hb dX3_readSeam_83 (lv_at hl 5 rfl) ?_
          refine lv_iload hx hb dX3_readSeam_85 (lv_at hl 0 rfl) ?_
          have g_26 := h.1
          replace h := h.2
          refine va_iast hx hb hK hP hD hS 2 0 rfl rfl g_26 dX3_readSeam_87 (fun H locs hP hD hS => ?_)
          obtain ⟨f_27, e_28⟩ : ∃ y : Nat → Int32, y = upd w0_seam_parts (x4).toNatClampNeg r_22 := ⟨_, rfl⟩
          replace h := h f_27 e_28
          replace hP : va_P (dC, dI) vwCl [(b0, .inr (5, [.ref b0_seam, .int w0_seamTold, .int w0_boundTold, .int w0_lossTold, .int w0_bound, .int w0_loss, .int w0_things, .ref b0_yellow, .ref b0_white, .ref b0_fades, .ref b0_worth])), (b0_seam, .inr (4, [.int w0_seam_w, .int w0_seam_h, .ref b0_seam_parts, .int w0_seam_all, .int w0_seam_top, .int w0_seam_left, .int w0_seam_right])), (b0_seam_parts, .inl (cyI, 16, .inl f_27)), (a, .inr (3, [.ref a_bytes, .int v_length, .int u_23, .int u_24])), (a_bytes, .inl (cyC, 150, .inl v_bytes))] H := by rw [e_28]; exact hP
          replace hD : va_D A [(b0, .inr (5, [.ref b0_seam, .int w0_seamTold, .int w0_boundTold, .int w0_lossTold, .int w0_bound, .int w0_loss, .int w0_things, .ref b0_yellow, .ref b0_white, .ref b0_fades, .ref b0_worth])), (b0_seam, .inr (4, [.int w0_seam_w, .int w0_seam_h, .ref b0_seam_parts, .int w0_seam_all, .int w0_seam_top, .int w0_seam_left, .int w0_seam_right])), (b0_seam_parts, .inl (cyI, 16, .inl f_27)), (a, .inr (3, [.ref a_bytes, .int v_length, .int u_23, .int u_24])), (a_bytes, .inl (cyC, 150, .inl v_bytes))] := by rw [e_28]; exact hD
          obtain ⟨x4_29, e_30⟩ : ∃ y : Int32, y = (x4 + (1 : Int32)) := ⟨_, rfl⟩
          replace h := h x4_29 e_30
          refine lv_iinc (v := x4_29) (lv' := [(4, .int x4_29), (5, .int r_22), (0, .ref a), (1, .ref b0), (2, .int x2), (3, .int x3)]) hx hb dX3_readSeam_88 hl (k := 5) rfl (by rw [e_30]; rfl) (by decide) rfl (fun ls hl => ?_)
          refine lv_goto (tgt := 54) hx hb dX3_readSeam_91 (by decide) ?_
          exact ih54 x2 x3 x4_29 u_23 u_24 w0_seamTold w0_seam_w w0_seam_h w0_seam_all w0_seam_top w0_seam_left w0_seam_right f_27 _ _ _ h (hP.sub (ws' := [(a, .inr (3, [.ref a_bytes, .int v_length, .int u_23, .int u_24])), (b0, .inr (5, [.ref b0_seam, .int w0_seamTold, .int w0_boundTold, .int w0_lossTold, .int w0_bound, .int w0_loss, .int w0_things, .ref b0_yellow, .ref b0_white, .ref b0_fades, .ref b0_worth])), (a_bytes, .inl (cyC, 150, .inl v_bytes)), (b0_seam, .inr (4, [.int w0_seam_w, .int w0_seam_h, .ref b0_seam_parts, .int w0_seam_all, .int w0_seam_top, .int w0_seam_left, .int w0_seam_right])), (b0_seam_parts, .inl (cyI, 16, .inl f_27))]) [3, 0, 4, 1, 2] rfl) (hD.sub (ws' := [(a, .inr (3, [.ref a_bytes, .int v_length, .int u_23, .int u_24])), (b0, .inr (5, [.ref b0_seam, .int w0_seamTold, .int w0_boundTold, .int w0_lossTold, .int w0_bound, .int w0_loss, .int w0_things, .ref b0_yellow, .ref b0_white, .ref b0_fades, .ref b0_worth])), (a_bytes, .inl (cyC, 150, .inl v_bytes)), (b0_seam, .inr (4, [.int w0_seam_w, .int w0_seam_h, .ref b0_seam_parts, .int w0_seam_all, .int w0_seam_top, .int w0_seam_left, .int w0_seam_right])), (b0_seam_parts, .inl (cyI, 16, .inl f_27))]) [3, 0, 4, 1, 2] (by decide) rfl) hS (lv_sub hl [2, 3, 4, 5, 0] rfl)
        · replace h := h.2 c_25
          refine lv_iconst (v := 0) hx hb dX3_readSeam_74 (by decide) ?_
          exact grz10 hx hb hr hlocks rfl h (hP.sub (ws' := [(a, .inr (3, [.ref a_bytes, .int v_length, .int u_23, .int u_24])), (b0, .inr (5, [.ref b0_seam, .int w0_seamTold, .int w0_boundTold, .int w0_lossTold, .int w0_bound, .int w0_loss, .int w0_things, .ref b0_yellow, .ref b0_white, .ref b0_fades, .ref b0_worth])), (a_bytes, .inl (cyC, 150, .inl v_bytes)), (b0_seam, .inr (4, [.int w0_seam_w, .int w0_seam_h, .ref b0_seam_parts, .int w0_seam_all, .int w0_seam_top, .int w0_seam_left, .int w0_seam_right])), (b0_seam_parts, .inl (cyI, 16, .inl w0_seam_parts))]) [3, 0, 4, 1, 2] rfl) (hD.sub (ws' := [(a, .inr (3, [.ref a_bytes, .int v_length, .int u_23, .int u_24])), (b0, .inr (5, [.ref b0_seam, .int w0_seamTold, .int w0_boundTold, .int w0_lossTold, .int w0_bound, .int w0_loss, .int w0_things, .ref b0_yellow, .ref b0_white, .ref b0_fades, .ref b0_worth])), (a_bytes, .inl (cyC, 150, .inl v_bytes)), (b0_seam, .inr (4, [.int w0_seam_w, .int w0_seam_h, .ref b0_seam_parts, .int w0_seam_all, .int w0_seam_top, .int w0_seam_left, .int w0_seam_right])), (b0_seam_parts, .inl (cyI, 16, .inl w0_seam_parts))]) [3, 0, 4, 1, 2] (by decide) rfl) hS dX3_readSeam_75
set_option maxHeartbeats 4000000 in
set_option maxRecDepth 100000 in
theorem c_X3_readSeam (l : Launch) (dC : Nat → ClassId) (dI : Nat → Nat → Nat) (cyC cyI cyZ : ClassId) (sz : Nat) (a a_bytes b0 b0_seam b0_yellow b0_white b0_fades b0_worth b0_seam_parts : Nat) (v_length : Int32) (v_place : Int32) (v_tokenStart : Int32) (w0_seamTold : Int32) (w0_boundTold : Int32) (w0_lossTold : Int32) (w0_bound : Int32) (w0_loss : Int32) (w0_things : Int32) (v_bytes : Nat → Int32) (w0_seam_w : Int32) (w0_seam_h : Int32) (w0_seam_all : Int32) (w0_seam_top : Int32) (w0_seam_left : Int32) (w0_seam_right : Int32) (w0_seam_parts : Nat → Int32) {Q : Int32 → Int32 → Int32 → Int32 → Int32 → Int32 → Int32 → Int32 → Int32 → Int32 → (Nat → Int32) → Prop} (h : q_X3_readSeam v_length v_place v_tokenStart w0_seamTold v_bytes w0_seam_w w0_seam_h w0_seam_all w0_seam_top w0_seam_left w0_seam_right w0_seam_parts Q) : Met l yX3_readSeam wsX3_readSeam ({ frames := 3, cells := 0, slots := 0, locals := 67 }) (gPc [.ref a, .ref b0] (dC, dI) (gTy cyC cyI cyZ) sz [(a, .inr (3, [.ref a_bytes, .int v_length, .int v_place, .int v_tokenStart])), (b0, .inr (5, [.ref b0_seam, .int w0_seamTold, .int w0_boundTold, .int w0_lossTold, .int w0_bound, .int w0_loss, .int w0_things, .ref b0_yellow, .ref b0_white, .ref b0_fades, .ref b0_worth])), (a_bytes, .inl (cyC, 150, .inl v_bytes)), (b0_seam, .inr (4, [.int w0_seam_w, .int w0_seam_h, .ref b0_seam_parts, .int w0_seam_all, .int w0_seam_top, .int w0_seam_left, .int w0_seam_right])), (b0_seam_parts, .inl (cyI, 16, .inl w0_seam_parts))]) (gQi10 Q (dC, dI) (va_A [(a, .inr (3, [.ref a_bytes, .int v_length, .int v_place, .int v_tokenStart])), (b0, .inr (5, [.ref b0_seam, .int w0_seamTold, .int w0_boundTold, .int w0_lossTold, .int w0_bound, .int w0_loss, .int w0_things, .ref b0_yellow, .ref b0_white, .ref b0_fades, .ref b0_worth])), (a_bytes, .inl (cyC, 150, .inl v_bytes)), (b0_seam, .inr (4, [.int w0_seam_w, .int w0_seam_h, .ref b0_seam_parts, .int w0_seam_all, .int w0_seam_top, .int w0_seam_left, .int w0_seam_right])), (b0_seam_parts, .inl (cyI, 16, .inl w0_seam_parts))] sz) (fun (u1 : Int32) (u2 : Int32) (u3 : Int32) (u4 : Int32) (u5 : Int32) (u6 : Int32) (u7 : Int32) (u8 : Int32) (u9 : Int32) (u10 : Nat → Int32) => [(a, .inr (3, [.ref a_bytes, .int v_length, .int u1, .int u2])), (b0, .inr (5, [.ref b0_seam, .int u3, .int w0_boundTold, .int w0_lossTold, .int w0_bound, .int w0_loss, .int w0_things, .ref b0_yellow, .ref b0_white, .ref b0_fades, .ref b0_worth])), (a_bytes, .inl (cyC, 150, .inl v_bytes)), (b0_seam, .inr (4, [.int u4, .int u5, .ref b0_seam_parts, .int u6, .int u7, .int u8, .int u9])), (b0_seam_parts, .inl (cyI, 16, .inl u10))])) 0 0 (va_A [(a, .inr (3, [.ref a_bytes, .int v_length, .int v_place, .int v_tokenStart])), (b0, .inr (5, [.ref b0_seam, .int w0_seamTold, .int w0_boundTold, .int w0_lossTold, .int w0_bound, .int w0_loss, .int w0_things, .ref b0_yellow, .ref b0_white, .ref b0_fades, .ref b0_worth])), (a_bytes, .inl (cyC, 150, .inl v_bytes)), (b0_seam, .inr (4, [.int w0_seam_w, .int w0_seam_h, .ref b0_seam_parts, .int w0_seam_all, .int w0_seam_top, .int w0_seam_left, .int w0_seam_right])), (b0_seam_parts, .inl (cyI, 16, .inl w0_seam_parts))] sz) := by
  refine gMet (cc := cX3_readSeam) (maxL := 6) (ret := (some .boolean)) (own := RX3) (fun A => gQi10 Q (dC, dI) A (fun (u1 : Int32) (u2 : Int32) (u3 : Int32) (u4 : Int32) (u5 : Int32) (u6 : Int32) (u7 : Int32) (u8 : Int32) (u9 : Int32) (u10 : Nat → Int32) => [(a, .inr (3, [.ref a_bytes, .int v_length, .int u1, .int u2])), (b0, .inr (5, [.ref b0_seam, .int u3, .int w0_boundTold, .int w0_lossTold, .int w0_bound, .int w0_loss, .int w0_things, .ref b0_yellow, .ref b0_white, .ref b0_fades, .ref b0_worth])), (a_bytes, .inl (cyC, 150, .inl v_bytes)), (b0_seam, .inr (4, [.int u4, .int u5, .ref b0_seam_parts, .int u6, .int u7, .int u8, .int u9])), (b0_seam_parts, .inl (cyI, 16, .inl u10))])) (by decide) rfl rfl (Nat.le_of_ble_eq_true rfl) ?_
  intro p e s m below meth c A ls C0 _ hK hN hP hD hA hl
  obtain ⟨hx, hb, hr, hml, hown, hts, hlocks⟩ := id C0
  have f53 := hN.link (args := ([.ref a, .ref b0].toArray)) (w := .fieldLinkNest RX3 53 "LastOchre$Told" "seamTold" "Z" "LastOchre") 10 rfl
  have f61 := hN.link (args := ([.ref a, .ref b0].toArray)) (w := .fieldLinkNest RX3 61 "LastOchre$Told" "seam" "LLastOchre$Seam;" "LastOchre") 9 rfl
  have f74 := hN.link (args := ([.ref a, .ref b0].toArray)) (w := .fieldLinkNest RX3 74 "LastOchre$Seam" "parts" "[I" "LastOchre") 5 rfl
  have hS : va_S A s.heap s.heap [] := va_S.rf
  replace hl : lv_has ls 6 [(0, .ref a), (1, .ref b0)] := hl
  unfold q_X3_readSeam at h
  obtain ⟨n, h⟩ := h
  have ih54 := w_X3_readSeam (l := l) (e := e) (below := below) dC dI cyC cyI cyZ a a_bytes b0 b0_seam b0_yellow b0_white b0_fades b0_worth b0_seam_parts v_length w0_boundTold w0_lossTold w0_bound w0_loss w0_things v_bytes Q C0 hK hN hA n
  unfold F_X3_readSeam_e at h
  refine lv_aload_n hx hb dX3_readSeam_0 rfl (lv_at hl 1 rfl) ?_
  refine va_getN (host := "LastOchre") (D := (dC, dI)) (ci := 5) (v := .int w0_seamTold) (C := RX5) (T := TX5) (N := 11) hx hb hts iwX3_readSeam_X5 hown hK hP 1 rfl rfl 1 (by decide) f53 (fun _ h9 => h9) rfl dX3_readSeam_1 ?_
  refine lv_if_eq (tgt := 9) hx hb dX3_readSeam_4 (by decide) (fun c_1 => ?_) (fun c_1 => ?_)
  · replace h := h.1 c_1
    refine lv_aload_n hx hb dX3_readSeam_9 rfl (lv_at hl 0 rfl) ?_
    refine lv_iconst (v := 1) hx hb dX3_readSeam_10 (by decide) ?_
    refine lv_iconst (v := 4) hx hb dX3_readSeam_11 (by decide) ?_
    refine gV_i2 (As := [.int (1 : Int32), .int (4 : Int32)]) (rest := []) ⟨hx, hb, hml, hown, hts⟩ (c_X3_readNumber l dC dI cyC cyI cyZ _ a a_bytes v_length v_place v_tokenStart v_bytes (1 : Int32) (4 : Int32) h) (cwV 2 hts gX3_readSeam_X3_readNumber rfl rfl rfl hdV_X3_readNumber ⟨Nat.le_of_ble_eq_true rfl, Nat.le_of_ble_eq_true rfl⟩) hK hN hP hD hS hA [0, 2] (by decide) rfl (ci := 3) rfl rfl rfl hl.1 rfl (Nat.le_of_ble_eq_true rfl) dX3_readSeam_12 ⟨Nat.zero_le _, Nat.zero_le _⟩ (wr := [(b0, .inr (5, [.ref b0_seam, .int w0_seamTold, .int w0_boundTold, .int w0_lossTold, .int w0_bound, .int w0_loss, .int w0_things, .ref b0_yellow, .ref b0_white, .ref b0_fades, .ref b0_worth])), (b0_seam, .inr (4, [.int w0_seam_w, .int w0_seam_h, .ref b0_seam_parts, .int w0_seam_all, .int w0_seam_top, .int w0_seam_left, .int w0_seam_right])), (b0_seam_parts, .inl (cyI, 16, .inl w0_seam_parts))]) [1, 3, 4] rfl (by decide) (by decide) (fun r_2 u_3 u_4 H locs h hP hD hS => ?_)
    replace hP : va_P (dC, dI) vwCl [(b0, .inr (5, [.ref b0_seam, .int w0_seamTold, .int w0_boundTold, .int w0_lossTold, .int w0_bound, .int w0_loss, .int w0_things, .ref b0_yellow, .ref b0_white, .ref b0_fades, .ref b0_worth])), (b0_seam, .inr (4, [.int w0_seam_w, .int w0_seam_h, .ref b0_seam_parts, .int w0_seam_all, .int w0_seam_top, .int w0_seam_left, .int w0_seam_right])), (b0_seam_parts, .inl (cyI, 16, .inl w0_seam_parts)), (a, .inr (3, [.ref a_bytes, .int v_length, .int u_3, .int u_4])), (a_bytes, .inl (cyC, 150, .inl v_bytes))] H := hP
    replace hD : va_D A [(b0, .inr (5, [.ref b0_seam, .int w0_seamTold, .int w0_boundTold, .int w0_lossTold, .int w0_bound, .int w0_loss, .int w0_things, .ref b0_yellow, .ref b0_white, .ref b0_fades, .ref b0_worth])), (b0_seam, .inr (4, [.int w0_seam_w, .int w0_seam_h, .ref b0_seam_parts, .int w0_seam_all, .int w0_seam_top, .int w0_seam_left, .int w0_seam_right])), (b0_seam_parts, .inl (cyI, 16, .inl w0_seam_parts)), (a, .inr (3, [.ref a_bytes, .int v_length, .int u_3, .int u_4])), (a_bytes, .inl (cyC, 150, .inl v_bytes))] := hD
    refine lv_istore_n (lv' := [(2, .int r_2), (0, .ref a), (1, .ref b0)]) hx hb dX3_readSeam_15 rfl hl (by decide) rfl (fun ls hl => ?_)
    refine lv_iload_n hx hb dX3_readSeam_16 rfl (lv_at hl 0 rfl) ?_
    refine lv_iconst (v := -1) hx hb dX3_readSeam_17 (by decide) ?_
    refine lv_icmp_ne (tgt := 23) hx hb dX3_readSeam_18 (by decide) (fun c_5 => ?_) (fun c_5 => ?_)
    · replace h := h.1 c_5
      refine lv_aload_n hx hb dX3_readSeam_23 rfl (lv_at hl 1 rfl) ?_
      refine lv_iconst (v := 1) hx hb dX3_readSeam_24 (by decide) ?_
      refine lv_iconst (v := 4) hx hb dX3_readSeam_25 (by decide) ?_
      refine gV_i2 (As := [.int (1 : Int32), .int (4 : Int32)]) (rest := []) ⟨hx, hb, hml, hown, hts⟩ (c_X3_readNumber l dC dI cyC cyI cyZ _ a a_bytes v_length u_3 u_4 v_bytes (1 : Int32) (4 : Int32) h) (cwV 2 hts gX3_readSeam_X3_readNumber rfl rfl rfl hdV_X3_readNumber ⟨Nat.le_of_ble_eq_true rfl, Nat.le_of_ble_eq_true rfl⟩) hK hN hP hD hS hA [3, 4] (by decide) rfl (ci := 3) rfl rfl rfl hl.1 rfl (Nat.le_of_ble_eq_true rfl) dX3_readSeam_26 ⟨Nat.zero_le _, Nat.zero_le _⟩ (wr := [(b0, .inr (5, [.ref b0_seam, .int w0_seamTold, .int w0_boundTold, .int w0_lossTold, .int w0_bound, .int w0_loss, .int w0_things, .ref b0_yellow, .ref b0_white, .ref b0_fades, .ref b0_worth])), (b0_seam, .inr (4, [.int w0_seam_w, .int w0_seam_h, .ref b0_seam_parts, .int w0_seam_all, .int w0_seam_top, .int w0_seam_left, .int w0_seam_right])), (b0_seam_parts, .inl (cyI, 16, .inl w0_seam_parts))]) [0, 1, 2] rfl (by decide) (by decide) (fun r_6 u_7 u_8 H locs h hP hD hS => ?_)
      replace hP : va_P (dC, dI) vwCl [(b0, .inr (5, [.ref b0_seam, .int w0_seamTold, .int w0_boundTold, .int w0_lossTold, .int w0_bound, .int w0_loss, .int w0_things, .ref b0_yellow, .ref b0_white, .ref b0_fades, .ref b0_worth])), (b0_seam, .inr (4, [.int w0_seam_w, .int w0_seam_h, .ref b0_seam_parts, .int w0_seam_all, .int w0_seam_top, .int w0_seam_left, .int w0_seam_right])), (b0_seam_parts, .inl (cyI, 16, .inl w0_seam_parts)), (a, .inr (3, [.ref a_bytes, .int v_length, .int u_7, .int u_8])), (a_bytes, .inl (cyC, 150, .inl v_bytes))] H := hP
      replace hD : va_D A [(b0, .inr (5, [.ref b0_seam, .int w0_seamTold, .int w0_boundTold, .int w0_lossTold, .int w0_bound, .int w0_loss, .int w0_things, .ref b0_yellow, .ref b0_white, .ref b0_fades, .ref b0_worth])), (b0_seam, .inr (4, [.int w0_seam_w, .int w0_seam_h, .ref b0_seam_parts, .int w0_seam_all, .int w0_seam_top, .int w0_seam_left, .int w0_seam_right])), (b0_seam_parts, .inl (cyI, 16, .inl w0_seam_parts)), (a, .inr (3, [.ref a_bytes, .int v_length, .int u_7, .int u_8])), (a_bytes, .inl (cyC, 150, .inl v_bytes))] := hD
      refine lv_istore_n (lv' := [(3, .int r_6), (2, .int r_2), (0, .ref a), (1, .ref b0)]) hx hb dX3_readSeam_29 rfl hl (by decide) rfl (fun ls hl => ?_)
      refine lv_iload_n hx hb dX3_readSeam_30 rfl (lv_at hl 0 rfl) ?_
      refine lv_iconst (v := -1) hx hb dX3_readSeam_31 (by decide) ?_
      refine lv_icmp_ne (tgt := 37) hx hb dX3_readSeam_32 (by decide) (fun c_9 => ?_) (fun c_9 => ?_)
      · replace h := h.1 c_9
        refine lv_aload_n hx hb dX3_readSeam_37 rfl (lv_at hl 3 rfl) ?_
        refine va_getN (host := "LastOchre") (D := (dC, dI)) (ci := 5) (v := .ref b0_seam) (C := RX5) (T := TX5) (N := 11) hx hb hts iwX3_readSeam_X5 hown hK hP 0 rfl rfl 0 (by decide) f61 (fun _ h9 => h9) rfl dX3_readSeam_38 ?_
        refine lv_iload_n hx hb dX3_readSeam_41 rfl (lv_at hl 1 rfl) ?_
        refine lv_iload_n hx hb dX3_readSeam_42 rfl (lv_at hl 0 rfl) ?_
        refine gV_v7 (As := [.int r_2, .int r_6]) (rest := []) ⟨hx, hb, hml, hown, hts⟩ (c_X4_shape l dC dI cyC cyI cyZ _ b0_seam b0_seam_parts w0_seam_w w0_seam_h w0_seam_all w0_seam_top w0_seam_left w0_seam_right w0_seam_parts r_2 r_6 h) (cwV 2 hts gX3_readSeam_X4_shape rfl rfl rfl hdV_X4_shape ⟨Nat.le_of_ble_eq_true rfl, Nat.le_of_ble_eq_true rfl⟩) hK hN hP hD hS hA [1, 2] (by decide) rfl (ci := 4) rfl rfl rfl hl.1 rfl (Nat.le_of_ble_eq_true rfl) dX3_readSeam_43 ⟨Nat.zero_le _, Nat.zero_le _⟩ (wr := [(b0, .inr (5, [.ref b0_seam, .int w0_seamTold, .int w0_boundTold, .int w0_lossTold, .int w0_bound, .int w0_loss, .int w0_things, .ref b0_yellow, .ref b0_white, .ref b0_fades, .ref b0_worth])), (a, .inr (3, [.ref a_bytes, .int v_length, .int u_7, .int u_8])), (a_bytes, .inl (cyC, 150, .inl v_bytes))]) [0, 3, 4] rfl (by decide) (by decide) (fun u_10 u_11 u_12 u_13 u_14 u_15 u_16 H locs h hP hD hS => ?_)
        replace hP : va_P (dC, dI) vwCl [(b0, .inr (5, [.ref b0_seam, .int w0_seamTold, .int w0_boundTold, .int w0_lossTold, .int w0_bound, .int w0_loss, .int w0_things, .ref b0_yellow, .ref b0_white, .ref b0_fades, .ref b0_worth])), (a, .inr (3, [.ref a_bytes, .int v_length, .int u_7, .int u_8])), (a_bytes, .inl (cyC, 150, .inl v_bytes)), (b0_seam, .inr (4, [.int u_10, .int u_11, .ref b0_seam_parts, .int u_12, .int u_13, .int u_14, .int u_15])), (b0_seam_parts, .inl (cyI, 16, .inl u_16))] H := hP
        replace hD : va_D A [(b0, .inr (5, [.ref b0_seam, .int w0_seamTold, .int w0_boundTold, .int w0_lossTold, .int w0_bound, .int w0_loss, .int w0_things, .ref b0_yellow, .ref b0_white, .ref b0_fades, .ref b0_worth])), (a, .inr (3, [.ref a_bytes, .int v_length, .int u_7, .int u_8])), (a_bytes, .inl (cyC, 150, .inl v_bytes)), (b0_seam, .inr (4, [.int u_10, .int u_11, .ref b0_seam_parts, .int u_12, .int u_13, .int u_14, .int u_15])), (b0_seam_parts, .inl (cyI, 16, .inl u_16))] := hD
        refine lv_aload_n hx hb dX3_readSeam_46 rfl (lv_at hl 3 rfl) ?_
        refine lv_iconst (v := 1) hx hb dX3_readSeam_47 (by decide) ?_
        refine va_putN (host := "LastOchre") (D := (dC, dI)) (ci := 5) (v := .int (1 : Int32)) (ty := .boolean) (C := RX5) (T := TX5) (N := 11) hx hb hts iwX3_readSeam_X5 tyX5 tyX5_ok nmX5 hown hK hP hD hS 0 rfl rfl 1 (by decide) f53 (fun _ h9 => h9) rfl (by decide +kernel) rfl rfl (Nat.le_of_ble_eq_true rfl) dX3_readSeam_48 (fun H locs hP hD hS => ?_)
        replace hP : va_P (dC, dI) vwCl [(b0, .inr (5, [.ref b0_seam, .int (1 : Int32), .int w0_boundTold, .int w0_lossTold, .int w0_bound, .int w0_loss, .int w0_things, .ref b0_yellow, .ref b0_white, .ref b0_fades, .ref b0_worth])), (a, .inr (3, [.ref a_bytes, .int v_length, .int u_7, .int u_8])), (a_bytes, .inl (cyC, 150, .inl v_bytes)), (b0_seam, .inr (4, [.int u_10, .int u_11, .ref b0_seam_parts, .int u_12, .int u_13, .int u_14, .int u_15])), (b0_seam_parts, .inl (cyI, 16, .inl u_16))] H := hP
        replace hD : va_D A [(b0, .inr (5, [.ref b0_seam, .int (1 : Int32), .int w0_boundTold, .int w0_lossTold, .int w0_bound, .int w0_loss, .int w0_things, .ref b0_yellow, .ref b0_white, .ref b0_fades, .ref b0_worth])), (a, .inr (3, [.ref a_bytes, .int v_length, .int u_7, .int u_8])), (a_bytes, .inl (cyC, 150, .inl v_bytes)), (b0_seam, .inr (4, [.int u_10, .int u_11, .ref b0_seam_parts, .int u_12, .int u_13, .int u_14, .int u_15])), (b0_seam_parts, .inl (cyI, 16, .inl u_16))] := hD
        refine lv_iconst (v := 0) hx hb dX3_readSeam_51 (by decide) ?_
        refine lv_istore (lv' := [(4, .int (0 : Int32)), (3, .int r_6), (2, .int r_2), (0, .ref a), (1, .ref b0)]) hx hb dX3_readSeam_52 hl (by decide) rfl (fun ls hl => ?_)
        exact ih54 r_2 r_6 (0 : Int32) u_7 u_8 (1 : Int32) u_10 u_11 u_12 u_13 u_14 u_15 u_16 _ _ _ h (hP.sub (ws' := [(a, .inr (3, [.ref a_bytes, .int v_length, .int u_7, .int u_8])), (b0, .inr (5, [.ref b0_seam, .int (1 : Int32), .int w0_boundTold, .int w0_lossTold, .int w0_bound, .int w0_loss, .int w0_things, .ref b0_yellow, .ref b0_white, .ref b0_fades, .ref b0_worth])), (a_bytes, .inl (cyC, 150, .inl v_bytes)), (b0_seam, .inr (4, [.int u_10, .int u_11, .ref b0_seam_parts, .int u_12, .int u_13, .int u_14, .int u_15])), (b0_seam_parts, .inl (cyI, 16, .inl u_16))]) [1, 0, 2, 3, 4] rfl) (hD.sub (ws' := [(a, .inr (3, [.ref a_bytes, .int v_length, .int u_7, .int u_8])), (b0, .inr (5, [.ref b0_seam, .int (1 : Int32), .int w0_boundTold, .int w0_lossTold, .int w0_bound, .int w0_loss, .int w0_things, .ref b0_yellow, .ref b0_white, .ref b0_fades, .ref b0_worth])), (a_bytes, .inl (cyC, 150, .inl v_bytes)), (b0_seam, .inr (4, [.int u_10, .int u_11, .ref b0_seam_parts, .int u_12, .int u_13, .int u_14, .int u_15])), (b0_seam_parts, .inl (cyI, 16, .inl u_16))]) [1, 0, 2, 3, 4] (by decide) rfl) hS (lv_sub hl [3, 4, 2, 1, 0] rfl)
      · replace h := h.2 c_9
        refine lv_iconst (v := 0) hx hb dX3_readSeam_35 (by decide) ?_
        exact grz10 hx hb hr hlocks rfl h (hP.sub (ws' := [(a, .inr (3, [.ref a_bytes, .int v_length, .int u_7, .int u_8])), (b0, .inr (5, [.ref b0_seam, .int w0_seamTold, .int w0_boundTold, .int w0_lossTold, .int w0_bound, .int w0_loss, .int w0_things, .ref b0_yellow, .ref b0_white, .ref b0_fades, .ref b0_worth])), (a_bytes, .inl (cyC, 150, .inl v_bytes)), (b0_seam, .inr (4, [.int w0_seam_w, .int w0_seam_h, .ref b0_seam_parts, .int w0_seam_all, .int w0_seam_top, .int w0_seam_left, .int w0_seam_right])), (b0_seam_parts, .inl (cyI, 16, .inl w0_seam_parts))]) [3, 0, 4, 1, 2] rfl) (hD.sub (ws' := [(a, .inr (3, [.ref a_bytes, .int v_length, .int u_7, .int u_8])), (b0, .inr (5, [.ref b0_seam, .int w0_seamTold, .int w0_boundTold, .int w0_lossTold, .int w0_bound, .int w0_loss, .int w0_things, .ref b0_yellow, .ref b0_white, .ref b0_fades, .ref b0_worth])), (a_bytes, .inl (cyC, 150, .inl v_bytes)), (b0_seam, .inr (4, [.int w0_seam_w, .int w0_seam_h, .ref b0_seam_parts, .int w0_seam_all, .int w0_seam_top, .int w0_seam_left, .int w0_seam_right])), (b0_seam_parts, .inl (cyI, 16, .inl w0_seam_parts))]) [3, 0, 4, 1, 2] (by decide) rfl) hS dX3_readSeam_36
    · replace h := h.2 c_5
      refine lv_iconst (v := 0) hx hb dX3_readSeam_21 (by decide) ?_
      exact grz10 hx hb hr hlocks rfl h (hP.sub (ws' := [(a, .inr (3, [.ref a_bytes, .int v_length, .int u_3, .int u_4])), (b0, .inr (5, [.ref b0_seam, .int w0_seamTold, .int w0_boundTold, .int w0_lossTold, .int w0_bound, .int w0_loss, .int w0_things, .ref b0_yellow, .ref b0_white, .ref b0_fades, .ref b0_worth])), (a_bytes, .inl (cyC, 150, .inl v_bytes)), (b0_seam, .inr (4, [.int w0_seam_w, .int w0_seam_h, .ref b0_seam_parts, .int w0_seam_all, .int w0_seam_top, .int w0_seam_left, .int w0_seam_right])), (b0_seam_parts, .inl (cyI, 16, .inl w0_seam_parts))]) [3, 0, 4, 1, 2] rfl) (hD.sub (ws' := [(a, .inr (3, [.ref a_bytes, .int v_length, .int u_3, .int u_4])), (b0, .inr (5, [.ref b0_seam, .int w0_seamTold, .int w0_boundTold, .int w0_lossTold, .int w0_bound, .int w0_loss, .int w0_things, .ref b0_yellow, .ref b0_white, .ref b0_fades, .ref b0_worth])), (a_bytes, .inl (cyC, 150, .inl v_bytes)), (b0_seam, .inr (4, [.int w0_seam_w, .int w0_seam_h, .ref b0_seam_parts, .int w0_seam_all, .int w0_seam_top, .int w0_seam_left, .int w0_seam_right])), (b0_seam_parts, .inl (cyI, 16, .inl w0_seam_parts))]) [3, 0, 4, 1, 2] (by decide) rfl) hS dX3_readSeam_22
  · replace h := h.2 c_1
    refine lv_iconst (v := 0) hx hb dX3_readSeam_7 (by decide) ?_
    exact grz10 hx hb hr hlocks rfl h hP hD hS dX3_readSeam_8

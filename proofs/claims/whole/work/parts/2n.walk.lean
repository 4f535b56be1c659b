def F_X7_years_e (v_hill : Nat → Int32) (p0 : Int32) (Q : Int32 → Int32 → (Nat → Int32) → (Nat → Int32) → Prop) (rec : Nat → Int32 → Int32 → (Nat → Int32) → (Nat → Int32) → Prop) (v_undos : Int32) (v_now : Nat → Int32) (v_undone : Nat → Int32) : Prop :=
  q_X7_in ((p0).toInt64) (1 : Int64) (99 : Int64) (fun (r_1 : Int32) => (¬ r_1 = 0 → ((((v_now ((0 : Int32)).toNatClampNeg) + p0) ≤ (999 : Int32) → (q_X7_notes v_undos v_undone v_now (fun (u_4 : Int32) (u_5 : Nat → Int32) => rec 37 (0 : Int32) u_4 v_now u_5))) ∧ (¬ ((v_now ((0 : Int32)).toNatClampNeg) + p0) ≤ (999 : Int32) → (Q (-2 : Int32) v_undos v_now v_undone)))) ∧ (r_1 = 0 → (Q (-1 : Int32) v_undos v_now v_undone)))
def F_X7_years_37 (v_hill : Nat → Int32) (p0 : Int32) (Q : Int32 → Int32 → (Nat → Int32) → (Nat → Int32) → Prop) (rec : Nat → Int32 → Int32 → (Nat → Int32) → (Nat → Int32) → Prop) (x2 : Int32) (v_undos : Int32) (v_now : Nat → Int32) (v_undone : Nat → Int32) : Prop :=
  ((v_hill ((2 : Int32)).toNatClampNeg) ≤ x2 → (∀ f_7 : Nat → Int32, f_7 = upd v_now ((0 : Int32)).toNatClampNeg ((v_now ((0 : Int32)).toNatClampNeg) + p0) → (q_X7_called v_hill f_7 (fun (r_9 : Int32) => q_X7_many r_9 (fun (r_10 : Int32) => Q r_10 v_undos f_7 v_undone))))) ∧ (¬ (v_hill ((2 : Int32)).toNatClampNeg) ≤ x2 → (q_X7_yellow v_now x2 (fun (r_11 : Int32) => q_X7_fades v_hill x2 (fun (r_12 : Int32) => ∀ x3_13 : Int32, x3_13 = (r_11 - (p0 * r_12)) → ((0 ≤ x3_13 → (vp_in ((3 : Int32) + ((2 : Int32) * x2)) 15 ∧ (∀ f_17 : Nat → Int32, f_17 = upd v_now (((3 : Int32) + ((2 : Int32) * x2))).toNatClampNeg x3_13 → (∀ x2_19 : Int32, x2_19 = (x2 + (1 : Int32)) → (rec 37 x2_19 v_undos f_17 v_undone))))) ∧ (¬ 0 ≤ x3_13 → (vp_in ((3 : Int32) + ((2 : Int32) * x2)) 15 ∧ (∀ f_22 : Nat → Int32, f_22 = upd v_now (((3 : Int32) + ((2 : Int32) * x2))).toNatClampNeg (0 : Int32) → (∀ x2_24 : Int32, x2_24 = (x2 + (1 : Int32)) → (rec 37 x2_24 v_undos f_22 v_undone))))))))))
def wp_X7_years (v_hill : Nat → Int32) (p0 : Int32) (Q : Int32 → Int32 → (Nat → Int32) → (Nat → Int32) → Prop) : Nat → Nat → Int32 → Int32 → (Nat → Int32) → (Nat → Int32) → Prop
  | 0 => fun _ _ _ _ _ => False
  | n + 1 => fun t x2 v_undos v_now v_undone => if t = 37 then F_X7_years_37 v_hill p0 Q (wp_X7_years v_hill p0 Q n) x2 v_undos v_now v_undone else False
def q_X7_years (v_undos : Int32) (v_now : Nat → Int32) (v_undone : Nat → Int32) (v_hill : Nat → Int32) (p0 : Int32) (Q : Int32 → Int32 → (Nat → Int32) → (Nat → Int32) → Prop) : Prop := ∃ n, F_X7_years_e v_hill p0 Q (wp_X7_years v_hill p0 Q n) v_undos v_now v_undone
theorem iwX7_years_X7 : ∀ w ∈ wsX70, w ∈ wsX7_years := by decide +kernel
theorem hdV_X7_years : yX7_years.cls = RX7 ∧ yX7_years.cls ≠ "java/lang/invoke/MethodHandle" ∧ yX7_years.cls ≠ "java/lang/invoke/VarHandle" ∧ (parseMethodDescriptor yX7_years.desc).map (fun d => d.parameters.length) = some 1 := by decide +kernel
set_option maxHeartbeats 4000000 in
set_option maxRecDepth 100000 in
theorem w_X7_years {p : Program} {l : Launch} {e : Env} {s : State} {m : MethodId} {args : Array Value} {below : List Frame} {meth : Method} {c : Code} {A : Nat → Prop} (dC : Nat → ClassId) (dI : Nat → Nat → Nat) (cyC cyI cyZ : ClassId) (a a_text a_read a_hill a_now a_undone a_need a_cameOf a_places a_firstRow a_kept : Nat) (v_size : Int32) (v_at : Int32) (v_begin : Int32) (v_token : Int32) (v_told : Int32) (v_cames : Int32) (v_each : Int32) (v_trace : Int64) (v_hill : Nat → Int32) (p0 : Int32) (Q : Int32 → Int32 → (Nat → Int32) → (Nat → Int32) → Prop) (C0 : gAt cX7_years (some .int) 4 RX7 wsX7_years p s m meth c args) (hK : va_K (dC, dI) vwCl (gTy cyC cyI cyZ) s) (hN : nU s) (hA : ∀ q, s.heap.size ≤ q → A q) : ∀ n : Nat, (∀ (x2 : Int32) (v_undos : Int32) (v_now : Nat → Int32) (v_undone : Nat → Int32) (H : Heap) (locs : List Loc) (ls : Array Slot), wp_X7_years v_hill p0 Q n 37 x2 v_undos v_now v_undone → va_P (dC, dI) vwCl [(a, .inr (7, [.ref a_text, .int v_size, .int v_at, .int v_begin, .int v_token, .int v_told, .ref a_read, .ref a_hill, .ref a_now, .ref a_undone, .int v_undos, .ref a_need, .int v_cames, .ref a_cameOf, .ref a_places, .ref a_firstRow, .int v_each, .long v_trace, .ref a_kept])), (a_now, .inl (cyI, 15, .inl v_now)), (a_undone, .inl (cyI, 150, .inl v_undone)), (a_hill, .inl (cyI, 46, .inl v_hill))] H → va_D A [(a, .inr (7, [.ref a_text, .int v_size, .int v_at, .int v_begin, .int v_token, .int v_told, .ref a_read, .ref a_hill, .ref a_now, .ref a_undone, .int v_undos, .ref a_need, .int v_cames, .ref a_cameOf, .ref a_places, .ref a_firstRow, .int v_each, .long v_trace, .ref a_kept])), (a_now, .inl (cyI, 15, .inl v_now)), (a_undone, .inl (cyI, 150, .inl v_undone)), (a_hill, .inl (cyI, 46, .inl v_hill))] → va_S A s.heap H locs → lv_has ls 4 [(0, .ref a), (1, .int p0), (2, .int x2)] → W p l e { frames := 3, cells := 0, slots := 0, locals := 68 } s m args below meth c H locs 0 0 (MQ below (gQi3 Q (dC, dI) A (fun (u1 : Int32) (u2 : Nat → Int32) (u3 : Nat → Int32) => [(a, .inr (7, [.ref a_text, .int v_size, .int v_at, .int v_begin, .int v_token, .int v_told, .ref a_read, .ref a_hill, .ref a_now, .ref a_undone, .int u1, .ref a_need, .int v_cames, .ref a_cameOf, .ref a_places, .ref a_firstRow, .int v_each, .long v_trace, .ref a_kept])), (a_now, .inl (cyI, 15, .inl u2)), (a_undone, .inl (cyI, 150, .inl u3)), (a_hill, .inl (cyI, 46, .inl v_hill))])) args s 0 0 A) (F0 m 37 ls [])) := by
  obtain ⟨hx, hb, hr, hml, hown, hts, hlocks⟩ := id C0
  have f16 := hts (.fieldLink RX7 16 "LastOchreModel" "hill" "[I") (by decide +kernel)
  have f19 := hts (.fieldLink RX7 19 "LastOchreModel" "now" "[I") (by decide +kernel)
  intro n
  induction n with
  | zero => exact fun _ _ _ _ _ _ _ h => absurd h id
  | succ n ih =>
    have ih37 := ih
    · intro x2 v_undos v_now v_undone H locs ls h hP hD hS hl
      replace h : F_X7_years_37 v_hill p0 Q (wp_X7_years v_hill p0 Q n) x2 v_undos v_now v_undone := h
      unfold F_X7_years_37 at h
      refine lv_iload_n hx hb dX7_years_37 rfl (lv_at hl 2 rfl) ?_
      refine lv_aload_n hx hb dX7_years_38 rfl (lv_at hl 0 rfl) ?_
      refine va_get (D := (dC, dI)) (ci := 7) (v := .ref a_hill) (C := RX7) (T := TX7) (N := 19) hx hb hts iwX7_years_X7 hown hK hP 0 rfl rfl 7 (by decide) f16 (fun _ h9 => h9) rfl dX7_years_39 ?_
      refine lv_iconst (v := 2) hx hb dX7_years_42 (by decide) ?_
      refine va_iald hx hb hK hP 3 0 rfl rfl (by unfold vp_in; decide) dX7_years_43 ?_
      refine lv_icmp_ge (tgt := 86) hx hb dX7_years_44 (by decide) (fun c_6 => ?_) (fun c_6 => ?_)
      · replace h := h.1 c_6
        refine lv_aload_n hx hb dX7_years_86 rfl (lv_at hl 0 rfl) ?_
        refine va_get (D := (dC, dI)) (ci := 7) (v := .ref a_now) (C := RX7) (T := TX7) (N := 19) hx hb hts iwX7_years_X7 hown hK hP 0 rfl rfl 8 (by decide) f19 (fun _ h9 => h9) rfl dX7_years_87 ?_
        refine lv_iconst (v := 0) hx hb dX7_years_90 (by decide) ?_
        refine lv_dup2_11 hx hb dX7_years_91 rfl rfl ?_
        refine va_iald hx hb hK hP 1 0 rfl rfl (by unfold vp_in; decide) dX7_years_92 ?_
        refine lv_iload_n hx hb dX7_years_93 rfl (lv_at hl 1 rfl) ?_
        refine lv_iadd hx hb dX7_years_94 ?_
        refine va_iast hx hb hK hP hD hS 1 0 rfl rfl (by unfold vp_in; decide) dX7_years_95 (fun H locs hP hD hS => ?_)
        obtain ⟨f_7, e_8⟩ : ∃ y : Nat → Int32, y = upd v_now ((0 : Int32)).toNatClampNeg ((v_now ((0 : Int32)).toNatClampNeg) + p0) := ⟨_, rfl⟩
        replace h := h f_7 e_8
        replace hP : va_P (dC, dI) vwCl [(a, .inr (7, [.ref a_text, .int v_size, .int v_at, .int v_begin, .int v_token, .int v_told, .ref a_read, .ref a_hill, .ref a_now, .ref a_undone, .int v_undos, .ref a_need, .int v_cames, .ref a_cameOf, .ref a_places, .ref a_firstRow, .int v_each, .long v_trace, .ref a_kept])), (a_now, .inl (cyI, 15, .inl f_7)), (a_undone, .inl (cyI, 150, .inl v_undone)), (a_hill, .inl (cyI, 46, .inl v_hill))] H := by rw [e_8]; exact hP
        replace hD : va_D A [(a, .inr (7, [.ref a_text, .int v_size, .int v_at, .int v_begin, .int v_token, .int v_told, .ref a_read, .ref a_hill, .ref a_now, .ref a_undone, .int v_undos, .ref a_need, .int v_cames, .ref a_cameOf, .ref a_places, .ref a_firstRow, .int v_each, .long v_trace, .ref a_kept])), (a_now, .inl (cyI, 15, .inl f_7)), (a_undone, .inl (cyI, 150, .inl v_undone)), (a_hill, .inl (cyI, 46, .inl v_hill))] := by rw [e_8]; exact hD
        refine lv_aload_n hx hb dX7_years_96 rfl (lv_at hl 0 rfl) ?_
        refine gV_i0 (As := []) (rest := []) ⟨hx, hb, hml, hown, hts⟩ (c_X7_called l dC dI cyC cyI cyZ _ a a_text a_read a_hill a_now a_undone a_need a_cameOf a_places a_firstRow a_kept v_size v_at v_begin v_token v_told v_undos v_cames v_each v_trace v_hill f_7 h) (cwV 0 hts gX7_years_X7_called rfl rfl rfl hdV_X7_called ⟨Nat.le_of_ble_eq_true rfl, Nat.le_of_ble_eq_true rfl⟩) hK hN hP hD hS hA [0, 3, 1] (by decide) rfl (ci := 7) rfl rfl rfl hl.1 rfl (Nat.le_of_ble_eq_true rfl) dX7_years_97 ⟨Nat.zero_le _, Nat.zero_le _⟩ (fun r_9 H locs h hP hS => ?_)
        refine gS_i0 (As := [.int r_9]) (rest := []) ⟨hx, hb, hml, hown, hts⟩ (c_X7_many l dC dI cyC cyI cyZ _ r_9 h) (va_cwS 1 hts gX7_years_X7_many rfl rfl rfl hdS_X7_many ⟨Nat.le_of_ble_eq_true rfl, Nat.le_of_ble_eq_true rfl⟩) hK hN hP hD hS hA [] (by decide) rfl rfl hl.1 rfl (Nat.le_of_ble_eq_true rfl) dX7_years_100 ⟨Nat.zero_le _, Nat.zero_le _⟩ (fun r_10 H locs h hP hS => ?_)
        exact gri3 hx hb hr hlocks h hP hD hS dX7_years_103
      · replace h := h.2 c_6
        refine lv_aload_n hx hb dX7_years_47 rfl (lv_at hl 0 rfl) ?_
        refine lv_iload_n hx hb dX7_years_48 rfl (lv_at hl 2 rfl) ?_
        refine gV_i0 (As := [.int x2]) (rest := []) ⟨hx, hb, hml, hown, hts⟩ (c_X7_yellow l dC dI cyC cyI cyZ _ a a_text a_read a_hill a_now a_undone a_need a_cameOf a_places a_firstRow a_kept v_size v_at v_begin v_token v_told v_undos v_cames v_each v_trace v_now x2 h) (cwV 1 hts gX7_years_X7_yellow rfl rfl rfl hdV_X7_yellow ⟨Nat.le_of_ble_eq_true rfl, Nat.le_of_ble_eq_true rfl⟩) hK hN hP hD hS hA [0, 1] (by decide) rfl (ci := 7) rfl rfl rfl hl.1 rfl (Nat.le_of_ble_eq_true rfl) dX7_years_49 ⟨Nat.zero_le _, Nat.zero_le _⟩ (fun r_11 H locs h hP hS => ?_)
        refine lv_iload_n hx hb dX7_years_52 rfl (lv_at hl 1 rfl) ?_
        refine lv_aload_n hx hb dX7_years_53 rfl (lv_at hl 0 rfl) ?_
        refine lv_iload_n hx hb dX7_years_54 rfl (lv_at hl 2 rfl) ?_
        refine gV_i0 (As := [.int x2]) (rest := [.int p0, .int r_11]) ⟨hx, hb, hml, hown, hts⟩ (c_X7_fades l dC dI cyC cyI cyZ _ a a_text a_read a_hill a_now a_undone a_need a_cameOf a_places a_firstRow a_kept v_size v_at v_begin v_token v_told v_undos v_cames v_each v_trace v_hill x2 h) (cwV 1 hts gX7_years_X7_fades rfl rfl rfl hdV_X7_fades ⟨Nat.le_of_ble_eq_true rfl, Nat.le_of_ble_eq_true rfl⟩) hK hN hP hD hS hA [0, 3] (by decide) rfl (ci := 7) rfl rfl rfl hl.1 rfl (Nat.le_of_ble_eq_true rfl) dX7_years_55 ⟨Nat.zero_le _, Nat.zero_le _⟩ (fun r_12 H locs h hP hS => ?_)
        refine lv_imul hx hb dX7_years_58 ?_
        refine lv_isub hx hb dX7_years_59 ?_
        refine lv_topi (fun x3_13 e_14 => ?_)
        replace h := h x3_13 e_14
        refine lv_istore_n (lv' := [(3, .int x3_13), (0, .ref a), (1, .int p0), (2, .int x2)]) hx hb dX7_years_60 rfl hl (by decide) rfl (fun ls hl => ?_)
        refine lv_aload_n hx hb dX7_years_61 rfl (lv_at hl 1 rfl) ?_
        refine va_get (D := (dC, dI)) (ci := 7) (v := .ref a_now) (C := RX7) (T := TX7) (N := 19) hx hb hts iwX7_years_X7 hown hK hP 0 rfl rfl 8 (by decide) f19 (fun _ h9 => h9) rfl dX7_years_62 ?_
        refine lv_iconst (v := 3) hx hb dX7_years_65 (by decide) ?_
        refine lv_iconst (v := 2) hx hb dX7_years_66 (by decide) ?_
        refine lv_iload_n hx hb dX7_years_67 rfl (lv_at hl 3 rfl) ?_
        refine lv_imul hx hb dX7_years_68 ?_
        refine lv_iadd hx hb dX7_years_69 ?_
        refine lv_iload_n hx hb dX7_years_70 rfl (lv_at hl 0 rfl) ?_
        refine lv_if_ge (tgt := 78) hx hb dX7_years_71 (by decide) (fun c_15 => ?_) (fun c_15 => ?_)
        · replace h := h.1 c_15
          refine lv_iload_n hx hb dX7_years_78 rfl (lv_at hl 0 rfl) ?_
          have g_16 := h.1
          replace h := h.2
          refine va_iast hx hb hK hP hD hS 1 0 rfl rfl g_16 dX7_years_79 (fun H locs hP hD hS => ?_)
          obtain ⟨f_17, e_18⟩ : ∃ y : Nat → Int32, y = upd v_now (((3 : Int32) + ((2 : Int32) * x2))).toNatClampNeg x3_13 := ⟨_, rfl⟩
          replace h := h f_17 e_18
          replace hP : va_P (dC, dI) vwCl [(a, .inr (7, [.ref a_text, .int v_size, .int v_at, .int v_begin, .int v_token, .int v_told, .ref a_read, .ref a_hill, .ref a_now, .ref a_undone, .int v_undos, .ref a_need, .int v_cames, .ref a_cameOf, .ref a_places, .ref a_firstRow, .int v_each, .long v_trace, .ref a_kept])), (a_now, .inl (cyI, 15, .inl f_17)), (a_undone, .inl (cyI, 150, .inl v_undone)), (a_hill, .inl (cyI, 46, .inl v_hill))] H := by rw [e_18]; exact hP
          replace hD : va_D A [(a, .inr (7, [.ref a_text, .int v_size, .int v_at, .int v_begin, .int v_token, .int v_told, .ref a_read, .ref a_hill, .ref a_now, .ref a_undone, .int v_undos, .ref a_need, .int v_cames, .ref a_cameOf, .ref a_places, .ref a_firstRow, .int v_each, .long v_trace, .ref a_kept])), (a_now, .inl (cyI, 15, .inl f_17)), (a_undone, .inl (cyI, 150, .inl v_undone)), (a_hill, .inl (cyI, 46, .inl v_hill))] := by rw [e_18]; exact hD
          obtain ⟨x2_19, e_20⟩ : ∃ y : Int32, y = (x2 + (1 : Int32)) := ⟨_, rfl⟩
          replace h := h x2_19 e_20
          refine lv_iinc (v := x2_19) (lv' := [(2, .int x2_19), (3, .int x3_13), (0, .ref a), (1, .int p0)]) hx hb dX7_years_80 hl (k := 3) rfl (by rw [e_20]; rfl) (by decide) rfl (fun ls hl => ?_)
          refine lv_goto (tgt := 37) hx hb dX7_years_83 (by decide) ?_
          exact ih37 x2_19 v_undos f_17 v_undone _ _ _ h hP hD hS (lv_sub hl [2, 3, 0] rfl)
        · replace h := h.2 c_15
          refine lv_iconst (v := 0) hx hb dX7_years_74 (by decide) ?_
          refine lv_goto (tgt := 79) hx hb dX7_years_75 (by decide) ?_
          have g_21 := h.1
          replace h := h.2
          refine va_iast hx hb hK hP hD hS 1 0 rfl rfl g_21 dX7_years_79 (fun H locs hP hD hS => ?_)
          obtain ⟨f_22, e_23⟩ : ∃ y : Nat → Int32, y = upd v_now (((3 : Int32) + ((2 : Int32) * x2))).toNatClampNeg (0 : Int32) := ⟨_, rfl⟩
          replace h := h f_22 e_23
          replace hP : va_P (dC, dI) vwCl [(a, .inr (7, [.ref a_text, .int v_size, .int v_at, .int v_begin, .int v_token, .int v_told, .ref a_read, .ref a_hill, .ref a_now, .ref a_undone, .int v_undos, .ref a_need, .int v_cames, .ref a_cameOf, .ref a_places, .ref a_firstRow, .int v_each, .long v_trace, .ref a_kept])), (a_now, .inl (cyI, 15, .inl f_22)), (a_undone, .inl (cyI, 150, .inl v_undone)), (a_hill, .inl (cyI, 46, .inl v_hill))] H := by rw [e_23]; exact hP
          replace hD : va_D A [(a, .inr (7, [.ref a_text, .int v_size, .int v_at, .int v_begin, .int v_token, .int v_told, .ref a_read, .ref a_hill, .ref a_now, .ref a_undone, .int v_undos, .ref a_need, .int v_cames, .ref a_cameOf, .ref a_places, .ref a_firstRow, .int v_each, .long v_trace, .ref a_kept])), (a_now, .inl (cyI, 15, .inl f_22)), (a_undone, .inl (cyI, 150, .inl v_undone)), (a_hill, .inl (cyI, 46, .inl v_hill))] := by rw [e_23]; exact hD
          obtain ⟨x2_24, e_25⟩ : ∃ y : Int32, y = (x2 + (1 : Int32)) := ⟨_, rfl⟩
          replace h := h x2_24 e_25
          refine lv_iinc (v := x2_24) (lv' := [(2, .int x2_24), (3, .int x3_13), (0, .ref a), (1, .int p0)]) hx hb dX7_years_80 hl (k := 3) rfl (by rw [e_25]; rfl) (by decide) rfl (fun ls hl => ?_)
          refine lv_goto (tgt := 37) hx hb dX7_years_83 (by decide) ?_
          exact ih37 x2_24 v_undos f_22 v_undone _ _ _ h hP hD hS (lv_sub hl [2, 3, 0] rfl)
set_option maxHeartbeats 4000000 in
set_option maxRecDepth 100000 in
theorem c_X7_years (l : Launch) (dC : Nat → ClassId) (dI : Nat → Nat → Nat) (cyC cyI cyZ : ClassId) (sz : Nat) (a a_text a_read a_hill a_now a_undone a_need a_cameOf a_places a_firstRow a_kept : Nat) (v_size : Int32) (v_at : Int32) (v_begin : Int32) (v_token : Int32) (v_told : Int32) (v_undos : Int32) (v_cames : Int32) (v_each : Int32) (v_trace : Int64) (v_now : Nat → Int32) (v_undone : Nat → Int32) (v_hill : Nat → Int32) (p0 : Int32) {Q : Int32 → Int32 → (Nat → Int32) → (Nat → Int32) → Prop} (h : q_X7_years v_undos v_now v_undone v_hill p0 Q) : Met l yX7_years wsX7_years ({ frames := 3, cells := 0, slots := 0, locals := 68 }) (gPc [.ref a, .int p0] (dC, dI) (gTy cyC cyI cyZ) sz [(a, .inr (7, [.ref a_text, .int v_size, .int v_at, .int v_begin, .int v_token, .int v_told, .ref a_read, .ref a_hill, .ref a_now, .ref a_undone, .int v_undos, .ref a_need, .int v_cames, .ref a_cameOf, .ref a_places, .ref a_firstRow, .int v_each, .long v_trace, .ref a_kept])), (a_now, .inl (cyI, 15, .inl v_now)), (a_undone, .inl (cyI, 150, .inl v_undone)), (a_hill, .inl (cyI, 46, .inl v_hill))]) (gQi3 Q (dC, dI) (va_A [(a, .inr (7, [.ref a_text, .int v_size, .int v_at, .int v_begin, .int v_token, .int v_told, .ref a_read, .ref a_hill, .ref a_now, .ref a_undone, .int v_undos, .ref a_need, .int v_cames, .ref a_cameOf, .ref a_places, .ref a_firstRow, .int v_each, .long v_trace, .ref a_kept])), (a_now, .inl (cyI, 15, .inl v_now)), (a_undone, .inl (cyI, 150, .inl v_undone)), (a_hill, .inl (cyI, 46, .inl v_hill))] sz) (fun (u1 : Int32) (u2 : Nat → Int32) (u3 : Nat → Int32) => [(a, .inr (7, [.ref a_text, .int v_size, .int v_at, .int v_begin, .int v_token, .int v_told, .ref a_read, .ref a_hill, .ref a_now, .ref a_undone, .int u1, .ref a_need, .int v_cames, .ref a_cameOf, .ref a_places, .ref a_firstRow, .int v_each, .long v_trace, .ref a_kept])), (a_now, .inl (cyI, 15, .inl u2)), (a_undone, .inl (cyI, 150, .inl u3)), (a_hill, .inl (cyI, 46, .inl v_hill))])) 0 0 (va_A [(a, .inr (7, [.ref a_text, .int v_size, .int v_at, .int v_begin, .int v_token, .int v_told, .ref a_read, .ref a_hill, .ref a_now, .ref a_undone, .int v_undos, .ref a_need, .int v_cames, .ref a_cameOf, .ref a_places, .ref a_firstRow, .int v_each, .long v_trace, .ref a_kept])), (a_now, .inl (cyI, 15, .inl v_now)), (a_undone, .inl (cyI, 150, .inl v_undone)), (a_hill, .inl (cyI, 46, .inl v_hill))] sz) := by
  refine gMet (cc := cX7_years) (maxL := 4) (ret := (some .int)) (own := RX7) (fun A => gQi3 Q (dC, dI) A (fun (u1 : Int32) (u2 : Nat → Int32) (u3 : Nat → Int32) => [(a, .inr (7, [.ref a_text, .int v_size, .int v_at, .int v_begin, .int v_token, .int v_told, .ref a_read, .ref a_hill, .ref a_now, .ref a_undone, .int u1, .ref a_need, .int v_cames, .ref a_cameOf, .ref a_places, .ref a_firstRow, .int v_each, .long v_trace, .ref a_kept])), (a_now, .inl (cyI, 15, .inl u2)), (a_undone, .inl (cyI, 150, .inl u3)), (a_hill, .inl (cyI, 46, .inl v_hill))])) (by decide) rfl rfl (Nat.le_of_ble_eq_true rfl) ?_
  intro p e s m below meth c A ls C0 _ hK hN hP hD hA hl
  obtain ⟨hx, hb, hr, hml, hown, hts, hlocks⟩ := id C0
  have f16 := hts (.fieldLink RX7 16 "LastOchreModel" "hill" "[I") (by decide +kernel)
  have f19 := hts (.fieldLink RX7 19 "LastOchreModel" "now" "[I") (by decide +kernel)
  have hS : va_S A s.heap s.heap [] := va_S.rf
  replace hl : lv_has ls 4 [(0, .ref a), (1, .int p0)] := hl
  unfold q_X7_years at h
  obtain ⟨n, h⟩ := h
  have ih37 := w_X7_years (l := l) (e := e) (below := below) dC dI cyC cyI cyZ a a_text a_read a_hill a_now a_undone a_need a_cameOf a_places a_firstRow a_kept v_size v_at v_begin v_token v_told v_cames v_each v_trace v_hill p0 Q C0 hK hN hA n
  unfold F_X7_years_e at h
  refine lv_iload_n hx hb dX7_years_0 rfl (lv_at hl 1 rfl) ?_
  refine lv_i2l hx hb dX7_years_1 rfl ?_
  refine lv_lconst (v := 1) hx hb dX7_years_2 (by decide) ?_
  refine lv_ldc2 (v := 99) hx hb hown (hts (.constantLong RX7 164 (99)) (by decide +kernel)) dX7_years_3 ?_
  refine gS_i0 (As := [.long ((p0).toInt64), .long (1 : Int64), .long (99 : Int64)]) (rest := []) ⟨hx, hb, hml, hown, hts⟩ (c_X7_in l dC dI cyC cyI cyZ _ ((p0).toInt64) (1 : Int64) (99 : Int64) h) (va_cwS 3 hts gX7_years_X7_in rfl rfl rfl hdS_X7_in ⟨Nat.le_of_ble_eq_true rfl, Nat.le_of_ble_eq_true rfl⟩) hK hN hP hD hS hA [] (by decide) rfl rfl hl.1 rfl (Nat.le_of_ble_eq_true rfl) dX7_years_6 ⟨Nat.zero_le _, Nat.zero_le _⟩ (fun r_1 H locs h hP hS => ?_)
  refine lv_if_ne (tgt := 14) hx hb dX7_years_9 (by decide) (fun c_2 => ?_) (fun c_2 => ?_)
  · replace h := h.1 c_2
    refine lv_aload_n hx hb dX7_years_14 rfl (lv_at hl 0 rfl) ?_
    refine va_get (D := (dC, dI)) (ci := 7) (v := .ref a_now) (C := RX7) (T := TX7) (N := 19) hx hb hts iwX7_years_X7 hown hK hP 0 rfl rfl 8 (by decide) f19 (fun _ h9 => h9) rfl dX7_years_15 ?_
    refine lv_iconst (v := 0) hx hb dX7_years_18 (by decide) ?_
    refine va_iald hx hb hK hP 1 0 rfl rfl (by unfold vp_in; decide) dX7_years_19 ?_
    refine lv_iload_n hx hb dX7_years_20 rfl (lv_at hl 1 rfl) ?_
    refine lv_iadd hx hb dX7_years_21 ?_
    refine lv_sipush (v := 999) hx hb dX7_years_22 (by decide) ?_
    refine lv_icmp_le (tgt := 31) hx hb dX7_years_25 (by decide) (fun c_3 => ?_) (fun c_3 => ?_)
    · replace h := h.1 c_3
      refine lv_aload_n hx hb dX7_years_31 rfl (lv_at hl 0 rfl) ?_
      refine gV_v2 (As := []) (rest := []) ⟨hx, hb, hml, hown, hts⟩ (c_X7_notes l dC dI cyC cyI cyZ _ a a_text a_read a_hill a_now a_undone a_need a_cameOf a_places a_firstRow a_kept v_size v_at v_begin v_token v_told v_undos v_cames v_each v_trace v_undone v_now h) (cwV 0 hts gX7_years_X7_notes rfl rfl rfl hdV_X7_notes ⟨Nat.le_of_ble_eq_true rfl, Nat.le_of_ble_eq_true rfl⟩) hK hN hP hD hS hA [0, 2, 1] (by decide) rfl (ci := 7) rfl rfl rfl hl.1 rfl (Nat.le_of_ble_eq_true rfl) dX7_years_32 ⟨Nat.zero_le _, Nat.zero_le _⟩ (wr := [(a_hill, .inl (cyI, 46, .inl v_hill))]) [3] rfl (by decide) (by decide) (fun u_4 u_5 H locs h hP hD hS => ?_)
      replace hP : va_P (dC, dI) vwCl [(a_hill, .inl (cyI, 46, .inl v_hill)), (a, .inr (7, [.ref a_text, .int v_size, .int v_at, .int v_begin, .int v_token, .int v_told, .ref a_read, .ref a_hill, .ref a_now, .ref a_undone, .int u_4, .ref a_need, .int v_cames, .ref a_cameOf, .ref a_places, .ref a_firstRow, .int v_each, .long v_trace, .ref a_kept])), (a_undone, .inl (cyI, 150, .inl u_5)), (a_now, .inl (cyI, 15, .inl v_now))] H := hP
      replace hD : va_D A [(a_hill, .inl (cyI, 46, .inl v_hill)), (a, .inr (7, [.ref a_text, .int v_size, .int v_at, .int v_begin, .int v_token, .int v_told, .ref a_read, .ref a_hill, .ref a_now, .ref a_undone, .int u_4, .ref a_need, .int v_cames, .ref a_cameOf, .ref a_places, .ref a_firstRow, .int v_each, .long v_trace, .ref a_kept])), (a_undone, .inl (cyI, 150, .inl u_5)), (a_now, .inl (cyI, 15, .inl v_now))] := hD
      refine lv_iconst (v := 0) hx hb dX7_years_35 (by decide) ?_
      refine lv_istore_n (lv' := [(2, .int (0 : Int32)), (0, .ref a), (1, .int p0)]) hx hb dX7_years_36 rfl hl (by decide) rfl (fun ls hl => ?_)
      exact ih37 (0 : Int32) u_4 v_now u_5 _ _ _ h (hP.sub (ws' := [(a, .inr (7, [.ref a_text, .int v_size, .int v_at, .int v_begin, .int v_token, .int v_told, .ref a_read, .ref a_hill, .ref a_now, .ref a_undone, .int u_4, .ref a_need, .int v_cames, .ref a_cameOf, .ref a_places, .ref a_firstRow, .int v_each, .long v_trace, .ref a_kept])), (a_now, .inl (cyI, 15, .inl v_now)), (a_undone, .inl (cyI, 150, .inl u_5)), (a_hill, .inl (cyI, 46, .inl v_hill))]) [1, 3, 2, 0] rfl) (hD.sub (ws' := [(a, .inr (7, [.ref a_text, .int v_size, .int v_at, .int v_begin, .int v_token, .int v_told, .ref a_read, .ref a_hill, .ref a_now, .ref a_undone, .int u_4, .ref a_need, .int v_cames, .ref a_cameOf, .ref a_places, .ref a_firstRow, .int v_each, .long v_trace, .ref a_kept])), (a_now, .inl (cyI, 15, .inl v_now)), (a_undone, .inl (cyI, 150, .inl u_5)), (a_hill, .inl (cyI, 46, .inl v_hill))]) [1, 3, 2, 0] (by decide) rfl) hS (lv_sub hl [1, 2, 0] rfl)
    · replace h := h.2 c_3
      refine lv_bipush (v := -2) hx hb dX7_years_28 (by decide) ?_
      exact gri3 hx hb hr hlocks h hP hD hS dX7_years_30
  · replace h := h.2 c_2
    refine lv_iconst (v := -1) hx hb dX7_years_12 (by decide) ?_
    exact gri3 hx hb hr hlocks h hP hD hS dX7_years_13

def F_X7_undo_e (v_undone : Nat → Int32) (Q : Int32 → Int32 → (Nat → Int32) → Prop) (rec : Nat → Int32 → Int32 → (Nat → Int32) → Prop) (v_undos : Int32) (v_now : Nat → Int32) : Prop :=
  (¬ v_undos = 0 → (∀ n_2 : Int32, n_2 = (v_undos - (1 : Int32)) → (rec 22 (0 : Int32) n_2 v_now))) ∧ (v_undos = 0 → (Q (-2 : Int32) v_undos v_now))
def F_X7_undo_22 (v_undone : Nat → Int32) (Q : Int32 → Int32 → (Nat → Int32) → Prop) (rec : Nat → Int32 → Int32 → (Nat → Int32) → Prop) (x1 : Int32) (v_undos : Int32) (v_now : Nat → Int32) : Prop :=
  ((15 : Int32) ≤ x1 → (Q v_undos v_undos v_now)) ∧ (¬ (15 : Int32) ≤ x1 → (vp_in (((15 : Int32) * v_undos) + x1) 150 ∧ (vp_in x1 15 ∧ (∀ f_7 : Nat → Int32, f_7 = upd v_now (x1).toNatClampNeg (v_undone ((((15 : Int32) * v_undos) + x1)).toNatClampNeg) → (∀ x1_9 : Int32, x1_9 = (x1 + (1 : Int32)) → (rec 22 x1_9 v_undos f_7))))))
def wp_X7_undo (v_undone : Nat → Int32) (Q : Int32 → Int32 → (Nat → Int32) → Prop) : Nat → Nat → Int32 → Int32 → (Nat → Int32) → Prop
  | 0 => fun _ _ _ _ => False
  | n + 1 => fun t x1 v_undos v_now => if t = 22 then F_X7_undo_22 v_undone Q (wp_X7_undo v_undone Q n) x1 v_undos v_now else False
def q_X7_undo (v_undos : Int32) (v_undone : Nat → Int32) (v_now : Nat → Int32) (Q : Int32 → Int32 → (Nat → Int32) → Prop) : Prop := ∃ n, F_X7_undo_e v_undone Q (wp_X7_undo v_undone Q n) v_undos v_now
theorem iwX7_undo_X7 : ∀ w ∈ wsX70, w ∈ wsX7_undo := by decide +kernel
theorem hdV_X7_undo : yX7_undo.cls = RX7 ∧ yX7_undo.cls ≠ "java/lang/invoke/MethodHandle" ∧ yX7_undo.cls ≠ "java/lang/invoke/VarHandle" ∧ (parseMethodDescriptor yX7_undo.desc).map (fun d => d.parameters.length) = some 0 := by decide +kernel
set_option maxHeartbeats 4000000 in
set_option maxRecDepth 100000 in
theorem w_X7_undo {p : Program} {l : Launch} {e : Env} {s : State} {m : MethodId} {args : Array Value} {below : List Frame} {meth : Method} {c : Code} {A : Nat → Prop} (dC : Nat → ClassId) (dI : Nat → Nat → Nat) (cyC cyI cyZ : ClassId) (a a_text a_read a_hill a_now a_undone a_need a_cameOf a_places a_firstRow a_kept : Nat) (v_size : Int32) (v_at : Int32) (v_begin : Int32) (v_token : Int32) (v_told : Int32) (v_cames : Int32) (v_each : Int32) (v_trace : Int64) (v_undone : Nat → Int32) (Q : Int32 → Int32 → (Nat → Int32) → Prop) (C0 : gAt cX7_undo (some .int) 2 RX7 wsX7_undo p s m meth c args) (hK : va_K (dC, dI) vwCl (gTy cyC cyI cyZ) s) (hN : nU s) (hA : ∀ q, s.heap.size ≤ q → A q) : ∀ n : Nat, (∀ (x1 : Int32) (v_undos : Int32) (v_now : Nat → Int32) (H : Heap) (locs : List Loc) (ls : Array Slot), wp_X7_undo v_undone Q n 22 x1 v_undos v_now → va_P (dC, dI) vwCl [(a, .inr (7, [.ref a_text, .int v_size, .int v_at, .int v_begin, .int v_token, .int v_told, .ref a_read, .ref a_hill, .ref a_now, .ref a_undone, .int v_undos, .ref a_need, .int v_cames, .ref a_cameOf, .ref a_places, .ref a_firstRow, .int v_each, .long v_trace, .ref a_kept])), (a_undone, .inl (cyI, 150, .inl v_undone)), (a_now, .inl (cyI, 15, .inl v_now))] H → va_D A [(a, .inr (7, [.ref a_text, .int v_size, .int v_at, .int v_begin, .int v_token, .int v_told, .ref a_read, .ref a_hill, .ref a_now, .ref a_undone, .int v_undos, .ref a_need, .int v_cames, .ref a_cameOf, .ref a_places, .ref a_firstRow, .int v_each, .long v_trace, .ref a_kept])), (a_undone, .inl (cyI, 150, .inl v_undone)), (a_now, .inl (cyI, 15, .inl v_now))] → va_S A s.heap H locs → lv_has ls 2 [(0, .ref a), (1, .int x1)] → W p l e { frames := 0, cells := 0, slots := 0, locals := 0 } s m args below meth c H locs 0 0 (MQ below (gQi2 Q (dC, dI) A (fun (u1 : Int32) (u2 : Nat → Int32) => [(a, .inr (7, [.ref a_text, .int v_size, .int v_at, .int v_begin, .int v_token, .int v_told, .ref a_read, .ref a_hill, .ref a_now, .ref a_undone, .int u1, .ref a_need, .int v_cames, .ref a_cameOf, .ref a_places, .ref a_firstRow, .int v_each, .long v_trace, .ref a_kept])), (a_undone, .inl (cyI, 150, .inl v_undone)), (a_now, .inl (cyI, 15, .inl u2))])) args s 0 0 A) (F0 m 22 ls [])) := by
  obtain ⟨hx, hb, hr, hml, hown, hts, hlocks⟩ := id C0
  have f119 := hts (.fieldLink RX7 119 "LastOchreModel" "undos" "I") (by decide +kernel)
  have f19 := hts (.fieldLink RX7 19 "LastOchreModel" "now" "[I") (by decide +kernel)
  have f22 := hts (.fieldLink RX7 22 "LastOchreModel" "undone" "[I") (by decide +kernel)
  intro n
  induction n with
  | zero => exact fun _ _ _ _ _ _ h => absurd h id
  | succ n ih =>
    have ih22 := ih
    · intro x1 v_undos v_now H locs ls h hP hD hS hl
      replace h : F_X7_undo_22 v_undone Q (wp_X7_undo v_undone Q n) x1 v_undos v_now := h
      unfold F_X7_undo_22 at h
      refine lv_iload_n hx hb dX7_undo_22 rfl (lv_at hl 1 rfl) ?_
      refine lv_bipush (v := 15) hx hb dX7_undo_23 (by decide) ?_
      refine lv_icmp_ge (tgt := 54) hx hb dX7_undo_25 (by decide) (fun c_4 => ?_) (fun c_4 => ?_)
      · replace h := h.1 c_4
        refine lv_aload_n hx hb dX7_undo_54 rfl (lv_at hl 0 rfl) ?_
        refine va_get (D := (dC, dI)) (ci := 7) (v := .int v_undos) (C := RX7) (T := TX7) (N := 19) hx hb hts iwX7_undo_X7 hown hK hP 0 rfl rfl 10 (by decide) f119 (fun _ h9 => h9) rfl dX7_undo_55 ?_
        exact gri2 hx hb hr hlocks h hP hD hS dX7_undo_58
      · replace h := h.2 c_4
        refine lv_aload_n hx hb dX7_undo_28 rfl (lv_at hl 0 rfl) ?_
        refine va_get (D := (dC, dI)) (ci := 7) (v := .ref a_now) (C := RX7) (T := TX7) (N := 19) hx hb hts iwX7_undo_X7 hown hK hP 0 rfl rfl 8 (by decide) f19 (fun _ h9 => h9) rfl dX7_undo_29 ?_
        refine lv_iload_n hx hb dX7_undo_32 rfl (lv_at hl 1 rfl) ?_
        refine lv_aload_n hx hb dX7_undo_33 rfl (lv_at hl 0 rfl) ?_
        refine va_get (D := (dC, dI)) (ci := 7) (v := .ref a_undone) (C := RX7) (T := TX7) (N := 19) hx hb hts iwX7_undo_X7 hown hK hP 0 rfl rfl 9 (by decide) f22 (fun _ h9 => h9) rfl dX7_undo_34 ?_
        refine lv_bipush (v := 15) hx hb dX7_undo_37 (by decide) ?_
        refine lv_aload_n hx hb dX7_undo_39 rfl (lv_at hl 0 rfl) ?_
        refine va_get (D := (dC, dI)) (ci := 7) (v := .int v_undos) (C := RX7) (T := TX7) (N := 19) hx hb hts iwX7_undo_X7 hown hK hP 0 rfl rfl 10 (by decide) f119 (fun _ h9 => h9) rfl dX7_undo_40 ?_
        refine lv_imul hx hb dX7_undo_43 ?_
        refine lv_iload_n hx hb dX7_undo_44 rfl (lv_at hl 1 rfl) ?_
        refine lv_iadd hx hb dX7_undo_45 ?_
        have g_5 := h.1
        replace h := h.2
        refine va_iald hx hb hK hP 1 0 rfl rfl g_5 dX7_undo_46 ?_
        have g_6 := h.1
        replace h := h.2
        refine va_iast hx hb hK hP hD hS 2 0 rfl rfl g_6 dX7_undo_47 (fun H locs hP hD hS => ?_)
        obtain ⟨f_7, e_8⟩ : ∃ y : Nat → Int32, y = upd v_now (x1).toNatClampNeg (v_undone ((((15 : Int32) * v_undos) + x1)).toNatClampNeg) := ⟨_, rfl⟩
        replace h := h f_7 e_8
        replace hP : va_P (dC, dI) vwCl [(a, .inr (7, [.ref a_text, .int v_size, .int v_at, .int v_begin, .int v_token, .int v_told, .ref a_read, .ref a_hill, .ref a_now, .ref a_undone, .int v_undos, .ref a_need, .int v_cames, .ref a_cameOf, .ref a_places, .ref a_firstRow, .int v_each, .long v_trace, .ref a_kept])), (a_undone, .inl (cyI, 150, .inl v_undone)), (a_now, .inl (cyI, 15, .inl f_7))] H := by rw [e_8]; exact hP
        replace hD : va_D A [(a, .inr (7, [.ref a_text, .int v_size, .int v_at, .int v_begin, .int v_token, .int v_told, .ref a_read, .ref a_hill, .ref a_now, .ref a_undone, .int v_undos, .ref a_need, .int v_cames, .ref a_cameOf, .ref a_places, .ref a_firstRow, .int v_each, .long v_trace, .ref a_kept])), (a_undone, .inl (cyI, 150, .inl v_undone)), (a_now, .inl (cyI, 15, .inl f_7))] := by rw [e_8]; exact hD
        obtain ⟨x1_9, e_10⟩ : ∃ y : Int32, y = (x1 + (1 : Int32)) := ⟨_, rfl⟩
        replace h := h x1_9 e_10
        refine lv_iinc (v := x1_9) (lv' := [(1, .int x1_9), (0, .ref a)]) hx hb dX7_undo_48 hl (k := 1) rfl (by rw [e_10]; rfl) (by decide) rfl (fun ls hl => ?_)
        refine lv_goto (tgt := 22) hx hb dX7_undo_51 (by decide) ?_
        exact ih22 x1_9 v_undos f_7 _ _ _ h hP hD hS (lv_sub hl [1, 0] rfl)
set_option maxHeartbeats 4000000 in
set_option maxRecDepth 100000 in
theorem c_X7_undo (l : Launch) (dC : Nat → ClassId) (dI : Nat → Nat → Nat) (cyC cyI cyZ : ClassId) (sz : Nat) (a a_text a_read a_hill a_now a_undone a_need a_cameOf a_places a_firstRow a_kept : Nat) (v_size : Int32) (v_at : Int32) (v_begin : Int32) (v_token : Int32) (v_told : Int32) (v_undos : Int32) (v_cames : Int32) (v_each : Int32) (v_trace : Int64) (v_undone : Nat → Int32) (v_now : Nat → Int32) {Q : Int32 → Int32 → (Nat → Int32) → Prop} (h : q_X7_undo v_undos v_undone v_now Q) : Met l yX7_undo wsX7_undo ({ frames := 0, cells := 0, slots := 0, locals := 0 }) (gPc [.ref a] (dC, dI) (gTy cyC cyI cyZ) sz [(a, .inr (7, [.ref a_text, .int v_size, .int v_at, .int v_begin, .int v_token, .int v_told, .ref a_read, .ref a_hill, .ref a_now, .ref a_undone, .int v_undos, .ref a_need, .int v_cames, .ref a_cameOf, .ref a_places, .ref a_firstRow, .int v_each, .long v_trace, .ref a_kept])), (a_undone, .inl (cyI, 150, .inl v_undone)), (a_now, .inl (cyI, 15, .inl v_now))]) (gQi2 Q (dC, dI) (va_A [(a, .inr (7, [.ref a_text, .int v_size, .int v_at, .int v_begin, .int v_token, .int v_told, .ref a_read, .ref a_hill, .ref a_now, .ref a_undone, .int v_undos, .ref a_need, .int v_cames, .ref a_cameOf, .ref a_places, .ref a_firstRow, .int v_each, .long v_trace, .ref a_kept])), (a_undone, .inl (cyI, 150, .inl v_undone)), (a_now, .inl (cyI, 15, .inl v_now))] sz) (fun (u1 : Int32) (u2 : Nat → Int32) => [(a, .inr (7, [.ref a_text, .int v_size, .int v_at, .int v_begin, .int v_token, .int v_told, .ref a_read, .ref a_hill, .ref a_now, .ref a_undone, .int u1, .ref a_need, .int v_cames, .ref a_cameOf, .ref a_places, .ref a_firstRow, .int v_each, .long v_trace, .ref a_kept])), (a_undone, .inl (cyI, 150, .inl v_undone)), (a_now, .inl (cyI, 15, .inl u2))])) 0 0 (va_A [(a, .inr (7, [.ref a_text, .int v_size, .int v_at, .int v_begin, .int v_token, .int v_told, .ref a_read, .ref a_hill, .ref a_now, .ref a_undone, .int v_undos, .ref a_need, .int v_cames, .ref a_cameOf, .ref a_places, .ref a_firstRow, .int v_each, .long v_trace, .ref a_kept])), (a_undone, .inl (cyI, 150, .inl v_undone)), (a_now, .inl (cyI, 15, .inl v_now))] sz) := by
  refine gMet (cc := cX7_undo) (maxL := 2) (ret := (some .int)) (own := RX7) (fun A => gQi2 Q (dC, dI) A (fun (u1 : Int32) (u2 : Nat → Int32) => [(a, .inr (7, [.ref a_text, .int v_size, .int v_at, .int v_begin, .int v_token, .int v_told, .ref a_read, .ref a_hill, .ref a_now, .ref a_undone, .int u1, .ref a_need, .int v_cames, .ref a_cameOf, .ref a_places, .ref a_firstRow, .int v_each, .long v_trace, .ref a_kept])), (a_undone, .inl (cyI, 150, .inl v_undone)), (a_now, .inl (cyI, 15, .inl u2))])) (by decide) rfl rfl (Nat.le_of_ble_eq_true rfl) ?_
  intro p e s m below meth c A ls C0 _ hK hN hP hD hA hl
  obtain ⟨hx, hb, hr, hml, hown, hts, hlocks⟩ := id C0
  have f119 := hts (.fieldLink RX7 119 "LastOchreModel" "undos" "I") (by decide +kernel)
  have f19 := hts (.fieldLink RX7 19 "LastOchreModel" "now" "[I") (by decide +kernel)
  have f22 := hts (.fieldLink RX7 22 "LastOchreModel" "undone" "[I") (by decide +kernel)
  have hS : va_S A s.heap s.heap [] := va_S.rf
  replace hl : lv_has ls 2 [(0, .ref a)] := hl
  unfold q_X7_undo at h
  obtain ⟨n, h⟩ := h
  have ih22 := w_X7_undo (l := l) (e := e) (below := below) dC dI cyC cyI cyZ a a_text a_read a_hill a_now a_undone a_need a_cameOf a_places a_firstRow a_kept v_size v_at v_begin v_token v_told v_cames v_each v_trace v_undone Q C0 hK hN hA n
  unfold F_X7_undo_e at h
  refine lv_aload_n hx hb dX7_undo_0 rfl (lv_at hl 0 rfl) ?_
  refine va_get (D := (dC, dI)) (ci := 7) (v := .int v_undos) (C := RX7) (T := TX7) (N := 19) hx hb hts iwX7_undo_X7 hown hK hP 0 rfl rfl 10 (by decide) f119 (fun _ h9 => h9) rfl dX7_undo_1 ?_
  refine lv_if_ne (tgt := 10) hx hb dX7_undo_4 (by decide) (fun c_1 => ?_) (fun c_1 => ?_)
  · replace h := h.1 c_1
    refine lv_aload_n hx hb dX7_undo_10 rfl (lv_at hl 0 rfl) ?_
    refine lv_dup hx hb dX7_undo_11 rfl ?_
    refine va_get (D := (dC, dI)) (ci := 7) (v := .int v_undos) (C := RX7) (T := TX7) (N := 19) hx hb hts iwX7_undo_X7 hown hK hP 0 rfl rfl 10 (by decide) f119 (fun _ h9 => h9) rfl dX7_undo_12 ?_
    refine lv_iconst (v := 1) hx hb dX7_undo_15 (by decide) ?_
    refine lv_isub hx hb dX7_undo_16 ?_
    refine lv_topi (fun n_2 e_3 => ?_)
    replace h := h n_2 e_3
    refine va_put (D := (dC, dI)) (ci := 7) (v := .int n_2) (ty := .int) (C := RX7) (T := TX7) (N := 19) hx hb hts iwX7_undo_X7 tyX7 tyX7_ok nmX7 hown hK hP hD hS 0 rfl rfl 10 (by decide) f119 (fun _ h9 => h9) rfl (by decide +kernel) rfl rfl (Nat.le_of_ble_eq_true rfl) dX7_undo_17 (fun H locs hP hD hS => ?_)
    replace hP : va_P (dC, dI) vwCl [(a, .inr (7, [.ref a_text, .int v_size, .int v_at, .int v_begin, .int v_token, .int v_told, .ref a_read, .ref a_hill, .ref a_now, .ref a_undone, .int n_2, .ref a_need, .int v_cames, .ref a_cameOf, .ref a_places, .ref a_firstRow, .int v_each, .long v_trace, .ref a_kept])), (a_undone, .inl (cyI, 150, .inl v_undone)), (a_now, .inl (cyI, 15, .inl v_now))] H := hP
    replace hD : va_D A [(a, .inr (7, [.ref a_text, .int v_size, .int v_at, .int v_begin, .int v_token, .int v_told, .ref a_read, .ref a_hill, .ref a_now, .ref a_undone, .int n_2, .ref a_need, .int v_cames, .ref a_cameOf, .ref a_places, .ref a_firstRow, .int v_each, .long v_trace, .ref a_kept])), (a_undone, .inl (cyI, 150, .inl v_undone)), (a_now, .inl (cyI, 15, .inl v_now))] := hD
    refine lv_iconst (v := 0) hx hb dX7_undo_20 (by decide) ?_
    refine lv_istore_n (lv' := [(1, .int (0 : Int32)), (0, .ref a)]) hx hb dX7_undo_21 rfl hl (by decide) rfl (fun ls hl => ?_)
    exact ih22 (0 : Int32) n_2 v_now _ _ _ h hP hD hS (lv_sub hl [1, 0] rfl)
  · replace h := h.2 c_1
    refine lv_bipush (v := -2) hx hb dX7_undo_7 (by decide) ?_
    exact gri2 hx hb hr hlocks h hP hD hS dX7_undo_9

def F_X7_now_e (v_hill : Nat → Int32) (v_now : Nat → Int32) (p0 : Int32) (Q : Int32 → Prop) (rec : Nat → Int32 → Int32 → Int32 → Int32 → Int32 → Int32 → Int32 → Prop)  : Prop :=
  q_X7_called v_hill v_now (fun (r_1 : Int32) => rec 16 r_1 (0 : Int32) (0 : Int32) (0 : Int32) (0 : Int32) 0 0)
def F_X7_now_16 (v_hill : Nat → Int32) (v_now : Nat → Int32) (p0 : Int32) (Q : Int32 → Prop) (rec : Nat → Int32 → Int32 → Int32 → Int32 → Int32 → Int32 → Int32 → Prop) (x2 : Int32) (x3 : Int32) (x4 : Int32) (x5 : Int32) (x6 : Int32) (k0 : Int32) (k1 : Int32) : Prop :=
  ((v_hill ((2 : Int32)).toNatClampNeg) ≤ x6 → (rec 70 x2 x3 x4 x5 (0 : Int32) 0 0)) ∧ (¬ (v_hill ((2 : Int32)).toNatClampNeg) ≤ x6 → ((¬ ((x2 >>> (x6 &&& 31)) &&& (1 : Int32)) = (1 : Int32) → (rec 48 x2 0 x4 x5 x6 (0 : Int32) x3)) ∧ (((x2 >>> (x6 &&& 31)) &&& (1 : Int32)) = (1 : Int32) → (q_X7_worth v_hill x6 (fun (r_4 : Int32) => rec 48 x2 0 x4 x5 x6 r_4 x3)))))
def F_X7_now_48 (v_hill : Nat → Int32) (v_now : Nat → Int32) (p0 : Int32) (Q : Int32 → Prop) (rec : Nat → Int32 → Int32 → Int32 → Int32 → Int32 → Int32 → Int32 → Prop) (x2 : Int32) (x3 : Int32) (x4 : Int32) (x5 : Int32) (x6 : Int32) (k0 : Int32) (k1 : Int32) : Prop :=
  ∀ x3_5 : Int32, x3_5 = (k1 + k0) → (q_X7_yellow v_now x6 (fun (r_7 : Int32) => ∀ x4_8 : Int32, x4_8 = (x4 + r_7) → (∀ x6_10 : Int32, x6_10 = (x6 + (1 : Int32)) → (rec 16 x2 x3_5 x4_8 x5 x6_10 0 0))))
def F_X7_now_70 (v_hill : Nat → Int32) (v_now : Nat → Int32) (p0 : Int32) (Q : Int32 → Prop) (rec : Nat → Int32 → Int32 → Int32 → Int32 → Int32 → Int32 → Int32 → Prop) (x2 : Int32) (x3 : Int32) (x4 : Int32) (x5 : Int32) (x6 : Int32) (k0 : Int32) (k1 : Int32) : Prop :=
  q_X7_cells v_hill (fun (r_12 : Int32) => (r_12 ≤ x6 → ((p0 = (0 : Int32) → (vp_in p0 15 ∧ (Q (v_now (p0).toNatClampNeg)))) ∧ (p0 = (1 : Int32) → (vp_in p0 15 ∧ (Q (v_now (p0).toNatClampNeg)))) ∧ (p0 = (2 : Int32) → (vp_in p0 15 ∧ (Q (v_now (p0).toNatClampNeg)))) ∧ (p0 = (3 : Int32) → (Q x2)) ∧ (p0 = (4 : Int32) → (Q x3)) ∧ (p0 = (5 : Int32) → (Q x4)) ∧ (p0 = (6 : Int32) → (Q x5)) ∧ ((¬ p0 = (0 : Int32) ∧ ¬ p0 = (1 : Int32) ∧ ¬ p0 = (2 : Int32) ∧ ¬ p0 = (3 : Int32) ∧ ¬ p0 = (4 : Int32) ∧ ¬ p0 = (5 : Int32) ∧ ¬ p0 = (6 : Int32)) → (Q (-1 : Int32))))) ∧ (¬ r_12 ≤ x6 → ((¬ (((v_now ((2 : Int32)).toNatClampNeg) >>> (x6 &&& 31)) &&& (1 : Int32)) = 0 → (∀ x5_32 : Int32, x5_32 = (x5 + (0 : Int32)) → (∀ x6_34 : Int32, x6_34 = (x6 + (1 : Int32)) → (rec 70 x2 x3 x4 x5_32 x6_34 0 0)))) ∧ ((((v_now ((2 : Int32)).toNatClampNeg) >>> (x6 &&& 31)) &&& (1 : Int32)) = 0 → (vp_in ((6 : Int32) + x6) 46 ∧ (∀ x5_37 : Int32, x5_37 = (x5 + (v_hill (((6 : Int32) + x6)).toNatClampNeg)) → (∀ x6_39 : Int32, x6_39 = (x6 + (1 : Int32)) → (rec 70 x2 x3 x4 x5_37 x6_39 0 0))))))))
def wp_X7_now (v_hill : Nat → Int32) (v_now : Nat → Int32) (p0 : Int32) (Q : Int32 → Prop) : Nat → Nat → Int32 → Int32 → Int32 → Int32 → Int32 → Int32 → Int32 → Prop
  | 0 => fun _ _ _ _ _ _ _ _ => False
  | n + 1 => fun t x2 x3 x4 x5 x6 k0 k1 => if t = 16 then F_X7_now_16 v_hill v_now p0 Q (wp_X7_now v_hill v_now p0 Q n) x2 x3 x4 x5 x6 k0 k1 else if t = 48 then F_X7_now_48 v_hill v_now p0 Q (wp_X7_now v_hill v_now p0 Q n) x2 x3 x4 x5 x6 k0 k1 else if t = 70 then F_X7_now_70 v_hill v_now p0 Q (wp_X7_now v_hill v_now p0 Q n) x2 x3 x4 x5 x6 k0 k1 else False
def q_X7_now (v_hill : Nat → Int32) (v_now : Nat → Int32) (p0 : Int32) (Q : Int32 → Prop) : Prop := ∃ n, F_X7_now_e v_hill v_now p0 Q (wp_X7_now v_hill v_now p0 Q n) 
theorem iwX7_now_X7 : ∀ w ∈ wsX70, w ∈ wsX7_now := by decide +kernel
theorem hdV_X7_now : yX7_now.cls = RX7 ∧ yX7_now.cls ≠ "java/lang/invoke/MethodHandle" ∧ yX7_now.cls ≠ "java/lang/invoke/VarHandle" ∧ (parseMethodDescriptor yX7_now.desc).map (fun d => d.parameters.length) = some 1 := by decide +kernel
set_option maxHeartbeats 4000000 in
set_option maxRecDepth 100000 in
theorem w_X7_now {p : Program} {l : Launch} {e : Env} {s : State} {m : MethodId} {args : Array Value} {below : List Frame} {meth : Method} {c : Code} {A : Nat → Prop} (dC : Nat → ClassId) (dI : Nat → Nat → Nat) (cyC cyI cyZ : ClassId) (a a_text a_read a_hill a_now a_undone a_need a_cameOf a_places a_firstRow a_kept : Nat) (v_size : Int32) (v_at : Int32) (v_begin : Int32) (v_token : Int32) (v_told : Int32) (v_undos : Int32) (v_cames : Int32) (v_each : Int32) (v_trace : Int64) (v_hill : Nat → Int32) (v_now : Nat → Int32) (p0 : Int32) (Q : Int32 → Prop) (C0 : gAt cX7_now (some .int) 7 RX7 wsX7_now p s m meth c args) (hK : va_K (dC, dI) vwCl (gTy cyC cyI cyZ) s) (hN : nU s) (hA : ∀ q, s.heap.size ≤ q → A q) : ∀ n : Nat, (∀ (x2 : Int32) (x3 : Int32) (x4 : Int32) (x5 : Int32) (x6 : Int32) (k0 : Int32) (k1 : Int32) (H : Heap) (locs : List Loc) (ls : Array Slot), wp_X7_now v_hill v_now p0 Q n 16 x2 x3 x4 x5 x6 k0 k1 → va_P (dC, dI) vwCl [(a, .inr (7, [.ref a_text, .int v_size, .int v_at, .int v_begin, .int v_token, .int v_told, .ref a_read, .ref a_hill, .ref a_now, .ref a_undone, .int v_undos, .ref a_need, .int v_cames, .ref a_cameOf, .ref a_places, .ref a_firstRow, .int v_each, .long v_trace, .ref a_kept])), (a_hill, .inl (cyI, 46, .inl v_hill)), (a_now, .inl (cyI, 15, .inl v_now))] H → va_D A [(a, .inr (7, [.ref a_text, .int v_size, .int v_at, .int v_begin, .int v_token, .int v_told, .ref a_read, .ref a_hill, .ref a_now, .ref a_undone, .int v_undos, .ref a_need, .int v_cames, .ref a_cameOf, .ref a_places, .ref a_firstRow, .int v_each, .long v_trace, .ref a_kept])), (a_hill, .inl (cyI, 46, .inl v_hill)), (a_now, .inl (cyI, 15, .inl v_now))] → va_S A s.heap H locs → lv_has ls 7 [(0, .ref a), (1, .int p0), (2, .int x2), (3, .int x3), (4, .int x4), (5, .int x5), (6, .int x6)] → W p l e { frames := 3, cells := 0, slots := 0, locals := 68 } s m args below meth c H locs 0 0 (MQ below (gQi0 Q (dC, dI) A [(a, .inr (7, [.ref a_text, .int v_size, .int v_at, .int v_begin, .int v_token, .int v_told, .ref a_read, .ref a_hill, .ref a_now, .ref a_undone, .int v_undos, .ref a_need, .int v_cames, .ref a_cameOf, .ref a_places, .ref a_firstRow, .int v_each, .long v_trace, .ref a_kept])), (a_hill, .inl (cyI, 46, .inl v_hill)), (a_now, .inl (cyI, 15, .inl v_now))]) args s 0 0 A) (F0 m 16 ls [])) ∧ (∀ (x2 : Int32) (x3 : Int32) (x4 : Int32) (x5 : Int32) (x6 : Int32) (k0 : Int32) (k1 : Int32) (H : Heap) (locs : List Loc) (ls : Array Slot), wp_X7_now v_hill v_now p0 Q n 48 x2 x3 x4 x5 x6 k0 k1 → va_P (dC, dI) vwCl [(a, .inr (7, [.ref a_text, .int v_size, .int v_at, .int v_begin, .int v_token, .int v_told, .ref a_read, .ref a_hill, .ref a_now, .ref a_undone, .int v_undos, .ref a_need, .int v_cames, .ref a_cameOf, .ref a_places, .ref a_firstRow, .int v_each, .long v_trace, .ref a_kept])), (a_hill, .inl (cyI, 46, .inl v_hill)), (a_now, .inl (cyI, 15, .inl v_now))] H → va_D A [(a, .inr (7, [.ref a_text, .int v_size, .int v_at, .int v_begin, .int v_token, .int v_told, .ref a_read, .ref a_hill, .ref a_now, .ref a_undone, .int v_undos, .ref a_need, .int v_cames, .ref a_cameOf, .ref a_places, .ref a_firstRow, .int v_each, .long v_trace, .ref a_kept])), (a_hill, .inl (cyI, 46, .inl v_hill)), (a_now, .inl (cyI, 15, .inl v_now))] → va_S A s.heap H locs → lv_has ls 7 [(0, .ref a), (1, .int p0), (2, .int x2), (4, .int x4), (5, .int x5), (6, .int x6)] → W p l e { frames := 3, cells := 0, slots := 0, locals := 68 } s m args below meth c H locs 0 0 (MQ below (gQi0 Q (dC, dI) A [(a, .inr (7, [.ref a_text, .int v_size, .int v_at, .int v_begin, .int v_token, .int v_told, .ref a_read, .ref a_hill, .ref a_now, .ref a_undone, .int v_undos, .ref a_need, .int v_cames, .ref a_cameOf, .ref a_places, .ref a_firstRow, .int v_each, .long v_trace, .ref a_kept])), (a_hill, .inl (cyI, 46, .inl v_hill)), (a_now, .inl (cyI, 15, .inl v_now))]) args s 0 0 A) (F0 m 48 ls [.int k0, .int k1])) ∧ (∀ (x2 : Int32) (x3 : Int32) (x4 : Int32) (x5 : Int32) (x6 : Int32) (k0 : Int32) (k1 : Int32) (H : Heap) (locs : List Loc) (ls : Array Slot), wp_X7_now v_hill v_now p0 Q n 70 x2 x3 x4 x5 x6 k0 k1 → va_P (dC, dI) vwCl [(a, .inr (7, [.ref a_text, .int v_size, .int v_at, .int v_begin, .int v_token, .int v_told, .ref a_read, .ref a_hill, .ref a_now, .ref a_undone, .int v_undos, .ref a_need, .int v_cames, .ref a_cameOf, .ref a_places, .ref a_firstRow, .int v_each, .long v_trace, .ref a_kept])), (a_hill, .inl (cyI, 46, .inl v_hill)), (a_now, .inl (cyI, 15, .inl v_now))] H → va_D A [(a, .inr (7, [.ref a_text, .int v_size, .int v_at, .int v_begin, .int v_token, .int v_told, .ref a_read, .ref a_hill, .ref a_now, .ref a_undone, .int v_undos, .ref a_need, .int v_cames, .ref a_cameOf, .ref a_places, .ref a_firstRow, .int v_each, .long v_trace, .ref a_kept])), (a_hill, .inl (cyI, 46, .inl v_hill)), (a_now, .inl (cyI, 15, .inl v_now))] → va_S A s.heap H locs → lv_has ls 7 [(0, .ref a), (1, .int p0), (2, .int x2), (3, .int x3), (4, .int x4), (5, .int x5), (6, .int x6)] → W p l e { frames := 3, cells := 0, slots := 0, locals := 68 } s m args below meth c H locs 0 0 (MQ below (gQi0 Q (dC, dI) A [(a, .inr (7, [.ref a_text, .int v_size, .int v_at, .int v_begin, .int v_token, .int v_told, .ref a_read, .ref a_hill, .ref a_now, .ref a_undone, .int v_undos, .ref a_need, .int v_cames, .ref a_cameOf, .ref a_places, .ref a_firstRow, .int v_each, .long v_trace, .ref a_kept])), (a_hill, .inl (cyI, 46, .inl v_hill)), (a_now, .inl (cyI, 15, .inl v_now))]) args s 0 0 A) (F0 m 70 ls [])) := by
  obtain ⟨hx, hb, hr, hml, hown, hts, hlocks⟩ := id C0
  have f16 := hts (.fieldLink RX7 16 "LastOchreModel" "hill" "[I") (by decide +kernel)
  have f19 := hts (.fieldLink RX7 19 "LastOchreModel" "now" "[I") (by decide +kernel)
  intro n
  induction n with
  | zero => exact ⟨fun _ _ _ _ _ _ _ _ _ _ h => absurd h id, fun _ _ _ _ _ _ _ _ _ _ h => absurd h id, fun _ _ _ _ _ _ _ _ _ _ h => absurd h id⟩
  | succ n ih =>
    obtain ⟨ih16, ih48, ih70⟩ := ih
    refine ⟨?_, ?_, ?_⟩
    · intro x2 x3 x4 x5 x6 k0 k1 H locs ls h hP hD hS hl
      replace h : F_X7_now_16 v_hill v_now p0 Q (wp_X7_now v_hill v_now p0 Q n) x2 x3 x4 x5 x6 k0 k1 := h
      unfold F_X7_now_16 at h
      refine lv_iload hx hb dX7_now_16 (lv_at hl 6 rfl) ?_
      refine lv_aload_n hx hb dX7_now_18 rfl (lv_at hl 0 rfl) ?_
      refine va_get (D := (dC, dI)) (ci := 7) (v := .ref a_hill) (C := RX7) (T := TX7) (N := 19) hx hb hts iwX7_now_X7 hown hK hP 0 rfl rfl 7 (by decide) f16 (fun _ h9 => h9) rfl dX7_now_19 ?_
      refine lv_iconst (v := 2) hx hb dX7_now_22 (by decide) ?_
      refine va_iald hx hb hK hP 1 0 rfl rfl (by unfold vp_in; decide) dX7_now_23 ?_
      refine lv_icmp_ge (tgt := 67) hx hb dX7_now_24 (by decide) (fun c_2 => ?_) (fun c_2 => ?_)
      · replace h := h.1 c_2
        refine lv_iconst (v := 0) hx hb dX7_now_67 (by decide) ?_
        refine lv_istore (lv' := [(6, .int (0 : Int32)), (0, .ref a), (1, .int p0), (2, .int x2), (3, .int x3), (4, .int x4), (5, .int x5)]) hx hb dX7_now_68 hl (by decide) rfl (fun ls hl => ?_)
        exact ih70 x2 x3 x4 x5 (0 : Int32) 0 0 _ _ _ h hP hD hS (lv_sub hl [1, 2, 3, 4, 5, 6, 0] rfl)
      · replace h := h.2 c_2
        refine lv_iload_n hx hb dX7_now_27 rfl (lv_at hl 3 rfl) ?_
        refine lv_iload_n hx hb dX7_now_28 rfl (lv_at hl 2 rfl) ?_
        refine lv_iload hx hb dX7_now_29 (lv_at hl 6 rfl) ?_
        refine lv_ishr hx hb dX7_now_31 ?_
        refine lv_iconst (v := 1) hx hb dX7_now_32 (by decide) ?_
        refine lv_iand hx hb dX7_now_33 ?_
        refine lv_iconst (v := 1) hx hb dX7_now_34 (by decide) ?_
        refine lv_icmp_ne (tgt := 47) hx hb dX7_now_35 (by decide) (fun c_3 => ?_) (fun c_3 => ?_)
        · replace h := h.1 c_3
          refine lv_iconst (v := 0) hx hb dX7_now_47 (by decide) ?_
          exact ih48 x2 0 x4 x5 x6 (0 : Int32) x3 _ _ _ h hP hD hS (lv_sub hl [0, 1, 2, 4, 5, 6] rfl)
        · replace h := h.2 c_3
          refine lv_aload_n hx hb dX7_now_38 rfl (lv_at hl 0 rfl) ?_
          refine lv_iload hx hb dX7_now_39 (lv_at hl 6 rfl) ?_
          refine gV_i0 (As := [.int x6]) (rest := [.int x3]) ⟨hx, hb, hml, hown, hts⟩ (c_X7_worth l dC dI cyC cyI cyZ _ a a_text a_read a_hill a_now a_undone a_need a_cameOf a_places a_firstRow a_kept v_size v_at v_begin v_token v_told v_undos v_cames v_each v_trace v_hill x6 h) (cwV 1 hts gX7_now_X7_worth rfl rfl rfl hdV_X7_worth ⟨Nat.le_of_ble_eq_true rfl, Nat.le_of_ble_eq_true rfl⟩) hK hN hP hD hS hA [0, 1] (by decide) rfl (ci := 7) rfl rfl rfl hl.1 rfl (Nat.le_of_ble_eq_true rfl) dX7_now_41 ⟨Nat.zero_le _, Nat.zero_le _⟩ (fun r_4 H locs h hP hS => ?_)
          refine lv_goto (tgt := 48) hx hb dX7_now_44 (by decide) ?_
          exact ih48 x2 0 x4 x5 x6 r_4 x3 _ _ _ h hP hD hS (lv_sub hl [0, 1, 2, 4, 5, 6] rfl)
    · intro x2 x3 x4 x5 x6 k0 k1 H locs ls h hP hD hS hl
      replace h : F_X7_now_48 v_hill v_now p0 Q (wp_X7_now v_hill v_now p0 Q n) x2 x3 x4 x5 x6 k0 k1 := h
      unfold F_X7_now_48 at h
      refine lv_iadd hx hb dX7_now_48 ?_
      refine lv_topi (fun x3_5 e_6 => ?_)
      replace h := h x3_5 e_6
      refine lv_istore_n (lv' := [(3, .int x3_5), (0, .ref a), (1, .int p0), (2, .int x2), (4, .int x4), (5, .int x5), (6, .int x6)]) hx hb dX7_now_49 rfl hl (by decide) rfl (fun ls hl => ?_)
      refine lv_iload hx hb dX7_now_50 (lv_at hl 4 rfl) ?_
      refine lv_aload_n hx hb dX7_now_52 rfl (lv_at hl 1 rfl) ?_
      refine lv_iload hx hb dX7_now_53 (lv_at hl 6 rfl) ?_
      refine gV_i0 (As := [.int x6]) (rest := [.int x4]) ⟨hx, hb, hml, hown, hts⟩ (c_X7_yellow l dC dI cyC cyI cyZ _ a a_text a_read a_hill a_now a_undone a_need a_cameOf a_places a_firstRow a_kept v_size v_at v_begin v_token v_told v_undos v_cames v_each v_trace v_now x6 h) (cwV 1 hts gX7_now_X7_yellow rfl rfl rfl hdV_X7_yellow ⟨Nat.le_of_ble_eq_true rfl, Nat.le_of_ble_eq_true rfl⟩) hK hN hP hD hS hA [0, 2] (by decide) rfl (ci := 7) rfl rfl rfl hl.1 rfl (Nat.le_of_ble_eq_true rfl) dX7_now_55 ⟨Nat.zero_le _, Nat.zero_le _⟩ (fun r_7 H locs h hP hS => ?_)
      refine lv_iadd hx hb dX7_now_58 ?_
      refine lv_topi (fun x4_8 e_9 => ?_)
      replace h := h x4_8 e_9
      refine lv_istore (lv' := [(4, .int x4_8), (3, .int x3_5), (0, .ref a), (1, .int p0), (2, .int x2), (5, .int x5), (6, .int x6)]) hx hb dX7_now_59 hl (by decide) rfl (fun ls hl => ?_)
      obtain ⟨x6_10, e_11⟩ : ∃ y : Int32, y = (x6 + (1 : Int32)) := ⟨_, rfl⟩
      replace h := h x6_10 e_11
      refine lv_iinc (v := x6_10) (lv' := [(6, .int x6_10), (4, .int x4_8), (3, .int x3_5), (0, .ref a), (1, .int p0), (2, .int x2), (5, .int x5)]) hx hb dX7_now_61 hl (k := 6) rfl (by rw [e_11]; rfl) (by decide) rfl (fun ls hl => ?_)
      refine lv_goto (tgt := 16) hx hb dX7_now_64 (by decide) ?_
      exact ih16 x2 x3_5 x4_8 x5 x6_10 0 0 _ _ _ h hP hD hS (lv_sub hl [3, 4, 5, 2, 1, 6, 0] rfl)
    · intro x2 x3 x4 x5 x6 k0 k1 H locs ls h hP hD hS hl
      replace h : F_X7_now_70 v_hill v_now p0 Q (wp_X7_now v_hill v_now p0 Q n) x2 x3 x4 x5 x6 k0 k1 := h
      unfold F_X7_now_70 at h
      refine lv_iload hx hb dX7_now_70 (lv_at hl 6 rfl) ?_
      refine lv_aload_n hx hb dX7_now_72 rfl (lv_at hl 0 rfl) ?_
      refine gV_i0 (As := []) (rest := [.int x6]) ⟨hx, hb, hml, hown, hts⟩ (c_X7_cells l dC dI cyC cyI cyZ _ a a_text a_read a_hill a_now a_undone a_need a_cameOf a_places a_firstRow a_kept v_size v_at v_begin v_token v_told v_undos v_cames v_each v_trace v_hill h) (cwV 0 hts gX7_now_X7_cells rfl rfl rfl hdV_X7_cells ⟨Nat.le_of_ble_eq_true rfl, Nat.le_of_ble_eq_true rfl⟩) hK hN hP hD hS hA [0, 1] (by decide) rfl (ci := 7) rfl rfl rfl hl.1 rfl (Nat.le_of_ble_eq_true rfl) dX7_now_73 ⟨Nat.zero_le _, Nat.zero_le _⟩ (fun r_12 H locs h hP hS => ?_)
      refine lv_icmp_ge (tgt := 118) hx hb dX7_now_76 (by decide) (fun c_13 => ?_) (fun c_13 => ?_)
      · replace h := h.1 c_13
        refine lv_iload_n hx hb dX7_now_118 rfl (lv_at hl 1 rfl) ?_
        refine (Classical.em (p0 = (0 : Int32))).elim (fun c_14 => ?_) (fun c_14 => ?_)
        · replace h := h.1 c_14
          refine lv_tableIn (off := 41) (tgt := 160) hx hb dX7_now_119 (by rw [c_14]; decide) (by rw [c_14]; decide) (by rw [c_14]; rfl) (by decide) ?_
          refine lv_aload_n hx hb dX7_now_160 rfl (lv_at hl 0 rfl) ?_
          refine va_get (D := (dC, dI)) (ci := 7) (v := .ref a_now) (C := RX7) (T := TX7) (N := 19) hx hb hts iwX7_now_X7 hown hK hP 0 rfl rfl 8 (by decide) f19 (fun _ h9 => h9) rfl dX7_now_161 ?_
          refine lv_iload_n hx hb dX7_now_164 rfl (lv_at hl 1 rfl) ?_
          have g_15 := h.1
          replace h := h.2
          refine va_iald hx hb hK hP 2 0 rfl rfl g_15 dX7_now_165 ?_
          exact gri0 hx hb hr hlocks h hP hD hS dX7_now_166
        refine (Classical.em (p0 = (1 : Int32))).elim (fun c_16 => ?_) (fun c_16 => ?_)
        · replace h := h.2.1 c_16
          refine lv_tableIn (off := 41) (tgt := 160) hx hb dX7_now_119 (by rw [c_16]; decide) (by rw [c_16]; decide) (by rw [c_16]; rfl) (by decide) ?_
          refine lv_aload_n hx hb dX7_now_160 rfl (lv_at hl 0 rfl) ?_
          refine va_get (D := (dC, dI)) (ci := 7) (v := .ref a_now) (C := RX7) (T := TX7) (N := 19) hx hb hts iwX7_now_X7 hown hK hP 0 rfl rfl 8 (by decide) f19 (fun _ h9 => h9) rfl dX7_now_161 ?_
          refine lv_iload_n hx hb dX7_now_164 rfl (lv_at hl 1 rfl) ?_
          have g_17 := h.1
          replace h := h.2
          refine va_iald hx hb hK hP 2 0 rfl rfl g_17 dX7_now_165 ?_
          exact gri0 hx hb hr hlocks h hP hD hS dX7_now_166
        refine (Classical.em (p0 = (2 : Int32))).elim (fun c_18 => ?_) (fun c_18 => ?_)
        · replace h := h.2.2.1 c_18
          refine lv_tableIn (off := 41) (tgt := 160) hx hb dX7_now_119 (by rw [c_18]; decide) (by rw [c_18]; decide) (by rw [c_18]; rfl) (by decide) ?_
          refine lv_aload_n hx hb dX7_now_160 rfl (lv_at hl 0 rfl) ?_
          refine va_get (D := (dC, dI)) (ci := 7) (v := .ref a_now) (C := RX7) (T := TX7) (N := 19) hx hb hts iwX7_now_X7 hown hK hP 0 rfl rfl 8 (by decide) f19 (fun _ h9 => h9) rfl dX7_now_161 ?_
          refine lv_iload_n hx hb dX7_now_164 rfl (lv_at hl 1 rfl) ?_
          have g_19 := h.1
          replace h := h.2
          refine va_iald hx hb hK hP 2 0 rfl rfl g_19 dX7_now_165 ?_
          exact gri0 hx hb hr hlocks h hP hD hS dX7_now_166
        refine (Classical.em (p0 = (3 : Int32))).elim (fun c_20 => ?_) (fun c_20 => ?_)
        · replace h := h.2.2.2.1 c_20
          refine lv_tableIn (off := 48) (tgt := 167) hx hb dX7_now_119 (by rw [c_20]; decide) (by rw [c_20]; decide) (by rw [c_20]; rfl) (by decide) ?_
          refine lv_iload_n hx hb dX7_now_167 rfl (lv_at hl 2 rfl) ?_
          exact gri0 hx hb hr hlocks h hP hD hS dX7_now_168
        refine (Classical.em (p0 = (4 : Int32))).elim (fun c_21 => ?_) (fun c_21 => ?_)
        · replace h := h.2.2.2.2.1 c_21
          refine lv_tableIn (off := 50) (tgt := 169) hx hb dX7_now_119 (by rw [c_21]; decide) (by rw [c_21]; decide) (by rw [c_21]; rfl) (by decide) ?_
          refine lv_iload_n hx hb dX7_now_169 rfl (lv_at hl 3 rfl) ?_
          exact gri0 hx hb hr hlocks h hP hD hS dX7_now_170
        refine (Classical.em (p0 = (5 : Int32))).elim (fun c_22 => ?_) (fun c_22 => ?_)
        · replace h := h.2.2.2.2.2.1 c_22
          refine lv_tableIn (off := 52) (tgt := 171) hx hb dX7_now_119 (by rw [c_22]; decide) (by rw [c_22]; decide) (by rw [c_22]; rfl) (by decide) ?_
          refine lv_iload hx hb dX7_now_171 (lv_at hl 4 rfl) ?_
          exact gri0 hx hb hr hlocks h hP hD hS dX7_now_173
        refine (Classical.em (p0 = (6 : Int32))).elim (fun c_23 => ?_) (fun c_23 => ?_)
        · replace h := h.2.2.2.2.2.2.1 c_23
          refine lv_tableIn (off := 55) (tgt := 174) hx hb dX7_now_119 (by rw [c_23]; decide) (by rw [c_23]; decide) (by rw [c_23]; rfl) (by decide) ?_
          refine lv_iload hx hb dX7_now_174 (lv_at hl 5 rfl) ?_
          exact gri0 hx hb hr hlocks h hP hD hS dX7_now_176
        replace h := h.2.2.2.2.2.2.2 ⟨c_14, c_16, c_18, c_20, c_21, c_22, c_23⟩
        have t_24 := sw_ne (a := 0) c_14 (by decide)
        have t_25 := sw_ne (a := 1) c_16 (by decide)
        have t_26 := sw_ne (a := 2) c_18 (by decide)
        have t_27 := sw_ne (a := 3) c_20 (by decide)
        have t_28 := sw_ne (a := 4) c_21 (by decide)
        have t_29 := sw_ne (a := 5) c_22 (by decide)
        have t_30 := sw_ne (a := 6) c_23 (by decide)
        refine lv_tableOut (tgt := 177) hx hb dX7_now_119 (by omega) (by decide) ?_
        refine lv_iconst (v := -1) hx hb dX7_now_177 (by decide) ?_
        exact gri0 hx hb hr hlocks h hP hD hS dX7_now_178
      · replace h := h.2 c_13
        refine lv_iload hx hb dX7_now_79 (lv_at hl 5 rfl) ?_
        refine lv_aload_n hx hb dX7_now_81 rfl (lv_at hl 0 rfl) ?_
        refine va_get (D := (dC, dI)) (ci := 7) (v := .ref a_now) (C := RX7) (T := TX7) (N := 19) hx hb hts iwX7_now_X7 hown hK hP 0 rfl rfl 8 (by decide) f19 (fun _ h9 => h9) rfl dX7_now_82 ?_
        refine lv_iconst (v := 2) hx hb dX7_now_85 (by decide) ?_
        refine va_iald hx hb hK hP 2 0 rfl rfl (by unfold vp_in; decide) dX7_now_86 ?_
        refine lv_iload hx hb dX7_now_87 (lv_at hl 6 rfl) ?_
        refine lv_ishr hx hb dX7_now_89 ?_
        refine lv_iconst (v := 1) hx hb dX7_now_90 (by decide) ?_
        refine lv_iand hx hb dX7_now_91 ?_
        refine lv_if_ne (tgt := 108) hx hb dX7_now_92 (by decide) (fun c_31 => ?_) (fun c_31 => ?_)
        · replace h := h.1 c_31
          refine lv_iconst (v := 0) hx hb dX7_now_108 (by decide) ?_
          refine lv_iadd hx hb dX7_now_109 ?_
          refine lv_topi (fun x5_32 e_33 => ?_)
          replace h := h x5_32 e_33
          refine lv_istore (lv' := [(5, .int x5_32), (0, .ref a), (1, .int p0), (2, .int x2), (3, .int x3), (4, .int x4), (6, .int x6)]) hx hb dX7_now_110 hl (by decide) rfl (fun ls hl => ?_)
          obtain ⟨x6_34, e_35⟩ : ∃ y : Int32, y = (x6 + (1 : Int32)) := ⟨_, rfl⟩
          replace h := h x6_34 e_35
          refine lv_iinc (v := x6_34) (lv' := [(6, .int x6_34), (5, .int x5_32), (0, .ref a), (1, .int p0), (2, .int x2), (3, .int x3), (4, .int x4)]) hx hb dX7_now_112 hl (k := 6) rfl (by rw [e_35]; rfl) (by decide) rfl (fun ls hl => ?_)
          refine lv_goto (tgt := 70) hx hb dX7_now_115 (by decide) ?_
          exact ih70 x2 x3 x4 x5_32 x6_34 0 0 _ _ _ h hP hD hS (lv_sub hl [2, 3, 4, 5, 6, 1, 0] rfl)
        · replace h := h.2 c_31
          refine lv_aload_n hx hb dX7_now_95 rfl (lv_at hl 0 rfl) ?_
          refine va_get (D := (dC, dI)) (ci := 7) (v := .ref a_hill) (C := RX7) (T := TX7) (N := 19) hx hb hts iwX7_now_X7 hown hK hP 0 rfl rfl 7 (by decide) f16 (fun _ h9 => h9) rfl dX7_now_96 ?_
          refine lv_bipush (v := 6) hx hb dX7_now_99 (by decide) ?_
          refine lv_iload hx hb dX7_now_101 (lv_at hl 6 rfl) ?_
          refine lv_iadd hx hb dX7_now_103 ?_
          have g_36 := h.1
          replace h := h.2
          refine va_iald hx hb hK hP 1 0 rfl rfl g_36 dX7_now_104 ?_
          refine lv_goto (tgt := 109) hx hb dX7_now_105 (by decide) ?_
          refine lv_iadd hx hb dX7_now_109 ?_
          refine lv_topi (fun x5_37 e_38 => ?_)
          replace h := h x5_37 e_38
          refine lv_istore (lv' := [(5, .int x5_37), (0, .ref a), (1, .int p0), (2, .int x2), (3, .int x3), (4, .int x4), (6, .int x6)]) hx hb dX7_now_110 hl (by decide) rfl (fun ls hl => ?_)
          obtain ⟨x6_39, e_40⟩ : ∃ y : Int32, y = (x6 + (1 : Int32)) := ⟨_, rfl⟩
          replace h := h x6_39 e_40
          refine lv_iinc (v := x6_39) (lv' := [(6, .int x6_39), (5, .int x5_37), (0, .ref a), (1, .int p0), (2, .int x2), (3, .int x3), (4, .int x4)]) hx hb dX7_now_112 hl (k := 6) rfl (by rw [e_40]; rfl) (by decide) rfl (fun ls hl => ?_)
          refine lv_goto (tgt := 70) hx hb dX7_now_115 (by decide) ?_
          exact ih70 x2 x3 x4 x5_37 x6_39 0 0 _ _ _ h hP hD hS (lv_sub hl [2, 3, 4, 5, 6, 1, 0] rfl)
set_option maxHeartbeats 4000000 in
set_option maxRecDepth 100000 in
theorem c_X7_now (l : Launch) (dC : Nat → ClassId) (dI : Nat → Nat → Nat) (cyC cyI cyZ : ClassId) (sz : Nat) (a a_text a_read a_hill a_now a_undone a_need a_cameOf a_places a_firstRow a_kept : Nat) (v_size : Int32) (v_at : Int32) (v_begin : Int32) (v_token : Int32) (v_told : Int32) (v_undos : Int32) (v_cames : Int32) (v_each : Int32) (v_trace : Int64) (v_hill : Nat → Int32) (v_now : Nat → Int32) (p0 : Int32) {Q : Int32 → Prop} (h : q_X7_now v_hill v_now p0 Q) : Met l yX7_now wsX7_now ({ frames := 3, cells := 0, slots := 0, locals := 68 }) (gPc [.ref a, .int p0] (dC, dI) (gTy cyC cyI cyZ) sz [(a, .inr (7, [.ref a_text, .int v_size, .int v_at, .int v_begin, .int v_token, .int v_told, .ref a_read, .ref a_hill, .ref a_now, .ref a_undone, .int v_undos, .ref a_need, .int v_cames, .ref a_cameOf, .ref a_places, .ref a_firstRow, .int v_each, .long v_trace, .ref a_kept])), (a_hill, .inl (cyI, 46, .inl v_hill)), (a_now, .inl (cyI, 15, .inl v_now))]) (gQi0 Q (dC, dI) (va_A [(a, .inr (7, [.ref a_text, .int v_size, .int v_at, .int v_begin, .int v_token, .int v_told, .ref a_read, .ref a_hill, .ref a_now, .ref a_undone, .int v_undos, .ref a_need, .int v_cames, .ref a_cameOf, .ref a_places, .ref a_firstRow, .int v_each, .long v_trace, .ref a_kept])), (a_hill, .inl (cyI, 46, .inl v_hill)), (a_now, .inl (cyI, 15, .inl v_now))] sz) [(a, .inr (7, [.ref a_text, .int v_size, .int v_at, .int v_begin, .int v_token, .int v_told, .ref a_read, .ref a_hill, .ref a_now, .ref a_undone, .int v_undos, .ref a_need, .int v_cames, .ref a_cameOf, .ref a_places, .ref a_firstRow, .int v_each, .long v_trace, .ref a_kept])), (a_hill, .inl (cyI, 46, .inl v_hill)), (a_now, .inl (cyI, 15, .inl v_now))]) 0 0 (va_A [(a, .inr (7, [.ref a_text, .int v_size, .int v_at, .int v_begin, .int v_token, .int v_told, .ref a_read, .ref a_hill, .ref a_now, .ref a_undone, .int v_undos, .ref a_need, .int v_cames, .ref a_cameOf, .ref a_places, .ref a_firstRow, .int v_each, .long v_trace, .ref a_kept])), (a_hill, .inl (cyI, 46, .inl v_hill)), (a_now, .inl (cyI, 15, .inl v_now))] sz) := by
  refine gMet (cc := cX7_now) (maxL := 7) (ret := (some .int)) (own := RX7) (fun A => gQi0 Q (dC, dI) A [(a, .inr (7, [.ref a_text, .int v_size, .int v_at, .int v_begin, .int v_token, .int v_told, .ref a_read, .ref a_hill, .ref a_now, .ref a_undone, .int v_undos, .ref a_need, .int v_cames, .ref a_cameOf, .ref a_places, .ref a_firstRow, .int v_each, .long v_trace, .ref a_kept])), (a_hill, .inl (cyI, 46, .inl v_hill)), (a_now, .inl (cyI, 15, .inl v_now))]) (by decide) rfl rfl (Nat.le_of_ble_eq_true rfl) ?_
  intro p e s m below meth c A ls C0 _ hK hN hP hD hA hl
  obtain ⟨hx, hb, hr, hml, hown, hts, hlocks⟩ := id C0
  have f16 := hts (.fieldLink RX7 16 "LastOchreModel" "hill" "[I") (by decide +kernel)
  have f19 := hts (.fieldLink RX7 19 "LastOchreModel" "now" "[I") (by decide +kernel)
  have hS : va_S A s.heap s.heap [] := va_S.rf
  replace hl : lv_has ls 7 [(0, .ref a), (1, .int p0)] := hl
  unfold q_X7_now at h
  obtain ⟨n, h⟩ := h
  obtain ⟨ih16, ih48, ih70⟩ := w_X7_now (l := l) (e := e) (below := below) dC dI cyC cyI cyZ a a_text a_read a_hill a_now a_undone a_need a_cameOf a_places a_firstRow a_kept v_size v_at v_begin v_token v_told v_undos v_cames v_each v_trace v_hill v_now p0 Q C0 hK hN hA n
  unfold F_X7_now_e at h
  refine lv_aload_n hx hb dX7_now_0 rfl (lv_at hl 0 rfl) ?_
  refine gV_i0 (As := []) (rest := []) ⟨hx, hb, hml, hown, hts⟩ (c_X7_called l dC dI cyC cyI cyZ _ a a_text a_read a_hill a_now a_undone a_need a_cameOf a_places a_firstRow a_kept v_size v_at v_begin v_token v_told v_undos v_cames v_each v_trace v_hill v_now h) (cwV 0 hts gX7_now_X7_called rfl rfl rfl hdV_X7_called ⟨Nat.le_of_ble_eq_true rfl, Nat.le_of_ble_eq_true rfl⟩) hK hN hP hD hS hA [0, 1, 2] (by decide) rfl (ci := 7) rfl rfl rfl hl.1 rfl (Nat.le_of_ble_eq_true rfl) dX7_now_1 ⟨Nat.zero_le _, Nat.zero_le _⟩ (fun r_1 H locs h hP hS => ?_)
  refine lv_istore_n (lv' := [(2, .int r_1), (0, .ref a), (1, .int p0)]) hx hb dX7_now_4 rfl hl (by decide) rfl (fun ls hl => ?_)
  refine lv_iconst (v := 0) hx hb dX7_now_5 (by decide) ?_
  refine lv_istore_n (lv' := [(3, .int (0 : Int32)), (2, .int r_1), (0, .ref a), (1, .int p0)]) hx hb dX7_now_6 rfl hl (by decide) rfl (fun ls hl => ?_)
  refine lv_iconst (v := 0) hx hb dX7_now_7 (by decide) ?_
  refine lv_istore (lv' := [(4, .int (0 : Int32)), (3, .int (0 : Int32)), (2, .int r_1), (0, .ref a), (1, .int p0)]) hx hb dX7_now_8 hl (by decide) rfl (fun ls hl => ?_)
  refine lv_iconst (v := 0) hx hb dX7_now_10 (by decide) ?_
  refine lv_istore (lv' := [(5, .int (0 : Int32)), (4, .int (0 : Int32)), (3, .int (0 : Int32)), (2, .int r_1), (0, .ref a), (1, .int p0)]) hx hb dX7_now_11 hl (by decide) rfl (fun ls hl => ?_)
  refine lv_iconst (v := 0) hx hb dX7_now_13 (by decide) ?_
  refine lv_istore (lv' := [(6, .int (0 : Int32)), (5, .int (0 : Int32)), (4, .int (0 : Int32)), (3, .int (0 : Int32)), (2, .int r_1), (0, .ref a), (1, .int p0)]) hx hb dX7_now_14 hl (by decide) rfl (fun ls hl => ?_)
  exact ih16 r_1 (0 : Int32) (0 : Int32) (0 : Int32) (0 : Int32) 0 0 _ _ _ h hP hD hS (lv_sub hl [5, 6, 4, 3, 2, 1, 0] rfl)

def F_X7_lastsOf_e (v_now : Nat → Int32) (v_hill : Nat → Int32) (p0 : Int32) (Q : Int32 → Prop) (rec : Nat → Int32 → Prop)  : Prop :=
  rec 2 (0 : Int32)
def F_X7_lastsOf_2 (v_now : Nat → Int32) (v_hill : Nat → Int32) (p0 : Int32) (Q : Int32 → Prop) (rec : Nat → Int32 → Prop) (x2 : Int32) : Prop :=
  q_X7_isThen v_now v_hill p0 x2 (0 : Int32) (fun (r_1 : Int32) => (r_1 = 0 → (Q x2)) ∧ (¬ r_1 = 0 → (q_X7_fades v_hill p0 (fun (r_3 : Int32) => (¬ r_3 = 0 → (∀ x2_5 : Int32, x2_5 = (x2 + (1 : Int32)) → (rec 2 x2_5))) ∧ (r_3 = 0 → (Q (-9 : Int32)))))))
def wp_X7_lastsOf (v_now : Nat → Int32) (v_hill : Nat → Int32) (p0 : Int32) (Q : Int32 → Prop) : Nat → Nat → Int32 → Prop
  | 0 => fun _ _ => False
  | n + 1 => fun t x2 => if t = 2 then F_X7_lastsOf_2 v_now v_hill p0 Q (wp_X7_lastsOf v_now v_hill p0 Q n) x2 else False
def q_X7_lastsOf (v_now : Nat → Int32) (v_hill : Nat → Int32) (p0 : Int32) (Q : Int32 → Prop) : Prop := ∃ n, F_X7_lastsOf_e v_now v_hill p0 Q (wp_X7_lastsOf v_now v_hill p0 Q n) 
theorem hdV_X7_lastsOf : yX7_lastsOf.cls = RX7 ∧ yX7_lastsOf.cls ≠ "java/lang/invoke/MethodHandle" ∧ yX7_lastsOf.cls ≠ "java/lang/invoke/VarHandle" ∧ (parseMethodDescriptor yX7_lastsOf.desc).map (fun d => d.parameters.length) = some 1 := by decide +kernel
set_option maxHeartbeats 4000000 in
set_option maxRecDepth 100000 in
theorem w_X7_lastsOf {p : Program} {l : Launch} {e : Env} {s : State} {m : MethodId} {args : Array Value} {below : List Frame} {meth : Method} {c : Code} {A : Nat → Prop} (dC : Nat → ClassId) (dI : Nat → Nat → Nat) (cyC cyI cyZ : ClassId) (a a_text a_read a_hill a_now a_undone a_need a_cameOf a_places a_firstRow a_kept : Nat) (v_size : Int32) (v_at : Int32) (v_begin : Int32) (v_token : Int32) (v_told : Int32) (v_undos : Int32) (v_cames : Int32) (v_each : Int32) (v_trace : Int64) (v_now : Nat → Int32) (v_hill : Nat → Int32) (p0 : Int32) (Q : Int32 → Prop) (C0 : gAt cX7_lastsOf (some .int) 3 RX7 wsX7_lastsOf p s m meth c args) (hK : va_K (dC, dI) vwCl (gTy cyC cyI cyZ) s) (hN : nU s) (hA : ∀ q, s.heap.size ≤ q → A q) : ∀ n : Nat, (∀ (x2 : Int32) (H : Heap) (locs : List Loc) (ls : Array Slot), wp_X7_lastsOf v_now v_hill p0 Q n 2 x2 → va_P (dC, dI) vwCl [(a, .inr (7, [.ref a_text, .int v_size, .int v_at, .int v_begin, .int v_token, .int v_told, .ref a_read, .ref a_hill, .ref a_now, .ref a_undone, .int v_undos, .ref a_need, .int v_cames, .ref a_cameOf, .ref a_places, .ref a_firstRow, .int v_each, .long v_trace, .ref a_kept])), (a_now, .inl (cyI, 15, .inl v_now)), (a_hill, .inl (cyI, 46, .inl v_hill))] H → va_D A [(a, .inr (7, [.ref a_text, .int v_size, .int v_at, .int v_begin, .int v_token, .int v_told, .ref a_read, .ref a_hill, .ref a_now, .ref a_undone, .int v_undos, .ref a_need, .int v_cames, .ref a_cameOf, .ref a_places, .ref a_firstRow, .int v_each, .long v_trace, .ref a_kept])), (a_now, .inl (cyI, 15, .inl v_now)), (a_hill, .inl (cyI, 46, .inl v_hill))] → va_S A s.heap H locs → lv_has ls 3 [(0, .ref a), (1, .int p0), (2, .int x2)] → W p l e { frames := 2, cells := 0, slots := 0, locals := 46 } s m args below meth c H locs 0 0 (MQ below (gQi0 Q (dC, dI) A [(a, .inr (7, [.ref a_text, .int v_size, .int v_at, .int v_begin, .int v_token, .int v_told, .ref a_read, .ref a_hill, .ref a_now, .ref a_undone, .int v_undos, .ref a_need, .int v_cames, .ref a_cameOf, .ref a_places, .ref a_firstRow, .int v_each, .long v_trace, .ref a_kept])), (a_now, .inl (cyI, 15, .inl v_now)), (a_hill, .inl (cyI, 46, .inl v_hill))]) args s 0 0 A) (F0 m 2 ls [])) := by
  obtain ⟨hx, hb, hr, hml, hown, hts, hlocks⟩ := id C0
  intro n
  induction n with
  | zero => exact fun _ _ _ _ h => absurd h id
  | succ n ih =>
    have ih2 := ih
    · intro x2 H locs ls h hP hD hS hl
      replace h : F_X7_lastsOf_2 v_now v_hill p0 Q (wp_X7_lastsOf v_now v_hill p0 Q n) x2 := h
      unfold F_X7_lastsOf_2 at h
      refine lv_aload_n hx hb dX7_lastsOf_2 rfl (lv_at hl 0 rfl) ?_
      refine lv_iload_n hx hb dX7_lastsOf_3 rfl (lv_at hl 1 rfl) ?_
      refine lv_iload_n hx hb dX7_lastsOf_4 rfl (lv_at hl 2 rfl) ?_
      refine lv_iconst (v := 0) hx hb dX7_lastsOf_5 (by decide) ?_
      refine gV_i0 (As := [.int p0, .int x2, .int (0 : Int32)]) (rest := []) ⟨hx, hb, hml, hown, hts⟩ (c_X7_isThen l dC dI cyC cyI cyZ _ a a_text a_read a_hill a_now a_undone a_need a_cameOf a_places a_firstRow a_kept v_size v_at v_begin v_token v_told v_undos v_cames v_each v_trace v_now v_hill p0 x2 (0 : Int32) h) (cwV 3 hts gX7_lastsOf_X7_isThen rfl rfl rfl hdV_X7_isThen ⟨Nat.le_of_ble_eq_true rfl, Nat.le_of_ble_eq_true rfl⟩) hK hN hP hD hS hA [0, 1, 2] (by decide) rfl (ci := 7) rfl rfl rfl hl.1 rfl (Nat.le_of_ble_eq_true rfl) dX7_lastsOf_6 ⟨Nat.zero_le _, Nat.zero_le _⟩ (fun r_1 H locs h hP hS => ?_)
      refine lv_if_eq (tgt := 29) hx hb dX7_lastsOf_9 (by decide) (fun c_2 => ?_) (fun c_2 => ?_)
      · replace h := h.1 c_2
        refine lv_iload_n hx hb dX7_lastsOf_29 rfl (lv_at hl 2 rfl) ?_
        exact gri0 hx hb hr hlocks h hP hD hS dX7_lastsOf_30
      · replace h := h.2 c_2
        refine lv_aload_n hx hb dX7_lastsOf_12 rfl (lv_at hl 0 rfl) ?_
        refine lv_iload_n hx hb dX7_lastsOf_13 rfl (lv_at hl 1 rfl) ?_
        refine gV_i0 (As := [.int p0]) (rest := []) ⟨hx, hb, hml, hown, hts⟩ (c_X7_fades l dC dI cyC cyI cyZ _ a a_text a_read a_hill a_now a_undone a_need a_cameOf a_places a_firstRow a_kept v_size v_at v_begin v_token v_told v_undos v_cames v_each v_trace v_hill p0 h) (cwV 1 hts gX7_lastsOf_X7_fades rfl rfl rfl hdV_X7_fades ⟨Nat.le_of_ble_eq_true rfl, Nat.le_of_ble_eq_true rfl⟩) hK hN hP hD hS hA [0, 2] (by decide) rfl (ci := 7) rfl rfl rfl hl.1 rfl (Nat.le_of_ble_eq_true rfl) dX7_lastsOf_14 ⟨Nat.zero_le _, Nat.zero_le _⟩ (fun r_3 H locs h hP hS => ?_)
        refine lv_if_ne (tgt := 23) hx hb dX7_lastsOf_17 (by decide) (fun c_4 => ?_) (fun c_4 => ?_)
        · replace h := h.1 c_4
          obtain ⟨x2_5, e_6⟩ : ∃ y : Int32, y = (x2 + (1 : Int32)) := ⟨_, rfl⟩
          replace h := h x2_5 e_6
          refine lv_iinc (v := x2_5) (lv' := [(2, .int x2_5), (0, .ref a), (1, .int p0)]) hx hb dX7_lastsOf_23 hl (k := 2) rfl (by rw [e_6]; rfl) (by decide) rfl (fun ls hl => ?_)
          refine lv_goto (tgt := 2) hx hb dX7_lastsOf_26 (by decide) ?_
          exact ih2 x2_5 _ _ _ h hP hD hS (lv_sub hl [1, 2, 0] rfl)
        · replace h := h.2 c_4
          refine lv_bipush (v := -9) hx hb dX7_lastsOf_20 (by decide) ?_
          exact gri0 hx hb hr hlocks h hP hD hS dX7_lastsOf_22
set_option maxHeartbeats 4000000 in
set_option maxRecDepth 100000 in
theorem c_X7_lastsOf (l : Launch) (dC : Nat → ClassId) (dI : Nat → Nat → Nat) (cyC cyI cyZ : ClassId) (sz : Nat) (a a_text a_read a_hill a_now a_undone a_need a_cameOf a_places a_firstRow a_kept : Nat) (v_size : Int32) (v_at : Int32) (v_begin : Int32) (v_token : Int32) (v_told : Int32) (v_undos : Int32) (v_cames : Int32) (v_each : Int32) (v_trace : Int64) (v_now : Nat → Int32) (v_hill : Nat → Int32) (p0 : Int32) {Q : Int32 → Prop} (h : q_X7_lastsOf v_now v_hill p0 Q) : Met l yX7_lastsOf wsX7_lastsOf ({ frames := 2, cells := 0, slots := 0, locals := 46 }) (gPc [.ref a, .int p0] (dC, dI) (gTy cyC cyI cyZ) sz [(a, .inr (7, [.ref a_text, .int v_size, .int v_at, .int v_begin, .int v_token, .int v_told, .ref a_read, .ref a_hill, .ref a_now, .ref a_undone, .int v_undos, .ref a_need, .int v_cames, .ref a_cameOf, .ref a_places, .ref a_firstRow, .int v_each, .long v_trace, .ref a_kept])), (a_now, .inl (cyI, 15, .inl v_now)), (a_hill, .inl (cyI, 46, .inl v_hill))]) (gQi0 Q (dC, dI) (va_A [(a, .inr (7, [.ref a_text, .int v_size, .int v_at, .int v_begin, .int v_token, .int v_told, .ref a_read, .ref a_hill, .ref a_now, .ref a_undone, .int v_undos, .ref a_need, .int v_cames, .ref a_cameOf, .ref a_places, .ref a_firstRow, .int v_each, .long v_trace, .ref a_kept])), (a_now, .inl (cyI, 15, .inl v_now)), (a_hill, .inl (cyI, 46, .inl v_hill))] sz) [(a, .inr (7, [.ref a_text, .int v_size, .int v_at, .int v_begin, .int v_token, .int v_told, .ref a_read, .ref a_hill, .ref a_now, .ref a_undone, .int v_undos, .ref a_need, .int v_cames, .ref a_cameOf, .ref a_places, .ref a_firstRow, .int v_each, .long v_trace, .ref a_kept])), (a_now, .inl (cyI, 15, .inl v_now)), (a_hill, .inl (cyI, 46, .inl v_hill))]) 0 0 (va_A [(a, .inr (7, [.ref a_text, .int v_size, .int v_at, .int v_begin, .int v_token, .int v_told, .ref a_read, .ref a_hill, .ref a_now, .ref a_undone, .int v_undos, .ref a_need, .int v_cames, .ref a_cameOf, .ref a_places, .ref a_firstRow, .int v_each, .long v_trace, .ref a_kept])), (a_now, .inl (cyI, 15, .inl v_now)), (a_hill, .inl (cyI, 46, .inl v_hill))] sz) := by
  refine gMet (cc := cX7_lastsOf) (maxL := 3) (ret := (some .int)) (own := RX7) (fun A => gQi0 Q (dC, dI) A [(a, .inr (7, [.ref a_text, .int v_size, .int v_at, .int v_begin, .int v_token, .int v_told, .ref a_read, .ref a_hill, .ref a_now, .ref a_undone, .int v_undos, .ref a_need, .int v_cames, .ref a_cameOf, .ref a_places, .ref a_firstRow, .int v_each, .long v_trace, .ref a_kept])), (a_now, .inl (cyI, 15, .inl v_now)), (a_hill, .inl (cyI, 46, .inl v_hill))]) (by decide) rfl rfl (Nat.le_of_ble_eq_true rfl) ?_
  intro p e s m below meth c A ls C0 _ hK hN hP hD hA hl
  obtain ⟨hx, hb, hr, hml, hown, hts, hlocks⟩ := id C0
  have hS : va_S A s.heap s.heap [] := va_S.rf
  replace hl : lv_has ls 3 [(0, .ref a), (1, .int p0)] := hl
  unfold q_X7_lastsOf at h
  obtain ⟨n, h⟩ := h
  have ih2 := w_X7_lastsOf (l := l) (e := e) (below := below) dC dI cyC cyI cyZ a a_text a_read a_hill a_now a_undone a_need a_cameOf a_places a_firstRow a_kept v_size v_at v_begin v_token v_told v_undos v_cames v_each v_trace v_now v_hill p0 Q C0 hK hN hA n
  unfold F_X7_lastsOf_e at h
  refine lv_iconst (v := 0) hx hb dX7_lastsOf_0 (by decide) ?_
  refine lv_istore_n (lv' := [(2, .int (0 : Int32)), (0, .ref a), (1, .int p0)]) hx hb dX7_lastsOf_1 rfl hl (by decide) rfl (fun ls hl => ?_)
  exact ih2 (0 : Int32) _ _ _ h hP hD hS (lv_sub hl [1, 2, 0] rfl)

def F_X7_lasts_e (v_hill : Nat → Int32) (v_now : Nat → Int32) (p0 : Int32) (Q : Int32 → Prop)  : Prop :=
  q_X7_isThing v_hill p0 (fun (r_1 : Int32) => (r_1 = 0 → (Q (-1 : Int32))) ∧ (¬ r_1 = 0 → (q_X7_lastsOf v_now v_hill p0 (fun (r_3 : Int32) => Q r_3))))
def q_X7_lasts (v_hill : Nat → Int32) (v_now : Nat → Int32) (p0 : Int32) (Q : Int32 → Prop) : Prop := F_X7_lasts_e v_hill v_now p0 Q 
theorem hdV_X7_lasts : yX7_lasts.cls = RX7 ∧ yX7_lasts.cls ≠ "java/lang/invoke/MethodHandle" ∧ yX7_lasts.cls ≠ "java/lang/invoke/VarHandle" ∧ (parseMethodDescriptor yX7_lasts.desc).map (fun d => d.parameters.length) = some 1 := by decide +kernel
set_option maxHeartbeats 4000000 in
set_option maxRecDepth 100000 in
theorem c_X7_lasts (l : Launch) (dC : Nat → ClassId) (dI : Nat → Nat → Nat) (cyC cyI cyZ : ClassId) (sz : Nat) (a a_text a_read a_hill a_now a_undone a_need a_cameOf a_places a_firstRow a_kept : Nat) (v_size : Int32) (v_at : Int32) (v_begin : Int32) (v_token : Int32) (v_told : Int32) (v_undos : Int32) (v_cames : Int32) (v_each : Int32) (v_trace : Int64) (v_hill : Nat → Int32) (v_now : Nat → Int32) (p0 : Int32) {Q : Int32 → Prop} (h : q_X7_lasts v_hill v_now p0 Q) : Met l yX7_lasts wsX7_lasts ({ frames := 3, cells := 0, slots := 0, locals := 68 }) (gPc [.ref a, .int p0] (dC, dI) (gTy cyC cyI cyZ) sz [(a, .inr (7, [.ref a_text, .int v_size, .int v_at, .int v_begin, .int v_token, .int v_told, .ref a_read, .ref a_hill, .ref a_now, .ref a_undone, .int v_undos, .ref a_need, .int v_cames, .ref a_cameOf, .ref a_places, .ref a_firstRow, .int v_each, .long v_trace, .ref a_kept])), (a_hill, .inl (cyI, 46, .inl v_hill)), (a_now, .inl (cyI, 15, .inl v_now))]) (gQi0 Q (dC, dI) (va_A [(a, .inr (7, [.ref a_text, .int v_size, .int v_at, .int v_begin, .int v_token, .int v_told, .ref a_read, .ref a_hill, .ref a_now, .ref a_undone, .int v_undos, .ref a_need, .int v_cames, .ref a_cameOf, .ref a_places, .ref a_firstRow, .int v_each, .long v_trace, .ref a_kept])), (a_hill, .inl (cyI, 46, .inl v_hill)), (a_now, .inl (cyI, 15, .inl v_now))] sz) [(a, .inr (7, [.ref a_text, .int v_size, .int v_at, .int v_begin, .int v_token, .int v_told, .ref a_read, .ref a_hill, .ref a_now, .ref a_undone, .int v_undos, .ref a_need, .int v_cames, .ref a_cameOf, .ref a_places, .ref a_firstRow, .int v_each, .long v_trace, .ref a_kept])), (a_hill, .inl (cyI, 46, .inl v_hill)), (a_now, .inl (cyI, 15, .inl v_now))]) 0 0 (va_A [(a, .inr (7, [.ref a_text, .int v_size, .int v_at, .int v_begin, .int v_token, .int v_told, .ref a_read, .ref a_hill, .ref a_now, .ref a_undone, .int v_undos, .ref a_need, .int v_cames, .ref a_cameOf, .ref a_places, .ref a_firstRow, .int v_each, .long v_trace, .ref a_kept])), (a_hill, .inl (cyI, 46, .inl v_hill)), (a_now, .inl (cyI, 15, .inl v_now))] sz) := by
  refine gMet (cc := cX7_lasts) (maxL := 2) (ret := (some .int)) (own := RX7) (fun A => gQi0 Q (dC, dI) A [(a, .inr (7, [.ref a_text, .int v_size, .int v_at, .int v_begin, .int v_token, .int v_told, .ref a_read, .ref a_hill, .ref a_now, .ref a_undone, .int v_undos, .ref a_need, .int v_cames, .ref a_cameOf, .ref a_places, .ref a_firstRow, .int v_each, .long v_trace, .ref a_kept])), (a_hill, .inl (cyI, 46, .inl v_hill)), (a_now, .inl (cyI, 15, .inl v_now))]) (by decide) rfl rfl (Nat.le_of_ble_eq_true rfl) ?_
  intro p e s m below meth c A ls C0 _ hK hN hP hD hA hl
  obtain ⟨hx, hb, hr, hml, hown, hts, hlocks⟩ := id C0
  have hS : va_S A s.heap s.heap [] := va_S.rf
  replace hl : lv_has ls 2 [(0, .ref a), (1, .int p0)] := hl
  unfold q_X7_lasts at h
  unfold F_X7_lasts_e at h
  refine lv_aload_n hx hb dX7_lasts_0 rfl (lv_at hl 0 rfl) ?_
  refine lv_iload_n hx hb dX7_lasts_1 rfl (lv_at hl 1 rfl) ?_
  refine gV_i0 (As := [.int p0]) (rest := []) ⟨hx, hb, hml, hown, hts⟩ (c_X7_isThing l dC dI cyC cyI cyZ _ a a_text a_read a_hill a_now a_undone a_need a_cameOf a_places a_firstRow a_kept v_size v_at v_begin v_token v_told v_undos v_cames v_each v_trace v_hill p0 h) (cwV 1 hts gX7_lasts_X7_isThing rfl rfl rfl hdV_X7_isThing ⟨Nat.le_of_ble_eq_true rfl, Nat.le_of_ble_eq_true rfl⟩) hK hN hP hD hS hA [0, 1] (by decide) rfl (ci := 7) rfl rfl rfl hl.1 rfl (Nat.le_of_ble_eq_true rfl) dX7_lasts_2 ⟨Nat.zero_le _, Nat.zero_le _⟩ (fun r_1 H locs h hP hS => ?_)
  refine lv_if_eq (tgt := 16) hx hb dX7_lasts_5 (by decide) (fun c_2 => ?_) (fun c_2 => ?_)
  · replace h := h.1 c_2
    refine lv_iconst (v := -1) hx hb dX7_lasts_16 (by decide) ?_
    exact gri0 hx hb hr hlocks h hP hD hS dX7_lasts_17
  · replace h := h.2 c_2
    refine lv_aload_n hx hb dX7_lasts_8 rfl (lv_at hl 0 rfl) ?_
    refine lv_iload_n hx hb dX7_lasts_9 rfl (lv_at hl 1 rfl) ?_
    refine gV_i0 (As := [.int p0]) (rest := []) ⟨hx, hb, hml, hown, hts⟩ (c_X7_lastsOf l dC dI cyC cyI cyZ _ a a_text a_read a_hill a_now a_undone a_need a_cameOf a_places a_firstRow a_kept v_size v_at v_begin v_token v_told v_undos v_cames v_each v_trace v_now v_hill p0 h) (cwV 1 hts gX7_lasts_X7_lastsOf rfl rfl rfl hdV_X7_lastsOf ⟨Nat.le_of_ble_eq_true rfl, Nat.le_of_ble_eq_true rfl⟩) hK hN hP hD hS hA [0, 2, 1] (by decide) rfl (ci := 7) rfl rfl rfl hl.1 rfl (Nat.le_of_ble_eq_true rfl) dX7_lasts_10 ⟨Nat.zero_le _, Nat.zero_le _⟩ (fun r_3 H locs h hP hS => ?_)
    refine lv_goto (tgt := 17) hx hb dX7_lasts_13 (by decide) ?_
    exact gri0 hx hb hr hlocks h hP hD hS dX7_lasts_17

def F_X7_first_e (v_hill : Nat → Int32) (v_now : Nat → Int32) (Q : Int32 → Prop) (rec : Nat → Int32 → Int32 → Prop)  : Prop :=
  rec 5 (-9 : Int32) (0 : Int32)
def F_X7_first_5 (v_hill : Nat → Int32) (v_now : Nat → Int32) (Q : Int32 → Prop) (rec : Nat → Int32 → Int32 → Prop) (x1 : Int32) (x2 : Int32) : Prop :=
  ((v_hill ((2 : Int32)).toNatClampNeg) ≤ x2 → (Q x1)) ∧ (¬ (v_hill ((2 : Int32)).toNatClampNeg) ≤ x2 → (q_X7_lastsOf v_now v_hill x2 (fun (r_2 : Int32) => (r_2 ≤ 0 → (∀ x2_4 : Int32, x2_4 = (x2 + (1 : Int32)) → (rec 5 x1 x2_4))) ∧ (¬ r_2 ≤ 0 → ((x1 = (-9 : Int32) → (∀ x2_7 : Int32, x2_7 = (x2 + (1 : Int32)) → (rec 5 x2 x2_7))) ∧ (¬ x1 = (-9 : Int32) → (q_X7_lastsOf v_now v_hill x1 (fun (r_9 : Int32) => (r_9 ≤ r_2 → (∀ x2_11 : Int32, x2_11 = (x2 + (1 : Int32)) → (rec 5 x1 x2_11))) ∧ (¬ r_9 ≤ r_2 → (∀ x2_13 : Int32, x2_13 = (x2 + (1 : Int32)) → (rec 5 x2 x2_13)))))))))))
def wp_X7_first (v_hill : Nat → Int32) (v_now : Nat → Int32) (Q : Int32 → Prop) : Nat → Nat → Int32 → Int32 → Prop
  | 0 => fun _ _ _ => False
  | n + 1 => fun t x1 x2 => if t = 5 then F_X7_first_5 v_hill v_now Q (wp_X7_first v_hill v_now Q n) x1 x2 else False
def q_X7_first (v_hill : Nat → Int32) (v_now : Nat → Int32) (Q : Int32 → Prop) : Prop := ∃ n, F_X7_first_e v_hill v_now Q (wp_X7_first v_hill v_now Q n) 
theorem iwX7_first_X7 : ∀ w ∈ wsX70, w ∈ wsX7_first := by decide +kernel
theorem hdV_X7_first : yX7_first.cls = RX7 ∧ yX7_first.cls ≠ "java/lang/invoke/MethodHandle" ∧ yX7_first.cls ≠ "java/lang/invoke/VarHandle" ∧ (parseMethodDescriptor yX7_first.desc).map (fun d => d.parameters.length) = some 0 := by decide +kernel
set_option maxHeartbeats 4000000 in
set_option maxRecDepth 100000 in
theorem w_X7_first {p : Program} {l : Launch} {e : Env} {s : State} {m : MethodId} {args : Array Value} {below : List Frame} {meth : Method} {c : Code} {A : Nat → Prop} (dC : Nat → ClassId) (dI : Nat → Nat → Nat) (cyC cyI cyZ : ClassId) (a a_text a_read a_hill a_now a_undone a_need a_cameOf a_places a_firstRow a_kept : Nat) (v_size : Int32) (v_at : Int32) (v_begin : Int32) (v_token : Int32) (v_told : Int32) (v_undos : Int32) (v_cames : Int32) (v_each : Int32) (v_trace : Int64) (v_hill : Nat → Int32) (v_now : Nat → Int32) (Q : Int32 → Prop) (C0 : gAt cX7_first (some .int) 4 RX7 wsX7_first p s m meth c args) (hK : va_K (dC, dI) vwCl (gTy cyC cyI cyZ) s) (hN : nU s) (hA : ∀ q, s.heap.size ≤ q → A q) : ∀ n : Nat, (∀ (x1 : Int32) (x2 : Int32) (H : Heap) (locs : List Loc) (ls : Array Slot), wp_X7_first v_hill v_now Q n 5 x1 x2 → va_P (dC, dI) vwCl [(a, .inr (7, [.ref a_text, .int v_size, .int v_at, .int v_begin, .int v_token, .int v_told, .ref a_read, .ref a_hill, .ref a_now, .ref a_undone, .int v_undos, .ref a_need, .int v_cames, .ref a_cameOf, .ref a_places, .ref a_firstRow, .int v_each, .long v_trace, .ref a_kept])), (a_hill, .inl (cyI, 46, .inl v_hill)), (a_now, .inl (cyI, 15, .inl v_now))] H → va_D A [(a, .inr (7, [.ref a_text, .int v_size, .int v_at, .int v_begin, .int v_token, .int v_told, .ref a_read, .ref a_hill, .ref a_now, .ref a_undone, .int v_undos, .ref a_need, .int v_cames, .ref a_cameOf, .ref a_places, .ref a_firstRow, .int v_each, .long v_trace, .ref a_kept])), (a_hill, .inl (cyI, 46, .inl v_hill)), (a_now, .inl (cyI, 15, .inl v_now))] → va_S A s.heap H locs → lv_has ls 4 [(0, .ref a), (1, .int x1), (2, .int x2)] → W p l e { frames := 3, cells := 0, slots := 0, locals := 68 } s m args below meth c H locs 0 0 (MQ below (gQi0 Q (dC, dI) A [(a, .inr (7, [.ref a_text, .int v_size, .int v_at, .int v_begin, .int v_token, .int v_told, .ref a_read, .ref a_hill, .ref a_now, .ref a_undone, .int v_undos, .ref a_need, .int v_cames, .ref a_cameOf, .ref a_places, .ref a_firstRow, .int v_each, .long v_trace, .ref a_kept])), (a_hill, .inl (cyI, 46, .inl v_hill)), (a_now, .inl (cyI, 15, .inl v_now))]) args s 0 0 A) (F0 m 5 ls [])) := by
  obtain ⟨hx, hb, hr, hml, hown, hts, hlocks⟩ := id C0
  have f16 := hts (.fieldLink RX7 16 "LastOchreModel" "hill" "[I") (by decide +kernel)
  intro n
  induction n with
  | zero => exact fun _ _ _ _ _ h => absurd h id
  | succ n ih =>
    have ih5 := ih
    · intro x1 x2 H locs ls h hP hD hS hl
      replace h : F_X7_first_5 v_hill v_now Q (wp_X7_first v_hill v_now Q n) x1 x2 := h
      unfold F_X7_first_5 at h
      refine lv_iload_n hx hb dX7_first_5 rfl (lv_at hl 2 rfl) ?_
      refine lv_aload_n hx hb dX7_first_6 rfl (lv_at hl 0 rfl) ?_
      refine va_get (D := (dC, dI)) (ci := 7) (v := .ref a_hill) (C := RX7) (T := TX7) (N := 19) hx hb hts iwX7_first_X7 hown hK hP 0 rfl rfl 7 (by decide) f16 (fun _ h9 => h9) rfl dX7_first_7 ?_
      refine lv_iconst (v := 2) hx hb dX7_first_10 (by decide) ?_
      refine va_iald hx hb hK hP 1 0 rfl rfl (by unfold vp_in; decide) dX7_first_11 ?_
      refine lv_icmp_ge (tgt := 52) hx hb dX7_first_12 (by decide) (fun c_1 => ?_) (fun c_1 => ?_)
      · replace h := h.1 c_1
        refine lv_iload_n hx hb dX7_first_52 rfl (lv_at hl 1 rfl) ?_
        exact gri0 hx hb hr hlocks h hP hD hS dX7_first_53
      · replace h := h.2 c_1
        refine lv_aload_n hx hb dX7_first_15 rfl (lv_at hl 0 rfl) ?_
        refine lv_iload_n hx hb dX7_first_16 rfl (lv_at hl 2 rfl) ?_
        refine gV_i0 (As := [.int x2]) (rest := []) ⟨hx, hb, hml, hown, hts⟩ (c_X7_lastsOf l dC dI cyC cyI cyZ _ a a_text a_read a_hill a_now a_undone a_need a_cameOf a_places a_firstRow a_kept v_size v_at v_begin v_token v_told v_undos v_cames v_each v_trace v_now v_hill x2 h) (cwV 1 hts gX7_first_X7_lastsOf rfl rfl rfl hdV_X7_lastsOf ⟨Nat.le_of_ble_eq_true rfl, Nat.le_of_ble_eq_true rfl⟩) hK hN hP hD hS hA [0, 2, 1] (by decide) rfl (ci := 7) rfl rfl rfl hl.1 rfl (Nat.le_of_ble_eq_true rfl) dX7_first_17 ⟨Nat.zero_le _, Nat.zero_le _⟩ (fun r_2 H locs h hP hS => ?_)
        refine lv_istore_n (lv' := [(3, .int r_2), (0, .ref a), (1, .int x1), (2, .int x2)]) hx hb dX7_first_20 rfl hl (by decide) rfl (fun ls hl => ?_)
        refine lv_iload_n hx hb dX7_first_21 rfl (lv_at hl 0 rfl) ?_
        refine lv_if_le (tgt := 44) hx hb dX7_first_22 (by decide) (fun c_3 => ?_) (fun c_3 => ?_)
        · replace h := h.1 c_3
          refine lv_iload_n hx hb dX7_first_44 rfl (lv_at hl 2 rfl) ?_
          refine lv_istore_n (lv' := [(1, .int x1), (3, .int r_2), (0, .ref a), (2, .int x2)]) hx hb dX7_first_45 rfl hl (by decide) rfl (fun ls hl => ?_)
          obtain ⟨x2_4, e_5⟩ : ∃ y : Int32, y = (x2 + (1 : Int32)) := ⟨_, rfl⟩
          replace h := h x2_4 e_5
          refine lv_iinc (v := x2_4) (lv' := [(2, .int x2_4), (1, .int x1), (3, .int r_2), (0, .ref a)]) hx hb dX7_first_46 hl (k := 3) rfl (by rw [e_5]; rfl) (by decide) rfl (fun ls hl => ?_)
          refine lv_goto (tgt := 5) hx hb dX7_first_49 (by decide) ?_
          exact ih5 x1 x2_4 _ _ _ h hP hD hS (lv_sub hl [3, 1, 0] rfl)
        · replace h := h.2 c_3
          refine lv_iload_n hx hb dX7_first_25 rfl (lv_at hl 2 rfl) ?_
          refine lv_bipush (v := -9) hx hb dX7_first_26 (by decide) ?_
          refine lv_icmp_eq (tgt := 40) hx hb dX7_first_28 (by decide) (fun c_6 => ?_) (fun c_6 => ?_)
          · replace h := h.1 c_6
            refine lv_iload_n hx hb dX7_first_40 rfl (lv_at hl 3 rfl) ?_
            refine lv_goto (tgt := 45) hx hb dX7_first_41 (by decide) ?_
            refine lv_istore_n (lv' := [(1, .int x2), (3, .int r_2), (0, .ref a), (2, .int x2)]) hx hb dX7_first_45 rfl hl (by decide) rfl (fun ls hl => ?_)
            obtain ⟨x2_7, e_8⟩ : ∃ y : Int32, y = (x2 + (1 : Int32)) := ⟨_, rfl⟩
            replace h := h x2_7 e_8
            refine lv_iinc (v := x2_7) (lv' := [(2, .int x2_7), (1, .int x2), (3, .int r_2), (0, .ref a)]) hx hb dX7_first_46 hl (k := 3) rfl (by rw [e_8]; rfl) (by decide) rfl (fun ls hl => ?_)
            refine lv_goto (tgt := 5) hx hb dX7_first_49 (by decide) ?_
            exact ih5 x2 x2_7 _ _ _ h hP hD hS (lv_sub hl [3, 1, 0] rfl)
          · replace h := h.2 c_6
            refine lv_iload_n hx hb dX7_first_31 rfl (lv_at hl 0 rfl) ?_
            refine lv_aload_n hx hb dX7_first_32 rfl (lv_at hl 1 rfl) ?_
            refine lv_iload_n hx hb dX7_first_33 rfl (lv_at hl 2 rfl) ?_
            refine gV_i0 (As := [.int x1]) (rest := [.int r_2]) ⟨hx, hb, hml, hown, hts⟩ (c_X7_lastsOf l dC dI cyC cyI cyZ _ a a_text a_read a_hill a_now a_undone a_need a_cameOf a_places a_firstRow a_kept v_size v_at v_begin v_token v_told v_undos v_cames v_each v_trace v_now v_hill x1 h) (cwV 1 hts gX7_first_X7_lastsOf rfl rfl rfl hdV_X7_lastsOf ⟨Nat.le_of_ble_eq_true rfl, Nat.le_of_ble_eq_true rfl⟩) hK hN hP hD hS hA [0, 2, 1] (by decide) rfl (ci := 7) rfl rfl rfl hl.1 rfl (Nat.le_of_ble_eq_true rfl) dX7_first_34 ⟨Nat.zero_le _, Nat.zero_le _⟩ (fun r_9 H locs h hP hS => ?_)
            refine lv_icmp_ge (tgt := 44) hx hb dX7_first_37 (by decide) (fun c_10 => ?_) (fun c_10 => ?_)
            · replace h := h.1 c_10
              refine lv_iload_n hx hb dX7_first_44 rfl (lv_at hl 2 rfl) ?_
              refine lv_istore_n (lv' := [(1, .int x1), (3, .int r_2), (0, .ref a), (2, .int x2)]) hx hb dX7_first_45 rfl hl (by decide) rfl (fun ls hl => ?_)
              obtain ⟨x2_11, e_12⟩ : ∃ y : Int32, y = (x2 + (1 : Int32)) := ⟨_, rfl⟩
              replace h := h x2_11 e_12
              refine lv_iinc (v := x2_11) (lv' := [(2, .int x2_11), (1, .int x1), (3, .int r_2), (0, .ref a)]) hx hb dX7_first_46 hl (k := 3) rfl (by rw [e_12]; rfl) (by decide) rfl (fun ls hl => ?_)
              refine lv_goto (tgt := 5) hx hb dX7_first_49 (by decide) ?_
              exact ih5 x1 x2_11 _ _ _ h hP hD hS (lv_sub hl [3, 1, 0] rfl)
            · replace h := h.2 c_10
              refine lv_iload_n hx hb dX7_first_40 rfl (lv_at hl 3 rfl) ?_
              refine lv_goto (tgt := 45) hx hb dX7_first_41 (by decide) ?_
              refine lv_istore_n (lv' := [(1, .int x2), (3, .int r_2), (0, .ref a), (2, .int x2)]) hx hb dX7_first_45 rfl hl (by decide) rfl (fun ls hl => ?_)
              obtain ⟨x2_13, e_14⟩ : ∃ y : Int32, y = (x2 + (1 : Int32)) := ⟨_, rfl⟩
              replace h := h x2_13 e_14
              refine lv_iinc (v := x2_13) (lv' := [(2, .int x2_13), (1, .int x2), (3, .int r_2), (0, .ref a)]) hx hb dX7_first_46 hl (k := 3) rfl (by rw [e_14]; rfl) (by decide) rfl (fun ls hl => ?_)
              refine lv_goto (tgt := 5) hx hb dX7_first_49 (by decide) ?_
              exact ih5 x2 x2_13 _ _ _ h hP hD hS (lv_sub hl [3, 1, 0] rfl)
set_option maxHeartbeats 4000000 in
set_option maxRecDepth 100000 in
theorem c_X7_first (l : Launch) (dC : Nat → ClassId) (dI : Nat → Nat → Nat) (cyC cyI cyZ : ClassId) (sz : Nat) (a a_text a_read a_hill a_now a_undone a_need a_cameOf a_places a_firstRow a_kept : Nat) (v_size : Int32) (v_at : Int32) (v_begin : Int32) (v_token : Int32) (v_told : Int32) (v_undos : Int32) (v_cames : Int32) (v_each : Int32) (v_trace : Int64) (v_hill : Nat → Int32) (v_now : Nat → Int32) {Q : Int32 → Prop} (h : q_X7_first v_hill v_now Q) : Met l yX7_first wsX7_first ({ frames := 3, cells := 0, slots := 0, locals := 68 }) (gPc [.ref a] (dC, dI) (gTy cyC cyI cyZ) sz [(a, .inr (7, [.ref a_text, .int v_size, .int v_at, .int v_begin, .int v_token, .int v_told, .ref a_read, .ref a_hill, .ref a_now, .ref a_undone, .int v_undos, .ref a_need, .int v_cames, .ref a_cameOf, .ref a_places, .ref a_firstRow, .int v_each, .long v_trace, .ref a_kept])), (a_hill, .inl (cyI, 46, .inl v_hill)), (a_now, .inl (cyI, 15, .inl v_now))]) (gQi0 Q (dC, dI) (va_A [(a, .inr (7, [.ref a_text, .int v_size, .int v_at, .int v_begin, .int v_token, .int v_told, .ref a_read, .ref a_hill, .ref a_now, .ref a_undone, .int v_undos, .ref a_need, .int v_cames, .ref a_cameOf, .ref a_places, .ref a_firstRow, .int v_each, .long v_trace, .ref a_kept])), (a_hill, .inl (cyI, 46, .inl v_hill)), (a_now, .inl (cyI, 15, .inl v_now))] sz) [(a, .inr (7, [.ref a_text, .int v_size, .int v_at, .int v_begin, .int v_token, .int v_told, .ref a_read, .ref a_hill, .ref a_now, .ref a_undone, .int v_undos, .ref a_need, .int v_cames, .ref a_cameOf, .ref a_places, .ref a_firstRow, .int v_each, .long v_trace, .ref a_kept])), (a_hill, .inl (cyI, 46, .inl v_hill)), (a_now, .inl (cyI, 15, .inl v_now))]) 0 0 (va_A [(a, .inr (7, [.ref a_text, .int v_size, .int v_at, .int v_begin, .int v_token, .int v_told, .ref a_read, .ref a_hill, .ref a_now, .ref a_undone, .int v_undos, .ref a_need, .int v_cames, .ref a_cameOf, .ref a_places, .ref a_firstRow, .int v_each, .long v_trace, .ref a_kept])), (a_hill, .inl (cyI, 46, .inl v_hill)), (a_now, .inl (cyI, 15, .inl v_now))] sz) := by
  refine gMet (cc := cX7_first) (maxL := 4) (ret := (some .int)) (own := RX7) (fun A => gQi0 Q (dC, dI) A [(a, .inr (7, [.ref a_text, .int v_size, .int v_at, .int v_begin, .int v_token, .int v_told, .ref a_read, .ref a_hill, .ref a_now, .ref a_undone, .int v_undos, .ref a_need, .int v_cames, .ref a_cameOf, .ref a_places, .ref a_firstRow, .int v_each, .long v_trace, .ref a_kept])), (a_hill, .inl (cyI, 46, .inl v_hill)), (a_now, .inl (cyI, 15, .inl v_now))]) (by decide) rfl rfl (Nat.le_of_ble_eq_true rfl) ?_
  intro p e s m below meth c A ls C0 _ hK hN hP hD hA hl
  obtain ⟨hx, hb, hr, hml, hown, hts, hlocks⟩ := id C0
  have f16 := hts (.fieldLink RX7 16 "LastOchreModel" "hill" "[I") (by decide +kernel)
  have hS : va_S A s.heap s.heap [] := va_S.rf
  replace hl : lv_has ls 4 [(0, .ref a)] := hl
  unfold q_X7_first at h
  obtain ⟨n, h⟩ := h
  have ih5 := w_X7_first (l := l) (e := e) (below := below) dC dI cyC cyI cyZ a a_text a_read a_hill a_now a_undone a_need a_cameOf a_places a_firstRow a_kept v_size v_at v_begin v_token v_told v_undos v_cames v_each v_trace v_hill v_now Q C0 hK hN hA n
  unfold F_X7_first_e at h
  refine lv_bipush (v := -9) hx hb dX7_first_0 (by decide) ?_
  refine lv_istore_n (lv' := [(1, .int (-9 : Int32)), (0, .ref a)]) hx hb dX7_first_2 rfl hl (by decide) rfl (fun ls hl => ?_)
  refine lv_iconst (v := 0) hx hb dX7_first_3 (by decide) ?_
  refine lv_istore_n (lv' := [(2, .int (0 : Int32)), (1, .int (-9 : Int32)), (0, .ref a)]) hx hb dX7_first_4 rfl hl (by decide) rfl (fun ls hl => ?_)
  exact ih5 (-9 : Int32) (0 : Int32) _ _ _ h hP hD hS (lv_sub hl [2, 1, 0] rfl)

def F_X7_needsOf_e (v_now : Nat → Int32) (v_hill : Nat → Int32) (p0 : Int32) (p1 : Int32) (Q : Int32 → Prop) (rec : Nat → Int32 → Prop)  : Prop :=
  rec 2 (0 : Int32)
def F_X7_needsOf_2 (v_now : Nat → Int32) (v_hill : Nat → Int32) (p0 : Int32) (p1 : Int32) (Q : Int32 → Prop) (rec : Nat → Int32 → Prop) (x3 : Int32) : Prop :=
  q_X7_yellow v_now p0 (fun (r_1 : Int32) => ((1000 : Int32) ≤ (r_1 + x3) → (Q (-9 : Int32))) ∧ (¬ (1000 : Int32) ≤ (r_1 + x3) → (q_X7_isThen v_now v_hill p0 p1 x3 (fun (r_3 : Int32) => (r_3 = 0 → (∀ x3_5 : Int32, x3_5 = (x3 + (1 : Int32)) → (rec 2 x3_5))) ∧ (¬ r_3 = 0 → (Q x3))))))
def wp_X7_needsOf (v_now : Nat → Int32) (v_hill : Nat → Int32) (p0 : Int32) (p1 : Int32) (Q : Int32 → Prop) : Nat → Nat → Int32 → Prop
  | 0 => fun _ _ => False
  | n + 1 => fun t x3 => if t = 2 then F_X7_needsOf_2 v_now v_hill p0 p1 Q (wp_X7_needsOf v_now v_hill p0 p1 Q n) x3 else False
def q_X7_needsOf (v_now : Nat → Int32) (v_hill : Nat → Int32) (p0 : Int32) (p1 : Int32) (Q : Int32 → Prop) : Prop := ∃ n, F_X7_needsOf_e v_now v_hill p0 p1 Q (wp_X7_needsOf v_now v_hill p0 p1 Q n) 
theorem hdV_X7_needsOf : yX7_needsOf.cls = RX7 ∧ yX7_needsOf.cls ≠ "java/lang/invoke/MethodHandle" ∧ yX7_needsOf.cls ≠ "java/lang/invoke/VarHandle" ∧ (parseMethodDescriptor yX7_needsOf.desc).map (fun d => d.parameters.length) = some 2 := by decide +kernel
set_option maxHeartbeats 4000000 in
set_option maxRecDepth 100000 in
theorem w_X7_needsOf {p : Program} {l : Launch} {e : Env} {s : State} {m : MethodId} {args : Array Value} {below : List Frame} {meth : Method} {c : Code} {A : Nat → Prop} (dC : Nat → ClassId) (dI : Nat → Nat → Nat) (cyC cyI cyZ : ClassId) (a a_text a_read a_hill a_now a_undone a_need a_cameOf a_places a_firstRow a_kept : Nat) (v_size : Int32) (v_at : Int32) (v_begin : Int32) (v_token : Int32) (v_told : Int32) (v_undos : Int32) (v_cames : Int32) (v_each : Int32) (v_trace : Int64) (v_now : Nat → Int32) (v_hill : Nat → Int32) (p0 : Int32) (p1 : Int32) (Q : Int32 → Prop) (C0 : gAt cX7_needsOf (some .int) 4 RX7 wsX7_needsOf p s m meth c args) (hK : va_K (dC, dI) vwCl (gTy cyC cyI cyZ) s) (hN : nU s) (hA : ∀ q, s.heap.size ≤ q → A q) : ∀ n : Nat, (∀ (x3 : Int32) (H : Heap) (locs : List Loc) (ls : Array Slot), wp_X7_needsOf v_now v_hill p0 p1 Q n 2 x3 → va_P (dC, dI) vwCl [(a, .inr (7, [.ref a_text, .int v_size, .int v_at, .int v_begin, .int v_token, .int v_told, .ref a_read, .ref a_hill, .ref a_now, .ref a_undone, .int v_undos, .ref a_need, .int v_cames, .ref a_cameOf, .ref a_places, .ref a_firstRow, .int v_each, .long v_trace, .ref a_kept])), (a_now, .inl (cyI, 15, .inl v_now)), (a_hill, .inl (cyI, 46, .inl v_hill))] H → va_D A [(a, .inr (7, [.ref a_text, .int v_size, .int v_at, .int v_begin, .int v_token, .int v_told, .ref a_read, .ref a_hill, .ref a_now, .ref a_undone, .int v_undos, .ref a_need, .int v_cames, .ref a_cameOf, .ref a_places, .ref a_firstRow, .int v_each, .long v_trace, .ref a_kept])), (a_now, .inl (cyI, 15, .inl v_now)), (a_hill, .inl (cyI, 46, .inl v_hill))] → va_S A s.heap H locs → lv_has ls 4 [(0, .ref a), (1, .int p0), (2, .int p1), (3, .int x3)] → W p l e { frames := 2, cells := 0, slots := 0, locals := 46 } s m args below meth c H locs 0 0 (MQ below (gQi0 Q (dC, dI) A [(a, .inr (7, [.ref a_text, .int v_size, .int v_at, .int v_begin, .int v_token, .int v_told, .ref a_read, .ref a_hill, .ref a_now, .ref a_undone, .int v_undos, .ref a_need, .int v_cames, .ref a_cameOf, .ref a_places, .ref a_firstRow, .int v_each, .long v_trace, .ref a_kept])), (a_now, .inl (cyI, 15, .inl v_now)), (a_hill, .inl (cyI, 46, .inl v_hill))]) args s 0 0 A) (F0 m 2 ls [])) := by
  obtain ⟨hx, hb, hr, hml, hown, hts, hlocks⟩ := id C0
  intro n
  induction n with
  | zero => exact fun _ _ _ _ h => absurd h id
  | succ n ih =>
    have ih2 := ih
    · intro x3 H locs ls h hP hD hS hl
      replace h : F_X7_needsOf_2 v_now v_hill p0 p1 Q (wp_X7_needsOf v_now v_hill p0 p1 Q n) x3 := h
      unfold F_X7_needsOf_2 at h
      refine lv_aload_n hx hb dX7_needsOf_2 rfl (lv_at hl 0 rfl) ?_
      refine lv_iload_n hx hb dX7_needsOf_3 rfl (lv_at hl 1 rfl) ?_
      refine gV_i0 (As := [.int p0]) (rest := []) ⟨hx, hb, hml, hown, hts⟩ (c_X7_yellow l dC dI cyC cyI cyZ _ a a_text a_read a_hill a_now a_undone a_need a_cameOf a_places a_firstRow a_kept v_size v_at v_begin v_token v_told v_undos v_cames v_each v_trace v_now p0 h) (cwV 1 hts gX7_needsOf_X7_yellow rfl rfl rfl hdV_X7_yellow ⟨Nat.le_of_ble_eq_true rfl, Nat.le_of_ble_eq_true rfl⟩) hK hN hP hD hS hA [0, 1] (by decide) rfl (ci := 7) rfl rfl rfl hl.1 rfl (Nat.le_of_ble_eq_true rfl) dX7_needsOf_4 ⟨Nat.zero_le _, Nat.zero_le _⟩ (fun r_1 H locs h hP hS => ?_)
      refine lv_iload_n hx hb dX7_needsOf_7 rfl (lv_at hl 3 rfl) ?_
      refine lv_iadd hx hb dX7_needsOf_8 ?_
      refine lv_sipush (v := 1000) hx hb dX7_needsOf_9 (by decide) ?_
      refine lv_icmp_ge (tgt := 33) hx hb dX7_needsOf_12 (by decide) (fun c_2 => ?_) (fun c_2 => ?_)
      · replace h := h.1 c_2
        refine lv_bipush (v := -9) hx hb dX7_needsOf_33 (by decide) ?_
        exact gri0 hx hb hr hlocks h hP hD hS dX7_needsOf_35
      · replace h := h.2 c_2
        refine lv_aload_n hx hb dX7_needsOf_15 rfl (lv_at hl 0 rfl) ?_
        refine lv_iload_n hx hb dX7_needsOf_16 rfl (lv_at hl 1 rfl) ?_
        refine lv_iload_n hx hb dX7_needsOf_17 rfl (lv_at hl 2 rfl) ?_
        refine lv_iload_n hx hb dX7_needsOf_18 rfl (lv_at hl 3 rfl) ?_
        refine gV_i0 (As := [.int p0, .int p1, .int x3]) (rest := []) ⟨hx, hb, hml, hown, hts⟩ (c_X7_isThen l dC dI cyC cyI cyZ _ a a_text a_read a_hill a_now a_undone a_need a_cameOf a_places a_firstRow a_kept v_size v_at v_begin v_token v_told v_undos v_cames v_each v_trace v_now v_hill p0 p1 x3 h) (cwV 3 hts gX7_needsOf_X7_isThen rfl rfl rfl hdV_X7_isThen ⟨Nat.le_of_ble_eq_true rfl, Nat.le_of_ble_eq_true rfl⟩) hK hN hP hD hS hA [0, 1, 2] (by decide) rfl (ci := 7) rfl rfl rfl hl.1 rfl (Nat.le_of_ble_eq_true rfl) dX7_needsOf_19 ⟨Nat.zero_le _, Nat.zero_le _⟩ (fun r_3 H locs h hP hS => ?_)
        refine lv_if_eq (tgt := 27) hx hb dX7_needsOf_22 (by decide) (fun c_4 => ?_) (fun c_4 => ?_)
        · replace h := h.1 c_4
          obtain ⟨x3_5, e_6⟩ : ∃ y : Int32, y = (x3 + (1 : Int32)) := ⟨_, rfl⟩
          replace h := h x3_5 e_6
          refine lv_iinc (v := x3_5) (lv' := [(3, .int x3_5), (0, .ref a), (1, .int p0), (2, .int p1)]) hx hb dX7_needsOf_27 hl (k := 3) rfl (by rw [e_6]; rfl) (by decide) rfl (fun ls hl => ?_)
          refine lv_goto (tgt := 2) hx hb dX7_needsOf_30 (by decide) ?_
          exact ih2 x3_5 _ _ _ h hP hD hS (lv_sub hl [1, 2, 3, 0] rfl)
        · replace h := h.2 c_4
          refine lv_iload_n hx hb dX7_needsOf_25 rfl (lv_at hl 3 rfl) ?_
          exact gri0 hx hb hr hlocks h hP hD hS dX7_needsOf_26
set_option maxHeartbeats 4000000 in
set_option maxRecDepth 100000 in
theorem c_X7_needsOf (l : Launch) (dC : Nat → ClassId) (dI : Nat → Nat → Nat) (cyC cyI cyZ : ClassId) (sz : Nat) (a a_text a_read a_hill a_now a_undone a_need a_cameOf a_places a_firstRow a_kept : Nat) (v_size : Int32) (v_at : Int32) (v_begin : Int32) (v_token : Int32) (v_told : Int32) (v_undos : Int32) (v_cames : Int32) (v_each : Int32) (v_trace : Int64) (v_now : Nat → Int32) (v_hill : Nat → Int32) (p0 : Int32) (p1 : Int32) {Q : Int32 → Prop} (h : q_X7_needsOf v_now v_hill p0 p1 Q) : Met l yX7_needsOf wsX7_needsOf ({ frames := 2, cells := 0, slots := 0, locals := 46 }) (gPc [.ref a, .int p0, .int p1] (dC, dI) (gTy cyC cyI cyZ) sz [(a, .inr (7, [.ref a_text, .int v_size, .int v_at, .int v_begin, .int v_token, .int v_told, .ref a_read, .ref a_hill, .ref a_now, .ref a_undone, .int v_undos, .ref a_need, .int v_cames, .ref a_cameOf, .ref a_places, .ref a_firstRow, .int v_each, .long v_trace, .ref a_kept])), (a_now, .inl (cyI, 15, .inl v_now)), (a_hill, .inl (cyI, 46, .inl v_hill))]) (gQi0 Q (dC, dI) (va_A [(a, .inr (7, [.ref a_text, .int v_size, .int v_at, .int v_begin, .int v_token, .int v_told, .ref a_read, .ref a_hill, .ref a_now, .ref a_undone, .int v_undos, .ref a_need, .int v_cames, .ref a_cameOf, .ref a_places, .ref a_firstRow, .int v_each, .long v_trace, .ref a_kept])), (a_now, .inl (cyI, 15, .inl v_now)), (a_hill, .inl (cyI, 46, .inl v_hill))] sz) [(a, .inr (7, [.ref a_text, .int v_size, .int v_at, .int v_begin, .int v_token, .int v_told, .ref a_read, .ref a_hill, .ref a_now, .ref a_undone, .int v_undos, .ref a_need, .int v_cames, .ref a_cameOf, .ref a_places, .ref a_firstRow, .int v_each, .long v_trace, .ref a_kept])), (a_now, .inl (cyI, 15, .inl v_now)), (a_hill, .inl (cyI, 46, .inl v_hill))]) 0 0 (va_A [(a, .inr (7, [.ref a_text, .int v_size, .int v_at, .int v_begin, .int v_token, .int v_told, .ref a_read, .ref a_hill, .ref a_now, .ref a_undone, .int v_undos, .ref a_need, .int v_cames, .ref a_cameOf, .ref a_places, .ref a_firstRow, .int v_each, .long v_trace, .ref a_kept])), (a_now, .inl (cyI, 15, .inl v_now)), (a_hill, .inl (cyI, 46, .inl v_hill))] sz) := by
  refine gMet (cc := cX7_needsOf) (maxL := 4) (ret := (some .int)) (own := RX7) (fun A => gQi0 Q (dC, dI) A [(a, .inr (7, [.ref a_text, .int v_size, .int v_at, .int v_begin, .int v_token, .int v_told, .ref a_read, .ref a_hill, .ref a_now, .ref a_undone, .int v_undos, .ref a_need, .int v_cames, .ref a_cameOf, .ref a_places, .ref a_firstRow, .int v_each, .long v_trace, .ref a_kept])), (a_now, .inl (cyI, 15, .inl v_now)), (a_hill, .inl (cyI, 46, .inl v_hill))]) (by decide) rfl rfl (Nat.le_of_ble_eq_true rfl) ?_
  intro p e s m below meth c A ls C0 _ hK hN hP hD hA hl
  obtain ⟨hx, hb, hr, hml, hown, hts, hlocks⟩ := id C0
  have hS : va_S A s.heap s.heap [] := va_S.rf
  replace hl : lv_has ls 4 [(0, .ref a), (1, .int p0), (2, .int p1)] := hl
  unfold q_X7_needsOf at h
  obtain ⟨n, h⟩ := h
  have ih2 := w_X7_needsOf (l := l) (e := e) (below := below) dC dI cyC cyI cyZ a a_text a_read a_hill a_now a_undone a_need a_cameOf a_places a_firstRow a_kept v_size v_at v_begin v_token v_told v_undos v_cames v_each v_trace v_now v_hill p0 p1 Q C0 hK hN hA n
  unfold F_X7_needsOf_e at h
  refine lv_iconst (v := 0) hx hb dX7_needsOf_0 (by decide) ?_
  refine lv_istore_n (lv' := [(3, .int (0 : Int32)), (0, .ref a), (1, .int p0), (2, .int p1)]) hx hb dX7_needsOf_1 rfl hl (by decide) rfl (fun ls hl => ?_)
  exact ih2 (0 : Int32) _ _ _ h hP hD hS (lv_sub hl [1, 2, 3, 0] rfl)

def F_X7_needs_e (v_hill : Nat → Int32) (v_now : Nat → Int32) (p0 : Int32) (p1 : Int32) (Q : Int32 → Prop)  : Prop :=
  q_X7_isThing v_hill p0 (fun (r_1 : Int32) => (r_1 = 0 → (Q (-1 : Int32))) ∧ (¬ r_1 = 0 → (q_X7_in ((p1).toInt64) (0 : Int64) (99 : Int64) (fun (r_3 : Int32) => (r_3 = 0 → (Q (-1 : Int32))) ∧ (¬ r_3 = 0 → (q_X7_needsOf v_now v_hill p0 p1 (fun (r_5 : Int32) => Q r_5)))))))
def q_X7_needs (v_hill : Nat → Int32) (v_now : Nat → Int32) (p0 : Int32) (p1 : Int32) (Q : Int32 → Prop) : Prop := F_X7_needs_e v_hill v_now p0 p1 Q 
theorem hdV_X7_needs : yX7_needs.cls = RX7 ∧ yX7_needs.cls ≠ "java/lang/invoke/MethodHandle" ∧ yX7_needs.cls ≠ "java/lang/invoke/VarHandle" ∧ (parseMethodDescriptor yX7_needs.desc).map (fun d => d.parameters.length) = some 2 := by decide +kernel
set_option maxHeartbeats 4000000 in
set_option maxRecDepth 100000 in
theorem c_X7_needs (l : Launch) (dC : Nat → ClassId) (dI : Nat → Nat → Nat) (cyC cyI cyZ : ClassId) (sz : Nat) (a a_text a_read a_hill a_now a_undone a_need a_cameOf a_places a_firstRow a_kept : Nat) (v_size : Int32) (v_at : Int32) (v_begin : Int32) (v_token : Int32) (v_told : Int32) (v_undos : Int32) (v_cames : Int32) (v_each : Int32) (v_trace : Int64) (v_hill : Nat → Int32) (v_now : Nat → Int32) (p0 : Int32) (p1 : Int32) {Q : Int32 → Prop} (h : q_X7_needs v_hill v_now p0 p1 Q) : Met l yX7_needs wsX7_needs ({ frames := 3, cells := 0, slots := 0, locals := 69 }) (gPc [.ref a, .int p0, .int p1] (dC, dI) (gTy cyC cyI cyZ) sz [(a, .inr (7, [.ref a_text, .int v_size, .int v_at, .int v_begin, .int v_token, .int v_told, .ref a_read, .ref a_hill, .ref a_now, .ref a_undone, .int v_undos, .ref a_need, .int v_cames, .ref a_cameOf, .ref a_places, .ref a_firstRow, .int v_each, .long v_trace, .ref a_kept])), (a_hill, .inl (cyI, 46, .inl v_hill)), (a_now, .inl (cyI, 15, .inl v_now))]) (gQi0 Q (dC, dI) (va_A [(a, .inr (7, [.ref a_text, .int v_size, .int v_at, .int v_begin, .int v_token, .int v_told, .ref a_read, .ref a_hill, .ref a_now, .ref a_undone, .int v_undos, .ref a_need, .int v_cames, .ref a_cameOf, .ref a_places, .ref a_firstRow, .int v_each, .long v_trace, .ref a_kept])), (a_hill, .inl (cyI, 46, .inl v_hill)), (a_now, .inl (cyI, 15, .inl v_now))] sz) [(a, .inr (7, [.ref a_text, .int v_size, .int v_at, .int v_begin, .int v_token, .int v_told, .ref a_read, .ref a_hill, .ref a_now, .ref a_undone, .int v_undos, .ref a_need, .int v_cames, .ref a_cameOf, .ref a_places, .ref a_firstRow, .int v_each, .long v_trace, .ref a_kept])), (a_hill, .inl (cyI, 46, .inl v_hill)), (a_now, .inl (cyI, 15, .inl v_now))]) 0 0 (va_A [(a, .inr (7, [.ref a_text, .int v_size, .int v_at, .int v_begin, .int v_token, .int v_told, .ref a_read, .ref a_hill, .ref a_now, .ref a_undone, .int v_undos, .ref a_need, .int v_cames, .ref a_cameOf, .ref a_places, .ref a_firstRow, .int v_each, .long v_trace, .ref a_kept])), (a_hill, .inl (cyI, 46, .inl v_hill)), (a_now, .inl (cyI, 15, .inl v_now))] sz) := by
  refine gMet (cc := cX7_needs) (maxL := 3) (ret := (some .int)) (own := RX7) (fun A => gQi0 Q (dC, dI) A [(a, .inr (7, [.ref a_text, .int v_size, .int v_at, .int v_begin, .int v_token, .int v_told, .ref a_read, .ref a_hill, .ref a_now, .ref a_undone, .int v_undos, .ref a_need, .int v_cames, .ref a_cameOf, .ref a_places, .ref a_firstRow, .int v_each, .long v_trace, .ref a_kept])), (a_hill, .inl (cyI, 46, .inl v_hill)), (a_now, .inl (cyI, 15, .inl v_now))]) (by decide) rfl rfl (Nat.le_of_ble_eq_true rfl) ?_
  intro p e s m below meth c A ls C0 _ hK hN hP hD hA hl
  obtain ⟨hx, hb, hr, hml, hown, hts, hlocks⟩ := id C0
  have hS : va_S A s.heap s.heap [] := va_S.rf
  replace hl : lv_has ls 3 [(0, .ref a), (1, .int p0), (2, .int p1)] := hl
  unfold q_X7_needs at h
  unfold F_X7_needs_e at h
  refine lv_aload_n hx hb dX7_needs_0 rfl (lv_at hl 0 rfl) ?_
  refine lv_iload_n hx hb dX7_needs_1 rfl (lv_at hl 1 rfl) ?_
  refine gV_i0 (As := [.int p0]) (rest := []) ⟨hx, hb, hml, hown, hts⟩ (c_X7_isThing l dC dI cyC cyI cyZ _ a a_text a_read a_hill a_now a_undone a_need a_cameOf a_places a_firstRow a_kept v_size v_at v_begin v_token v_told v_undos v_cames v_each v_trace v_hill p0 h) (cwV 1 hts gX7_needs_X7_isThing rfl rfl rfl hdV_X7_isThing ⟨Nat.le_of_ble_eq_true rfl, Nat.le_of_ble_eq_true rfl⟩) hK hN hP hD hS hA [0, 1] (by decide) rfl (ci := 7) rfl rfl rfl hl.1 rfl (Nat.le_of_ble_eq_true rfl) dX7_needs_2 ⟨Nat.zero_le _, Nat.zero_le _⟩ (fun r_1 H locs h hP hS => ?_)
  refine lv_if_eq (tgt := 29) hx hb dX7_needs_5 (by decide) (fun c_2 => ?_) (fun c_2 => ?_)
  · replace h := h.1 c_2
    refine lv_iconst (v := -1) hx hb dX7_needs_29 (by decide) ?_
    exact gri0 hx hb hr hlocks h hP hD hS dX7_needs_30
  · replace h := h.2 c_2
    refine lv_iload_n hx hb dX7_needs_8 rfl (lv_at hl 2 rfl) ?_
    refine lv_i2l hx hb dX7_needs_9 rfl ?_
    refine lv_lconst (v := 0) hx hb dX7_needs_10 (by decide) ?_
    refine lv_ldc2 (v := 99) hx hb hown (hts (.constantLong RX7 164 (99)) (by decide +kernel)) dX7_needs_11 ?_
    refine gS_i0 (As := [.long ((p1).toInt64), .long (0 : Int64), .long (99 : Int64)]) (rest := []) ⟨hx, hb, hml, hown, hts⟩ (c_X7_in l dC dI cyC cyI cyZ _ ((p1).toInt64) (0 : Int64) (99 : Int64) h) (va_cwS 3 hts gX7_needs_X7_in rfl rfl rfl hdS_X7_in ⟨Nat.le_of_ble_eq_true rfl, Nat.le_of_ble_eq_true rfl⟩) hK hN hP hD hS hA [] (by decide) rfl rfl hl.1 rfl (Nat.le_of_ble_eq_true rfl) dX7_needs_14 ⟨Nat.zero_le _, Nat.zero_le _⟩ (fun r_3 H locs h hP hS => ?_)
    refine lv_if_eq (tgt := 29) hx hb dX7_needs_17 (by decide) (fun c_4 => ?_) (fun c_4 => ?_)
    · replace h := h.1 c_4
      refine lv_iconst (v := -1) hx hb dX7_needs_29 (by decide) ?_
      exact gri0 hx hb hr hlocks h hP hD hS dX7_needs_30
    · replace h := h.2 c_4
      refine lv_aload_n hx hb dX7_needs_20 rfl (lv_at hl 0 rfl) ?_
      refine lv_iload_n hx hb dX7_needs_21 rfl (lv_at hl 1 rfl) ?_
      refine lv_iload_n hx hb dX7_needs_22 rfl (lv_at hl 2 rfl) ?_
      refine gV_i0 (As := [.int p0, .int p1]) (rest := []) ⟨hx, hb, hml, hown, hts⟩ (c_X7_needsOf l dC dI cyC cyI cyZ _ a a_text a_read a_hill a_now a_undone a_need a_cameOf a_places a_firstRow a_kept v_size v_at v_begin v_token v_told v_undos v_cames v_each v_trace v_now v_hill p0 p1 h) (cwV 2 hts gX7_needs_X7_needsOf rfl rfl rfl hdV_X7_needsOf ⟨Nat.le_of_ble_eq_true rfl, Nat.le_of_ble_eq_true rfl⟩) hK hN hP hD hS hA [0, 2, 1] (by decide) rfl (ci := 7) rfl rfl rfl hl.1 rfl (Nat.le_of_ble_eq_true rfl) dX7_needs_23 ⟨Nat.zero_le _, Nat.zero_le _⟩ (fun r_5 H locs h hP hS => ?_)
      refine lv_goto (tgt := 30) hx hb dX7_needs_26 (by decide) ?_
      exact gri0 hx hb hr hlocks h hP hD hS dX7_needs_30

def F_X7_blanks_e (v_size : Int32) (v_text : Nat → Int32) (Q : Int32 → Int32 → Prop) (rec : Nat → Int32 → Int32 → Prop) (v_at : Int32) (v_begin : Int32) : Prop :=
  rec 0 v_at v_begin
def F_X7_blanks_0 (v_size : Int32) (v_text : Nat → Int32) (Q : Int32 → Int32 → Prop) (rec : Nat → Int32 → Int32 → Prop) (v_at : Int32) (v_begin : Int32) : Prop :=
  (v_size ≤ v_at → (Q v_at v_at)) ∧ (¬ v_size ≤ v_at → (vp_in v_at 150 ∧ ((¬ (v_text (v_at).toNatClampNeg) = (32 : Int32) → (Q v_at v_at)) ∧ ((v_text (v_at).toNatClampNeg) = (32 : Int32) → (∀ n_4 : Int32, n_4 = (v_at + (1 : Int32)) → (rec 0 n_4 v_begin))))))
def wp_X7_blanks (v_size : Int32) (v_text : Nat → Int32) (Q : Int32 → Int32 → Prop) : Nat → Nat → Int32 → Int32 → Prop
  | 0 => fun _ _ _ => False
  | n + 1 => fun t v_at v_begin => if t = 0 then F_X7_blanks_0 v_size v_text Q (wp_X7_blanks v_size v_text Q n) v_at v_begin else False
def q_X7_blanks (v_size : Int32) (v_at : Int32) (v_begin : Int32) (v_text : Nat → Int32) (Q : Int32 → Int32 → Prop) : Prop := ∃ n, F_X7_blanks_e v_size v_text Q (wp_X7_blanks v_size v_text Q n) v_at v_begin
theorem iwX7_blanks_X7 : ∀ w ∈ wsX70, w ∈ wsX7_blanks := by decide +kernel
theorem hdV_X7_blanks : yX7_blanks.cls = RX7 ∧ yX7_blanks.cls ≠ "java/lang/invoke/MethodHandle" ∧ yX7_blanks.cls ≠ "java/lang/invoke/VarHandle" ∧ (parseMethodDescriptor yX7_blanks.desc).map (fun d => d.parameters.length) = some 0 := by decide +kernel
set_option maxHeartbeats 4000000 in
set_option maxRecDepth 100000 in
theorem w_X7_blanks {p : Program} {l : Launch} {e : Env} {s : State} {m : MethodId} {args : Array Value} {below : List Frame} {meth : Method} {c : Code} {A : Nat → Prop} (dC : Nat → ClassId) (dI : Nat → Nat → Nat) (cyC cyI cyZ : ClassId) (a a_text a_read a_hill a_now a_undone a_need a_cameOf a_places a_firstRow a_kept : Nat) (v_size : Int32) (v_token : Int32) (v_told : Int32) (v_undos : Int32) (v_cames : Int32) (v_each : Int32) (v_trace : Int64) (v_text : Nat → Int32) (Q : Int32 → Int32 → Prop) (C0 : gAt cX7_blanks none 1 RX7 wsX7_blanks p s m meth c args) (hK : va_K (dC, dI) vwCl (gTy cyC cyI cyZ) s) (hN : nU s) (hA : ∀ q, s.heap.size ≤ q → A q) : ∀ n : Nat, (∀ (v_at : Int32) (v_begin : Int32) (H : Heap) (locs : List Loc) (ls : Array Slot), wp_X7_blanks v_size v_text Q n 0 v_at v_begin → va_P (dC, dI) vwCl [(a, .inr (7, [.ref a_text, .int v_size, .int v_at, .int v_begin, .int v_token, .int v_told, .ref a_read, .ref a_hill, .ref a_now, .ref a_undone, .int v_undos, .ref a_need, .int v_cames, .ref a_cameOf, .ref a_places, .ref a_firstRow, .int v_each, .long v_trace, .ref a_kept])), (a_text, .inl (cyI, 150, .inl v_text))] H → va_D A [(a, .inr (7, [.ref a_text, .int v_size, .int v_at, .int v_begin, .int v_token, .int v_told, .ref a_read, .ref a_hill, .ref a_now, .ref a_undone, .int v_undos, .ref a_need, .int v_cames, .ref a_cameOf, .ref a_places, .ref a_firstRow, .int v_each, .long v_trace, .ref a_kept])), (a_text, .inl (cyI, 150, .inl v_text))] → va_S A s.heap H locs → lv_has ls 1 [(0, .ref a)] → W p l e { frames := 0, cells := 0, slots := 0, locals := 0 } s m args below meth c H locs 0 0 (MQ below (gQv2 Q (dC, dI) A (fun (u1 : Int32) (u2 : Int32) => [(a, .inr (7, [.ref a_text, .int v_size, .int u1, .int u2, .int v_token, .int v_told, .ref a_read, .ref a_hill, .ref a_now, .ref a_undone, .int v_undos, .ref a_need, .int v_cames, .ref a_cameOf, .ref a_places, .ref a_firstRow, .int v_each, .long v_trace, .ref a_kept])), (a_text, .inl (cyI, 150, .inl v_text))])) args s 0 0 A) (F0 m 0 ls [])) := by
  obtain ⟨hx, hb, hr, hml, hown, hts, hlocks⟩ := id C0
  have f52 := hts (.fieldLink RX7 52 "LastOchreModel" "size" "I") (by decide +kernel)
  have f64 := hts (.fieldLink RX7 64 "LastOchreModel" "at" "I") (by decide +kernel)
  have f7 := hts (.fieldLink RX7 7 "LastOchreModel" "text" "[I") (by decide +kernel)
  have f74 := hts (.fieldLink RX7 74 "LastOchreModel" "begin" "I") (by decide +kernel)
  intro n
  induction n with
  | zero => exact fun _ _ _ _ _ h => absurd h id
  | succ n ih =>
    have ih0 := ih
    · intro v_at v_begin H locs ls h hP hD hS hl
      replace h : F_X7_blanks_0 v_size v_text Q (wp_X7_blanks v_size v_text Q n) v_at v_begin := h
      unfold F_X7_blanks_0 at h
      refine lv_aload_n hx hb dX7_blanks_0 rfl (lv_at hl 0 rfl) ?_
      refine va_get (D := (dC, dI)) (ci := 7) (v := .int v_at) (C := RX7) (T := TX7) (N := 19) hx hb hts iwX7_blanks_X7 hown hK hP 0 rfl rfl 2 (by decide) f64 (fun _ h9 => h9) rfl dX7_blanks_1 ?_
      refine lv_aload_n hx hb dX7_blanks_4 rfl (lv_at hl 0 rfl) ?_
      refine va_get (D := (dC, dI)) (ci := 7) (v := .int v_size) (C := RX7) (T := TX7) (N := 19) hx hb hts iwX7_blanks_X7 hown hK hP 0 rfl rfl 1 (by decide) f52 (fun _ h9 => h9) rfl dX7_blanks_5 ?_
      refine lv_icmp_ge (tgt := 38) hx hb dX7_blanks_8 (by decide) (fun c_1 => ?_) (fun c_1 => ?_)
      · replace h := h.1 c_1
        refine lv_aload_n hx hb dX7_blanks_38 rfl (lv_at hl 0 rfl) ?_
        refine lv_aload_n hx hb dX7_blanks_39 rfl (lv_at hl 0 rfl) ?_
        refine va_get (D := (dC, dI)) (ci := 7) (v := .int v_at) (C := RX7) (T := TX7) (N := 19) hx hb hts iwX7_blanks_X7 hown hK hP 0 rfl rfl 2 (by decide) f64 (fun _ h9 => h9) rfl dX7_blanks_40 ?_
        refine va_put (D := (dC, dI)) (ci := 7) (v := .int v_at) (ty := .int) (C := RX7) (T := TX7) (N := 19) hx hb hts iwX7_blanks_X7 tyX7 tyX7_ok nmX7 hown hK hP hD hS 0 rfl rfl 3 (by decide) f74 (fun _ h9 => h9) rfl (by decide +kernel) rfl rfl (Nat.le_of_ble_eq_true rfl) dX7_blanks_43 (fun H locs hP hD hS => ?_)
        replace hP : va_P (dC, dI) vwCl [(a, .inr (7, [.ref a_text, .int v_size, .int v_at, .int v_at, .int v_token, .int v_told, .ref a_read, .ref a_hill, .ref a_now, .ref a_undone, .int v_undos, .ref a_need, .int v_cames, .ref a_cameOf, .ref a_places, .ref a_firstRow, .int v_each, .long v_trace, .ref a_kept])), (a_text, .inl (cyI, 150, .inl v_text))] H := hP
        replace hD : va_D A [(a, .inr (7, [.ref a_text, .int v_size, .int v_at, .int v_at, .int v_token, .int v_told, .ref a_read, .ref a_hill, .ref a_now, .ref a_undone, .int v_undos, .ref a_need, .int v_cames, .ref a_cameOf, .ref a_places, .ref a_firstRow, .int v_each, .long v_trace, .ref a_kept])), (a_text, .inl (cyI, 150, .inl v_text))] := hD
        exact grv2 hx hb hr hlocks h hP hD hS dX7_blanks_46
      · replace h := h.2 c_1
        refine lv_aload_n hx hb dX7_blanks_11 rfl (lv_at hl 0 rfl) ?_
        refine va_get (D := (dC, dI)) (ci := 7) (v := .ref a_text) (C := RX7) (T := TX7) (N := 19) hx hb hts iwX7_blanks_X7 hown hK hP 0 rfl rfl 0 (by decide) f7 (fun _ h9 => h9) rfl dX7_blanks_12 ?_
        refine lv_aload_n hx hb dX7_blanks_15 rfl (lv_at hl 0 rfl) ?_
        refine va_get (D := (dC, dI)) (ci := 7) (v := .int v_at) (C := RX7) (T := TX7) (N := 19) hx hb hts iwX7_blanks_X7 hown hK hP 0 rfl rfl 2 (by decide) f64 (fun _ h9 => h9) rfl dX7_blanks_16 ?_
        have g_2 := h.1
        replace h := h.2
        refine va_iald hx hb hK hP 1 0 rfl rfl g_2 dX7_blanks_19 ?_
        refine lv_bipush (v := 32) hx hb dX7_blanks_20 (by decide) ?_
        refine lv_icmp_ne (tgt := 38) hx hb dX7_blanks_22 (by decide) (fun c_3 => ?_) (fun c_3 => ?_)
        · replace h := h.1 c_3
          refine lv_aload_n hx hb dX7_blanks_38 rfl (lv_at hl 0 rfl) ?_
          refine lv_aload_n hx hb dX7_blanks_39 rfl (lv_at hl 0 rfl) ?_
          refine va_get (D := (dC, dI)) (ci := 7) (v := .int v_at) (C := RX7) (T := TX7) (N := 19) hx hb hts iwX7_blanks_X7 hown hK hP 0 rfl rfl 2 (by decide) f64 (fun _ h9 => h9) rfl dX7_blanks_40 ?_
          refine va_put (D := (dC, dI)) (ci := 7) (v := .int v_at) (ty := .int) (C := RX7) (T := TX7) (N := 19) hx hb hts iwX7_blanks_X7 tyX7 tyX7_ok nmX7 hown hK hP hD hS 0 rfl rfl 3 (by decide) f74 (fun _ h9 => h9) rfl (by decide +kernel) rfl rfl (Nat.le_of_ble_eq_true rfl) dX7_blanks_43 (fun H locs hP hD hS => ?_)
          replace hP : va_P (dC, dI) vwCl [(a, .inr (7, [.ref a_text, .int v_size, .int v_at, .int v_at, .int v_token, .int v_told, .ref a_read, .ref a_hill, .ref a_now, .ref a_undone, .int v_undos, .ref a_need, .int v_cames, .ref a_cameOf, .ref a_places, .ref a_firstRow, .int v_each, .long v_trace, .ref a_kept])), (a_text, .inl (cyI, 150, .inl v_text))] H := hP
          replace hD : va_D A [(a, .inr (7, [.ref a_text, .int v_size, .int v_at, .int v_at, .int v_token, .int v_told, .ref a_read, .ref a_hill, .ref a_now, .ref a_undone, .int v_undos, .ref a_need, .int v_cames, .ref a_cameOf, .ref a_places, .ref a_firstRow, .int v_each, .long v_trace, .ref a_kept])), (a_text, .inl (cyI, 150, .inl v_text))] := hD
          exact grv2 hx hb hr hlocks h hP hD hS dX7_blanks_46
        · replace h := h.2 c_3
          refine lv_aload_n hx hb dX7_blanks_25 rfl (lv_at hl 0 rfl) ?_
          refine lv_dup hx hb dX7_blanks_26 rfl ?_
          refine va_get (D := (dC, dI)) (ci := 7) (v := .int v_at) (C := RX7) (T := TX7) (N := 19) hx hb hts iwX7_blanks_X7 hown hK hP 0 rfl rfl 2 (by decide) f64 (fun _ h9 => h9) rfl dX7_blanks_27 ?_
          refine lv_iconst (v := 1) hx hb dX7_blanks_30 (by decide) ?_
          refine lv_iadd hx hb dX7_blanks_31 ?_
          refine lv_topi (fun n_4 e_5 => ?_)
          replace h := h n_4 e_5
          refine va_put (D := (dC, dI)) (ci := 7) (v := .int n_4) (ty := .int) (C := RX7) (T := TX7) (N := 19) hx hb hts iwX7_blanks_X7 tyX7 tyX7_ok nmX7 hown hK hP hD hS 0 rfl rfl 2 (by decide) f64 (fun _ h9 => h9) rfl (by decide +kernel) rfl rfl (Nat.le_of_ble_eq_true rfl) dX7_blanks_32 (fun H locs hP hD hS => ?_)
          replace hP : va_P (dC, dI) vwCl [(a, .inr (7, [.ref a_text, .int v_size, .int n_4, .int v_begin, .int v_token, .int v_told, .ref a_read, .ref a_hill, .ref a_now, .ref a_undone, .int v_undos, .ref a_need, .int v_cames, .ref a_cameOf, .ref a_places, .ref a_firstRow, .int v_each, .long v_trace, .ref a_kept])), (a_text, .inl (cyI, 150, .inl v_text))] H := hP
          replace hD : va_D A [(a, .inr (7, [.ref a_text, .int v_size, .int n_4, .int v_begin, .int v_token, .int v_told, .ref a_read, .ref a_hill, .ref a_now, .ref a_undone, .int v_undos, .ref a_need, .int v_cames, .ref a_cameOf, .ref a_places, .ref a_firstRow, .int v_each, .long v_trace, .ref a_kept])), (a_text, .inl (cyI, 150, .inl v_text))] := hD
          refine lv_goto (tgt := 0) hx hb dX7_blanks_35 (by decide) ?_
          exact ih0 n_4 v_begin _ _ _ h hP hD hS (lv_sub hl [0] rfl)
set_option maxHeartbeats 4000000 in
set_option maxRecDepth 100000 in
theorem c_X7_blanks (l : Launch) (dC : Nat → ClassId) (dI : Nat → Nat → Nat) (cyC cyI cyZ : ClassId) (sz : Nat) (a a_text a_read a_hill a_now a_undone a_need a_cameOf a_places a_firstRow a_kept : Nat) (v_size : Int32) (v_at : Int32) (v_begin : Int32) (v_token : Int32) (v_told : Int32) (v_undos : Int32) (v_cames : Int32) (v_each : Int32) (v_trace : Int64) (v_text : Nat → Int32) {Q : Int32 → Int32 → Prop} (h : q_X7_blanks v_size v_at v_begin v_text Q) : Met l yX7_blanks wsX7_blanks ({ frames := 0, cells := 0, slots := 0, locals := 0 }) (gPc [.ref a] (dC, dI) (gTy cyC cyI cyZ) sz [(a, .inr (7, [.ref a_text, .int v_size, .int v_at, .int v_begin, .int v_token, .int v_told, .ref a_read, .ref a_hill, .ref a_now, .ref a_undone, .int v_undos, .ref a_need, .int v_cames, .ref a_cameOf, .ref a_places, .ref a_firstRow, .int v_each, .long v_trace, .ref a_kept])), (a_text, .inl (cyI, 150, .inl v_text))]) (gQv2 Q (dC, dI) (va_A [(a, .inr (7, [.ref a_text, .int v_size, .int v_at, .int v_begin, .int v_token, .int v_told, .ref a_read, .ref a_hill, .ref a_now, .ref a_undone, .int v_undos, .ref a_need, .int v_cames, .ref a_cameOf, .ref a_places, .ref a_firstRow, .int v_each, .long v_trace, .ref a_kept])), (a_text, .inl (cyI, 150, .inl v_text))] sz) (fun (u1 : Int32) (u2 : Int32) => [(a, .inr (7, [.ref a_text, .int v_size, .int u1, .int u2, .int v_token, .int v_told, .ref a_read, .ref a_hill, .ref a_now, .ref a_undone, .int v_undos, .ref a_need, .int v_cames, .ref a_cameOf, .ref a_places, .ref a_firstRow, .int v_each, .long v_trace, .ref a_kept])), (a_text, .inl (cyI, 150, .inl v_text))])) 0 0 (va_A [(a, .inr (7, [.ref a_text, .int v_size, .int v_at, .int v_begin, .int v_token, .int v_told, .ref a_read, .ref a_hill, .ref a_now, .ref a_undone, .int v_undos, .ref a_need, .int v_cames, .ref a_cameOf, .ref a_places, .ref a_firstRow, .int v_each, .long v_trace, .ref a_kept])), (a_text, .inl (cyI, 150, .inl v_text))] sz) := by
  refine gMet (cc := cX7_blanks) (maxL := 1) (ret := none) (own := RX7) (fun A => gQv2 Q (dC, dI) A (fun (u1 : Int32) (u2 : Int32) => [(a, .inr (7, [.ref a_text, .int v_size, .int u1, .int u2, .int v_token, .int v_told, .ref a_read, .ref a_hill, .ref a_now, .ref a_undone, .int v_undos, .ref a_need, .int v_cames, .ref a_cameOf, .ref a_places, .ref a_firstRow, .int v_each, .long v_trace, .ref a_kept])), (a_text, .inl (cyI, 150, .inl v_text))])) (by decide) rfl rfl (Nat.le_of_ble_eq_true rfl) ?_
  intro p e s m below meth c A ls C0 _ hK hN hP hD hA hl
  obtain ⟨hx, hb, hr, hml, hown, hts, hlocks⟩ := id C0
  have f52 := hts (.fieldLink RX7 52 "LastOchreModel" "size" "I") (by decide +kernel)
  have f64 := hts (.fieldLink RX7 64 "LastOchreModel" "at" "I") (by decide +kernel)
  have f7 := hts (.fieldLink RX7 7 "LastOchreModel" "text" "[I") (by decide +kernel)
  have f74 := hts (.fieldLink RX7 74 "LastOchreModel" "begin" "I") (by decide +kernel)
  have hS : va_S A s.heap s.heap [] := va_S.rf
  replace hl : lv_has ls 1 [(0, .ref a)] := hl
  unfold q_X7_blanks at h
  obtain ⟨n, h⟩ := h
  have ih0 := w_X7_blanks (l := l) (e := e) (below := below) dC dI cyC cyI cyZ a a_text a_read a_hill a_now a_undone a_need a_cameOf a_places a_firstRow a_kept v_size v_token v_told v_undos v_cames v_each v_trace v_text Q C0 hK hN hA n
  unfold F_X7_blanks_e at h
  exact ih0 v_at v_begin _ _ _ h hP hD hS (lv_sub hl [0] rfl)

def F_X7_reads_e (v_size : Int32) (v_text : Nat → Int32) (Q : Int32 → Int32 → Int32 → Int32 → Prop) (rec : Nat → Int32 → Int32 → Int32 → Int32 → Int32 → Int32 → Prop) (v_at : Int32) (v_begin : Int32) (v_token : Int32) (v_told : Int32) : Prop :=
  q_X7_blanks v_size v_at v_begin v_text (fun (u_1 : Int32) (u_2 : Int32) => (¬ u_1 = v_size → (vp_in u_1 150 ∧ (q_X7_isLetter (v_text (u_1).toNatClampNeg) (fun (r_5 : Int32) => (r_5 = 0 → (vp_in u_1 150 ∧ (q_X7_isFigure (v_text (u_1).toNatClampNeg) (fun (r_8 : Int32) => (r_8 = 0 → (vp_in u_1 150 ∧ ((¬ (v_text (u_1).toNatClampNeg) = (59 : Int32) → (rec 87 (4 : Int32) 0 u_1 u_2 v_token v_told)) ∧ ((v_text (u_1).toNatClampNeg) = (59 : Int32) → (rec 87 (3 : Int32) 0 u_1 u_2 v_token v_told))))) ∧ (¬ r_8 = 0 → (q_X7_readNumber v_size u_1 u_2 v_token v_told v_text (fun (u_12 : Int32) (u_13 : Int32) (u_14 : Int32) => Q u_12 u_2 u_13 u_14))))))) ∧ (¬ r_5 = 0 → (q_X7_readLetters v_size u_1 u_2 v_token v_told v_text (fun (u_15 : Int32) (u_16 : Int32) (u_17 : Int32) => Q u_15 u_2 u_16 u_17))))))) ∧ (u_1 = v_size → (Q u_1 u_2 (0 : Int32) v_told)))
def F_X7_reads_87 (v_size : Int32) (v_text : Nat → Int32) (Q : Int32 → Int32 → Int32 → Int32 → Prop) (rec : Nat → Int32 → Int32 → Int32 → Int32 → Int32 → Int32 → Prop) (k0 : Int32) (k1 : Int32) (v_at : Int32) (v_begin : Int32) (v_token : Int32) (v_told : Int32) : Prop :=
  (¬ k0 = (3 : Int32) → (∀ n_19 : Int32, n_19 = (v_at + (0 : Int32)) → (Q n_19 v_begin k0 v_told))) ∧ (k0 = (3 : Int32) → (∀ n_21 : Int32, n_21 = (v_at + (1 : Int32)) → (Q n_21 v_begin k0 v_told)))
def wp_X7_reads (v_size : Int32) (v_text : Nat → Int32) (Q : Int32 → Int32 → Int32 → Int32 → Prop) : Nat → Nat → Int32 → Int32 → Int32 → Int32 → Int32 → Int32 → Prop
  | 0 => fun _ _ _ _ _ _ _ => False
  | n + 1 => fun t k0 k1 v_at v_begin v_token v_told => if t = 87 then F_X7_reads_87 v_size v_text Q (wp_X7_reads v_size v_text Q n) k0 k1 v_at v_begin v_token v_told else False
def q_X7_reads (v_size : Int32) (v_at : Int32) (v_begin : Int32) (v_token : Int32) (v_told : Int32) (v_text : Nat → Int32) (Q : Int32 → Int32 → Int32 → Int32 → Prop) : Prop := ∃ n, F_X7_reads_e v_size v_text Q (wp_X7_reads v_size v_text Q n) v_at v_begin v_token v_told
theorem iwX7_reads_X7 : ∀ w ∈ wsX70, w ∈ wsX7_reads := by decide +kernel
theorem hdV_X7_reads : yX7_reads.cls = RX7 ∧ yX7_reads.cls ≠ "java/lang/invoke/MethodHandle" ∧ yX7_reads.cls ≠ "java/lang/invoke/VarHandle" ∧ (parseMethodDescriptor yX7_reads.desc).map (fun d => d.parameters.length) = some 0 := by decide +kernel
set_option maxHeartbeats 4000000 in
set_option maxRecDepth 100000 in
theorem w_X7_reads {p : Program} {l : Launch} {e : Env} {s : State} {m : MethodId} {args : Array Value} {below : List Frame} {meth : Method} {c : Code} {A : Nat → Prop} (dC : Nat → ClassId) (dI : Nat → Nat → Nat) (cyC cyI cyZ : ClassId) (a a_text a_read a_hill a_now a_undone a_need a_cameOf a_places a_firstRow a_kept : Nat) (v_size : Int32) (v_undos : Int32) (v_cames : Int32) (v_each : Int32) (v_trace : Int64) (v_text : Nat → Int32) (Q : Int32 → Int32 → Int32 → Int32 → Prop) (C0 : gAt cX7_reads none 1 RX7 wsX7_reads p s m meth c args) (hK : va_K (dC, dI) vwCl (gTy cyC cyI cyZ) s) (hN : nU s) (hA : ∀ q, s.heap.size ≤ q → A q) : ∀ n : Nat, (∀ (k0 : Int32) (k1 : Int32) (v_at : Int32) (v_begin : Int32) (v_token : Int32) (v_told : Int32) (H : Heap) (locs : List Loc) (ls : Array Slot), wp_X7_reads v_size v_text Q n 87 k0 k1 v_at v_begin v_token v_told → va_P (dC, dI) vwCl [(a, .inr (7, [.ref a_text, .int v_size, .int v_at, .int v_begin, .int v_token, .int v_told, .ref a_read, .ref a_hill, .ref a_now, .ref a_undone, .int v_undos, .ref a_need, .int v_cames, .ref a_cameOf, .ref a_places, .ref a_firstRow, .int v_each, .long v_trace, .ref a_kept])), (a_text, .inl (cyI, 150, .inl v_text))] H → va_D A [(a, .inr (7, [.ref a_text, .int v_size, .int v_at, .int v_begin, .int v_token, .int v_told, .ref a_read, .ref a_hill, .ref a_now, .ref a_undone, .int v_undos, .ref a_need, .int v_cames, .ref a_cameOf, .ref a_places, .ref a_firstRow, .int v_each, .long v_trace, .ref a_kept])), (a_text, .inl (cyI, 150, .inl v_text))] → va_S A s.heap H locs → lv_has ls 1 [(0, .ref a)] → W p l e { frames := 3, cells := 0, slots := 0, locals := 66 } s m args below meth c H locs 0 0 (MQ below (gQv4 Q (dC, dI) A (fun (u1 : Int32) (u2 : Int32) (u3 : Int32) (u4 : Int32) => [(a, .inr (7, [.ref a_text, .int v_size, .int u1, .int u2, .int u3, .int u4, .ref a_read, .ref a_hill, .ref a_now, .ref a_undone, .int v_undos, .ref a_need, .int v_cames, .ref a_cameOf, .ref a_places, .ref a_firstRow, .int v_each, .long v_trace, .ref a_kept])), (a_text, .inl (cyI, 150, .inl v_text))])) args s 0 0 A) (F0 m 87 ls [.int k0, .ref a])) := by
  obtain ⟨hx, hb, hr, hml, hown, hts, hlocks⟩ := id C0
  have f52 := hts (.fieldLink RX7 52 "LastOchreModel" "size" "I") (by decide +kernel)
  have f64 := hts (.fieldLink RX7 64 "LastOchreModel" "at" "I") (by decide +kernel)
  have f7 := hts (.fieldLink RX7 7 "LastOchreModel" "text" "[I") (by decide +kernel)
  have f77 := hts (.fieldLink RX7 77 "LastOchreModel" "token" "I") (by decide +kernel)
  intro n
  induction n with
  | zero => exact fun _ _ _ _ _ _ _ _ _ h => absurd h id
  | succ n ih =>
    have ih87 := ih
    · intro k0 k1 v_at v_begin v_token v_told H locs ls h hP hD hS hl
      replace h : F_X7_reads_87 v_size v_text Q (wp_X7_reads v_size v_text Q n) k0 k1 v_at v_begin v_token v_told := h
      unfold F_X7_reads_87 at h
      refine va_put (D := (dC, dI)) (ci := 7) (v := .int k0) (ty := .int) (C := RX7) (T := TX7) (N := 19) hx hb hts iwX7_reads_X7 tyX7 tyX7_ok nmX7 hown hK hP hD hS 0 rfl rfl 4 (by decide) f77 (fun _ h9 => h9) rfl (by decide +kernel) rfl rfl (Nat.le_of_ble_eq_true rfl) dX7_reads_87 (fun H locs hP hD hS => ?_)
      replace hP : va_P (dC, dI) vwCl [(a, .inr (7, [.ref a_text, .int v_size, .int v_at, .int v_begin, .int k0, .int v_told, .ref a_read, .ref a_hill, .ref a_now, .ref a_undone, .int v_undos, .ref a_need, .int v_cames, .ref a_cameOf, .ref a_places, .ref a_firstRow, .int v_each, .long v_trace, .ref a_kept])), (a_text, .inl (cyI, 150, .inl v_text))] H := hP
      replace hD : va_D A [(a, .inr (7, [.ref a_text, .int v_size, .int v_at, .int v_begin, .int k0, .int v_told, .ref a_read, .ref a_hill, .ref a_now, .ref a_undone, .int v_undos, .ref a_need, .int v_cames, .ref a_cameOf, .ref a_places, .ref a_firstRow, .int v_each, .long v_trace, .ref a_kept])), (a_text, .inl (cyI, 150, .inl v_text))] := hD
      refine lv_aload_n hx hb dX7_reads_90 rfl (lv_at hl 0 rfl) ?_
      refine lv_dup hx hb dX7_reads_91 rfl ?_
      refine va_get (D := (dC, dI)) (ci := 7) (v := .int v_at) (C := RX7) (T := TX7) (N := 19) hx hb hts iwX7_reads_X7 hown hK hP 0 rfl rfl 2 (by decide) f64 (fun _ h9 => h9) rfl dX7_reads_92 ?_
      refine lv_aload_n hx hb dX7_reads_95 rfl (lv_at hl 0 rfl) ?_
      refine va_get (D := (dC, dI)) (ci := 7) (v := .int k0) (C := RX7) (T := TX7) (N := 19) hx hb hts iwX7_reads_X7 hown hK hP 0 rfl rfl 4 (by decide) f77 (fun _ h9 => h9) rfl dX7_reads_96 ?_
      refine lv_iconst (v := 3) hx hb dX7_reads_99 (by decide) ?_
      refine lv_icmp_ne (tgt := 107) hx hb dX7_reads_100 (by decide) (fun c_18 => ?_) (fun c_18 => ?_)
      · replace h := h.1 c_18
        refine lv_iconst (v := 0) hx hb dX7_reads_107 (by decide) ?_
        refine lv_iadd hx hb dX7_reads_108 ?_
        refine lv_topi (fun n_19 e_20 => ?_)
        replace h := h n_19 e_20
        refine va_put (D := (dC, dI)) (ci := 7) (v := .int n_19) (ty := .int) (C := RX7) (T := TX7) (N := 19) hx hb hts iwX7_reads_X7 tyX7 tyX7_ok nmX7 hown hK hP hD hS 0 rfl rfl 2 (by decide) f64 (fun _ h9 => h9) rfl (by decide +kernel) rfl rfl (Nat.le_of_ble_eq_true rfl) dX7_reads_109 (fun H locs hP hD hS => ?_)
        replace hP : va_P (dC, dI) vwCl [(a, .inr (7, [.ref a_text, .int v_size, .int n_19, .int v_begin, .int k0, .int v_told, .ref a_read, .ref a_hill, .ref a_now, .ref a_undone, .int v_undos, .ref a_need, .int v_cames, .ref a_cameOf, .ref a_places, .ref a_firstRow, .int v_each, .long v_trace, .ref a_kept])), (a_text, .inl (cyI, 150, .inl v_text))] H := hP
        replace hD : va_D A [(a, .inr (7, [.ref a_text, .int v_size, .int n_19, .int v_begin, .int k0, .int v_told, .ref a_read, .ref a_hill, .ref a_now, .ref a_undone, .int v_undos, .ref a_need, .int v_cames, .ref a_cameOf, .ref a_places, .ref a_firstRow, .int v_each, .long v_trace, .ref a_kept])), (a_text, .inl (cyI, 150, .inl v_text))] := hD
        exact grv4 hx hb hr hlocks h hP hD hS dX7_reads_112
      · replace h := h.2 c_18
        refine lv_iconst (v := 1) hx hb dX7_reads_103 (by decide) ?_
        refine lv_goto (tgt := 108) hx hb dX7_reads_104 (by decide) ?_
        refine lv_iadd hx hb dX7_reads_108 ?_
        refine lv_topi (fun n_21 e_22 => ?_)
        replace h := h n_21 e_22
        refine va_put (D := (dC, dI)) (ci := 7) (v := .int n_21) (ty := .int) (C := RX7) (T := TX7) (N := 19) hx hb hts iwX7_reads_X7 tyX7 tyX7_ok nmX7 hown hK hP hD hS 0 rfl rfl 2 (by decide) f64 (fun _ h9 => h9) rfl (by decide +kernel) rfl rfl (Nat.le_of_ble_eq_true rfl) dX7_reads_109 (fun H locs hP hD hS => ?_)
        replace hP : va_P (dC, dI) vwCl [(a, .inr (7, [.ref a_text, .int v_size, .int n_21, .int v_begin, .int k0, .int v_told, .ref a_read, .ref a_hill, .ref a_now, .ref a_undone, .int v_undos, .ref a_need, .int v_cames, .ref a_cameOf, .ref a_places, .ref a_firstRow, .int v_each, .long v_trace, .ref a_kept])), (a_text, .inl (cyI, 150, .inl v_text))] H := hP
        replace hD : va_D A [(a, .inr (7, [.ref a_text, .int v_size, .int n_21, .int v_begin, .int k0, .int v_told, .ref a_read, .ref a_hill, .ref a_now, .ref a_undone, .int v_undos, .ref a_need, .int v_cames, .ref a_cameOf, .ref a_places, .ref a_firstRow, .int v_each, .long v_trace, .ref a_kept])), (a_text, .inl (cyI, 150, .inl v_text))] := hD
        exact grv4 hx hb hr hlocks h hP hD hS dX7_reads_112
set_option maxHeartbeats 4000000 in
set_option maxRecDepth 100000 in
theorem c_X7_reads (l : Launch) (dC : Nat → ClassId) (dI : Nat → Nat → Nat) (cyC cyI cyZ : ClassId) (sz : Nat) (a a_text a_read a_hill a_now a_undone a_need a_cameOf a_places a_firstRow a_kept : Nat) (v_size : Int32) (v_at : Int32) (v_begin : Int32) (v_token : Int32) (v_told : Int32) (v_undos : Int32) (v_cames : Int32) (v_each : Int32) (v_trace : Int64) (v_text : Nat → Int32) {Q : Int32 → Int32 → Int32 → Int32 → Prop} (h : q_X7_reads v_size v_at v_begin v_token v_told v_text Q) : Met l yX7_reads wsX7_reads ({ frames := 3, cells := 0, slots := 0, locals := 66 }) (gPc [.ref a] (dC, dI) (gTy cyC cyI cyZ) sz [(a, .inr (7, [.ref a_text, .int v_size, .int v_at, .int v_begin, .int v_token, .int v_told, .ref a_read, .ref a_hill, .ref a_now, .ref a_undone, .int v_undos, .ref a_need, .int v_cames, .ref a_cameOf, .ref a_places, .ref a_firstRow, .int v_each, .long v_trace, .ref a_kept])), (a_text, .inl (cyI, 150, .inl v_text))]) (gQv4 Q (dC, dI) (va_A [(a, .inr (7, [.ref a_text, .int v_size, .int v_at, .int v_begin, .int v_token, .int v_told, .ref a_read, .ref a_hill, .ref a_now, .ref a_undone, .int v_undos, .ref a_need, .int v_cames, .ref a_cameOf, .ref a_places, .ref a_firstRow, .int v_each, .long v_trace, .ref a_kept])), (a_text, .inl (cyI, 150, .inl v_text))] sz) (fun (u1 : Int32) (u2 : Int32) (u3 : Int32) (u4 : Int32) => [(a, .inr (7, [.ref a_text, .int v_size, .int u1, .int u2, .int u3, .int u4, .ref a_read, .ref a_hill, .ref a_now, .ref a_undone, .int v_undos, .ref a_need, .int v_cames, .ref a_cameOf, .ref a_places, .ref a_firstRow, .int v_each, .long v_trace, .ref a_kept])), (a_text, .inl (cyI, 150, .inl v_text))])) 0 0 (va_A [(a, .inr (7, [.ref a_text, .int v_size, .int v_at, .int v_begin, .int v_token, .int v_told, .ref a_read, .ref a_hill, .ref a_now, .ref a_undone, .int v_undos, .ref a_need, .int v_cames, .ref a_cameOf, .ref a_places, .ref a_firstRow, .int v_each, .long v_trace, .ref a_kept])), (a_text, .inl (cyI, 150, .inl v_text))] sz) := by
  refine gMet (cc := cX7_reads) (maxL := 1) (ret := none) (own := RX7) (fun A => gQv4 Q (dC, dI) A (fun (u1 : Int32) (u2 : Int32) (u3 : Int32) (u4 : Int32) => [(a, .inr (7, [.ref a_text, .int v_size, .int u1, .int u2, .int u3, .int u4, .ref a_read, .ref a_hill, .ref a_now, .ref a_undone, .int v_undos, .ref a_need, .int v_cames, .ref a_cameOf, .ref a_places, .ref a_firstRow, .int v_each, .long v_trace, .ref a_kept])), (a_text, .inl (cyI, 150, .inl v_text))])) (by decide) rfl rfl (Nat.le_of_ble_eq_true rfl) ?_
  intro p e s m below meth c A ls C0 _ hK hN hP hD hA hl
  obtain ⟨hx, hb, hr, hml, hown, hts, hlocks⟩ := id C0
  have f52 := hts (.fieldLink RX7 52 "LastOchreModel" "size" "I") (by decide +kernel)
  have f64 := hts (.fieldLink RX7 64 "LastOchreModel" "at" "I") (by decide +kernel)
  have f7 := hts (.fieldLink RX7 7 "LastOchreModel" "text" "[I") (by decide +kernel)
  have f77 := hts (.fieldLink RX7 77 "LastOchreModel" "token" "I") (by decide +kernel)
  have hS : va_S A s.heap s.heap [] := va_S.rf
  replace hl : lv_has ls 1 [(0, .ref a)] := hl
  unfold q_X7_reads at h
  obtain ⟨n, h⟩ := h
  have ih87 := w_X7_reads (l := l) (e := e) (below := below) dC dI cyC cyI cyZ a a_text a_read a_hill a_now a_undone a_need a_cameOf a_places a_firstRow a_kept v_size v_undos v_cames v_each v_trace v_text Q C0 hK hN hA n
  unfold F_X7_reads_e at h
  refine lv_aload_n hx hb dX7_reads_0 rfl (lv_at hl 0 rfl) ?_
  refine gV_v2 (As := []) (rest := []) ⟨hx, hb, hml, hown, hts⟩ (c_X7_blanks l dC dI cyC cyI cyZ _ a a_text a_read a_hill a_now a_undone a_need a_cameOf a_places a_firstRow a_kept v_size v_at v_begin v_token v_told v_undos v_cames v_each v_trace v_text h) (cwV 0 hts gX7_reads_X7_blanks rfl rfl rfl hdV_X7_blanks ⟨Nat.le_of_ble_eq_true rfl, Nat.le_of_ble_eq_true rfl⟩) hK hN hP hD hS hA [0, 1] (by decide) rfl (ci := 7) rfl rfl rfl hl.1 rfl (Nat.le_of_ble_eq_true rfl) dX7_reads_1 ⟨Nat.zero_le _, Nat.zero_le _⟩ (wr := []) [] rfl (by decide) (by decide) (fun u_1 u_2 H locs h hP hD hS => ?_)
  replace hP : va_P (dC, dI) vwCl [(a, .inr (7, [.ref a_text, .int v_size, .int u_1, .int u_2, .int v_token, .int v_told, .ref a_read, .ref a_hill, .ref a_now, .ref a_undone, .int v_undos, .ref a_need, .int v_cames, .ref a_cameOf, .ref a_places, .ref a_firstRow, .int v_each, .long v_trace, .ref a_kept])), (a_text, .inl (cyI, 150, .inl v_text))] H := hP
  replace hD : va_D A [(a, .inr (7, [.ref a_text, .int v_size, .int u_1, .int u_2, .int v_token, .int v_told, .ref a_read, .ref a_hill, .ref a_now, .ref a_undone, .int v_undos, .ref a_need, .int v_cames, .ref a_cameOf, .ref a_places, .ref a_firstRow, .int v_each, .long v_trace, .ref a_kept])), (a_text, .inl (cyI, 150, .inl v_text))] := hD
  refine lv_aload_n hx hb dX7_reads_4 rfl (lv_at hl 0 rfl) ?_
  refine va_get (D := (dC, dI)) (ci := 7) (v := .int u_1) (C := RX7) (T := TX7) (N := 19) hx hb hts iwX7_reads_X7 hown hK hP 0 rfl rfl 2 (by decide) f64 (fun _ h9 => h9) rfl dX7_reads_5 ?_
  refine lv_aload_n hx hb dX7_reads_8 rfl (lv_at hl 0 rfl) ?_
  refine va_get (D := (dC, dI)) (ci := 7) (v := .int v_size) (C := RX7) (T := TX7) (N := 19) hx hb hts iwX7_reads_X7 hown hK hP 0 rfl rfl 1 (by decide) f52 (fun _ h9 => h9) rfl dX7_reads_9 ?_
  refine lv_icmp_ne (tgt := 23) hx hb dX7_reads_12 (by decide) (fun c_3 => ?_) (fun c_3 => ?_)
  · replace h := h.1 c_3
    refine lv_aload_n hx hb dX7_reads_23 rfl (lv_at hl 0 rfl) ?_
    refine va_get (D := (dC, dI)) (ci := 7) (v := .ref a_text) (C := RX7) (T := TX7) (N := 19) hx hb hts iwX7_reads_X7 hown hK hP 0 rfl rfl 0 (by decide) f7 (fun _ h9 => h9) rfl dX7_reads_24 ?_
    refine lv_aload_n hx hb dX7_reads_27 rfl (lv_at hl 0 rfl) ?_
    refine va_get (D := (dC, dI)) (ci := 7) (v := .int u_1) (C := RX7) (T := TX7) (N := 19) hx hb hts iwX7_reads_X7 hown hK hP 0 rfl rfl 2 (by decide) f64 (fun _ h9 => h9) rfl dX7_reads_28 ?_
    have g_4 := h.1
    replace h := h.2
    refine va_iald hx hb hK hP 1 0 rfl rfl g_4 dX7_reads_31 ?_
    refine gS_i0 (As := [.int (v_text (u_1).toNatClampNeg)]) (rest := []) ⟨hx, hb, hml, hown, hts⟩ (c_X7_isLetter l dC dI cyC cyI cyZ _ (v_text (u_1).toNatClampNeg) h) (va_cwS 1 hts gX7_reads_X7_isLetter rfl rfl rfl hdS_X7_isLetter ⟨Nat.le_of_ble_eq_true rfl, Nat.le_of_ble_eq_true rfl⟩) hK hN hP hD hS hA [] (by decide) rfl rfl hl.1 rfl (Nat.le_of_ble_eq_true rfl) dX7_reads_32 ⟨Nat.zero_le _, Nat.zero_le _⟩ (fun r_5 H locs h hP hS => ?_)
    refine lv_if_eq (tgt := 45) hx hb dX7_reads_35 (by decide) (fun c_6 => ?_) (fun c_6 => ?_)
    · replace h := h.1 c_6
      refine lv_aload_n hx hb dX7_reads_45 rfl (lv_at hl 0 rfl) ?_
      refine va_get (D := (dC, dI)) (ci := 7) (v := .ref a_text) (C := RX7) (T := TX7) (N := 19) hx hb hts iwX7_reads_X7 hown hK hP 0 rfl rfl 0 (by decide) f7 (fun _ h9 => h9) rfl dX7_reads_46 ?_
      refine lv_aload_n hx hb dX7_reads_49 rfl (lv_at hl 0 rfl) ?_
      refine va_get (D := (dC, dI)) (ci := 7) (v := .int u_1) (C := RX7) (T := TX7) (N := 19) hx hb hts iwX7_reads_X7 hown hK hP 0 rfl rfl 2 (by decide) f64 (fun _ h9 => h9) rfl dX7_reads_50 ?_
      have g_7 := h.1
      replace h := h.2
      refine va_iald hx hb hK hP 1 0 rfl rfl g_7 dX7_reads_53 ?_
      refine gS_i0 (As := [.int (v_text (u_1).toNatClampNeg)]) (rest := []) ⟨hx, hb, hml, hown, hts⟩ (c_X7_isFigure l dC dI cyC cyI cyZ _ (v_text (u_1).toNatClampNeg) h) (va_cwS 1 hts gX7_reads_X7_isFigure rfl rfl rfl hdS_X7_isFigure ⟨Nat.le_of_ble_eq_true rfl, Nat.le_of_ble_eq_true rfl⟩) hK hN hP hD hS hA [] (by decide) rfl rfl hl.1 rfl (Nat.le_of_ble_eq_true rfl) dX7_reads_54 ⟨Nat.zero_le _, Nat.zero_le _⟩ (fun r_8 H locs h hP hS => ?_)
      refine lv_if_eq (tgt := 67) hx hb dX7_reads_57 (by decide) (fun c_9 => ?_) (fun c_9 => ?_)
      · replace h := h.1 c_9
        refine lv_aload_n hx hb dX7_reads_67 rfl (lv_at hl 0 rfl) ?_
        refine lv_aload_n hx hb dX7_reads_68 rfl (lv_at hl 0 rfl) ?_
        refine va_get (D := (dC, dI)) (ci := 7) (v := .ref a_text) (C := RX7) (T := TX7) (N := 19) hx hb hts iwX7_reads_X7 hown hK hP 0 rfl rfl 0 (by decide) f7 (fun _ h9 => h9) rfl dX7_reads_69 ?_
        refine lv_aload_n hx hb dX7_reads_72 rfl (lv_at hl 0 rfl) ?_
        refine va_get (D := (dC, dI)) (ci := 7) (v := .int u_1) (C := RX7) (T := TX7) (N := 19) hx hb hts iwX7_reads_X7 hown hK hP 0 rfl rfl 2 (by decide) f64 (fun _ h9 => h9) rfl dX7_reads_73 ?_
        have g_10 := h.1
        replace h := h.2
        refine va_iald hx hb hK hP 1 0 rfl rfl g_10 dX7_reads_76 ?_
        refine lv_bipush (v := 59) hx hb dX7_reads_77 (by decide) ?_
        refine lv_icmp_ne (tgt := 86) hx hb dX7_reads_79 (by decide) (fun c_11 => ?_) (fun c_11 => ?_)
        · replace h := h.1 c_11
          refine lv_iconst (v := 4) hx hb dX7_reads_86 (by decide) ?_
          exact ih87 (4 : Int32) 0 u_1 u_2 v_token v_told _ _ _ h hP hD hS (lv_sub hl [0] rfl)
        · replace h := h.2 c_11
          refine lv_iconst (v := 3) hx hb dX7_reads_82 (by decide) ?_
          refine lv_goto (tgt := 87) hx hb dX7_reads_83 (by decide) ?_
          exact ih87 (3 : Int32) 0 u_1 u_2 v_token v_told _ _ _ h hP hD hS (lv_sub hl [0] rfl)
      · replace h := h.2 c_9
        refine lv_aload_n hx hb dX7_reads_60 rfl (lv_at hl 0 rfl) ?_
        refine gV_v3 (As := []) (rest := []) ⟨hx, hb, hml, hown, hts⟩ (c_X7_readNumber l dC dI cyC cyI cyZ _ a a_text a_read a_hill a_now a_undone a_need a_cameOf a_places a_firstRow a_kept v_size u_1 u_2 v_token v_told v_undos v_cames v_each v_trace v_text h) (cwV 0 hts gX7_reads_X7_readNumber rfl rfl rfl hdV_X7_readNumber ⟨Nat.le_of_ble_eq_true rfl, Nat.le_of_ble_eq_true rfl⟩) hK hN hP hD hS hA [0, 1] (by decide) rfl (ci := 7) rfl rfl rfl hl.1 rfl (Nat.le_of_ble_eq_true rfl) dX7_reads_61 ⟨Nat.zero_le _, Nat.zero_le _⟩ (wr := []) [] rfl (by decide) (by decide) (fun u_12 u_13 u_14 H locs h hP hD hS => ?_)
        replace hP : va_P (dC, dI) vwCl [(a, .inr (7, [.ref a_text, .int v_size, .int u_12, .int u_2, .int u_13, .int u_14, .ref a_read, .ref a_hill, .ref a_now, .ref a_undone, .int v_undos, .ref a_need, .int v_cames, .ref a_cameOf, .ref a_places, .ref a_firstRow, .int v_each, .long v_trace, .ref a_kept])), (a_text, .inl (cyI, 150, .inl v_text))] H := hP
        replace hD : va_D A [(a, .inr (7, [.ref a_text, .int v_size, .int u_12, .int u_2, .int u_13, .int u_14, .ref a_read, .ref a_hill, .ref a_now, .ref a_undone, .int v_undos, .ref a_need, .int v_cames, .ref a_cameOf, .ref a_places, .ref a_firstRow, .int v_each, .long v_trace, .ref a_kept])), (a_text, .inl (cyI, 150, .inl v_text))] := hD
        refine lv_goto (tgt := 112) hx hb dX7_reads_64 (by decide) ?_
        exact grv4 hx hb hr hlocks h hP hD hS dX7_reads_112
    · replace h := h.2 c_6
      refine lv_aload_n hx hb dX7_reads_38 rfl (lv_at hl 0 rfl) ?_
      refine gV_v3 (As := []) (rest := []) ⟨hx, hb, hml, hown, hts⟩ (c_X7_readLetters l dC dI cyC cyI cyZ _ a a_text a_read a_hill a_now a_undone a_need a_cameOf a_places a_firstRow a_kept v_size u_1 u_2 v_token v_told v_undos v_cames v_each v_trace v_text h) (cwV 0 hts gX7_reads_X7_readLetters rfl rfl rfl hdV_X7_readLetters ⟨Nat.le_of_ble_eq_true rfl, Nat.le_of_ble_eq_true rfl⟩) hK hN hP hD hS hA [0, 1] (by decide) rfl (ci := 7) rfl rfl rfl hl.1 rfl (Nat.le_of_ble_eq_true rfl) dX7_reads_39 ⟨Nat.zero_le _, Nat.zero_le _⟩ (wr := []) [] rfl (by decide) (by decide) (fun u_15 u_16 u_17 H locs h hP hD hS => ?_)
      replace hP : va_P (dC, dI) vwCl [(a, .inr (7, [.ref a_text, .int v_size, .int u_15, .int u_2, .int u_16, .int u_17, .ref a_read, .ref a_hill, .ref a_now, .ref a_undone, .int v_undos, .ref a_need, .int v_cames, .ref a_cameOf, .ref a_places, .ref a_firstRow, .int v_each, .long v_trace, .ref a_kept])), (a_text, .inl (cyI, 150, .inl v_text))] H := hP
      replace hD : va_D A [(a, .inr (7, [.ref a_text, .int v_size, .int u_15, .int u_2, .int u_16, .int u_17, .ref a_read, .ref a_hill, .ref a_now, .ref a_undone, .int v_undos, .ref a_need, .int v_cames, .ref a_cameOf, .ref a_places, .ref a_firstRow, .int v_each, .long v_trace, .ref a_kept])), (a_text, .inl (cyI, 150, .inl v_text))] := hD
      refine lv_goto (tgt := 112) hx hb dX7_reads_42 (by decide) ?_
      exact grv4 hx hb hr hlocks h hP hD hS dX7_reads_112
  · replace h := h.2 c_3
    refine lv_aload_n hx hb dX7_reads_15 rfl (lv_at hl 0 rfl) ?_
    refine lv_iconst (v := 0) hx hb dX7_reads_16 (by decide) ?_
    refine va_put (D := (dC, dI)) (ci := 7) (v := .int (0 : Int32)) (ty := .int) (C := RX7) (T := TX7) (N := 19) hx hb hts iwX7_reads_X7 tyX7 tyX7_ok nmX7 hown hK hP hD hS 0 rfl rfl 4 (by decide) f77 (fun _ h9 => h9) rfl (by decide +kernel) rfl rfl (Nat.le_of_ble_eq_true rfl) dX7_reads_17 (fun H locs hP hD hS => ?_)
    replace hP : va_P (dC, dI) vwCl [(a, .inr (7, [.ref a_text, .int v_size, .int u_1, .int u_2, .int (0 : Int32), .int v_told, .ref a_read, .ref a_hill, .ref a_now, .ref a_undone, .int v_undos, .ref a_need, .int v_cames, .ref a_cameOf, .ref a_places, .ref a_firstRow, .int v_each, .long v_trace, .ref a_kept])), (a_text, .inl (cyI, 150, .inl v_text))] H := hP
    replace hD : va_D A [(a, .inr (7, [.ref a_text, .int v_size, .int u_1, .int u_2, .int (0 : Int32), .int v_told, .ref a_read, .ref a_hill, .ref a_now, .ref a_undone, .int v_undos, .ref a_need, .int v_cames, .ref a_cameOf, .ref a_places, .ref a_firstRow, .int v_each, .long v_trace, .ref a_kept])), (a_text, .inl (cyI, 150, .inl v_text))] := hD
    refine lv_goto (tgt := 112) hx hb dX7_reads_20 (by decide) ?_
    exact grv4 hx hb hr hlocks h hP hD hS dX7_reads_112

def F_X7_number_e (v_size : Int32) (v_text : Nat → Int32) (p0 : Int32) (p1 : Int32) (Q : Int32 → Int32 → Int32 → Int32 → Int32 → Prop) (v_at : Int32) (v_begin : Int32) (v_token : Int32) (v_told : Int32) : Prop :=
  q_X7_reads v_size v_at v_begin v_token v_told v_text (fun (u_1 : Int32) (u_2 : Int32) (u_3 : Int32) (u_4 : Int32) => (¬ u_3 = (2 : Int32) → (Q (0 : Int32) u_1 u_2 u_3 u_4)) ∧ (u_3 = (2 : Int32) → (q_X7_in ((u_4).toInt64) ((p0).toInt64) ((p1).toInt64) (fun (r_6 : Int32) => (r_6 = 0 → (Q (0 : Int32) u_1 u_2 u_3 u_4)) ∧ (¬ r_6 = 0 → (Q (1 : Int32) u_1 u_2 u_3 u_4))))))
def q_X7_number (v_size : Int32) (v_at : Int32) (v_begin : Int32) (v_token : Int32) (v_told : Int32) (v_text : Nat → Int32) (p0 : Int32) (p1 : Int32) (Q : Int32 → Int32 → Int32 → Int32 → Int32 → Prop) : Prop := F_X7_number_e v_size v_text p0 p1 Q v_at v_begin v_token v_told
theorem iwX7_number_X7 : ∀ w ∈ wsX70, w ∈ wsX7_number := by decide +kernel
theorem hdV_X7_number : yX7_number.cls = RX7 ∧ yX7_number.cls ≠ "java/lang/invoke/MethodHandle" ∧ yX7_number.cls ≠ "java/lang/invoke/VarHandle" ∧ (parseMethodDescriptor yX7_number.desc).map (fun d => d.parameters.length) = some 2 := by decide +kernel
set_option maxHeartbeats 4000000 in
set_option maxRecDepth 100000 in
theorem c_X7_number (l : Launch) (dC : Nat → ClassId) (dI : Nat → Nat → Nat) (cyC cyI cyZ : ClassId) (sz : Nat) (a a_text a_read a_hill a_now a_undone a_need a_cameOf a_places a_firstRow a_kept : Nat) (v_size : Int32) (v_at : Int32) (v_begin : Int32) (v_token : Int32) (v_told : Int32) (v_undos : Int32) (v_cames : Int32) (v_each : Int32) (v_trace : Int64) (v_text : Nat → Int32) (p0 : Int32) (p1 : Int32) {Q : Int32 → Int32 → Int32 → Int32 → Int32 → Prop} (h : q_X7_number v_size v_at v_begin v_token v_told v_text p0 p1 Q) : Met l yX7_number wsX7_number ({ frames := 4, cells := 0, slots := 0, locals := 86 }) (gPc [.ref a, .int p0, .int p1] (dC, dI) (gTy cyC cyI cyZ) sz [(a, .inr (7, [.ref a_text, .int v_size, .int v_at, .int v_begin, .int v_token, .int v_told, .ref a_read, .ref a_hill, .ref a_now, .ref a_undone, .int v_undos, .ref a_need, .int v_cames, .ref a_cameOf, .ref a_places, .ref a_firstRow, .int v_each, .long v_trace, .ref a_kept])), (a_text, .inl (cyI, 150, .inl v_text))]) (gQi4 Q (dC, dI) (va_A [(a, .inr (7, [.ref a_text, .int v_size, .int v_at, .int v_begin, .int v_token, .int v_told, .ref a_read, .ref a_hill, .ref a_now, .ref a_undone, .int v_undos, .ref a_need, .int v_cames, .ref a_cameOf, .ref a_places, .ref a_firstRow, .int v_each, .long v_trace, .ref a_kept])), (a_text, .inl (cyI, 150, .inl v_text))] sz) (fun (u1 : Int32) (u2 : Int32) (u3 : Int32) (u4 : Int32) => [(a, .inr (7, [.ref a_text, .int v_size, .int u1, .int u2, .int u3, .int u4, .ref a_read, .ref a_hill, .ref a_now, .ref a_undone, .int v_undos, .ref a_need, .int v_cames, .ref a_cameOf, .ref a_places, .ref a_firstRow, .int v_each, .long v_trace, .ref a_kept])), (a_text, .inl (cyI, 150, .inl v_text))])) 0 0 (va_A [(a, .inr (7, [.ref a_text, .int v_size, .int v_at, .int v_begin, .int v_token, .int v_told, .ref a_read, .ref a_hill, .ref a_now, .ref a_undone, .int v_undos, .ref a_need, .int v_cames, .ref a_cameOf, .ref a_places, .ref a_firstRow, .int v_each, .long v_trace, .ref a_kept])), (a_text, .inl (cyI, 150, .inl v_text))] sz) := by
  refine gMet (cc := cX7_number) (maxL := 3) (ret := (some .boolean)) (own := RX7) (fun A => gQi4 Q (dC, dI) A (fun (u1 : Int32) (u2 : Int32) (u3 : Int32) (u4 : Int32) => [(a, .inr (7, [.ref a_text, .int v_size, .int u1, .int u2, .int u3, .int u4, .ref a_read, .ref a_hill, .ref a_now, .ref a_undone, .int v_undos, .ref a_need, .int v_cames, .ref a_cameOf, .ref a_places, .ref a_firstRow, .int v_each, .long v_trace, .ref a_kept])), (a_text, .inl (cyI, 150, .inl v_text))])) (by decide) rfl rfl (Nat.le_of_ble_eq_true rfl) ?_
  intro p e s m below meth c A ls C0 _ hK hN hP hD hA hl
  obtain ⟨hx, hb, hr, hml, hown, hts, hlocks⟩ := id C0
  have f67 := hts (.fieldLink RX7 67 "LastOchreModel" "told" "I") (by decide +kernel)
  have f77 := hts (.fieldLink RX7 77 "LastOchreModel" "token" "I") (by decide +kernel)
  have hS : va_S A s.heap s.heap [] := va_S.rf
  replace hl : lv_has ls 3 [(0, .ref a), (1, .int p0), (2, .int p1)] := hl
  unfold q_X7_number at h
  unfold F_X7_number_e at h
  refine lv_aload_n hx hb dX7_number_0 rfl (lv_at hl 0 rfl) ?_
  refine gV_v4 (As := []) (rest := []) ⟨hx, hb, hml, hown, hts⟩ (c_X7_reads l dC dI cyC cyI cyZ _ a a_text a_read a_hill a_now a_undone a_need a_cameOf a_places a_firstRow a_kept v_size v_at v_begin v_token v_told v_undos v_cames v_each v_trace v_text h) (cwV 0 hts gX7_number_X7_reads rfl rfl rfl hdV_X7_reads ⟨Nat.le_of_ble_eq_true rfl, Nat.le_of_ble_eq_true rfl⟩) hK hN hP hD hS hA [0, 1] (by decide) rfl (ci := 7) rfl rfl rfl hl.1 rfl (Nat.le_of_ble_eq_true rfl) dX7_number_1 ⟨Nat.zero_le _, Nat.zero_le _⟩ (wr := []) [] rfl (by decide) (by decide) (fun u_1 u_2 u_3 u_4 H locs h hP hD hS => ?_)
  replace hP : va_P (dC, dI) vwCl [(a, .inr (7, [.ref a_text, .int v_size, .int u_1, .int u_2, .int u_3, .int u_4, .ref a_read, .ref a_hill, .ref a_now, .ref a_undone, .int v_undos, .ref a_need, .int v_cames, .ref a_cameOf, .ref a_places, .ref a_firstRow, .int v_each, .long v_trace, .ref a_kept])), (a_text, .inl (cyI, 150, .inl v_text))] H := hP
  replace hD : va_D A [(a, .inr (7, [.ref a_text, .int v_size, .int u_1, .int u_2, .int u_3, .int u_4, .ref a_read, .ref a_hill, .ref a_now, .ref a_undone, .int v_undos, .ref a_need, .int v_cames, .ref a_cameOf, .ref a_places, .ref a_firstRow, .int v_each, .long v_trace, .ref a_kept])), (a_text, .inl (cyI, 150, .inl v_text))] := hD
  refine lv_aload_n hx hb dX7_number_4 rfl (lv_at hl 0 rfl) ?_
  refine va_get (D := (dC, dI)) (ci := 7) (v := .int u_3) (C := RX7) (T := TX7) (N := 19) hx hb hts iwX7_number_X7 hown hK hP 0 rfl rfl 4 (by decide) f77 (fun _ h9 => h9) rfl dX7_number_5 ?_
  refine lv_iconst (v := 2) hx hb dX7_number_8 (by decide) ?_
  refine lv_icmp_ne (tgt := 31) hx hb dX7_number_9 (by decide) (fun c_5 => ?_) (fun c_5 => ?_)
  · replace h := h.1 c_5
    refine lv_iconst (v := 0) hx hb dX7_number_31 (by decide) ?_
    exact grz4 hx hb hr hlocks rfl h hP hD hS dX7_number_32
  · replace h := h.2 c_5
    refine lv_aload_n hx hb dX7_number_12 rfl (lv_at hl 0 rfl) ?_
    refine va_get (D := (dC, dI)) (ci := 7) (v := .int u_4) (C := RX7) (T := TX7) (N := 19) hx hb hts iwX7_number_X7 hown hK hP 0 rfl rfl 5 (by decide) f67 (fun _ h9 => h9) rfl dX7_number_13 ?_
    refine lv_i2l hx hb dX7_number_16 rfl ?_
    refine lv_iload_n hx hb dX7_number_17 rfl (lv_at hl 1 rfl) ?_
    refine lv_i2l hx hb dX7_number_18 rfl ?_
    refine lv_iload_n hx hb dX7_number_19 rfl (lv_at hl 2 rfl) ?_
    refine lv_i2l hx hb dX7_number_20 rfl ?_
    refine gS_i0 (As := [.long ((u_4).toInt64), .long ((p0).toInt64), .long ((p1).toInt64)]) (rest := []) ⟨hx, hb, hml, hown, hts⟩ (c_X7_in l dC dI cyC cyI cyZ _ ((u_4).toInt64) ((p0).toInt64) ((p1).toInt64) h) (va_cwS 3 hts gX7_number_X7_in rfl rfl rfl hdS_X7_in ⟨Nat.le_of_ble_eq_true rfl, Nat.le_of_ble_eq_true rfl⟩) hK hN hP hD hS hA [] (by decide) rfl rfl hl.1 rfl (Nat.le_of_ble_eq_true rfl) dX7_number_21 ⟨Nat.zero_le _, Nat.zero_le _⟩ (fun r_6 H locs h hP hS => ?_)
    refine lv_if_eq (tgt := 31) hx hb dX7_number_24 (by decide) (fun c_7 => ?_) (fun c_7 => ?_)
    · replace h := h.1 c_7
      refine lv_iconst (v := 0) hx hb dX7_number_31 (by decide) ?_
      exact grz4 hx hb hr hlocks rfl h hP hD hS dX7_number_32
    · replace h := h.2 c_7
      refine lv_iconst (v := 1) hx hb dX7_number_27 (by decide) ?_
      refine lv_goto (tgt := 32) hx hb dX7_number_28 (by decide) ?_
      exact grz4 hx hb hr hlocks rfl h hP hD hS dX7_number_32

def F_X7_ends_e (v_size : Int32) (v_text : Nat → Int32) (Q : Int32 → Int32 → Int32 → Int32 → Int32 → Prop) (v_at : Int32) (v_begin : Int32) (v_token : Int32) (v_told : Int32) : Prop :=
  q_X7_reads v_size v_at v_begin v_token v_told v_text (fun (u_1 : Int32) (u_2 : Int32) (u_3 : Int32) (u_4 : Int32) => (¬ u_3 = (3 : Int32) → (Q (0 : Int32) u_1 u_2 u_3 u_4)) ∧ (u_3 = (3 : Int32) → (Q (1 : Int32) u_1 u_2 u_3 u_4)))
def q_X7_ends (v_size : Int32) (v_at : Int32) (v_begin : Int32) (v_token : Int32) (v_told : Int32) (v_text : Nat → Int32) (Q : Int32 → Int32 → Int32 → Int32 → Int32 → Prop) : Prop := F_X7_ends_e v_size v_text Q v_at v_begin v_token v_told
theorem iwX7_ends_X7 : ∀ w ∈ wsX70, w ∈ wsX7_ends := by decide +kernel
theorem hdV_X7_ends : yX7_ends.cls = RX7 ∧ yX7_ends.cls ≠ "java/lang/invoke/MethodHandle" ∧ yX7_ends.cls ≠ "java/lang/invoke/VarHandle" ∧ (parseMethodDescriptor yX7_ends.desc).map (fun d => d.parameters.length) = some 0 := by decide +kernel
set_option maxHeartbeats 4000000 in
set_option maxRecDepth 100000 in
theorem c_X7_ends (l : Launch) (dC : Nat → ClassId) (dI : Nat → Nat → Nat) (cyC cyI cyZ : ClassId) (sz : Nat) (a a_text a_read a_hill a_now a_undone a_need a_cameOf a_places a_firstRow a_kept : Nat) (v_size : Int32) (v_at : Int32) (v_begin : Int32) (v_token : Int32) (v_told : Int32) (v_undos : Int32) (v_cames : Int32) (v_each : Int32) (v_trace : Int64) (v_text : Nat → Int32) {Q : Int32 → Int32 → Int32 → Int32 → Int32 → Prop} (h : q_X7_ends v_size v_at v_begin v_token v_told v_text Q) : Met l yX7_ends wsX7_ends ({ frames := 4, cells := 0, slots := 0, locals := 86 }) (gPc [.ref a] (dC, dI) (gTy cyC cyI cyZ) sz [(a, .inr (7, [.ref a_text, .int v_size, .int v_at, .int v_begin, .int v_token, .int v_told, .ref a_read, .ref a_hill, .ref a_now, .ref a_undone, .int v_undos, .ref a_need, .int v_cames, .ref a_cameOf, .ref a_places, .ref a_firstRow, .int v_each, .long v_trace, .ref a_kept])), (a_text, .inl (cyI, 150, .inl v_text))]) (gQi4 Q (dC, dI) (va_A [(a, .inr (7, [.ref a_text, .int v_size, .int v_at, .int v_begin, .int v_token, .int v_told, .ref a_read, .ref a_hill, .ref a_now, .ref a_undone, .int v_undos, .ref a_need, .int v_cames, .ref a_cameOf, .ref a_places, .ref a_firstRow, .int v_each, .long v_trace, .ref a_kept])), (a_text, .inl (cyI, 150, .inl v_text))] sz) (fun (u1 : Int32) (u2 : Int32) (u3 : Int32) (u4 : Int32) => [(a, .inr (7, [.ref a_text, .int v_size, .int u1, .int u2, .int u3, .int u4, .ref a_read, .ref a_hill, .ref a_now, .ref a_undone, .int v_undos, .ref a_need, .int v_cames, .ref a_cameOf, .ref a_places, .ref a_firstRow, .int v_each, .long v_trace, .ref a_kept])), (a_text, .inl (cyI, 150, .inl v_text))])) 0 0 (va_A [(a, .inr (7, [.ref a_text, .int v_size, .int v_at, .int v_begin, .int v_token, .int v_told, .ref a_read, .ref a_hill, .ref a_now, .ref a_undone, .int v_undos, .ref a_need, .int v_cames, .ref a_cameOf, .ref a_places, .ref a_firstRow, .int v_each, .long v_trace, .ref a_kept])), (a_text, .inl (cyI, 150, .inl v_text))] sz) := by
  refine gMet (cc := cX7_ends) (maxL := 1) (ret := (some .boolean)) (own := RX7) (fun A => gQi4 Q (dC, dI) A (fun (u1 : Int32) (u2 : Int32) (u3 : Int32) (u4 : Int32) => [(a, .inr (7, [.ref a_text, .int v_size, .int u1, .int u2, .int u3, .int u4, .ref a_read, .ref a_hill, .ref a_now, .ref a_undone, .int v_undos, .ref a_need, .int v_cames, .ref a_cameOf, .ref a_places, .ref a_firstRow, .int v_each, .long v_trace, .ref a_kept])), (a_text, .inl (cyI, 150, .inl v_text))])) (by decide) rfl rfl (Nat.le_of_ble_eq_true rfl) ?_
  intro p e s m below meth c A ls C0 _ hK hN hP hD hA hl
  obtain ⟨hx, hb, hr, hml, hown, hts, hlocks⟩ := id C0
  have f77 := hts (.fieldLink RX7 77 "LastOchreModel" "token" "I") (by decide +kernel)
  have hS : va_S A s.heap s.heap [] := va_S.rf
  replace hl : lv_has ls 1 [(0, .ref a)] := hl
  unfold q_X7_ends at h
  unfold F_X7_ends_e at h
  refine lv_aload_n hx hb dX7_ends_0 rfl (lv_at hl 0 rfl) ?_
  refine gV_v4 (As := []) (rest := []) ⟨hx, hb, hml, hown, hts⟩ (c_X7_reads l dC dI cyC cyI cyZ _ a a_text a_read a_hill a_now a_undone a_need a_cameOf a_places a_firstRow a_kept v_size v_at v_begin v_token v_told v_undos v_cames v_each v_trace v_text h) (cwV 0 hts gX7_ends_X7_reads rfl rfl rfl hdV_X7_reads ⟨Nat.le_of_ble_eq_true rfl, Nat.le_of_ble_eq_true rfl⟩) hK hN hP hD hS hA [0, 1] (by decide) rfl (ci := 7) rfl rfl rfl hl.1 rfl (Nat.le_of_ble_eq_true rfl) dX7_ends_1 ⟨Nat.zero_le _, Nat.zero_le _⟩ (wr := []) [] rfl (by decide) (by decide) (fun u_1 u_2 u_3 u_4 H locs h hP hD hS => ?_)
  replace hP : va_P (dC, dI) vwCl [(a, .inr (7, [.ref a_text, .int v_size, .int u_1, .int u_2, .int u_3, .int u_4, .ref a_read, .ref a_hill, .ref a_now, .ref a_undone, .int v_undos, .ref a_need, .int v_cames, .ref a_cameOf, .ref a_places, .ref a_firstRow, .int v_each, .long v_trace, .ref a_kept])), (a_text, .inl (cyI, 150, .inl v_text))] H := hP
  replace hD : va_D A [(a, .inr (7, [.ref a_text, .int v_size, .int u_1, .int u_2, .int u_3, .int u_4, .ref a_read, .ref a_hill, .ref a_now, .ref a_undone, .int v_undos, .ref a_need, .int v_cames, .ref a_cameOf, .ref a_places, .ref a_firstRow, .int v_each, .long v_trace, .ref a_kept])), (a_text, .inl (cyI, 150, .inl v_text))] := hD
  refine lv_aload_n hx hb dX7_ends_4 rfl (lv_at hl 0 rfl) ?_
  refine va_get (D := (dC, dI)) (ci := 7) (v := .int u_3) (C := RX7) (T := TX7) (N := 19) hx hb hts iwX7_ends_X7 hown hK hP 0 rfl rfl 4 (by decide) f77 (fun _ h9 => h9) rfl dX7_ends_5 ?_
  refine lv_iconst (v := 3) hx hb dX7_ends_8 (by decide) ?_
  refine lv_icmp_ne (tgt := 16) hx hb dX7_ends_9 (by decide) (fun c_5 => ?_) (fun c_5 => ?_)
  · replace h := h.1 c_5
    refine lv_iconst (v := 0) hx hb dX7_ends_16 (by decide) ?_
    exact grz4 hx hb hr hlocks rfl h hP hD hS dX7_ends_17
  · replace h := h.2 c_5
    refine lv_iconst (v := 1) hx hb dX7_ends_12 (by decide) ?_
    refine lv_goto (tgt := 17) hx hb dX7_ends_13 (by decide) ?_
    exact grz4 hx hb hr hlocks rfl h hP hD hS dX7_ends_17

def F_X7_plain_e  (Q : (Nat → Int32) → Prop) (rec : Nat → Int32 → (Nat → Int32) → Prop) (v_read : Nat → Int32) : Prop :=
  rec 2 (0 : Int32) v_read
def F_X7_plain_2  (Q : (Nat → Int32) → Prop) (rec : Nat → Int32 → (Nat → Int32) → Prop) (x1 : Int32) (v_read : Nat → Int32) : Prop :=
  ((46 : Int32) ≤ x1 → (∀ f_2 : Nat → Int32, f_2 = upd v_read ((3 : Int32)).toNatClampNeg (5 : Int32) → (∀ f_4 : Nat → Int32, f_4 = upd f_2 ((4 : Int32)).toNatClampNeg (3 : Int32) → (Q f_4)))) ∧ (¬ (46 : Int32) ≤ x1 → (vp_in x1 46 ∧ (∀ f_7 : Nat → Int32, f_7 = upd v_read (x1).toNatClampNeg (0 : Int32) → (∀ x1_9 : Int32, x1_9 = (x1 + (1 : Int32)) → (rec 2 x1_9 f_7)))))
def wp_X7_plain  (Q : (Nat → Int32) → Prop) : Nat → Nat → Int32 → (Nat → Int32) → Prop
  | 0 => fun _ _ _ => False
  | n + 1 => fun t x1 v_read => if t = 2 then F_X7_plain_2  Q (wp_X7_plain  Q n) x1 v_read else False
def q_X7_plain (v_read : Nat → Int32) (Q : (Nat → Int32) → Prop) : Prop := ∃ n, F_X7_plain_e  Q (wp_X7_plain  Q n) v_read
theorem iwX7_plain_X7 : ∀ w ∈ wsX70, w ∈ wsX7_plain := by decide +kernel
theorem hdV_X7_plain : yX7_plain.cls = RX7 ∧ yX7_plain.cls ≠ "java/lang/invoke/MethodHandle" ∧ yX7_plain.cls ≠ "java/lang/invoke/VarHandle" ∧ (parseMethodDescriptor yX7_plain.desc).map (fun d => d.parameters.length) = some 0 := by decide +kernel
set_option maxHeartbeats 4000000 in
set_option maxRecDepth 100000 in
theorem w_X7_plain {p : Program} {l : Launch} {e : Env} {s : State} {m : MethodId} {args : Array Value} {below : List Frame} {meth : Method} {c : Code} {A : Nat → Prop} (dC : Nat → ClassId) (dI : Nat → Nat → Nat) (cyC cyI cyZ : ClassId) (a a_text a_read a_hill a_now a_undone a_need a_cameOf a_places a_firstRow a_kept : Nat) (v_size : Int32) (v_at : Int32) (v_begin : Int32) (v_token : Int32) (v_told : Int32) (v_undos : Int32) (v_cames : Int32) (v_each : Int32) (v_trace : Int64) (Q : (Nat → Int32) → Prop) (C0 : gAt cX7_plain none 2 RX7 wsX7_plain p s m meth c args) (hK : va_K (dC, dI) vwCl (gTy cyC cyI cyZ) s) (hN : nU s) (hA : ∀ q, s.heap.size ≤ q → A q) : ∀ n : Nat, (∀ (x1 : Int32) (v_read : Nat → Int32) (H : Heap) (locs : List Loc) (ls : Array Slot), wp_X7_plain  Q n 2 x1 v_read → va_P (dC, dI) vwCl [(a, .inr (7, [.ref a_text, .int v_size, .int v_at, .int v_begin, .int v_token, .int v_told, .ref a_read, .ref a_hill, .ref a_now, .ref a_undone, .int v_undos, .ref a_need, .int v_cames, .ref a_cameOf, .ref a_places, .ref a_firstRow, .int v_each, .long v_trace, .ref a_kept])), (a_read, .inl (cyI, 46, .inl v_read))] H → va_D A [(a, .inr (7, [.ref a_text, .int v_size, .int v_at, .int v_begin, .int v_token, .int v_told, .ref a_read, .ref a_hill, .ref a_now, .ref a_undone, .int v_undos, .ref a_need, .int v_cames, .ref a_cameOf, .ref a_places, .ref a_firstRow, .int v_each, .long v_trace, .ref a_kept])), (a_read, .inl (cyI, 46, .inl v_read))] → va_S A s.heap H locs → lv_has ls 2 [(0, .ref a), (1, .int x1)] → W p l e { frames := 0, cells := 0, slots := 0, locals := 0 } s m args below meth c H locs 0 0 (MQ below (gQv1 Q (dC, dI) A (fun (u1 : Nat → Int32) => [(a, .inr (7, [.ref a_text, .int v_size, .int v_at, .int v_begin, .int v_token, .int v_told, .ref a_read, .ref a_hill, .ref a_now, .ref a_undone, .int v_undos, .ref a_need, .int v_cames, .ref a_cameOf, .ref a_places, .ref a_firstRow, .int v_each, .long v_trace, .ref a_kept])), (a_read, .inl (cyI, 46, .inl u1))])) args s 0 0 A) (F0 m 2 ls [])) := by
  obtain ⟨hx, hb, hr, hml, hown, hts, hlocks⟩ := id C0
  have f13 := hts (.fieldLink RX7 13 "LastOchreModel" "read" "[I") (by decide +kernel)
  intro n
  induction n with
  | zero => exact fun _ _ _ _ _ h => absurd h id
  | succ n ih =>
    have ih2 := ih
    · intro x1 v_read H locs ls h hP hD hS hl
      replace h : F_X7_plain_2  Q (wp_X7_plain  Q n) x1 v_read := h
      unfold F_X7_plain_2 at h
      refine lv_iload_n hx hb dX7_plain_2 rfl (lv_at hl 1 rfl) ?_
      refine lv_bipush (v := 46) hx hb dX7_plain_3 (by decide) ?_
      refine lv_icmp_ge (tgt := 21) hx hb dX7_plain_5 (by decide) (fun c_1 => ?_) (fun c_1 => ?_)
      · replace h := h.1 c_1
        refine lv_aload_n hx hb dX7_plain_21 rfl (lv_at hl 0 rfl) ?_
        refine va_get (D := (dC, dI)) (ci := 7) (v := .ref a_read) (C := RX7) (T := TX7) (N := 19) hx hb hts iwX7_plain_X7 hown hK hP 0 rfl rfl 6 (by decide) f13 (fun _ h9 => h9) rfl dX7_plain_22 ?_
        refine lv_iconst (v := 3) hx hb dX7_plain_25 (by decide) ?_
        refine lv_iconst (v := 5) hx hb dX7_plain_26 (by decide) ?_
        refine va_iast hx hb hK hP hD hS 1 0 rfl rfl (by unfold vp_in; decide) dX7_plain_27 (fun H locs hP hD hS => ?_)
        obtain ⟨f_2, e_3⟩ : ∃ y : Nat → Int32, y = upd v_read ((3 : Int32)).toNatClampNeg (5 : Int32) := ⟨_, rfl⟩
        replace h := h f_2 e_3
        replace hP : va_P (dC, dI) vwCl [(a, .inr (7, [.ref a_text, .int v_size, .int v_at, .int v_begin, .int v_token, .int v_told, .ref a_read, .ref a_hill, .ref a_now, .ref a_undone, .int v_undos, .ref a_need, .int v_cames, .ref a_cameOf, .ref a_places, .ref a_firstRow, .int v_each, .long v_trace, .ref a_kept])), (a_read, .inl (cyI, 46, .inl f_2))] H := by rw [e_3]; exact hP
        replace hD : va_D A [(a, .inr (7, [.ref a_text, .int v_size, .int v_at, .int v_begin, .int v_token, .int v_told, .ref a_read, .ref a_hill, .ref a_now, .ref a_undone, .int v_undos, .ref a_need, .int v_cames, .ref a_cameOf, .ref a_places, .ref a_firstRow, .int v_each, .long v_trace, .ref a_kept])), (a_read, .inl (cyI, 46, .inl f_2))] := by rw [e_3]; exact hD
        refine lv_aload_n hx hb dX7_plain_28 rfl (lv_at hl 0 rfl) ?_
        refine va_get (D := (dC, dI)) (ci := 7) (v := .ref a_read) (C := RX7) (T := TX7) (N := 19) hx hb hts iwX7_plain_X7 hown hK hP 0 rfl rfl 6 (by decide) f13 (fun _ h9 => h9) rfl dX7_plain_29 ?_
        refine lv_iconst (v := 4) hx hb dX7_plain_32 (by decide) ?_
        refine lv_iconst (v := 3) hx hb dX7_plain_33 (by decide) ?_
        refine va_iast hx hb hK hP hD hS 1 0 rfl rfl (by unfold vp_in; decide) dX7_plain_34 (fun H locs hP hD hS => ?_)
        obtain ⟨f_4, e_5⟩ : ∃ y : Nat → Int32, y = upd f_2 ((4 : Int32)).toNatClampNeg (3 : Int32) := ⟨_, rfl⟩
        replace h := h f_4 e_5
        replace hP : va_P (dC, dI) vwCl [(a, .inr (7, [.ref a_text, .int v_size, .int v_at, .int v_begin, .int v_token, .int v_told, .ref a_read, .ref a_hill, .ref a_now, .ref a_undone, .int v_undos, .ref a_need, .int v_cames, .ref a_cameOf, .ref a_places, .ref a_firstRow, .int v_each, .long v_trace, .ref a_kept])), (a_read, .inl (cyI, 46, .inl f_4))] H := by rw [e_5]; exact hP
        replace hD : va_D A [(a, .inr (7, [.ref a_text, .int v_size, .int v_at, .int v_begin, .int v_token, .int v_told, .ref a_read, .ref a_hill, .ref a_now, .ref a_undone, .int v_undos, .ref a_need, .int v_cames, .ref a_cameOf, .ref a_places, .ref a_firstRow, .int v_each, .long v_trace, .ref a_kept])), (a_read, .inl (cyI, 46, .inl f_4))] := by rw [e_5]; exact hD
        exact grv1 hx hb hr hlocks h hP hD hS dX7_plain_35
      · replace h := h.2 c_1
        refine lv_aload_n hx hb dX7_plain_8 rfl (lv_at hl 0 rfl) ?_
        refine va_get (D := (dC, dI)) (ci := 7) (v := .ref a_read) (C := RX7) (T := TX7) (N := 19) hx hb hts iwX7_plain_X7 hown hK hP 0 rfl rfl 6 (by decide) f13 (fun _ h9 => h9) rfl dX7_plain_9 ?_
        refine lv_iload_n hx hb dX7_plain_12 rfl (lv_at hl 1 rfl) ?_
        refine lv_iconst (v := 0) hx hb dX7_plain_13 (by decide) ?_
        have g_6 := h.1
        replace h := h.2
        refine va_iast hx hb hK hP hD hS 1 0 rfl rfl g_6 dX7_plain_14 (fun H locs hP hD hS => ?_)
        obtain ⟨f_7, e_8⟩ : ∃ y : Nat → Int32, y = upd v_read (x1).toNatClampNeg (0 : Int32) := ⟨_, rfl⟩
        replace h := h f_7 e_8
        replace hP : va_P (dC, dI) vwCl [(a, .inr (7, [.ref a_text, .int v_size, .int v_at, .int v_begin, .int v_token, .int v_told, .ref a_read, .ref a_hill, .ref a_now, .ref a_undone, .int v_undos, .ref a_need, .int v_cames, .ref a_cameOf, .ref a_places, .ref a_firstRow, .int v_each, .long v_trace, .ref a_kept])), (a_read, .inl (cyI, 46, .inl f_7))] H := by rw [e_8]; exact hP
        replace hD : va_D A [(a, .inr (7, [.ref a_text, .int v_size, .int v_at, .int v_begin, .int v_token, .int v_told, .ref a_read, .ref a_hill, .ref a_now, .ref a_undone, .int v_undos, .ref a_need, .int v_cames, .ref a_cameOf, .ref a_places, .ref a_firstRow, .int v_each, .long v_trace, .ref a_kept])), (a_read, .inl (cyI, 46, .inl f_7))] := by rw [e_8]; exact hD
        obtain ⟨x1_9, e_10⟩ : ∃ y : Int32, y = (x1 + (1 : Int32)) := ⟨_, rfl⟩
        replace h := h x1_9 e_10
        refine lv_iinc (v := x1_9) (lv' := [(1, .int x1_9), (0, .ref a)]) hx hb dX7_plain_15 hl (k := 1) rfl (by rw [e_10]; rfl) (by decide) rfl (fun ls hl => ?_)
        refine lv_goto (tgt := 2) hx hb dX7_plain_18 (by decide) ?_
        exact ih2 x1_9 f_7 _ _ _ h hP hD hS (lv_sub hl [1, 0] rfl)
set_option maxHeartbeats 4000000 in
set_option maxRecDepth 100000 in
theorem c_X7_plain (l : Launch) (dC : Nat → ClassId) (dI : Nat → Nat → Nat) (cyC cyI cyZ : ClassId) (sz : Nat) (a a_text a_read a_hill a_now a_undone a_need a_cameOf a_places a_firstRow a_kept : Nat) (v_size : Int32) (v_at : Int32) (v_begin : Int32) (v_token : Int32) (v_told : Int32) (v_undos : Int32) (v_cames : Int32) (v_each : Int32) (v_trace : Int64) (v_read : Nat → Int32) {Q : (Nat → Int32) → Prop} (h : q_X7_plain v_read Q) : Met l yX7_plain wsX7_plain ({ frames := 0, cells := 0, slots := 0, locals := 0 }) (gPc [.ref a] (dC, dI) (gTy cyC cyI cyZ) sz [(a, .inr (7, [.ref a_text, .int v_size, .int v_at, .int v_begin, .int v_token, .int v_told, .ref a_read, .ref a_hill, .ref a_now, .ref a_undone, .int v_undos, .ref a_need, .int v_cames, .ref a_cameOf, .ref a_places, .ref a_firstRow, .int v_each, .long v_trace, .ref a_kept])), (a_read, .inl (cyI, 46, .inl v_read))]) (gQv1 Q (dC, dI) (va_A [(a, .inr (7, [.ref a_text, .int v_size, .int v_at, .int v_begin, .int v_token, .int v_told, .ref a_read, .ref a_hill, .ref a_now, .ref a_undone, .int v_undos, .ref a_need, .int v_cames, .ref a_cameOf, .ref a_places, .ref a_firstRow, .int v_each, .long v_trace, .ref a_kept])), (a_read, .inl (cyI, 46, .inl v_read))] sz) (fun (u1 : Nat → Int32) => [(a, .inr (7, [.ref a_text, .int v_size, .int v_at, .int v_begin, .int v_token, .int v_told, .ref a_read, .ref a_hill, .ref a_now, .ref a_undone, .int v_undos, .ref a_need, .int v_cames, .ref a_cameOf, .ref a_places, .ref a_firstRow, .int v_each, .long v_trace, .ref a_kept])), (a_read, .inl (cyI, 46, .inl u1))])) 0 0 (va_A [(a, .inr (7, [.ref a_text, .int v_size, .int v_at, .int v_begin, .int v_token, .int v_told, .ref a_read, .ref a_hill, .ref a_now, .ref a_undone, .int v_undos, .ref a_need, .int v_cames, .ref a_cameOf, .ref a_places, .ref a_firstRow, .int v_each, .long v_trace, .ref a_kept])), (a_read, .inl (cyI, 46, .inl v_read))] sz) := by
  refine gMet (cc := cX7_plain) (maxL := 2) (ret := none) (own := RX7) (fun A => gQv1 Q (dC, dI) A (fun (u1 : Nat → Int32) => [(a, .inr (7, [.ref a_text, .int v_size, .int v_at, .int v_begin, .int v_token, .int v_told, .ref a_read, .ref a_hill, .ref a_now, .ref a_undone, .int v_undos, .ref a_need, .int v_cames, .ref a_cameOf, .ref a_places, .ref a_firstRow, .int v_each, .long v_trace, .ref a_kept])), (a_read, .inl (cyI, 46, .inl u1))])) (by decide) rfl rfl (Nat.le_of_ble_eq_true rfl) ?_
  intro p e s m below meth c A ls C0 _ hK hN hP hD hA hl
  obtain ⟨hx, hb, hr, hml, hown, hts, hlocks⟩ := id C0
  have f13 := hts (.fieldLink RX7 13 "LastOchreModel" "read" "[I") (by decide +kernel)
  have hS : va_S A s.heap s.heap [] := va_S.rf
  replace hl : lv_has ls 2 [(0, .ref a)] := hl
  unfold q_X7_plain at h
  obtain ⟨n, h⟩ := h
  have ih2 := w_X7_plain (l := l) (e := e) (below := below) dC dI cyC cyI cyZ a a_text a_read a_hill a_now a_undone a_need a_cameOf a_places a_firstRow a_kept v_size v_at v_begin v_token v_told v_undos v_cames v_each v_trace Q C0 hK hN hA n
  unfold F_X7_plain_e at h
  refine lv_iconst (v := 0) hx hb dX7_plain_0 (by decide) ?_
  refine lv_istore_n (lv' := [(1, .int (0 : Int32)), (0, .ref a)]) hx hb dX7_plain_1 rfl hl (by decide) rfl (fun ls hl => ?_)
  exact ih2 (0 : Int32) v_read _ _ _ h hP hD hS (lv_sub hl [1, 0] rfl)

def F_X7_readSeam_e (v_size : Int32) (v_text : Nat → Int32) (Q : Int32 → Int32 → Int32 → Int32 → Int32 → (Nat → Int32) → Prop) (rec : Nat → Int32 → Int32 → Int32 → Int32 → Int32 → (Nat → Int32) → Prop) (v_at : Int32) (v_begin : Int32) (v_token : Int32) (v_told : Int32) (v_read : Nat → Int32) : Prop :=
  (0 < (v_read ((0 : Int32)).toNatClampNeg) → (Q (0 : Int32) v_at v_begin v_token v_told v_read)) ∧ (¬ 0 < (v_read ((0 : Int32)).toNatClampNeg) → (q_X7_number v_size v_at v_begin v_token v_told v_text (1 : Int32) (4 : Int32) (fun (r_2 : Int32) (u_3 : Int32) (u_4 : Int32) (u_5 : Int32) (u_6 : Int32) => (¬ r_2 = 0 → (∀ f_8 : Nat → Int32, f_8 = upd v_read ((0 : Int32)).toNatClampNeg u_6 → (q_X7_number v_size u_3 u_4 u_5 u_6 v_text (1 : Int32) (4 : Int32) (fun (r_10 : Int32) (u_11 : Int32) (u_12 : Int32) (u_13 : Int32) (u_14 : Int32) => (¬ r_10 = 0 → (∀ f_16 : Nat → Int32, f_16 = upd f_8 ((1 : Int32)).toNatClampNeg u_14 → (rec 53 (0 : Int32) u_11 u_12 u_13 u_14 f_16))) ∧ (r_10 = 0 → (Q (0 : Int32) u_11 u_12 u_13 u_14 f_8)))))) ∧ (r_2 = 0 → (Q (0 : Int32) u_3 u_4 u_5 u_6 v_read)))))
def F_X7_readSeam_53 (v_size : Int32) (v_text : Nat → Int32) (Q : Int32 → Int32 → Int32 → Int32 → Int32 → (Nat → Int32) → Prop) (rec : Nat → Int32 → Int32 → Int32 → Int32 → Int32 → (Nat → Int32) → Prop) (x1 : Int32) (v_at : Int32) (v_begin : Int32) (v_token : Int32) (v_told : Int32) (v_read : Nat → Int32) : Prop :=
  (((v_read ((0 : Int32)).toNatClampNeg) * (v_read ((1 : Int32)).toNatClampNeg)) ≤ x1 → (q_X7_ends v_size v_at v_begin v_token v_told v_text (fun (r_19 : Int32) (u_20 : Int32) (u_21 : Int32) (u_22 : Int32) (u_23 : Int32) => narrow .boolean (.int r_19) = .int r_19 ∧ (Q r_19 u_20 u_21 u_22 u_23 v_read)))) ∧ (¬ ((v_read ((0 : Int32)).toNatClampNeg) * (v_read ((1 : Int32)).toNatClampNeg)) ≤ x1 → (q_X7_blanks v_size v_at v_begin v_text (fun (u_25 : Int32) (u_26 : Int32) => (u_25 = v_size → (Q (0 : Int32) u_25 u_26 v_token v_told v_read)) ∧ (¬ u_25 = v_size → (vp_in u_25 150 ∧ (q_X7_isFigure (v_text (u_25).toNatClampNeg) (fun (r_29 : Int32) => (¬ r_29 = 0 → (vp_in u_25 150 ∧ (vp_in ((6 : Int32) + x1) 46 ∧ (∀ f_33 : Nat → Int32, f_33 = upd v_read (((6 : Int32) + x1)).toNatClampNeg ((v_text (u_25).toNatClampNeg) - (48 : Int32)) → (∀ n_35 : Int32, n_35 = (u_25 + (1 : Int32)) → (∀ x1_37 : Int32, x1_37 = (x1 + (1 : Int32)) → (rec 53 x1_37 n_35 u_26 v_token v_told f_33))))))) ∧ (r_29 = 0 → (Q (0 : Int32) u_25 u_26 v_token v_told v_read)))))))))
def wp_X7_readSeam (v_size : Int32) (v_text : Nat → Int32) (Q : Int32 → Int32 → Int32 → Int32 → Int32 → (Nat → Int32) → Prop) : Nat → Nat → Int32 → Int32 → Int32 → Int32 → Int32 → (Nat → Int32) → Prop
  | 0 => fun _ _ _ _ _ _ _ => False
  | n + 1 => fun t x1 v_at v_begin v_token v_told v_read => if t = 53 then F_X7_readSeam_53 v_size v_text Q (wp_X7_readSeam v_size v_text Q n) x1 v_at v_begin v_token v_told v_read else False
def q_X7_readSeam (v_size : Int32) (v_at : Int32) (v_begin : Int32) (v_token : Int32) (v_told : Int32) (v_read : Nat → Int32) (v_text : Nat → Int32) (Q : Int32 → Int32 → Int32 → Int32 → Int32 → (Nat → Int32) → Prop) : Prop := ∃ n, F_X7_readSeam_e v_size v_text Q (wp_X7_readSeam v_size v_text Q n) v_at v_begin v_token v_told v_read
theorem iwX7_readSeam_X7 : ∀ w ∈ wsX70, w ∈ wsX7_readSeam := by decide +kernel
theorem hdV_X7_readSeam : yX7_readSeam.cls = RX7 ∧ yX7_readSeam.cls ≠ "java/lang/invoke/MethodHandle" ∧ yX7_readSeam.cls ≠ "java/lang/invoke/VarHandle" ∧ (parseMethodDescriptor yX7_readSeam.desc).map (fun d => d.parameters.length) = some 0 := by decide +kernel
set_option maxHeartbeats 4000000 in
set_option maxRecDepth 100000 in
theorem w_X7_readSeam {p : Program} {l : Launch} {e : Env} {s : State} {m : MethodId} {args : Array Value} {below : List Frame} {meth : Method} {c : Code} {A : Nat → Prop} (dC : Nat → ClassId) (dI : Nat → Nat → Nat) (cyC cyI cyZ : ClassId) (a a_text a_read a_hill a_now a_undone a_need a_cameOf a_places a_firstRow a_kept : Nat) (v_size : Int32) (v_undos : Int32) (v_cames : Int32) (v_each : Int32) (v_trace : Int64) (v_text : Nat → Int32) (Q : Int32 → Int32 → Int32 → Int32 → Int32 → (Nat → Int32) → Prop) (C0 : gAt cX7_readSeam (some .boolean) 2 RX7 wsX7_readSeam p s m meth c args) (hK : va_K (dC, dI) vwCl (gTy cyC cyI cyZ) s) (hN : nU s) (hA : ∀ q, s.heap.size ≤ q → A q) : ∀ n : Nat, (∀ (x1 : Int32) (v_at : Int32) (v_begin : Int32) (v_token : Int32) (v_told : Int32) (v_read : Nat → Int32) (H : Heap) (locs : List Loc) (ls : Array Slot), wp_X7_readSeam v_size v_text Q n 53 x1 v_at v_begin v_token v_told v_read → va_P (dC, dI) vwCl [(a, .inr (7, [.ref a_text, .int v_size, .int v_at, .int v_begin, .int v_token, .int v_told, .ref a_read, .ref a_hill, .ref a_now, .ref a_undone, .int v_undos, .ref a_need, .int v_cames, .ref a_cameOf, .ref a_places, .ref a_firstRow, .int v_each, .long v_trace, .ref a_kept])), (a_read, .inl (cyI, 46, .inl v_read)), (a_text, .inl (cyI, 150, .inl v_text))] H → va_D A [(a, .inr (7, [.ref a_text, .int v_size, .int v_at, .int v_begin, .int v_token, .int v_told, .ref a_read, .ref a_hill, .ref a_now, .ref a_undone, .int v_undos, .ref a_need, .int v_cames, .ref a_cameOf, .ref a_places, .ref a_firstRow, .int v_each, .long v_trace, .ref a_kept])), (a_read, .inl (cyI, 46, .inl v_read)), (a_text, .inl (cyI, 150, .inl v_text))] → va_S A s.heap H locs → lv_has ls 2 [(0, .ref a), (1, .int x1)] → W p l e { frames := 5, cells := 0, slots := 0, locals := 108 } s m args below meth c H locs 0 0 (MQ below (gQi5 Q (dC, dI) A (fun (u1 : Int32) (u2 : Int32) (u3 : Int32) (u4 : Int32) (u5 : Nat → Int32) => [(a, .inr (7, [.ref a_text, .int v_size, .int u1, .int u2, .int u3, .int u4, .ref a_read, .ref a_hill, .ref a_now, .ref a_undone, .int v_undos, .ref a_need, .int v_cames, .ref a_cameOf, .ref a_places, .ref a_firstRow, .int v_each, .long v_trace, .ref a_kept])), (a_read, .inl (cyI, 46, .inl u5)), (a_text, .inl (cyI, 150, .inl v_text))])) args s 0 0 A) (F0 m 53 ls [])) := by
  obtain ⟨hx, hb, hr, hml, hown, hts, hlocks⟩ := id C0
  have f13 := hts (.fieldLink RX7 13 "LastOchreModel" "read" "[I") (by decide +kernel)
  have f52 := hts (.fieldLink RX7 52 "LastOchreModel" "size" "I") (by decide +kernel)
  have f64 := hts (.fieldLink RX7 64 "LastOchreModel" "at" "I") (by decide +kernel)
  have f67 := hts (.fieldLink RX7 67 "LastOchreModel" "told" "I") (by decide +kernel)
  have f7 := hts (.fieldLink RX7 7 "LastOchreModel" "text" "[I") (by decide +kernel)
  intro n
  induction n with
  | zero => exact fun _ _ _ _ _ _ _ _ _ h => absurd h id
  | succ n ih =>
    have ih53 := ih
    · intro x1 v_at v_begin v_token v_told v_read H locs ls h hP hD hS hl
      replace h : F_X7_readSeam_53 v_size v_text Q (wp_X7_readSeam v_size v_text Q n) x1 v_at v_begin v_token v_told v_read := h
      unfold F_X7_readSeam_53 at h
      refine lv_iload_n hx hb dX7_readSeam_53 rfl (lv_at hl 1 rfl) ?_
      refine lv_aload_n hx hb dX7_readSeam_54 rfl (lv_at hl 0 rfl) ?_
      refine va_get (D := (dC, dI)) (ci := 7) (v := .ref a_read) (C := RX7) (T := TX7) (N := 19) hx hb hts iwX7_readSeam_X7 hown hK hP 0 rfl rfl 6 (by decide) f13 (fun _ h9 => h9) rfl dX7_readSeam_55 ?_
      refine lv_iconst (v := 0) hx hb dX7_readSeam_58 (by decide) ?_
      refine va_iald hx hb hK hP 1 0 rfl rfl (by unfold vp_in; decide) dX7_readSeam_59 ?_
      refine lv_aload_n hx hb dX7_readSeam_60 rfl (lv_at hl 0 rfl) ?_
      refine va_get (D := (dC, dI)) (ci := 7) (v := .ref a_read) (C := RX7) (T := TX7) (N := 19) hx hb hts iwX7_readSeam_X7 hown hK hP 0 rfl rfl 6 (by decide) f13 (fun _ h9 => h9) rfl dX7_readSeam_61 ?_
      refine lv_iconst (v := 1) hx hb dX7_readSeam_64 (by decide) ?_
      refine va_iald hx hb hK hP 1 0 rfl rfl (by unfold vp_in; decide) dX7_readSeam_65 ?_
      refine lv_imul hx hb dX7_readSeam_66 ?_
      refine lv_icmp_ge (tgt := 139) hx hb dX7_readSeam_67 (by decide) (fun c_18 => ?_) (fun c_18 => ?_)
      · replace h := h.1 c_18
        refine lv_aload_n hx hb dX7_readSeam_139 rfl (lv_at hl 0 rfl) ?_
        refine gV_i4 (As := []) (rest := []) ⟨hx, hb, hml, hown, hts⟩ (c_X7_ends l dC dI cyC cyI cyZ _ a a_text a_read a_hill a_now a_undone a_need a_cameOf a_places a_firstRow a_kept v_size v_at v_begin v_token v_told v_undos v_cames v_each v_trace v_text h) (cwV 0 hts gX7_readSeam_X7_ends rfl rfl rfl hdV_X7_ends ⟨Nat.le_of_ble_eq_true rfl, Nat.le_of_ble_eq_true rfl⟩) hK hN hP hD hS hA [0, 2] (by decide) rfl (ci := 7) rfl rfl rfl hl.1 rfl (Nat.le_of_ble_eq_true rfl) dX7_readSeam_140 ⟨Nat.zero_le _, Nat.zero_le _⟩ (wr := [(a_read, .inl (cyI, 46, .inl v_read))]) [1] rfl (by decide) (by decide) (fun r_19 u_20 u_21 u_22 u_23 H locs h hP hD hS => ?_)
        replace hP : va_P (dC, dI) vwCl [(a_read, .inl (cyI, 46, .inl v_read)), (a, .inr (7, [.ref a_text, .int v_size, .int u_20, .int u_21, .int u_22, .int u_23, .ref a_read, .ref a_hill, .ref a_now, .ref a_undone, .int v_undos, .ref a_need, .int v_cames, .ref a_cameOf, .ref a_places, .ref a_firstRow, .int v_each, .long v_trace, .ref a_kept])), (a_text, .inl (cyI, 150, .inl v_text))] H := hP
        replace hD : va_D A [(a_read, .inl (cyI, 46, .inl v_read)), (a, .inr (7, [.ref a_text, .int v_size, .int u_20, .int u_21, .int u_22, .int u_23, .ref a_read, .ref a_hill, .ref a_now, .ref a_undone, .int v_undos, .ref a_need, .int v_cames, .ref a_cameOf, .ref a_places, .ref a_firstRow, .int v_each, .long v_trace, .ref a_kept])), (a_text, .inl (cyI, 150, .inl v_text))] := hD
        have g_24 := h.1
        replace h := h.2
        exact grz5 hx hb hr hlocks g_24 h (hP.sub (ws' := [(a, .inr (7, [.ref a_text, .int v_size, .int u_20, .int u_21, .int u_22, .int u_23, .ref a_read, .ref a_hill, .ref a_now, .ref a_undone, .int v_undos, .ref a_need, .int v_cames, .ref a_cameOf, .ref a_places, .ref a_firstRow, .int v_each, .long v_trace, .ref a_kept])), (a_read, .inl (cyI, 46, .inl v_read)), (a_text, .inl (cyI, 150, .inl v_text))]) [1, 0, 2] rfl) (hD.sub (ws' := [(a, .inr (7, [.ref a_text, .int v_size, .int u_20, .int u_21, .int u_22, .int u_23, .ref a_read, .ref a_hill, .ref a_now, .ref a_undone, .int v_undos, .ref a_need, .int v_cames, .ref a_cameOf, .ref a_places, .ref a_firstRow, .int v_each, .long v_trace, .ref a_kept])), (a_read, .inl (cyI, 46, .inl v_read)), (a_text, .inl (cyI, 150, .inl v_text))]) [1, 0, 2] (by decide) rfl) hS dX7_readSeam_143
      · replace h := h.2 c_18
        refine lv_aload_n hx hb dX7_readSeam_70 rfl (lv_at hl 0 rfl) ?_
        refine gV_v2 (As := []) (rest := []) ⟨hx, hb, hml, hown, hts⟩ (c_X7_blanks l dC dI cyC cyI cyZ _ a a_text a_read a_hill a_now a_undone a_need a_cameOf a_places a_firstRow a_kept v_size v_at v_begin v_token v_told v_undos v_cames v_each v_trace v_text h) (cwV 0 hts gX7_readSeam_X7_blanks rfl rfl rfl hdV_X7_blanks ⟨Nat.le_of_ble_eq_true rfl, Nat.le_of_ble_eq_true rfl⟩) hK hN hP hD hS hA [0, 2] (by decide) rfl (ci := 7) rfl rfl rfl hl.1 rfl (Nat.le_of_ble_eq_true rfl) dX7_readSeam_71 ⟨Nat.zero_le _, Nat.zero_le _⟩ (wr := [(a_read, .inl (cyI, 46, .inl v_read))]) [1] rfl (by decide) (by decide) (fun u_25 u_26 H locs h hP hD hS => ?_)
        replace hP : va_P (dC, dI) vwCl [(a_read, .inl (cyI, 46, .inl v_read)), (a, .inr (7, [.ref a_text, .int v_size, .int u_25, .int u_26, .int v_token, .int v_told, .ref a_read, .ref a_hill, .ref a_now, .ref a_undone, .int v_undos, .ref a_need, .int v_cames, .ref a_cameOf, .ref a_places, .ref a_firstRow, .int v_each, .long v_trace, .ref a_kept])), (a_text, .inl (cyI, 150, .inl v_text))] H := hP
        replace hD : va_D A [(a_read, .inl (cyI, 46, .inl v_read)), (a, .inr (7, [.ref a_text, .int v_size, .int u_25, .int u_26, .int v_token, .int v_told, .ref a_read, .ref a_hill, .ref a_now, .ref a_undone, .int v_undos, .ref a_need, .int v_cames, .ref a_cameOf, .ref a_places, .ref a_firstRow, .int v_each, .long v_trace, .ref a_kept])), (a_text, .inl (cyI, 150, .inl v_text))] := hD
        refine lv_aload_n hx hb dX7_readSeam_74 rfl (lv_at hl 0 rfl) ?_
        refine va_get (D := (dC, dI)) (ci := 7) (v := .int u_25) (C := RX7) (T := TX7) (N := 19) hx hb hts iwX7_readSeam_X7 hown hK hP 1 rfl rfl 2 (by decide) f64 (fun _ h9 => h9) rfl dX7_readSeam_75 ?_
        refine lv_aload_n hx hb dX7_readSeam_78 rfl (lv_at hl 0 rfl) ?_
        refine va_get (D := (dC, dI)) (ci := 7) (v := .int v_size) (C := RX7) (T := TX7) (N := 19) hx hb hts iwX7_readSeam_X7 hown hK hP 1 rfl rfl 1 (by decide) f52 (fun _ h9 => h9) rfl dX7_readSeam_79 ?_
        refine lv_icmp_eq (tgt := 100) hx hb dX7_readSeam_82 (by decide) (fun c_27 => ?_) (fun c_27 => ?_)
        · replace h := h.1 c_27
          refine lv_iconst (v := 0) hx hb dX7_readSeam_100 (by decide) ?_
          exact grz5 hx hb hr hlocks rfl h (hP.sub (ws' := [(a, .inr (7, [.ref a_text, .int v_size, .int u_25, .int u_26, .int v_token, .int v_told, .ref a_read, .ref a_hill, .ref a_now, .ref a_undone, .int v_undos, .ref a_need, .int v_cames, .ref a_cameOf, .ref a_places, .ref a_firstRow, .int v_each, .long v_trace, .ref a_kept])), (a_read, .inl (cyI, 46, .inl v_read)), (a_text, .inl (cyI, 150, .inl v_text))]) [1, 0, 2] rfl) (hD.sub (ws' := [(a, .inr (7, [.ref a_text, .int v_size, .int u_25, .int u_26, .int v_token, .int v_told, .ref a_read, .ref a_hill, .ref a_now, .ref a_undone, .int v_undos, .ref a_need, .int v_cames, .ref a_cameOf, .ref a_places, .ref a_firstRow, .int v_each, .long v_trace, .ref a_kept])), (a_read, .inl (cyI, 46, .inl v_read)), (a_text, .inl (cyI, 150, .inl v_text))]) [1, 0, 2] (by decide) rfl) hS dX7_readSeam_101
        · replace h := h.2 c_27
          refine lv_aload_n hx hb dX7_readSeam_85 rfl (lv_at hl 0 rfl) ?_
          refine va_get (D := (dC, dI)) (ci := 7) (v := .ref a_text) (C := RX7) (T := TX7) (N := 19) hx hb hts iwX7_readSeam_X7 hown hK hP 1 rfl rfl 0 (by decide) f7 (fun _ h9 => h9) rfl dX7_readSeam_86 ?_
          refine lv_aload_n hx hb dX7_readSeam_89 rfl (lv_at hl 0 rfl) ?_
          refine va_get (D := (dC, dI)) (ci := 7) (v := .int u_25) (C := RX7) (T := TX7) (N := 19) hx hb hts iwX7_readSeam_X7 hown hK hP 1 rfl rfl 2 (by decide) f64 (fun _ h9 => h9) rfl dX7_readSeam_90 ?_
          have g_28 := h.1
          replace h := h.2
          refine va_iald hx hb hK hP 2 0 rfl rfl g_28 dX7_readSeam_93 ?_
          refine gS_i0 (As := [.int (v_text (u_25).toNatClampNeg)]) (rest := []) ⟨hx, hb, hml, hown, hts⟩ (c_X7_isFigure l dC dI cyC cyI cyZ _ (v_text (u_25).toNatClampNeg) h) (va_cwS 1 hts gX7_readSeam_X7_isFigure rfl rfl rfl hdS_X7_isFigure ⟨Nat.le_of_ble_eq_true rfl, Nat.le_of_ble_eq_true rfl⟩) hK hN hP hD hS hA [] (by decide) rfl rfl hl.1 rfl (Nat.le_of_ble_eq_true rfl) dX7_readSeam_94 ⟨Nat.zero_le _, Nat.zero_le _⟩ (fun r_29 H locs h hP hS => ?_)
          refine lv_if_ne (tgt := 102) hx hb dX7_readSeam_97 (by decide) (fun c_30 => ?_) (fun c_30 => ?_)
          · replace h := h.1 c_30
            refine lv_aload_n hx hb dX7_readSeam_102 rfl (lv_at hl 0 rfl) ?_
            refine va_get (D := (dC, dI)) (ci := 7) (v := .ref a_read) (C := RX7) (T := TX7) (N := 19) hx hb hts iwX7_readSeam_X7 hown hK hP 1 rfl rfl 6 (by decide) f13 (fun _ h9 => h9) rfl dX7_readSeam_103 ?_
            refine lv_bipush (v := 6) hx hb dX7_readSeam_106 (by decide) ?_
            refine lv_iload_n hx hb dX7_readSeam_108 rfl (lv_at hl 1 rfl) ?_
            refine lv_iadd hx hb dX7_readSeam_109 ?_
            refine lv_aload_n hx hb dX7_readSeam_110 rfl (lv_at hl 0 rfl) ?_
            refine va_get (D := (dC, dI)) (ci := 7) (v := .ref a_text) (C := RX7) (T := TX7) (N := 19) hx hb hts iwX7_readSeam_X7 hown hK hP 1 rfl rfl 0 (by decide) f7 (fun _ h9 => h9) rfl dX7_readSeam_111 ?_
            refine lv_aload_n hx hb dX7_readSeam_114 rfl (lv_at hl 0 rfl) ?_
            refine va_get (D := (dC, dI)) (ci := 7) (v := .int u_25) (C := RX7) (T := TX7) (N := 19) hx hb hts iwX7_readSeam_X7 hown hK hP 1 rfl rfl 2 (by decide) f64 (fun _ h9 => h9) rfl dX7_readSeam_115 ?_
            have g_31 := h.1
            replace h := h.2
            refine va_iald hx hb hK hP 2 0 rfl rfl g_31 dX7_readSeam_118 ?_
            refine lv_bipush (v := 48) hx hb dX7_readSeam_119 (by decide) ?_
            refine lv_isub hx hb dX7_readSeam_121 ?_
            have g_32 := h.1
            replace h := h.2
            refine va_iast hx hb hK hP hD hS 0 0 rfl rfl g_32 dX7_readSeam_122 (fun H locs hP hD hS => ?_)
            obtain ⟨f_33, e_34⟩ : ∃ y : Nat → Int32, y = upd v_read (((6 : Int32) + x1)).toNatClampNeg ((v_text (u_25).toNatClampNeg) - (48 : Int32)) := ⟨_, rfl⟩
            replace h := h f_33 e_34
            replace hP : va_P (dC, dI) vwCl [(a_read, .inl (cyI, 46, .inl f_33)), (a, .inr (7, [.ref a_text, .int v_size, .int u_25, .int u_26, .int v_token, .int v_told, .ref a_read, .ref a_hill, .ref a_now, .ref a_undone, .int v_undos, .ref a_need, .int v_cames, .ref a_cameOf, .ref a_places, .ref a_firstRow, .int v_each, .long v_trace, .ref a_kept])), (a_text, .inl (cyI, 150, .inl v_text))] H := by rw [e_34]; exact hP
            replace hD : va_D A [(a_read, .inl (cyI, 46, .inl f_33)), (a, .inr (7, [.ref a_text, .int v_size, .int u_25, .int u_26, .int v_token, .int v_told, .ref a_read, .ref a_hill, .ref a_now, .ref a_undone, .int v_undos, .ref a_need, .int v_cames, .ref a_cameOf, .ref a_places, .ref a_firstRow, .int v_each, .long v_trace, .ref a_kept])), (a_text, .inl (cyI, 150, .inl v_text))] := by rw [e_34]; exact hD
            refine lv_aload_n hx hb dX7_readSeam_123 rfl (lv_at hl 0 rfl) ?_
            refine lv_dup hx hb dX7_readSeam_124 rfl ?_
            refine va_get (D := (dC, dI)) (ci := 7) (v := .int u_25) (C := RX7) (T := TX7) (N := 19) hx hb hts iwX7_readSeam_X7 hown hK hP 1 rfl rfl 2 (by decide) f64 (fun _ h9 => h9) rfl dX7_readSeam_125 ?_
            refine lv_iconst (v := 1) hx hb dX7_readSeam_128 (by decide) ?_
            refine lv_iadd hx hb dX7_readSeam_129 ?_
            refine lv_topi (fun n_35 e_36 => ?_)
            replace h := h n_35 e_36
            refine va_put (D := (dC, dI)) (ci := 7) (v := .int n_35) (ty := .int) (C := RX7) (T := TX7) (N := 19) hx hb hts iwX7_readSeam_X7 tyX7 tyX7_ok nmX7 hown hK hP hD hS 1 rfl rfl 2 (by decide) f64 (fun _ h9 => h9) rfl (by decide +kernel) rfl rfl (Nat.le_of_ble_eq_true rfl) dX7_readSeam_130 (fun H locs hP hD hS => ?_)
            replace hP : va_P (dC, dI) vwCl [(a_read, .inl (cyI, 46, .inl f_33)), (a, .inr (7, [.ref a_text, .int v_size, .int n_35, .int u_26, .int v_token, .int v_told, .ref a_read, .ref a_hill, .ref a_now, .ref a_undone, .int v_undos, .ref a_need, .int v_cames, .ref a_cameOf, .ref a_places, .ref a_firstRow, .int v_each, .long v_trace, .ref a_kept])), (a_text, .inl (cyI, 150, .inl v_text))] H := hP
            replace hD : va_D A [(a_read, .inl (cyI, 46, .inl f_33)), (a, .inr (7, [.ref a_text, .int v_size, .int n_35, .int u_26, .int v_token, .int v_told, .ref a_read, .ref a_hill, .ref a_now, .ref a_undone, .int v_undos, .ref a_need, .int v_cames, .ref a_cameOf, .ref a_places, .ref a_firstRow, .int v_each, .long v_trace, .ref a_kept])), (a_text, .inl (cyI, 150, .inl v_text))] := hD
            obtain ⟨x1_37, e_38⟩ : ∃ y : Int32, y = (x1 + (1 : Int32)) := ⟨_, rfl⟩
            replace h := h x1_37 e_38
            refine lv_iinc (v := x1_37) (lv' := [(1, .int x1_37), (0, .ref a)]) hx hb dX7_readSeam_133 hl (k := 1) rfl (by rw [e_38]; rfl) (by decide) rfl (fun ls hl => ?_)
            refine lv_goto (tgt := 53) hx hb dX7_readSeam_136 (by decide) ?_
            exact ih53 x1_37 n_35 u_26 v_token v_told f_33 _ _ _ h (hP.sub (ws' := [(a, .inr (7, [.ref a_text, .int v_size, .int n_35, .int u_26, .int v_token, .int v_told, .ref a_read, .ref a_hill, .ref a_now, .ref a_undone, .int v_undos, .ref a_need, .int v_cames, .ref a_cameOf, .ref a_places, .ref a_firstRow, .int v_each, .long v_trace, .ref a_kept])), (a_read, .inl (cyI, 46, .inl f_33)), (a_text, .inl (cyI, 150, .inl v_text))]) [1, 0, 2] rfl) (hD.sub (ws' := [(a, .inr (7, [.ref a_text, .int v_size, .int n_35, .int u_26, .int v_token, .int v_told, .ref a_read, .ref a_hill, .ref a_now, .ref a_undone, .int v_undos, .ref a_need, .int v_cames, .ref a_cameOf, .ref a_places, .ref a_firstRow, .int v_each, .long v_trace, .ref a_kept])), (a_read, .inl (cyI, 46, .inl f_33)), (a_text, .inl (cyI, 150, .inl v_text))]) [1, 0, 2] (by decide) rfl) hS (lv_sub hl [1, 0] rfl)
          · replace h := h.2 c_30
            refine lv_iconst (v := 0) hx hb dX7_readSeam_100 (by decide) ?_
            exact grz5 hx hb hr hlocks rfl h (hP.sub (ws' := [(a, .inr (7, [.ref a_text, .int v_size, .int u_25, .int u_26, .int v_token, .int v_told, .ref a_read, .ref a_hill, .ref a_now, .ref a_undone, .int v_undos, .ref a_need, .int v_cames, .ref a_cameOf, .ref a_places, .ref a_firstRow, .int v_each, .long v_trace, .ref a_kept])), (a_read, .inl (cyI, 46, .inl v_read)), (a_text, .inl (cyI, 150, .inl v_text))]) [1, 0, 2] rfl) (hD.sub (ws' := [(a, .inr (7, [.ref a_text, .int v_size, .int u_25, .int u_26, .int v_token, .int v_told, .ref a_read, .ref a_hill, .ref a_now, .ref a_undone, .int v_undos, .ref a_need, .int v_cames, .ref a_cameOf, .ref a_places, .ref a_firstRow, .int v_each, .long v_trace, .ref a_kept])), (a_read, .inl (cyI, 46, .inl v_read)), (a_text, .inl (cyI, 150, .inl v_text))]) [1, 0, 2] (by decide) rfl) hS dX7_readSeam_101
set_option maxHeartbeats 4000000 in
set_option maxRecDepth 100000 in
theorem c_X7_readSeam (l : Launch) (dC : Nat → ClassId) (dI : Nat → Nat → Nat) (cyC cyI cyZ : ClassId) (sz : Nat) (a a_text a_read a_hill a_now a_undone a_need a_cameOf a_places a_firstRow a_kept : Nat) (v_size : Int32) (v_at : Int32) (v_begin : Int32) (v_token : Int32) (v_told : Int32) (v_undos : Int32) (v_cames : Int32) (v_each : Int32) (v_trace : Int64) (v_read : Nat → Int32) (v_text : Nat → Int32) {Q : Int32 → Int32 → Int32 → Int32 → Int32 → (Nat → Int32) → Prop} (h : q_X7_readSeam v_size v_at v_begin v_token v_told v_read v_text Q) : Met l yX7_readSeam wsX7_readSeam ({ frames := 5, cells := 0, slots := 0, locals := 108 }) (gPc [.ref a] (dC, dI) (gTy cyC cyI cyZ) sz [(a, .inr (7, [.ref a_text, .int v_size, .int v_at, .int v_begin, .int v_token, .int v_told, .ref a_read, .ref a_hill, .ref a_now, .ref a_undone, .int v_undos, .ref a_need, .int v_cames, .ref a_cameOf, .ref a_places, .ref a_firstRow, .int v_each, .long v_trace, .ref a_kept])), (a_read, .inl (cyI, 46, .inl v_read)), (a_text, .inl (cyI, 150, .inl v_text))]) (gQi5 Q (dC, dI) (va_A [(a, .inr (7, [.ref a_text, .int v_size, .int v_at, .int v_begin, .int v_token, .int v_told, .ref a_read, .ref a_hill, .ref a_now, .ref a_undone, .int v_undos, .ref a_need, .int v_cames, .ref a_cameOf, .ref a_places, .ref a_firstRow, .int v_each, .long v_trace, .ref a_kept])), (a_read, .inl (cyI, 46, .inl v_read)), (a_text, .inl (cyI, 150, .inl v_text))] sz) (fun (u1 : Int32) (u2 : Int32) (u3 : Int32) (u4 : Int32) (u5 : Nat → Int32) => [(a, .inr (7, [.ref a_text, .int v_size, .int u1, .int u2, .int u3, .int u4, .ref a_read, .ref a_hill, .ref a_now, .ref a_undone, .int v_undos, .ref a_need, .int v_cames, .ref a_cameOf, .ref a_places, .ref a_firstRow, .int v_each, .long v_trace, .ref a_kept])), (a_read, .inl (cyI, 46, .inl u5)), (a_text, .inl (cyI, 150, .inl v_text))])) 0 0 (va_A [(a, .inr (7, [.ref a_text, .int v_size, .int v_at, .int v_begin, .int v_token, .int v_told, .ref a_read, .ref a_hill, .ref a_now, .ref a_undone, .int v_undos, .ref a_need, .int v_cames, .ref a_cameOf, .ref a_places, .ref a_firstRow, .int v_each, .long v_trace, .ref a_kept])), (a_read, .inl (cyI, 46, .inl v_read)), (a_text, .inl (cyI, 150, .inl v_text))] sz) := by
  refine gMet (cc := cX7_readSeam) (maxL := 2) (ret := (some .boolean)) (own := RX7) (fun A => gQi5 Q (dC, dI) A (fun (u1 : Int32) (u2 : Int32) (u3 : Int32) (u4 : Int32) (u5 : Nat → Int32) => [(a, .inr (7, [.ref a_text, .int v_size, .int u1, .int u2, .int u3, .int u4, .ref a_read, .ref a_hill, .ref a_now, .ref a_undone, .int v_undos, .ref a_need, .int v_cames, .ref a_cameOf, .ref a_places, .ref a_firstRow, .int v_each, .long v_trace, .ref a_kept])), (a_read, .inl (cyI, 46, .inl u5)), (a_text, .inl (cyI, 150, .inl v_text))])) (by decide) rfl rfl (Nat.le_of_ble_eq_true rfl) ?_
  intro p e s m below meth c A ls C0 _ hK hN hP hD hA hl
  obtain ⟨hx, hb, hr, hml, hown, hts, hlocks⟩ := id C0
  have f13 := hts (.fieldLink RX7 13 "LastOchreModel" "read" "[I") (by decide +kernel)
  have f52 := hts (.fieldLink RX7 52 "LastOchreModel" "size" "I") (by decide +kernel)
  have f64 := hts (.fieldLink RX7 64 "LastOchreModel" "at" "I") (by decide +kernel)
  have f67 := hts (.fieldLink RX7 67 "LastOchreModel" "told" "I") (by decide +kernel)
  have f7 := hts (.fieldLink RX7 7 "LastOchreModel" "text" "[I") (by decide +kernel)
  have hS : va_S A s.heap s.heap [] := va_S.rf
  replace hl : lv_has ls 2 [(0, .ref a)] := hl
  unfold q_X7_readSeam at h
  obtain ⟨n, h⟩ := h
  have ih53 := w_X7_readSeam (l := l) (e := e) (below := below) dC dI cyC cyI cyZ a a_text a_read a_hill a_now a_undone a_need a_cameOf a_places a_firstRow a_kept v_size v_undos v_cames v_each v_trace v_text Q C0 hK hN hA n
  unfold F_X7_readSeam_e at h
  refine lv_aload_n hx hb dX7_readSeam_0 rfl (lv_at hl 0 rfl) ?_
  refine va_get (D := (dC, dI)) (ci := 7) (v := .ref a_read) (C := RX7) (T := TX7) (N := 19) hx hb hts iwX7_readSeam_X7 hown hK hP 0 rfl rfl 6 (by decide) f13 (fun _ h9 => h9) rfl dX7_readSeam_1 ?_
  refine lv_iconst (v := 0) hx hb dX7_readSeam_4 (by decide) ?_
  refine va_iald hx hb hK hP 1 0 rfl rfl (by unfold vp_in; decide) dX7_readSeam_5 ?_
  refine lv_if_gt (tgt := 18) hx hb dX7_readSeam_6 (by decide) (fun c_1 => ?_) (fun c_1 => ?_)
  · replace h := h.1 c_1
    refine lv_iconst (v := 0) hx hb dX7_readSeam_18 (by decide) ?_
    exact grz5 hx hb hr hlocks rfl h hP hD hS dX7_readSeam_19
  · replace h := h.2 c_1
    refine lv_aload_n hx hb dX7_readSeam_9 rfl (lv_at hl 0 rfl) ?_
    refine lv_iconst (v := 1) hx hb dX7_readSeam_10 (by decide) ?_
    refine lv_iconst (v := 4) hx hb dX7_readSeam_11 (by decide) ?_
    refine gV_i4 (As := [.int (1 : Int32), .int (4 : Int32)]) (rest := []) ⟨hx, hb, hml, hown, hts⟩ (c_X7_number l dC dI cyC cyI cyZ _ a a_text a_read a_hill a_now a_undone a_need a_cameOf a_places a_firstRow a_kept v_size v_at v_begin v_token v_told v_undos v_cames v_each v_trace v_text (1 : Int32) (4 : Int32) h) (cwV 2 hts gX7_readSeam_X7_number rfl rfl rfl hdV_X7_number ⟨Nat.le_of_ble_eq_true rfl, Nat.le_of_ble_eq_true rfl⟩) hK hN hP hD hS hA [0, 2] (by decide) rfl (ci := 7) rfl rfl rfl hl.1 rfl (Nat.le_of_ble_eq_true rfl) dX7_readSeam_12 ⟨Nat.zero_le _, Nat.zero_le _⟩ (wr := [(a_read, .inl (cyI, 46, .inl v_read))]) [1] rfl (by decide) (by decide) (fun r_2 u_3 u_4 u_5 u_6 H locs h hP hD hS => ?_)
    replace hP : va_P (dC, dI) vwCl [(a_read, .inl (cyI, 46, .inl v_read)), (a, .inr (7, [.ref a_text, .int v_size, .int u_3, .int u_4, .int u_5, .int u_6, .ref a_read, .ref a_hill, .ref a_now, .ref a_undone, .int v_undos, .ref a_need, .int v_cames, .ref a_cameOf, .ref a_places, .ref a_firstRow, .int v_each, .long v_trace, .ref a_kept])), (a_text, .inl (cyI, 150, .inl v_text))] H := hP
    replace hD : va_D A [(a_read, .inl (cyI, 46, .inl v_read)), (a, .inr (7, [.ref a_text, .int v_size, .int u_3, .int u_4, .int u_5, .int u_6, .ref a_read, .ref a_hill, .ref a_now, .ref a_undone, .int v_undos, .ref a_need, .int v_cames, .ref a_cameOf, .ref a_places, .ref a_firstRow, .int v_each, .long v_trace, .ref a_kept])), (a_text, .inl (cyI, 150, .inl v_text))] := hD
    refine lv_if_ne (tgt := 20) hx hb dX7_readSeam_15 (by decide) (fun c_7 => ?_) (fun c_7 => ?_)
    · replace h := h.1 c_7
      refine lv_aload_n hx hb dX7_readSeam_20 rfl (lv_at hl 0 rfl) ?_
      refine va_get (D := (dC, dI)) (ci := 7) (v := .ref a_read) (C := RX7) (T := TX7) (N := 19) hx hb hts iwX7_readSeam_X7 hown hK hP 1 rfl rfl 6 (by decide) f13 (fun _ h9 => h9) rfl dX7_readSeam_21 ?_
      refine lv_iconst (v := 0) hx hb dX7_readSeam_24 (by decide) ?_
      refine lv_aload_n hx hb dX7_readSeam_25 rfl (lv_at hl 0 rfl) ?_
      refine va_get (D := (dC, dI)) (ci := 7) (v := .int u_6) (C := RX7) (T := TX7) (N := 19) hx hb hts iwX7_readSeam_X7 hown hK hP 1 rfl rfl 5 (by decide) f67 (fun _ h9 => h9) rfl dX7_readSeam_26 ?_
      refine va_iast hx hb hK hP hD hS 0 0 rfl rfl (by unfold vp_in; decide) dX7_readSeam_29 (fun H locs hP hD hS => ?_)
      obtain ⟨f_8, e_9⟩ : ∃ y : Nat → Int32, y = upd v_read ((0 : Int32)).toNatClampNeg u_6 := ⟨_, rfl⟩
      replace h := h f_8 e_9
      replace hP : va_P (dC, dI) vwCl [(a_read, .inl (cyI, 46, .inl f_8)), (a, .inr (7, [.ref a_text, .int v_size, .int u_3, .int u_4, .int u_5, .int u_6, .ref a_read, .ref a_hill, .ref a_now, .ref a_undone, .int v_undos, .ref a_need, .int v_cames, .ref a_cameOf, .ref a_places, .ref a_firstRow, .int v_each, .long v_trace, .ref a_kept])), (a_text, .inl (cyI, 150, .inl v_text))] H := by rw [e_9]; exact hP
      replace hD : va_D A [(a_read, .inl (cyI, 46, .inl f_8)), (a, .inr (7, [.ref a_text, .int v_size, .int u_3, .int u_4, .int u_5, .int u_6, .ref a_read, .ref a_hill, .ref a_now, .ref a_undone, .int v_undos, .ref a_need, .int v_cames, .ref a_cameOf, .ref a_places, .ref a_firstRow, .int v_each, .long v_trace, .ref a_kept])), (a_text, .inl (cyI, 150, .inl v_text))] := by rw [e_9]; exact hD
      refine lv_aload_n hx hb dX7_readSeam_30 rfl (lv_at hl 0 rfl) ?_
      refine lv_iconst (v := 1) hx hb dX7_readSeam_31 (by decide) ?_
      refine lv_iconst (v := 4) hx hb dX7_readSeam_32 (by decide) ?_
      refine gV_i4 (As := [.int (1 : Int32), .int (4 : Int32)]) (rest := []) ⟨hx, hb, hml, hown, hts⟩ (c_X7_number l dC dI cyC cyI cyZ _ a a_text a_read a_hill a_now a_undone a_need a_cameOf a_places a_firstRow a_kept v_size u_3 u_4 u_5 u_6 v_undos v_cames v_each v_trace v_text (1 : Int32) (4 : Int32) h) (cwV 2 hts gX7_readSeam_X7_number rfl rfl rfl hdV_X7_number ⟨Nat.le_of_ble_eq_true rfl, Nat.le_of_ble_eq_true rfl⟩) hK hN hP hD hS hA [1, 2] (by decide) rfl (ci := 7) rfl rfl rfl hl.1 rfl (Nat.le_of_ble_eq_true rfl) dX7_readSeam_33 ⟨Nat.zero_le _, Nat.zero_le _⟩ (wr := [(a_read, .inl (cyI, 46, .inl f_8))]) [0] rfl (by decide) (by decide) (fun r_10 u_11 u_12 u_13 u_14 H locs h hP hD hS => ?_)
      replace hP : va_P (dC, dI) vwCl [(a_read, .inl (cyI, 46, .inl f_8)), (a, .inr (7, [.ref a_text, .int v_size, .int u_11, .int u_12, .int u_13, .int u_14, .ref a_read, .ref a_hill, .ref a_now, .ref a_undone, .int v_undos, .ref a_need, .int v_cames, .ref a_cameOf, .ref a_places, .ref a_firstRow, .int v_each, .long v_trace, .ref a_kept])), (a_text, .inl (cyI, 150, .inl v_text))] H := hP
      replace hD : va_D A [(a_read, .inl (cyI, 46, .inl f_8)), (a, .inr (7, [.ref a_text, .int v_size, .int u_11, .int u_12, .int u_13, .int u_14, .ref a_read, .ref a_hill, .ref a_now, .ref a_undone, .int v_undos, .ref a_need, .int v_cames, .ref a_cameOf, .ref a_places, .ref a_firstRow, .int v_each, .long v_trace, .ref a_kept])), (a_text, .inl (cyI, 150, .inl v_text))] := hD
      refine lv_if_ne (tgt := 41) hx hb dX7_readSeam_36 (by decide) (fun c_15 => ?_) (fun c_15 => ?_)
      · replace h := h.1 c_15
        refine lv_aload_n hx hb dX7_readSeam_41 rfl (lv_at hl 0 rfl) ?_
        refine va_get (D := (dC, dI)) (ci := 7) (v := .ref a_read) (C := RX7) (T := TX7) (N := 19) hx hb hts iwX7_readSeam_X7 hown hK hP 1 rfl rfl 6 (by decide) f13 (fun _ h9 => h9) rfl dX7_readSeam_42 ?_
        refine lv_iconst (v := 1) hx hb dX7_readSeam_45 (by decide) ?_
        refine lv_aload_n hx hb dX7_readSeam_46 rfl (lv_at hl 0 rfl) ?_
        refine va_get (D := (dC, dI)) (ci := 7) (v := .int u_14) (C := RX7) (T := TX7) (N := 19) hx hb hts iwX7_readSeam_X7 hown hK hP 1 rfl rfl 5 (by decide) f67 (fun _ h9 => h9) rfl dX7_readSeam_47 ?_
        refine va_iast hx hb hK hP hD hS 0 0 rfl rfl (by unfold vp_in; decide) dX7_readSeam_50 (fun H locs hP hD hS => ?_)
        obtain ⟨f_16, e_17⟩ : ∃ y : Nat → Int32, y = upd f_8 ((1 : Int32)).toNatClampNeg u_14 := ⟨_, rfl⟩
        replace h := h f_16 e_17
        replace hP : va_P (dC, dI) vwCl [(a_read, .inl (cyI, 46, .inl f_16)), (a, .inr (7, [.ref a_text, .int v_size, .int u_11, .int u_12, .int u_13, .int u_14, .ref a_read, .ref a_hill, .ref a_now, .ref a_undone, .int v_undos, .ref a_need, .int v_cames, .ref a_cameOf, .ref a_places, .ref a_firstRow, .int v_each, .long v_trace, .ref a_kept])), (a_text, .inl (cyI, 150, .inl v_text))] H := by rw [e_17]; exact hP
        replace hD : va_D A [(a_read, .inl (cyI, 46, .inl f_16)), (a, .inr (7, [.ref a_text, .int v_size, .int u_11, .int u_12, .int u_13, .int u_14, .ref a_read, .ref a_hill, .ref a_now, .ref a_undone, .int v_undos, .ref a_need, .int v_cames, .ref a_cameOf, .ref a_places, .ref a_firstRow, .int v_each, .long v_trace, .ref a_kept])), (a_text, .inl (cyI, 150, .inl v_text))] := by rw [e_17]; exact hD
        refine lv_iconst (v := 0) hx hb dX7_readSeam_51 (by decide) ?_
        refine lv_istore_n (lv' := [(1, .int (0 : Int32)), (0, .ref a)]) hx hb dX7_readSeam_52 rfl hl (by decide) rfl (fun ls hl => ?_)
        exact ih53 (0 : Int32) u_11 u_12 u_13 u_14 f_16 _ _ _ h (hP.sub (ws' := [(a, .inr (7, [.ref a_text, .int v_size, .int u_11, .int u_12, .int u_13, .int u_14, .ref a_read, .ref a_hill, .ref a_now, .ref a_undone, .int v_undos, .ref a_need, .int v_cames, .ref a_cameOf, .ref a_places, .ref a_firstRow, .int v_each, .long v_trace, .ref a_kept])), (a_read, .inl (cyI, 46, .inl f_16)), (a_text, .inl (cyI, 150, .inl v_text))]) [1, 0, 2] rfl) (hD.sub (ws' := [(a, .inr (7, [.ref a_text, .int v_size, .int u_11, .int u_12, .int u_13, .int u_14, .ref a_read, .ref a_hill, .ref a_now, .ref a_undone, .int v_undos, .ref a_need, .int v_cames, .ref a_cameOf, .ref a_places, .ref a_firstRow, .int v_each, .long v_trace, .ref a_kept])), (a_read, .inl (cyI, 46, .inl f_16)), (a_text, .inl (cyI, 150, .inl v_text))]) [1, 0, 2] (by decide) rfl) hS (lv_sub hl [1, 0] rfl)
      · replace h := h.2 c_15
        refine lv_iconst (v := 0) hx hb dX7_readSeam_39 (by decide) ?_
        exact grz5 hx hb hr hlocks rfl h (hP.sub (ws' := [(a, .inr (7, [.ref a_text, .int v_size, .int u_11, .int u_12, .int u_13, .int u_14, .ref a_read, .ref a_hill, .ref a_now, .ref a_undone, .int v_undos, .ref a_need, .int v_cames, .ref a_cameOf, .ref a_places, .ref a_firstRow, .int v_each, .long v_trace, .ref a_kept])), (a_read, .inl (cyI, 46, .inl f_8)), (a_text, .inl (cyI, 150, .inl v_text))]) [1, 0, 2] rfl) (hD.sub (ws' := [(a, .inr (7, [.ref a_text, .int v_size, .int u_11, .int u_12, .int u_13, .int u_14, .ref a_read, .ref a_hill, .ref a_now, .ref a_undone, .int v_undos, .ref a_need, .int v_cames, .ref a_cameOf, .ref a_places, .ref a_firstRow, .int v_each, .long v_trace, .ref a_kept])), (a_read, .inl (cyI, 46, .inl f_8)), (a_text, .inl (cyI, 150, .inl v_text))]) [1, 0, 2] (by decide) rfl) hS dX7_readSeam_40
    · replace h := h.2 c_7
      refine lv_iconst (v := 0) hx hb dX7_readSeam_18 (by decide) ?_
      exact grz5 hx hb hr hlocks rfl h (hP.sub (ws' := [(a, .inr (7, [.ref a_text, .int v_size, .int u_3, .int u_4, .int u_5, .int u_6, .ref a_read, .ref a_hill, .ref a_now, .ref a_undone, .int v_undos, .ref a_need, .int v_cames, .ref a_cameOf, .ref a_places, .ref a_firstRow, .int v_each, .long v_trace, .ref a_kept])), (a_read, .inl (cyI, 46, .inl v_read)), (a_text, .inl (cyI, 150, .inl v_text))]) [1, 0, 2] rfl) (hD.sub (ws' := [(a, .inr (7, [.ref a_text, .int v_size, .int u_3, .int u_4, .int u_5, .int u_6, .ref a_read, .ref a_hill, .ref a_now, .ref a_undone, .int v_undos, .ref a_need, .int v_cames, .ref a_cameOf, .ref a_places, .ref a_firstRow, .int v_each, .long v_trace, .ref a_kept])), (a_read, .inl (cyI, 46, .inl v_read)), (a_text, .inl (cyI, 150, .inl v_text))]) [1, 0, 2] (by decide) rfl) hS dX7_readSeam_19

def F_X7_readThing_e (v_size : Int32) (v_text : Nat → Int32) (Q : Int32 → Int32 → Int32 → Int32 → Int32 → (Nat → Int32) → Prop) (rec : Nat → Int32 → Int32 → Int32 → Int32 → Int32 → Int32 → Int32 → Int32 → Int32 → (Nat → Int32) → Prop) (v_at : Int32) (v_begin : Int32) (v_token : Int32) (v_told : Int32) (v_read : Nat → Int32) : Prop :=
  (¬ (v_read ((2 : Int32)).toNatClampNeg) = (6 : Int32) → (∀ x1_2 : Int32, x1_2 = ((22 : Int32) + ((4 : Int32) * (v_read ((2 : Int32)).toNatClampNeg))) → (rec 27 x1_2 (0 : Int32) 0 0 0 v_at v_begin v_token v_told v_read))) ∧ ((v_read ((2 : Int32)).toNatClampNeg) = (6 : Int32) → (Q (0 : Int32) v_at v_begin v_token v_told v_read))
def F_X7_readThing_27 (v_size : Int32) (v_text : Nat → Int32) (Q : Int32 → Int32 → Int32 → Int32 → Int32 → (Nat → Int32) → Prop) (rec : Nat → Int32 → Int32 → Int32 → Int32 → Int32 → Int32 → Int32 → Int32 → Int32 → (Nat → Int32) → Prop) (x1 : Int32) (x2 : Int32) (k0 : Int32) (k1 : Int32) (k2 : Int32) (v_at : Int32) (v_begin : Int32) (v_token : Int32) (v_told : Int32) (v_read : Nat → Int32) : Prop :=
  ((4 : Int32) ≤ x2 → (∀ f_5 : Nat → Int32, f_5 = upd v_read ((2 : Int32)).toNatClampNeg ((v_read ((2 : Int32)).toNatClampNeg) + (1 : Int32)) → (q_X7_ends v_size v_at v_begin v_token v_told v_text (fun (r_7 : Int32) (u_8 : Int32) (u_9 : Int32) (u_10 : Int32) (u_11 : Int32) => narrow .boolean (.int r_7) = .int r_7 ∧ (Q r_7 u_8 u_9 u_10 u_11 f_5))))) ∧ (¬ (4 : Int32) ≤ x2 → (((2 : Int32) ≤ x2 → ((¬ x2 = (2 : Int32) → (rec 56 x1 x2 (99 : Int32) (0 : Int32) 0 v_at v_begin v_token v_told v_read)) ∧ (x2 = (2 : Int32) → (rec 56 x1 x2 (9 : Int32) (0 : Int32) 0 v_at v_begin v_token v_told v_read)))) ∧ (¬ (2 : Int32) ≤ x2 → (rec 56 x1 x2 (60 : Int32) (0 : Int32) 0 v_at v_begin v_token v_told v_read))))
def F_X7_readThing_56 (v_size : Int32) (v_text : Nat → Int32) (Q : Int32 → Int32 → Int32 → Int32 → Int32 → (Nat → Int32) → Prop) (rec : Nat → Int32 → Int32 → Int32 → Int32 → Int32 → Int32 → Int32 → Int32 → Int32 → (Nat → Int32) → Prop) (x1 : Int32) (x2 : Int32) (k0 : Int32) (k1 : Int32) (k2 : Int32) (v_at : Int32) (v_begin : Int32) (v_token : Int32) (v_told : Int32) (v_read : Nat → Int32) : Prop :=
  q_X7_number v_size v_at v_begin v_token v_told v_text k1 k0 (fun (r_15 : Int32) (u_16 : Int32) (u_17 : Int32) (u_18 : Int32) (u_19 : Int32) => (¬ r_15 = 0 → (vp_in (x1 + x2) 46 ∧ (∀ f_22 : Nat → Int32, f_22 = upd v_read ((x1 + x2)).toNatClampNeg u_19 → (∀ x2_24 : Int32, x2_24 = (x2 + (1 : Int32)) → (rec 27 x1 x2_24 0 0 0 u_16 u_17 u_18 u_19 f_22))))) ∧ (r_15 = 0 → (Q (0 : Int32) u_16 u_17 u_18 u_19 v_read)))
def wp_X7_readThing (v_size : Int32) (v_text : Nat → Int32) (Q : Int32 → Int32 → Int32 → Int32 → Int32 → (Nat → Int32) → Prop) : Nat → Nat → Int32 → Int32 → Int32 → Int32 → Int32 → Int32 → Int32 → Int32 → Int32 → (Nat → Int32) → Prop
  | 0 => fun _ _ _ _ _ _ _ _ _ _ _ => False
  | n + 1 => fun t x1 x2 k0 k1 k2 v_at v_begin v_token v_told v_read => if t = 27 then F_X7_readThing_27 v_size v_text Q (wp_X7_readThing v_size v_text Q n) x1 x2 k0 k1 k2 v_at v_begin v_token v_told v_read else if t = 56 then F_X7_readThing_56 v_size v_text Q (wp_X7_readThing v_size v_text Q n) x1 x2 k0 k1 k2 v_at v_begin v_token v_told v_read else False
def q_X7_readThing (v_size : Int32) (v_at : Int32) (v_begin : Int32) (v_token : Int32) (v_told : Int32) (v_read : Nat → Int32) (v_text : Nat → Int32) (Q : Int32 → Int32 → Int32 → Int32 → Int32 → (Nat → Int32) → Prop) : Prop := ∃ n, F_X7_readThing_e v_size v_text Q (wp_X7_readThing v_size v_text Q n) v_at v_begin v_token v_told v_read
theorem iwX7_readThing_X7 : ∀ w ∈ wsX70, w ∈ wsX7_readThing := by decide +kernel
theorem hdV_X7_readThing : yX7_readThing.cls = RX7 ∧ yX7_readThing.cls ≠ "java/lang/invoke/MethodHandle" ∧ yX7_readThing.cls ≠ "java/lang/invoke/VarHandle" ∧ (parseMethodDescriptor yX7_readThing.desc).map (fun d => d.parameters.length) = some 0 := by decide +kernel
set_option maxHeartbeats 4000000 in
set_option maxRecDepth 100000 in
theorem w_X7_readThing {p : Program} {l : Launch} {e : Env} {s : State} {m : MethodId} {args : Array Value} {below : List Frame} {meth : Method} {c : Code} {A : Nat → Prop} (dC : Nat → ClassId) (dI : Nat → Nat → Nat) (cyC cyI cyZ : ClassId) (a a_text a_read a_hill a_now a_undone a_need a_cameOf a_places a_firstRow a_kept : Nat) (v_size : Int32) (v_undos : Int32) (v_cames : Int32) (v_each : Int32) (v_trace : Int64) (v_text : Nat → Int32) (Q : Int32 → Int32 → Int32 → Int32 → Int32 → (Nat → Int32) → Prop) (C0 : gAt cX7_readThing (some .boolean) 3 RX7 wsX7_readThing p s m meth c args) (hK : va_K (dC, dI) vwCl (gTy cyC cyI cyZ) s) (hN : nU s) (hA : ∀ q, s.heap.size ≤ q → A q) : ∀ n : Nat, (∀ (x1 : Int32) (x2 : Int32) (k0 : Int32) (k1 : Int32) (k2 : Int32) (v_at : Int32) (v_begin : Int32) (v_token : Int32) (v_told : Int32) (v_read : Nat → Int32) (H : Heap) (locs : List Loc) (ls : Array Slot), wp_X7_readThing v_size v_text Q n 27 x1 x2 k0 k1 k2 v_at v_begin v_token v_told v_read → va_P (dC, dI) vwCl [(a, .inr (7, [.ref a_text, .int v_size, .int v_at, .int v_begin, .int v_token, .int v_told, .ref a_read, .ref a_hill, .ref a_now, .ref a_undone, .int v_undos, .ref a_need, .int v_cames, .ref a_cameOf, .ref a_places, .ref a_firstRow, .int v_each, .long v_trace, .ref a_kept])), (a_read, .inl (cyI, 46, .inl v_read)), (a_text, .inl (cyI, 150, .inl v_text))] H → va_D A [(a, .inr (7, [.ref a_text, .int v_size, .int v_at, .int v_begin, .int v_token, .int v_told, .ref a_read, .ref a_hill, .ref a_now, .ref a_undone, .int v_undos, .ref a_need, .int v_cames, .ref a_cameOf, .ref a_places, .ref a_firstRow, .int v_each, .long v_trace, .ref a_kept])), (a_read, .inl (cyI, 46, .inl v_read)), (a_text, .inl (cyI, 150, .inl v_text))] → va_S A s.heap H locs → lv_has ls 3 [(0, .ref a), (1, .int x1), (2, .int x2)] → W p l e { frames := 5, cells := 0, slots := 0, locals := 108 } s m args below meth c H locs 0 0 (MQ below (gQi5 Q (dC, dI) A (fun (u1 : Int32) (u2 : Int32) (u3 : Int32) (u4 : Int32) (u5 : Nat → Int32) => [(a, .inr (7, [.ref a_text, .int v_size, .int u1, .int u2, .int u3, .int u4, .ref a_read, .ref a_hill, .ref a_now, .ref a_undone, .int v_undos, .ref a_need, .int v_cames, .ref a_cameOf, .ref a_places, .ref a_firstRow, .int v_each, .long v_trace, .ref a_kept])), (a_read, .inl (cyI, 46, .inl u5)), (a_text, .inl (cyI, 150, .inl v_text))])) args s 0 0 A) (F0 m 27 ls [])) ∧ (∀ (x1 : Int32) (x2 : Int32) (k0 : Int32) (k1 : Int32) (k2 : Int32) (v_at : Int32) (v_begin : Int32) (v_token : Int32) (v_told : Int32) (v_read : Nat → Int32) (H : Heap) (locs : List Loc) (ls : Array Slot), wp_X7_readThing v_size v_text Q n 56 x1 x2 k0 k1 k2 v_at v_begin v_token v_told v_read → va_P (dC, dI) vwCl [(a, .inr (7, [.ref a_text, .int v_size, .int v_at, .int v_begin, .int v_token, .int v_told, .ref a_read, .ref a_hill, .ref a_now, .ref a_undone, .int v_undos, .ref a_need, .int v_cames, .ref a_cameOf, .ref a_places, .ref a_firstRow, .int v_each, .long v_trace, .ref a_kept])), (a_read, .inl (cyI, 46, .inl v_read)), (a_text, .inl (cyI, 150, .inl v_text))] H → va_D A [(a, .inr (7, [.ref a_text, .int v_size, .int v_at, .int v_begin, .int v_token, .int v_told, .ref a_read, .ref a_hill, .ref a_now, .ref a_undone, .int v_undos, .ref a_need, .int v_cames, .ref a_cameOf, .ref a_places, .ref a_firstRow, .int v_each, .long v_trace, .ref a_kept])), (a_read, .inl (cyI, 46, .inl v_read)), (a_text, .inl (cyI, 150, .inl v_text))] → va_S A s.heap H locs → lv_has ls 3 [(0, .ref a), (1, .int x1), (2, .int x2)] → W p l e { frames := 5, cells := 0, slots := 0, locals := 108 } s m args below meth c H locs 0 0 (MQ below (gQi5 Q (dC, dI) A (fun (u1 : Int32) (u2 : Int32) (u3 : Int32) (u4 : Int32) (u5 : Nat → Int32) => [(a, .inr (7, [.ref a_text, .int v_size, .int u1, .int u2, .int u3, .int u4, .ref a_read, .ref a_hill, .ref a_now, .ref a_undone, .int v_undos, .ref a_need, .int v_cames, .ref a_cameOf, .ref a_places, .ref a_firstRow, .int v_each, .long v_trace, .ref a_kept])), (a_read, .inl (cyI, 46, .inl u5)), (a_text, .inl (cyI, 150, .inl v_text))])) args s 0 0 A) (F0 m 56 ls [.int k0, .int k1, .ref a])) := by
  obtain ⟨hx, hb, hr, hml, hown, hts, hlocks⟩ := id C0
  have f13 := hts (.fieldLink RX7 13 "LastOchreModel" "read" "[I") (by decide +kernel)
  have f67 := hts (.fieldLink RX7 67 "LastOchreModel" "told" "I") (by decide +kernel)
  intro n
  induction n with
  | zero => exact ⟨fun _ _ _ _ _ _ _ _ _ _ _ _ _ h => absurd h id, fun _ _ _ _ _ _ _ _ _ _ _ _ _ h => absurd h id⟩
  | succ n ih =>
    obtain ⟨ih27, ih56⟩ := ih
    refine ⟨?_, ?_⟩
    · intro x1 x2 k0 k1 k2 v_at v_begin v_token v_told v_read H locs ls h hP hD hS hl
      replace h : F_X7_readThing_27 v_size v_text Q (wp_X7_readThing v_size v_text Q n) x1 x2 k0 k1 k2 v_at v_begin v_token v_told v_read := h
      unfold F_X7_readThing_27 at h
      refine lv_iload_n hx hb dX7_readThing_27 rfl (lv_at hl 2 rfl) ?_
      refine lv_iconst (v := 4) hx hb dX7_readThing_28 (by decide) ?_
      refine lv_icmp_ge (tgt := 82) hx hb dX7_readThing_29 (by decide) (fun c_4 => ?_) (fun c_4 => ?_)
      · replace h := h.1 c_4
        refine lv_aload_n hx hb dX7_readThing_82 rfl (lv_at hl 0 rfl) ?_
        refine va_get (D := (dC, dI)) (ci := 7) (v := .ref a_read) (C := RX7) (T := TX7) (N := 19) hx hb hts iwX7_readThing_X7 hown hK hP 0 rfl rfl 6 (by decide) f13 (fun _ h9 => h9) rfl dX7_readThing_83 ?_
        refine lv_iconst (v := 2) hx hb dX7_readThing_86 (by decide) ?_
        refine lv_dup2_11 hx hb dX7_readThing_87 rfl rfl ?_
        refine va_iald hx hb hK hP 1 0 rfl rfl (by unfold vp_in; decide) dX7_readThing_88 ?_
        refine lv_iconst (v := 1) hx hb dX7_readThing_89 (by decide) ?_
        refine lv_iadd hx hb dX7_readThing_90 ?_
        refine va_iast hx hb hK hP hD hS 1 0 rfl rfl (by unfold vp_in; decide) dX7_readThing_91 (fun H locs hP hD hS => ?_)
        obtain ⟨f_5, e_6⟩ : ∃ y : Nat → Int32, y = upd v_read ((2 : Int32)).toNatClampNeg ((v_read ((2 : Int32)).toNatClampNeg) + (1 : Int32)) := ⟨_, rfl⟩
        replace h := h f_5 e_6
        replace hP : va_P (dC, dI) vwCl [(a, .inr (7, [.ref a_text, .int v_size, .int v_at, .int v_begin, .int v_token, .int v_told, .ref a_read, .ref a_hill, .ref a_now, .ref a_undone, .int v_undos, .ref a_need, .int v_cames, .ref a_cameOf, .ref a_places, .ref a_firstRow, .int v_each, .long v_trace, .ref a_kept])), (a_read, .inl (cyI, 46, .inl f_5)), (a_text, .inl (cyI, 150, .inl v_text))] H := by rw [e_6]; exact hP
        replace hD : va_D A [(a, .inr (7, [.ref a_text, .int v_size, .int v_at, .int v_begin, .int v_token, .int v_told, .ref a_read, .ref a_hill, .ref a_now, .ref a_undone, .int v_undos, .ref a_need, .int v_cames, .ref a_cameOf, .ref a_places, .ref a_firstRow, .int v_each, .long v_trace, .ref a_kept])), (a_read, .inl (cyI, 46, .inl f_5)), (a_text, .inl (cyI, 150, .inl v_text))] := by rw [e_6]; exact hD
        refine lv_aload_n hx hb dX7_readThing_92 rfl (lv_at hl 0 rfl) ?_
        refine gV_i4 (As := []) (rest := []) ⟨hx, hb, hml, hown, hts⟩ (c_X7_ends l dC dI cyC cyI cyZ _ a a_text a_read a_hill a_now a_undone a_need a_cameOf a_places a_firstRow a_kept v_size v_at v_begin v_token v_told v_undos v_cames v_each v_trace v_text h) (cwV 0 hts gX7_readThing_X7_ends rfl rfl rfl hdV_X7_ends ⟨Nat.le_of_ble_eq_true rfl, Nat.le_of_ble_eq_true rfl⟩) hK hN hP hD hS hA [0, 2] (by decide) rfl (ci := 7) rfl rfl rfl hl.1 rfl (Nat.le_of_ble_eq_true rfl) dX7_readThing_93 ⟨Nat.zero_le _, Nat.zero_le _⟩ (wr := [(a_read, .inl (cyI, 46, .inl f_5))]) [1] rfl (by decide) (by decide) (fun r_7 u_8 u_9 u_10 u_11 H locs h hP hD hS => ?_)
        replace hP : va_P (dC, dI) vwCl [(a_read, .inl (cyI, 46, .inl f_5)), (a, .inr (7, [.ref a_text, .int v_size, .int u_8, .int u_9, .int u_10, .int u_11, .ref a_read, .ref a_hill, .ref a_now, .ref a_undone, .int v_undos, .ref a_need, .int v_cames, .ref a_cameOf, .ref a_places, .ref a_firstRow, .int v_each, .long v_trace, .ref a_kept])), (a_text, .inl (cyI, 150, .inl v_text))] H := hP
        replace hD : va_D A [(a_read, .inl (cyI, 46, .inl f_5)), (a, .inr (7, [.ref a_text, .int v_size, .int u_8, .int u_9, .int u_10, .int u_11, .ref a_read, .ref a_hill, .ref a_now, .ref a_undone, .int v_undos, .ref a_need, .int v_cames, .ref a_cameOf, .ref a_places, .ref a_firstRow, .int v_each, .long v_trace, .ref a_kept])), (a_text, .inl (cyI, 150, .inl v_text))] := hD
        have g_12 := h.1
        replace h := h.2
        exact grz5 hx hb hr hlocks g_12 h (hP.sub (ws' := [(a, .inr (7, [.ref a_text, .int v_size, .int u_8, .int u_9, .int u_10, .int u_11, .ref a_read, .ref a_hill, .ref a_now, .ref a_undone, .int v_undos, .ref a_need, .int v_cames, .ref a_cameOf, .ref a_places, .ref a_firstRow, .int v_each, .long v_trace, .ref a_kept])), (a_read, .inl (cyI, 46, .inl f_5)), (a_text, .inl (cyI, 150, .inl v_text))]) [1, 0, 2] rfl) (hD.sub (ws' := [(a, .inr (7, [.ref a_text, .int v_size, .int u_8, .int u_9, .int u_10, .int u_11, .ref a_read, .ref a_hill, .ref a_now, .ref a_undone, .int v_undos, .ref a_need, .int v_cames, .ref a_cameOf, .ref a_places, .ref a_firstRow, .int v_each, .long v_trace, .ref a_kept])), (a_read, .inl (cyI, 46, .inl f_5)), (a_text, .inl (cyI, 150, .inl v_text))]) [1, 0, 2] (by decide) rfl) hS dX7_readThing_96
      · replace h := h.2 c_4
        refine lv_aload_n hx hb dX7_readThing_32 rfl (lv_at hl 0 rfl) ?_
        refine lv_iconst (v := 0) hx hb dX7_readThing_33 (by decide) ?_
        refine lv_iload_n hx hb dX7_readThing_34 rfl (lv_at hl 2 rfl) ?_
        refine lv_iconst (v := 2) hx hb dX7_readThing_35 (by decide) ?_
        refine lv_icmp_ge (tgt := 44) hx hb dX7_readThing_36 (by decide) (fun c_13 => ?_) (fun c_13 => ?_)
        · replace h := h.1 c_13
          refine lv_iload_n hx hb dX7_readThing_44 rfl (lv_at hl 2 rfl) ?_
          refine lv_iconst (v := 2) hx hb dX7_readThing_45 (by decide) ?_
          refine lv_icmp_ne (tgt := 54) hx hb dX7_readThing_46 (by decide) (fun c_14 => ?_) (fun c_14 => ?_)
          · replace h := h.1 c_14
            refine lv_bipush (v := 99) hx hb dX7_readThing_54 (by decide) ?_
            exact ih56 x1 x2 (99 : Int32) (0 : Int32) 0 v_at v_begin v_token v_told v_read _ _ _ h hP hD hS (lv_sub hl [0, 1, 2] rfl)
          · replace h := h.2 c_14
            refine lv_bipush (v := 9) hx hb dX7_readThing_49 (by decide) ?_
            refine lv_goto (tgt := 56) hx hb dX7_readThing_51 (by decide) ?_
            exact ih56 x1 x2 (9 : Int32) (0 : Int32) 0 v_at v_begin v_token v_told v_read _ _ _ h hP hD hS (lv_sub hl [0, 1, 2] rfl)
        · replace h := h.2 c_13
          refine lv_bipush (v := 60) hx hb dX7_readThing_39 (by decide) ?_
          refine lv_goto (tgt := 56) hx hb dX7_readThing_41 (by decide) ?_
          exact ih56 x1 x2 (60 : Int32) (0 : Int32) 0 v_at v_begin v_token v_told v_read _ _ _ h hP hD hS (lv_sub hl [0, 1, 2] rfl)
    · intro x1 x2 k0 k1 k2 v_at v_begin v_token v_told v_read H locs ls h hP hD hS hl
      replace h : F_X7_readThing_56 v_size v_text Q (wp_X7_readThing v_size v_text Q n) x1 x2 k0 k1 k2 v_at v_begin v_token v_told v_read := h
      unfold F_X7_readThing_56 at h
      refine gV_i4 (As := [.int k1, .int k0]) (rest := []) ⟨hx, hb, hml, hown, hts⟩ (c_X7_number l dC dI cyC cyI cyZ _ a a_text a_read a_hill a_now a_undone a_need a_cameOf a_places a_firstRow a_kept v_size v_at v_begin v_token v_told v_undos v_cames v_each v_trace v_text k1 k0 h) (cwV 2 hts gX7_readThing_X7_number rfl rfl rfl hdV_X7_number ⟨Nat.le_of_ble_eq_true rfl, Nat.le_of_ble_eq_true rfl⟩) hK hN hP hD hS hA [0, 2] (by decide) rfl (ci := 7) rfl rfl rfl hl.1 rfl (Nat.le_of_ble_eq_true rfl) dX7_readThing_56 ⟨Nat.zero_le _, Nat.zero_le _⟩ (wr := [(a_read, .inl (cyI, 46, .inl v_read))]) [1] rfl (by decide) (by decide) (fun r_15 u_16 u_17 u_18 u_19 H locs h hP hD hS => ?_)
      replace hP : va_P (dC, dI) vwCl [(a_read, .inl (cyI, 46, .inl v_read)), (a, .inr (7, [.ref a_text, .int v_size, .int u_16, .int u_17, .int u_18, .int u_19, .ref a_read, .ref a_hill, .ref a_now, .ref a_undone, .int v_undos, .ref a_need, .int v_cames, .ref a_cameOf, .ref a_places, .ref a_firstRow, .int v_each, .long v_trace, .ref a_kept])), (a_text, .inl (cyI, 150, .inl v_text))] H := hP
      replace hD : va_D A [(a_read, .inl (cyI, 46, .inl v_read)), (a, .inr (7, [.ref a_text, .int v_size, .int u_16, .int u_17, .int u_18, .int u_19, .ref a_read, .ref a_hill, .ref a_now, .ref a_undone, .int v_undos, .ref a_need, .int v_cames, .ref a_cameOf, .ref a_places, .ref a_firstRow, .int v_each, .long v_trace, .ref a_kept])), (a_text, .inl (cyI, 150, .inl v_text))] := hD
      refine lv_if_ne (tgt := 64) hx hb dX7_readThing_59 (by decide) (fun c_20 => ?_) (fun c_20 => ?_)
      · replace h := h.1 c_20
        refine lv_aload_n hx hb dX7_readThing_64 rfl (lv_at hl 0 rfl) ?_
        refine va_get (D := (dC, dI)) (ci := 7) (v := .ref a_read) (C := RX7) (T := TX7) (N := 19) hx hb hts iwX7_readThing_X7 hown hK hP 1 rfl rfl 6 (by decide) f13 (fun _ h9 => h9) rfl dX7_readThing_65 ?_
        refine lv_iload_n hx hb dX7_readThing_68 rfl (lv_at hl 1 rfl) ?_
        refine lv_iload_n hx hb dX7_readThing_69 rfl (lv_at hl 2 rfl) ?_
        refine lv_iadd hx hb dX7_readThing_70 ?_
        refine lv_aload_n hx hb dX7_readThing_71 rfl (lv_at hl 0 rfl) ?_
        refine va_get (D := (dC, dI)) (ci := 7) (v := .int u_19) (C := RX7) (T := TX7) (N := 19) hx hb hts iwX7_readThing_X7 hown hK hP 1 rfl rfl 5 (by decide) f67 (fun _ h9 => h9) rfl dX7_readThing_72 ?_
        have g_21 := h.1
        replace h := h.2
        refine va_iast hx hb hK hP hD hS 0 0 rfl rfl g_21 dX7_readThing_75 (fun H locs hP hD hS => ?_)
        obtain ⟨f_22, e_23⟩ : ∃ y : Nat → Int32, y = upd v_read ((x1 + x2)).toNatClampNeg u_19 := ⟨_, rfl⟩
        replace h := h f_22 e_23
        replace hP : va_P (dC, dI) vwCl [(a_read, .inl (cyI, 46, .inl f_22)), (a, .inr (7, [.ref a_text, .int v_size, .int u_16, .int u_17, .int u_18, .int u_19, .ref a_read, .ref a_hill, .ref a_now, .ref a_undone, .int v_undos, .ref a_need, .int v_cames, .ref a_cameOf, .ref a_places, .ref a_firstRow, .int v_each, .long v_trace, .ref a_kept])), (a_text, .inl (cyI, 150, .inl v_text))] H := by rw [e_23]; exact hP
        replace hD : va_D A [(a_read, .inl (cyI, 46, .inl f_22)), (a, .inr (7, [.ref a_text, .int v_size, .int u_16, .int u_17, .int u_18, .int u_19, .ref a_read, .ref a_hill, .ref a_now, .ref a_undone, .int v_undos, .ref a_need, .int v_cames, .ref a_cameOf, .ref a_places, .ref a_firstRow, .int v_each, .long v_trace, .ref a_kept])), (a_text, .inl (cyI, 150, .inl v_text))] := by rw [e_23]; exact hD
        obtain ⟨x2_24, e_25⟩ : ∃ y : Int32, y = (x2 + (1 : Int32)) := ⟨_, rfl⟩
        replace h := h x2_24 e_25
        refine lv_iinc (v := x2_24) (lv' := [(2, .int x2_24), (0, .ref a), (1, .int x1)]) hx hb dX7_readThing_76 hl (k := 2) rfl (by rw [e_25]; rfl) (by decide) rfl (fun ls hl => ?_)
        refine lv_goto (tgt := 27) hx hb dX7_readThing_79 (by decide) ?_
        exact ih27 x1 x2_24 0 0 0 u_16 u_17 u_18 u_19 f_22 _ _ _ h (hP.sub (ws' := [(a, .inr (7, [.ref a_text, .int v_size, .int u_16, .int u_17, .int u_18, .int u_19, .ref a_read, .ref a_hill, .ref a_now, .ref a_undone, .int v_undos, .ref a_need, .int v_cames, .ref a_cameOf, .ref a_places, .ref a_firstRow, .int v_each, .long v_trace, .ref a_kept])), (a_read, .inl (cyI, 46, .inl f_22)), (a_text, .inl (cyI, 150, .inl v_text))]) [1, 0, 2] rfl) (hD.sub (ws' := [(a, .inr (7, [.ref a_text, .int v_size, .int u_16, .int u_17, .int u_18, .int u_19, .ref a_read, .ref a_hill, .ref a_now, .ref a_undone, .int v_undos, .ref a_need, .int v_cames, .ref a_cameOf, .ref a_places, .ref a_firstRow, .int v_each, .long v_trace, .ref a_kept])), (a_read, .inl (cyI, 46, .inl f_22)), (a_text, .inl (cyI, 150, .inl v_text))]) [1, 0, 2] (by decide) rfl) hS (lv_sub hl [1, 2, 0] rfl)
      · replace h := h.2 c_20
        refine lv_iconst (v := 0) hx hb dX7_readThing_62 (by decide) ?_
        exact grz5 hx hb hr hlocks rfl h (hP.sub (ws' := [(a, .inr (7, [.ref a_text, .int v_size, .int u_16, .int u_17, .int u_18, .int u_19, .ref a_read, .ref a_hill, .ref a_now, .ref a_undone, .int v_undos, .ref a_need, .int v_cames, .ref a_cameOf, .ref a_places, .ref a_firstRow, .int v_each, .long v_trace, .ref a_kept])), (a_read, .inl (cyI, 46, .inl v_read)), (a_text, .inl (cyI, 150, .inl v_text))]) [1, 0, 2] rfl) (hD.sub (ws' := [(a, .inr (7, [.ref a_text, .int v_size, .int u_16, .int u_17, .int u_18, .int u_19, .ref a_read, .ref a_hill, .ref a_now, .ref a_undone, .int v_undos, .ref a_need, .int v_cames, .ref a_cameOf, .ref a_places, .ref a_firstRow, .int v_each, .long v_trace, .ref a_kept])), (a_read, .inl (cyI, 46, .inl v_read)), (a_text, .inl (cyI, 150, .inl v_text))]) [1, 0, 2] (by decide) rfl) hS dX7_readThing_63
set_option maxHeartbeats 4000000 in
set_option maxRecDepth 100000 in
theorem c_X7_readThing (l : Launch) (dC : Nat → ClassId) (dI : Nat → Nat → Nat) (cyC cyI cyZ : ClassId) (sz : Nat) (a a_text a_read a_hill a_now a_undone a_need a_cameOf a_places a_firstRow a_kept : Nat) (v_size : Int32) (v_at : Int32) (v_begin : Int32) (v_token : Int32) (v_told : Int32) (v_undos : Int32) (v_cames : Int32) (v_each : Int32) (v_trace : Int64) (v_read : Nat → Int32) (v_text : Nat → Int32) {Q : Int32 → Int32 → Int32 → Int32 → Int32 → (Nat → Int32) → Prop} (h : q_X7_readThing v_size v_at v_begin v_token v_told v_read v_text Q) : Met l yX7_readThing wsX7_readThing ({ frames := 5, cells := 0, slots := 0, locals := 108 }) (gPc [.ref a] (dC, dI) (gTy cyC cyI cyZ) sz [(a, .inr (7, [.ref a_text, .int v_size, .int v_at, .int v_begin, .int v_token, .int v_told, .ref a_read, .ref a_hill, .ref a_now, .ref a_undone, .int v_undos, .ref a_need, .int v_cames, .ref a_cameOf, .ref a_places, .ref a_firstRow, .int v_each, .long v_trace, .ref a_kept])), (a_read, .inl (cyI, 46, .inl v_read)), (a_text, .inl (cyI, 150, .inl v_text))]) (gQi5 Q (dC, dI) (va_A [(a, .inr (7, [.ref a_text, .int v_size, .int v_at, .int v_begin, .int v_token, .int v_told, .ref a_read, .ref a_hill, .ref a_now, .ref a_undone, .int v_undos, .ref a_need, .int v_cames, .ref a_cameOf, .ref a_places, .ref a_firstRow, .int v_each, .long v_trace, .ref a_kept])), (a_read, .inl (cyI, 46, .inl v_read)), (a_text, .inl (cyI, 150, .inl v_text))] sz) (fun (u1 : Int32) (u2 : Int32) (u3 : Int32) (u4 : Int32) (u5 : Nat → Int32) => [(a, .inr (7, [.ref a_text, .int v_size, .int u1, .int u2, .int u3, .int u4, .ref a_read, .ref a_hill, .ref a_now, .ref a_undone, .int v_undos, .ref a_need, .int v_cames, .ref a_cameOf, .ref a_places, .ref a_firstRow, .int v_each, .long v_trace, .ref a_kept])), (a_read, .inl (cyI, 46, .inl u5)), (a_text, .inl (cyI, 150, .inl v_text))])) 0 0 (va_A [(a, .inr (7, [.ref a_text, .int v_size, .int v_at, .int v_begin, .int v_token, .int v_told, .ref a_read, .ref a_hill, .ref a_now, .ref a_undone, .int v_undos, .ref a_need, .int v_cames, .ref a_cameOf, .ref a_places, .ref a_firstRow, .int v_each, .long v_trace, .ref a_kept])), (a_read, .inl (cyI, 46, .inl v_read)), (a_text, .inl (cyI, 150, .inl v_text))] sz) := by
  refine gMet (cc := cX7_readThing) (maxL := 3) (ret := (some .boolean)) (own := RX7) (fun A => gQi5 Q (dC, dI) A (fun (u1 : Int32) (u2 : Int32) (u3 : Int32) (u4 : Int32) (u5 : Nat → Int32) => [(a, .inr (7, [.ref a_text, .int v_size, .int u1, .int u2, .int u3, .int u4, .ref a_read, .ref a_hill, .ref a_now, .ref a_undone, .int v_undos, .ref a_need, .int v_cames, .ref a_cameOf, .ref a_places, .ref a_firstRow, .int v_each, .long v_trace, .ref a_kept])), (a_read, .inl (cyI, 46, .inl u5)), (a_text, .inl (cyI, 150, .inl v_text))])) (by decide) rfl rfl (Nat.le_of_ble_eq_true rfl) ?_
  intro p e s m below meth c A ls C0 _ hK hN hP hD hA hl
  obtain ⟨hx, hb, hr, hml, hown, hts, hlocks⟩ := id C0
  have f13 := hts (.fieldLink RX7 13 "LastOchreModel" "read" "[I") (by decide +kernel)
  have f67 := hts (.fieldLink RX7 67 "LastOchreModel" "told" "I") (by decide +kernel)
  have hS : va_S A s.heap s.heap [] := va_S.rf
  replace hl : lv_has ls 3 [(0, .ref a)] := hl
  unfold q_X7_readThing at h
  obtain ⟨n, h⟩ := h
  obtain ⟨ih27, ih56⟩ := w_X7_readThing (l := l) (e := e) (below := below) dC dI cyC cyI cyZ a a_text a_read a_hill a_now a_undone a_need a_cameOf a_places a_firstRow a_kept v_size v_undos v_cames v_each v_trace v_text Q C0 hK hN hA n
  unfold F_X7_readThing_e at h
  refine lv_aload_n hx hb dX7_readThing_0 rfl (lv_at hl 0 rfl) ?_
  refine va_get (D := (dC, dI)) (ci := 7) (v := .ref a_read) (C := RX7) (T := TX7) (N := 19) hx hb hts iwX7_readThing_X7 hown hK hP 0 rfl rfl 6 (by decide) f13 (fun _ h9 => h9) rfl dX7_readThing_1 ?_
  refine lv_iconst (v := 2) hx hb dX7_readThing_4 (by decide) ?_
  refine va_iald hx hb hK hP 1 0 rfl rfl (by unfold vp_in; decide) dX7_readThing_5 ?_
  refine lv_bipush (v := 6) hx hb dX7_readThing_6 (by decide) ?_
  refine lv_icmp_ne (tgt := 13) hx hb dX7_readThing_8 (by decide) (fun c_1 => ?_) (fun c_1 => ?_)
  · replace h := h.1 c_1
    refine lv_bipush (v := 22) hx hb dX7_readThing_13 (by decide) ?_
    refine lv_iconst (v := 4) hx hb dX7_readThing_15 (by decide) ?_
    refine lv_aload_n hx hb dX7_readThing_16 rfl (lv_at hl 0 rfl) ?_
    refine va_get (D := (dC, dI)) (ci := 7) (v := .ref a_read) (C := RX7) (T := TX7) (N := 19) hx hb hts iwX7_readThing_X7 hown hK hP 0 rfl rfl 6 (by decide) f13 (fun _ h9 => h9) rfl dX7_readThing_17 ?_
    refine lv_iconst (v := 2) hx hb dX7_readThing_20 (by decide) ?_
    refine va_iald hx hb hK hP 1 0 rfl rfl (by unfold vp_in; decide) dX7_readThing_21 ?_
    refine lv_imul hx hb dX7_readThing_22 ?_
    refine lv_iadd hx hb dX7_readThing_23 ?_
    refine lv_topi (fun x1_2 e_3 => ?_)
    replace h := h x1_2 e_3
    refine lv_istore_n (lv' := [(1, .int x1_2), (0, .ref a)]) hx hb dX7_readThing_24 rfl hl (by decide) rfl (fun ls hl => ?_)
    refine lv_iconst (v := 0) hx hb dX7_readThing_25 (by decide) ?_
    refine lv_istore_n (lv' := [(2, .int (0 : Int32)), (1, .int x1_2), (0, .ref a)]) hx hb dX7_readThing_26 rfl hl (by decide) rfl (fun ls hl => ?_)
    exact ih27 x1_2 (0 : Int32) 0 0 0 v_at v_begin v_token v_told v_read _ _ _ h hP hD hS (lv_sub hl [2, 1, 0] rfl)
  · replace h := h.2 c_1
    refine lv_iconst (v := 0) hx hb dX7_readThing_11 (by decide) ?_
    exact grz5 hx hb hr hlocks rfl h hP hD hS dX7_readThing_12

def F_X7_once_e (v_size : Int32) (v_text : Nat → Int32) (p0 : Int32) (p1 : Int32) (p2 : Int32) (Q : Int32 → Int32 → Int32 → Int32 → Int32 → (Nat → Int32) → Prop) (v_at : Int32) (v_begin : Int32) (v_token : Int32) (v_told : Int32) (v_read : Nat → Int32) : Prop :=
  (¬ ((v_read ((5 : Int32)).toNatClampNeg) &&& p0) = 0 → (Q (0 : Int32) v_at v_begin v_token v_told v_read)) ∧ (((v_read ((5 : Int32)).toNatClampNeg) &&& p0) = 0 → (q_X7_number v_size v_at v_begin v_token v_told v_text p2 (10 : Int32) (fun (r_2 : Int32) (u_3 : Int32) (u_4 : Int32) (u_5 : Int32) (u_6 : Int32) => (¬ r_2 = 0 → (∀ f_8 : Nat → Int32, f_8 = upd v_read ((5 : Int32)).toNatClampNeg ((v_read ((5 : Int32)).toNatClampNeg) ||| p0) → (vp_in p1 46 ∧ (∀ f_11 : Nat → Int32, f_11 = upd f_8 (p1).toNatClampNeg u_6 → (q_X7_ends v_size u_3 u_4 u_5 u_6 v_text (fun (r_13 : Int32) (u_14 : Int32) (u_15 : Int32) (u_16 : Int32) (u_17 : Int32) => narrow .boolean (.int r_13) = .int r_13 ∧ (Q r_13 u_14 u_15 u_16 u_17 f_11))))))) ∧ (r_2 = 0 → (Q (0 : Int32) u_3 u_4 u_5 u_6 v_read)))))
def q_X7_once (v_size : Int32) (v_at : Int32) (v_begin : Int32) (v_token : Int32) (v_told : Int32) (v_read : Nat → Int32) (v_text : Nat → Int32) (p0 : Int32) (p1 : Int32) (p2 : Int32) (Q : Int32 → Int32 → Int32 → Int32 → Int32 → (Nat → Int32) → Prop) : Prop := F_X7_once_e v_size v_text p0 p1 p2 Q v_at v_begin v_token v_told v_read
theorem iwX7_once_X7 : ∀ w ∈ wsX70, w ∈ wsX7_once := by decide +kernel
theorem hdV_X7_once : yX7_once.cls = RX7 ∧ yX7_once.cls ≠ "java/lang/invoke/MethodHandle" ∧ yX7_once.cls ≠ "java/lang/invoke/VarHandle" ∧ (parseMethodDescriptor yX7_once.desc).map (fun d => d.parameters.length) = some 3 := by decide +kernel
set_option maxHeartbeats 4000000 in
set_option maxRecDepth 100000 in
theorem c_X7_once (l : Launch) (dC : Nat → ClassId) (dI : Nat → Nat → Nat) (cyC cyI cyZ : ClassId) (sz : Nat) (a a_text a_read a_hill a_now a_undone a_need a_cameOf a_places a_firstRow a_kept : Nat) (v_size : Int32) (v_at : Int32) (v_begin : Int32) (v_token : Int32) (v_told : Int32) (v_undos : Int32) (v_cames : Int32) (v_each : Int32) (v_trace : Int64) (v_read : Nat → Int32) (v_text : Nat → Int32) (p0 : Int32) (p1 : Int32) (p2 : Int32) {Q : Int32 → Int32 → Int32 → Int32 → Int32 → (Nat → Int32) → Prop} (h : q_X7_once v_size v_at v_begin v_token v_told v_read v_text p0 p1 p2 Q) : Met l yX7_once wsX7_once ({ frames := 5, cells := 0, slots := 0, locals := 108 }) (gPc [.ref a, .int p0, .int p1, .int p2] (dC, dI) (gTy cyC cyI cyZ) sz [(a, .inr (7, [.ref a_text, .int v_size, .int v_at, .int v_begin, .int v_token, .int v_told, .ref a_read, .ref a_hill, .ref a_now, .ref a_undone, .int v_undos, .ref a_need, .int v_cames, .ref a_cameOf, .ref a_places, .ref a_firstRow, .int v_each, .long v_trace, .ref a_kept])), (a_read, .inl (cyI, 46, .inl v_read)), (a_text, .inl (cyI, 150, .inl v_text))]) (gQi5 Q (dC, dI) (va_A [(a, .inr (7, [.ref a_text, .int v_size, .int v_at, .int v_begin, .int v_token, .int v_told, .ref a_read, .ref a_hill, .ref a_now, .ref a_undone, .int v_undos, .ref a_need, .int v_cames, .ref a_cameOf, .ref a_places, .ref a_firstRow, .int v_each, .long v_trace, .ref a_kept])), (a_read, .inl (cyI, 46, .inl v_read)), (a_text, .inl (cyI, 150, .inl v_text))] sz) (fun (u1 : Int32) (u2 : Int32) (u3 : Int32) (u4 : Int32) (u5 : Nat → Int32) => [(a, .inr (7, [.ref a_text, .int v_size, .int u1, .int u2, .int u3, .int u4, .ref a_read, .ref a_hill, .ref a_now, .ref a_undone, .int v_undos, .ref a_need, .int v_cames, .ref a_cameOf, .ref a_places, .ref a_firstRow, .int v_each, .long v_trace, .ref a_kept])), (a_read, .inl (cyI, 46, .inl u5)), (a_text, .inl (cyI, 150, .inl v_text))])) 0 0 (va_A [(a, .inr (7, [.ref a_text, .int v_size, .int v_at, .int v_begin, .int v_token, .int v_told, .ref a_read, .ref a_hill, .ref a_now, .ref a_undone, .int v_undos, .ref a_need, .int v_cames, .ref a_cameOf, .ref a_places, .ref a_firstRow, .int v_each, .long v_trace, .ref a_kept])), (a_read, .inl (cyI, 46, .inl v_read)), (a_text, .inl (cyI, 150, .inl v_text))] sz) := by
  refine gMet (cc := cX7_once) (maxL := 4) (ret := (some .boolean)) (own := RX7) (fun A => gQi5 Q (dC, dI) A (fun (u1 : Int32) (u2 : Int32) (u3 : Int32) (u4 : Int32) (u5 : Nat → Int32) => [(a, .inr (7, [.ref a_text, .int v_size, .int u1, .int u2, .int u3, .int u4, .ref a_read, .ref a_hill, .ref a_now, .ref a_undone, .int v_undos, .ref a_need, .int v_cames, .ref a_cameOf, .ref a_places, .ref a_firstRow, .int v_each, .long v_trace, .ref a_kept])), (a_read, .inl (cyI, 46, .inl u5)), (a_text, .inl (cyI, 150, .inl v_text))])) (by decide) rfl rfl (Nat.le_of_ble_eq_true rfl) ?_
  intro p e s m below meth c A ls C0 _ hK hN hP hD hA hl
  obtain ⟨hx, hb, hr, hml, hown, hts, hlocks⟩ := id C0
  have f13 := hts (.fieldLink RX7 13 "LastOchreModel" "read" "[I") (by decide +kernel)
  have f67 := hts (.fieldLink RX7 67 "LastOchreModel" "told" "I") (by decide +kernel)
  have hS : va_S A s.heap s.heap [] := va_S.rf
  replace hl : lv_has ls 4 [(0, .ref a), (1, .int p0), (2, .int p1), (3, .int p2)] := hl
  unfold q_X7_once at h
  unfold F_X7_once_e at h
  refine lv_aload_n hx hb dX7_once_0 rfl (lv_at hl 0 rfl) ?_
  refine va_get (D := (dC, dI)) (ci := 7) (v := .ref a_read) (C := RX7) (T := TX7) (N := 19) hx hb hts iwX7_once_X7 hown hK hP 0 rfl rfl 6 (by decide) f13 (fun _ h9 => h9) rfl dX7_once_1 ?_
  refine lv_iconst (v := 5) hx hb dX7_once_4 (by decide) ?_
  refine va_iald hx hb hK hP 1 0 rfl rfl (by unfold vp_in; decide) dX7_once_5 ?_
  refine lv_iload_n hx hb dX7_once_6 rfl (lv_at hl 1 rfl) ?_
  refine lv_iand hx hb dX7_once_7 ?_
  refine lv_if_ne (tgt := 21) hx hb dX7_once_8 (by decide) (fun c_1 => ?_) (fun c_1 => ?_)
  · replace h := h.1 c_1
    refine lv_iconst (v := 0) hx hb dX7_once_21 (by decide) ?_
    exact grz5 hx hb hr hlocks rfl h hP hD hS dX7_once_22
  · replace h := h.2 c_1
    refine lv_aload_n hx hb dX7_once_11 rfl (lv_at hl 0 rfl) ?_
    refine lv_iload_n hx hb dX7_once_12 rfl (lv_at hl 3 rfl) ?_
    refine lv_bipush (v := 10) hx hb dX7_once_13 (by decide) ?_
    refine gV_i4 (As := [.int p2, .int (10 : Int32)]) (rest := []) ⟨hx, hb, hml, hown, hts⟩ (c_X7_number l dC dI cyC cyI cyZ _ a a_text a_read a_hill a_now a_undone a_need a_cameOf a_places a_firstRow a_kept v_size v_at v_begin v_token v_told v_undos v_cames v_each v_trace v_text p2 (10 : Int32) h) (cwV 2 hts gX7_once_X7_number rfl rfl rfl hdV_X7_number ⟨Nat.le_of_ble_eq_true rfl, Nat.le_of_ble_eq_true rfl⟩) hK hN hP hD hS hA [0, 2] (by decide) rfl (ci := 7) rfl rfl rfl hl.1 rfl (Nat.le_of_ble_eq_true rfl) dX7_once_15 ⟨Nat.zero_le _, Nat.zero_le _⟩ (wr := [(a_read, .inl (cyI, 46, .inl v_read))]) [1] rfl (by decide) (by decide) (fun r_2 u_3 u_4 u_5 u_6 H locs h hP hD hS => ?_)
    replace hP : va_P (dC, dI) vwCl [(a_read, .inl (cyI, 46, .inl v_read)), (a, .inr (7, [.ref a_text, .int v_size, .int u_3, .int u_4, .int u_5, .int u_6, .ref a_read, .ref a_hill, .ref a_now, .ref a_undone, .int v_undos, .ref a_need, .int v_cames, .ref a_cameOf, .ref a_places, .ref a_firstRow, .int v_each, .long v_trace, .ref a_kept])), (a_text, .inl (cyI, 150, .inl v_text))] H := hP
    replace hD : va_D A [(a_read, .inl (cyI, 46, .inl v_read)), (a, .inr (7, [.ref a_text, .int v_size, .int u_3, .int u_4, .int u_5, .int u_6, .ref a_read, .ref a_hill, .ref a_now, .ref a_undone, .int v_undos, .ref a_need, .int v_cames, .ref a_cameOf, .ref a_places, .ref a_firstRow, .int v_each, .long v_trace, .ref a_kept])), (a_text, .inl (cyI, 150, .inl v_text))] := hD
    refine lv_if_ne (tgt := 23) hx hb dX7_once_18 (by decide) (fun c_7 => ?_) (fun c_7 => ?_)
    · replace h := h.1 c_7
      refine lv_aload_n hx hb dX7_once_23 rfl (lv_at hl 0 rfl) ?_
      refine va_get (D := (dC, dI)) (ci := 7) (v := .ref a_read) (C := RX7) (T := TX7) (N := 19) hx hb hts iwX7_once_X7 hown hK hP 1 rfl rfl 6 (by decide) f13 (fun _ h9 => h9) rfl dX7_once_24 ?_
      refine lv_iconst (v := 5) hx hb dX7_once_27 (by decide) ?_
      refine lv_dup2_11 hx hb dX7_once_28 rfl rfl ?_
      refine va_iald hx hb hK hP 0 0 rfl rfl (by unfold vp_in; decide) dX7_once_29 ?_
      refine lv_iload_n hx hb dX7_once_30 rfl (lv_at hl 1 rfl) ?_
      refine lv_ior hx hb dX7_once_31 ?_
      refine va_iast hx hb hK hP hD hS 0 0 rfl rfl (by unfold vp_in; decide) dX7_once_32 (fun H locs hP hD hS => ?_)
      obtain ⟨f_8, e_9⟩ : ∃ y : Nat → Int32, y = upd v_read ((5 : Int32)).toNatClampNeg ((v_read ((5 : Int32)).toNatClampNeg) ||| p0) := ⟨_, rfl⟩
      replace h := h f_8 e_9
      replace hP : va_P (dC, dI) vwCl [(a_read, .inl (cyI, 46, .inl f_8)), (a, .inr (7, [.ref a_text, .int v_size, .int u_3, .int u_4, .int u_5, .int u_6, .ref a_read, .ref a_hill, .ref a_now, .ref a_undone, .int v_undos, .ref a_need, .int v_cames, .ref a_cameOf, .ref a_places, .ref a_firstRow, .int v_each, .long v_trace, .ref a_kept])), (a_text, .inl (cyI, 150, .inl v_text))] H := by rw [e_9]; exact hP
      replace hD : va_D A [(a_read, .inl (cyI, 46, .inl f_8)), (a, .inr (7, [.ref a_text, .int v_size, .int u_3, .int u_4, .int u_5, .int u_6, .ref a_read, .ref a_hill, .ref a_now, .ref a_undone, .int v_undos, .ref a_need, .int v_cames, .ref a_cameOf, .ref a_places, .ref a_firstRow, .int v_each, .long v_trace, .ref a_kept])), (a_text, .inl (cyI, 150, .inl v_text))] := by rw [e_9]; exact hD
      refine lv_aload_n hx hb dX7_once_33 rfl (lv_at hl 0 rfl) ?_
      refine va_get (D := (dC, dI)) (ci := 7) (v := .ref a_read) (C := RX7) (T := TX7) (N := 19) hx hb hts iwX7_once_X7 hown hK hP 1 rfl rfl 6 (by decide) f13 (fun _ h9 => h9) rfl dX7_once_34 ?_
      refine lv_iload_n hx hb dX7_once_37 rfl (lv_at hl 2 rfl) ?_
      refine lv_aload_n hx hb dX7_once_38 rfl (lv_at hl 0 rfl) ?_
      refine va_get (D := (dC, dI)) (ci := 7) (v := .int u_6) (C := RX7) (T := TX7) (N := 19) hx hb hts iwX7_once_X7 hown hK hP 1 rfl rfl 5 (by decide) f67 (fun _ h9 => h9) rfl dX7_once_39 ?_
      have g_10 := h.1
      replace h := h.2
      refine va_iast hx hb hK hP hD hS 0 0 rfl rfl g_10 dX7_once_42 (fun H locs hP hD hS => ?_)
      obtain ⟨f_11, e_12⟩ : ∃ y : Nat → Int32, y = upd f_8 (p1).toNatClampNeg u_6 := ⟨_, rfl⟩
      replace h := h f_11 e_12
      replace hP : va_P (dC, dI) vwCl [(a_read, .inl (cyI, 46, .inl f_11)), (a, .inr (7, [.ref a_text, .int v_size, .int u_3, .int u_4, .int u_5, .int u_6, .ref a_read, .ref a_hill, .ref a_now, .ref a_undone, .int v_undos, .ref a_need, .int v_cames, .ref a_cameOf, .ref a_places, .ref a_firstRow, .int v_each, .long v_trace, .ref a_kept])), (a_text, .inl (cyI, 150, .inl v_text))] H := by rw [e_12]; exact hP
      replace hD : va_D A [(a_read, .inl (cyI, 46, .inl f_11)), (a, .inr (7, [.ref a_text, .int v_size, .int u_3, .int u_4, .int u_5, .int u_6, .ref a_read, .ref a_hill, .ref a_now, .ref a_undone, .int v_undos, .ref a_need, .int v_cames, .ref a_cameOf, .ref a_places, .ref a_firstRow, .int v_each, .long v_trace, .ref a_kept])), (a_text, .inl (cyI, 150, .inl v_text))] := by rw [e_12]; exact hD
      refine lv_aload_n hx hb dX7_once_43 rfl (lv_at hl 0 rfl) ?_
      refine gV_i4 (As := []) (rest := []) ⟨hx, hb, hml, hown, hts⟩ (c_X7_ends l dC dI cyC cyI cyZ _ a a_text a_read a_hill a_now a_undone a_need a_cameOf a_places a_firstRow a_kept v_size u_3 u_4 u_5 u_6 v_undos v_cames v_each v_trace v_text h) (cwV 0 hts gX7_once_X7_ends rfl rfl rfl hdV_X7_ends ⟨Nat.le_of_ble_eq_true rfl, Nat.le_of_ble_eq_true rfl⟩) hK hN hP hD hS hA [1, 2] (by decide) rfl (ci := 7) rfl rfl rfl hl.1 rfl (Nat.le_of_ble_eq_true rfl) dX7_once_44 ⟨Nat.zero_le _, Nat.zero_le _⟩ (wr := [(a_read, .inl (cyI, 46, .inl f_11))]) [0] rfl (by decide) (by decide) (fun r_13 u_14 u_15 u_16 u_17 H locs h hP hD hS => ?_)
      replace hP : va_P (dC, dI) vwCl [(a_read, .inl (cyI, 46, .inl f_11)), (a, .inr (7, [.ref a_text, .int v_size, .int u_14, .int u_15, .int u_16, .int u_17, .ref a_read, .ref a_hill, .ref a_now, .ref a_undone, .int v_undos, .ref a_need, .int v_cames, .ref a_cameOf, .ref a_places, .ref a_firstRow, .int v_each, .long v_trace, .ref a_kept])), (a_text, .inl (cyI, 150, .inl v_text))] H := hP
      replace hD : va_D A [(a_read, .inl (cyI, 46, .inl f_11)), (a, .inr (7, [.ref a_text, .int v_size, .int u_14, .int u_15, .int u_16, .int u_17, .ref a_read, .ref a_hill, .ref a_now, .ref a_undone, .int v_undos, .ref a_need, .int v_cames, .ref a_cameOf, .ref a_places, .ref a_firstRow, .int v_each, .long v_trace, .ref a_kept])), (a_text, .inl (cyI, 150, .inl v_text))] := hD
      have g_18 := h.1
      replace h := h.2
      exact grz5 hx hb hr hlocks g_18 h (hP.sub (ws' := [(a, .inr (7, [.ref a_text, .int v_size, .int u_14, .int u_15, .int u_16, .int u_17, .ref a_read, .ref a_hill, .ref a_now, .ref a_undone, .int v_undos, .ref a_need, .int v_cames, .ref a_cameOf, .ref a_places, .ref a_firstRow, .int v_each, .long v_trace, .ref a_kept])), (a_read, .inl (cyI, 46, .inl f_11)), (a_text, .inl (cyI, 150, .inl v_text))]) [1, 0, 2] rfl) (hD.sub (ws' := [(a, .inr (7, [.ref a_text, .int v_size, .int u_14, .int u_15, .int u_16, .int u_17, .ref a_read, .ref a_hill, .ref a_now, .ref a_undone, .int v_undos, .ref a_need, .int v_cames, .ref a_cameOf, .ref a_places, .ref a_firstRow, .int v_each, .long v_trace, .ref a_kept])), (a_read, .inl (cyI, 46, .inl f_11)), (a_text, .inl (cyI, 150, .inl v_text))]) [1, 0, 2] (by decide) rfl) hS dX7_once_47
    · replace h := h.2 c_7
      refine lv_iconst (v := 0) hx hb dX7_once_21 (by decide) ?_
      exact grz5 hx hb hr hlocks rfl h (hP.sub (ws' := [(a, .inr (7, [.ref a_text, .int v_size, .int u_3, .int u_4, .int u_5, .int u_6, .ref a_read, .ref a_hill, .ref a_now, .ref a_undone, .int v_undos, .ref a_need, .int v_cames, .ref a_cameOf, .ref a_places, .ref a_firstRow, .int v_each, .long v_trace, .ref a_kept])), (a_read, .inl (cyI, 46, .inl v_read)), (a_text, .inl (cyI, 150, .inl v_text))]) [1, 0, 2] rfl) (hD.sub (ws' := [(a, .inr (7, [.ref a_text, .int v_size, .int u_3, .int u_4, .int u_5, .int u_6, .ref a_read, .ref a_hill, .ref a_now, .ref a_undone, .int v_undos, .ref a_need, .int v_cames, .ref a_cameOf, .ref a_places, .ref a_firstRow, .int v_each, .long v_trace, .ref a_kept])), (a_read, .inl (cyI, 46, .inl v_read)), (a_text, .inl (cyI, 150, .inl v_text))]) [1, 0, 2] (by decide) rfl) hS dX7_once_22

def F_X7_sell_e (v_hill : Nat → Int32) (v_now : Nat → Int32) (p0 : Int32) (p1 : Int32) (p2 : Int32) (Q : Int32 → Prop) (rec : Nat → Int32 → Int32 → Int32 → Int32 → Int32 → Int32 → Prop)  : Prop :=
  q_X7_isThing v_hill p0 (fun (r_1 : Int32) => (r_1 = 0 → (Q (-1 : Int32))) ∧ (¬ r_1 = 0 → (q_X7_in ((p1).toInt64) (0 : Int64) (60 : Int64) (fun (r_3 : Int32) => (r_3 = 0 → (Q (-1 : Int32))) ∧ (¬ r_3 = 0 → (q_X7_in ((p2).toInt64) (0 : Int64) (1 : Int64) (fun (r_5 : Int32) => (¬ r_5 = 0 → (rec 41 (0 : Int32) (-1 : Int32) (0 : Int32) 0 0 0)) ∧ (r_5 = 0 → (Q (-1 : Int32))))))))))
def F_X7_sell_41 (v_hill : Nat → Int32) (v_now : Nat → Int32) (p0 : Int32) (p1 : Int32) (p2 : Int32) (Q : Int32 → Prop) (rec : Nat → Int32 → Int32 → Int32 → Int32 → Int32 → Int32 → Prop) (x4 : Int32) (x5 : Int32) (x6 : Int32) (x7 : Int32) (x8 : Int32) (k0 : Int32) : Prop :=
  (p1 < x6 → ((¬ p2 = 0 → (Q x5)) ∧ (p2 = 0 → (Q x4)))) ∧ (¬ p1 < x6 → (rec 53 x4 x5 x6 (0 : Int32) (0 : Int32) 0))
def F_X7_sell_53 (v_hill : Nat → Int32) (v_now : Nat → Int32) (p0 : Int32) (p1 : Int32) (p2 : Int32) (Q : Int32 → Prop) (rec : Nat → Int32 → Int32 → Int32 → Int32 → Int32 → Int32 → Prop) (x4 : Int32) (x5 : Int32) (x6 : Int32) (x7 : Int32) (x8 : Int32) (k0 : Int32) : Prop :=
  ((v_hill ((2 : Int32)).toNatClampNeg) ≤ x8 → (q_X7_isThen v_now v_hill p0 x6 (0 : Int32) (fun (r_10 : Int32) => (r_10 = 0 → (rec 117 x4 x5 x6 0 0 (0 : Int32))) ∧ (¬ r_10 = 0 → (q_X7_worth v_hill p0 (fun (r_12 : Int32) => rec 117 x4 x5 x6 0 0 (r_12 * ((1 : Int32) + x7)))))))) ∧ (¬ (v_hill ((2 : Int32)).toNatClampNeg) ≤ x8 → (q_X7_isThen v_now v_hill x8 x6 (0 : Int32) (fun (r_13 : Int32) => (r_13 = 0 → (∀ x7_15 : Int32, x7_15 = (x7 + (1 : Int32)) → (∀ x8_17 : Int32, x8_17 = (x8 + (1 : Int32)) → (rec 53 x4 x5 x6 x7_15 x8_17 0)))) ∧ (¬ r_13 = 0 → (∀ x7_19 : Int32, x7_19 = (x7 + (0 : Int32)) → (∀ x8_21 : Int32, x8_21 = (x8 + (1 : Int32)) → (rec 53 x4 x5 x6 x7_19 x8_21 0)))))))
def F_X7_sell_117 (v_hill : Nat → Int32) (v_now : Nat → Int32) (p0 : Int32) (p1 : Int32) (p2 : Int32) (Q : Int32 → Prop) (rec : Nat → Int32 → Int32 → Int32 → Int32 → Int32 → Int32 → Prop) (x4 : Int32) (x5 : Int32) (x6 : Int32) (x7 : Int32) (x8 : Int32) (k0 : Int32) : Prop :=
  (k0 ≤ x5 → (rec 133 0 x5 x6 0 k0 x4)) ∧ (¬ k0 ≤ x5 → (rec 133 0 x5 x6 0 k0 x6))
def F_X7_sell_133 (v_hill : Nat → Int32) (v_now : Nat → Int32) (p0 : Int32) (p1 : Int32) (p2 : Int32) (Q : Int32 → Prop) (rec : Nat → Int32 → Int32 → Int32 → Int32 → Int32 → Int32 → Prop) (x4 : Int32) (x5 : Int32) (x6 : Int32) (x7 : Int32) (x8 : Int32) (k0 : Int32) : Prop :=
  (x8 ≤ x5 → (∀ x6_25 : Int32, x6_25 = (x6 + (1 : Int32)) → (rec 41 k0 x5 x6_25 0 0 0))) ∧ (¬ x8 ≤ x5 → (∀ x6_27 : Int32, x6_27 = (x6 + (1 : Int32)) → (rec 41 k0 x8 x6_27 0 0 0)))
def wp_X7_sell (v_hill : Nat → Int32) (v_now : Nat → Int32) (p0 : Int32) (p1 : Int32) (p2 : Int32) (Q : Int32 → Prop) : Nat → Nat → Int32 → Int32 → Int32 → Int32 → Int32 → Int32 → Prop
  | 0 => fun _ _ _ _ _ _ _ => False
  | n + 1 => fun t x4 x5 x6 x7 x8 k0 => if t = 41 then F_X7_sell_41 v_hill v_now p0 p1 p2 Q (wp_X7_sell v_hill v_now p0 p1 p2 Q n) x4 x5 x6 x7 x8 k0 else if t = 53 then F_X7_sell_53 v_hill v_now p0 p1 p2 Q (wp_X7_sell v_hill v_now p0 p1 p2 Q n) x4 x5 x6 x7 x8 k0 else if t = 117 then F_X7_sell_117 v_hill v_now p0 p1 p2 Q (wp_X7_sell v_hill v_now p0 p1 p2 Q n) x4 x5 x6 x7 x8 k0 else if t = 133 then F_X7_sell_133 v_hill v_now p0 p1 p2 Q (wp_X7_sell v_hill v_now p0 p1 p2 Q n) x4 x5 x6 x7 x8 k0 else False
def q_X7_sell (v_hill : Nat → Int32) (v_now : Nat → Int32) (p0 : Int32) (p1 : Int32) (p2 : Int32) (Q : Int32 → Prop) : Prop := ∃ n, F_X7_sell_e v_hill v_now p0 p1 p2 Q (wp_X7_sell v_hill v_now p0 p1 p2 Q n) 
theorem iwX7_sell_X7 : ∀ w ∈ wsX70, w ∈ wsX7_sell := by decide +kernel
theorem hdV_X7_sell : yX7_sell.cls = RX7 ∧ yX7_sell.cls ≠ "java/lang/invoke/MethodHandle" ∧ yX7_sell.cls ≠ "java/lang/invoke/VarHandle" ∧ (parseMethodDescriptor yX7_sell.desc).map (fun d => d.parameters.length) = some 3 := by decide +kernel
set_option maxHeartbeats 4000000 in
set_option maxRecDepth 100000 in
theorem w_X7_sell {p : Program} {l : Launch} {e : Env} {s : State} {m : MethodId} {args : Array Value} {below : List Frame} {meth : Method} {c : Code} {A : Nat → Prop} (dC : Nat → ClassId) (dI : Nat → Nat → Nat) (cyC cyI cyZ : ClassId) (a a_text a_read a_hill a_now a_undone a_need a_cameOf a_places a_firstRow a_kept : Nat) (v_size : Int32) (v_at : Int32) (v_begin : Int32) (v_token : Int32) (v_told : Int32) (v_undos : Int32) (v_cames : Int32) (v_each : Int32) (v_trace : Int64) (v_hill : Nat → Int32) (v_now : Nat → Int32) (p0 : Int32) (p1 : Int32) (p2 : Int32) (Q : Int32 → Prop) (C0 : gAt cX7_sell (some .int) 9 RX7 wsX7_sell p s m meth c args) (hK : va_K (dC, dI) vwCl (gTy cyC cyI cyZ) s) (hN : nU s) (hA : ∀ q, s.heap.size ≤ q → A q) : ∀ n : Nat, (∀ (x4 : Int32) (x5 : Int32) (x6 : Int32) (x7 : Int32) (x8 : Int32) (k0 : Int32) (H : Heap) (locs : List Loc) (ls : Array Slot), wp_X7_sell v_hill v_now p0 p1 p2 Q n 41 x4 x5 x6 x7 x8 k0 → va_P (dC, dI) vwCl [(a, .inr (7, [.ref a_text, .int v_size, .int v_at, .int v_begin, .int v_token, .int v_told, .ref a_read, .ref a_hill, .ref a_now, .ref a_undone, .int v_undos, .ref a_need, .int v_cames, .ref a_cameOf, .ref a_places, .ref a_firstRow, .int v_each, .long v_trace, .ref a_kept])), (a_hill, .inl (cyI, 46, .inl v_hill)), (a_now, .inl (cyI, 15, .inl v_now))] H → va_D A [(a, .inr (7, [.ref a_text, .int v_size, .int v_at, .int v_begin, .int v_token, .int v_told, .ref a_read, .ref a_hill, .ref a_now, .ref a_undone, .int v_undos, .ref a_need, .int v_cames, .ref a_cameOf, .ref a_places, .ref a_firstRow, .int v_each, .long v_trace, .ref a_kept])), (a_hill, .inl (cyI, 46, .inl v_hill)), (a_now, .inl (cyI, 15, .inl v_now))] → va_S A s.heap H locs → lv_has ls 9 [(0, .ref a), (1, .int p0), (2, .int p1), (3, .int p2), (4, .int x4), (5, .int x5), (6, .int x6)] → W p l e { frames := 2, cells := 0, slots := 0, locals := 46 } s m args below meth c H locs 0 0 (MQ below (gQi0 Q (dC, dI) A [(a, .inr (7, [.ref a_text, .int v_size, .int v_at, .int v_begin, .int v_token, .int v_told, .ref a_read, .ref a_hill, .ref a_now, .ref a_undone, .int v_undos, .ref a_need, .int v_cames, .ref a_cameOf, .ref a_places, .ref a_firstRow, .int v_each, .long v_trace, .ref a_kept])), (a_hill, .inl (cyI, 46, .inl v_hill)), (a_now, .inl (cyI, 15, .inl v_now))]) args s 0 0 A) (F0 m 41 ls [])) ∧ (∀ (x4 : Int32) (x5 : Int32) (x6 : Int32) (x7 : Int32) (x8 : Int32) (k0 : Int32) (H : Heap) (locs : List Loc) (ls : Array Slot), wp_X7_sell v_hill v_now p0 p1 p2 Q n 53 x4 x5 x6 x7 x8 k0 → va_P (dC, dI) vwCl [(a, .inr (7, [.ref a_text, .int v_size, .int v_at, .int v_begin, .int v_token, .int v_told, .ref a_read, .ref a_hill, .ref a_now, .ref a_undone, .int v_undos, .ref a_need, .int v_cames, .ref a_cameOf, .ref a_places, .ref a_firstRow, .int v_each, .long v_trace, .ref a_kept])), (a_hill, .inl (cyI, 46, .inl v_hill)), (a_now, .inl (cyI, 15, .inl v_now))] H → va_D A [(a, .inr (7, [.ref a_text, .int v_size, .int v_at, .int v_begin, .int v_token, .int v_told, .ref a_read, .ref a_hill, .ref a_now, .ref a_undone, .int v_undos, .ref a_need, .int v_cames, .ref a_cameOf, .ref a_places, .ref a_firstRow, .int v_each, .long v_trace, .ref a_kept])), (a_hill, .inl (cyI, 46, .inl v_hill)), (a_now, .inl (cyI, 15, .inl v_now))] → va_S A s.heap H locs → lv_has ls 9 [(0, .ref a), (1, .int p0), (2, .int p1), (3, .int p2), (4, .int x4), (5, .int x5), (6, .int x6), (7, .int x7), (8, .int x8)] → W p l e { frames := 2, cells := 0, slots := 0, locals := 46 } s m args below meth c H locs 0 0 (MQ below (gQi0 Q (dC, dI) A [(a, .inr (7, [.ref a_text, .int v_size, .int v_at, .int v_begin, .int v_token, .int v_told, .ref a_read, .ref a_hill, .ref a_now, .ref a_undone, .int v_undos, .ref a_need, .int v_cames, .ref a_cameOf, .ref a_places, .ref a_firstRow, .int v_each, .long v_trace, .ref a_kept])), (a_hill, .inl (cyI, 46, .inl v_hill)), (a_now, .inl (cyI, 15, .inl v_now))]) args s 0 0 A) (F0 m 53 ls [])) ∧ (∀ (x4 : Int32) (x5 : Int32) (x6 : Int32) (x7 : Int32) (x8 : Int32) (k0 : Int32) (H : Heap) (locs : List Loc) (ls : Array Slot), wp_X7_sell v_hill v_now p0 p1 p2 Q n 117 x4 x5 x6 x7 x8 k0 → va_P (dC, dI) vwCl [(a, .inr (7, [.ref a_text, .int v_size, .int v_at, .int v_begin, .int v_token, .int v_told, .ref a_read, .ref a_hill, .ref a_now, .ref a_undone, .int v_undos, .ref a_need, .int v_cames, .ref a_cameOf, .ref a_places, .ref a_firstRow, .int v_each, .long v_trace, .ref a_kept])), (a_hill, .inl (cyI, 46, .inl v_hill)), (a_now, .inl (cyI, 15, .inl v_now))] H → va_D A [(a, .inr (7, [.ref a_text, .int v_size, .int v_at, .int v_begin, .int v_token, .int v_told, .ref a_read, .ref a_hill, .ref a_now, .ref a_undone, .int v_undos, .ref a_need, .int v_cames, .ref a_cameOf, .ref a_places, .ref a_firstRow, .int v_each, .long v_trace, .ref a_kept])), (a_hill, .inl (cyI, 46, .inl v_hill)), (a_now, .inl (cyI, 15, .inl v_now))] → va_S A s.heap H locs → lv_has ls 9 [(0, .ref a), (1, .int p0), (2, .int p1), (3, .int p2), (4, .int x4), (5, .int x5), (6, .int x6)] → W p l e { frames := 2, cells := 0, slots := 0, locals := 46 } s m args below meth c H locs 0 0 (MQ below (gQi0 Q (dC, dI) A [(a, .inr (7, [.ref a_text, .int v_size, .int v_at, .int v_begin, .int v_token, .int v_told, .ref a_read, .ref a_hill, .ref a_now, .ref a_undone, .int v_undos, .ref a_need, .int v_cames, .ref a_cameOf, .ref a_places, .ref a_firstRow, .int v_each, .long v_trace, .ref a_kept])), (a_hill, .inl (cyI, 46, .inl v_hill)), (a_now, .inl (cyI, 15, .inl v_now))]) args s 0 0 A) (F0 m 117 ls [.int k0])) ∧ (∀ (x4 : Int32) (x5 : Int32) (x6 : Int32) (x7 : Int32) (x8 : Int32) (k0 : Int32) (H : Heap) (locs : List Loc) (ls : Array Slot), wp_X7_sell v_hill v_now p0 p1 p2 Q n 133 x4 x5 x6 x7 x8 k0 → va_P (dC, dI) vwCl [(a, .inr (7, [.ref a_text, .int v_size, .int v_at, .int v_begin, .int v_token, .int v_told, .ref a_read, .ref a_hill, .ref a_now, .ref a_undone, .int v_undos, .ref a_need, .int v_cames, .ref a_cameOf, .ref a_places, .ref a_firstRow, .int v_each, .long v_trace, .ref a_kept])), (a_hill, .inl (cyI, 46, .inl v_hill)), (a_now, .inl (cyI, 15, .inl v_now))] H → va_D A [(a, .inr (7, [.ref a_text, .int v_size, .int v_at, .int v_begin, .int v_token, .int v_told, .ref a_read, .ref a_hill, .ref a_now, .ref a_undone, .int v_undos, .ref a_need, .int v_cames, .ref a_cameOf, .ref a_places, .ref a_firstRow, .int v_each, .long v_trace, .ref a_kept])), (a_hill, .inl (cyI, 46, .inl v_hill)), (a_now, .inl (cyI, 15, .inl v_now))] → va_S A s.heap H locs → lv_has ls 9 [(0, .ref a), (1, .int p0), (2, .int p1), (3, .int p2), (5, .int x5), (6, .int x6), (8, .int x8)] → W p l e { frames := 2, cells := 0, slots := 0, locals := 46 } s m args below meth c H locs 0 0 (MQ below (gQi0 Q (dC, dI) A [(a, .inr (7, [.ref a_text, .int v_size, .int v_at, .int v_begin, .int v_token, .int v_told, .ref a_read, .ref a_hill, .ref a_now, .ref a_undone, .int v_undos, .ref a_need, .int v_cames, .ref a_cameOf, .ref a_places, .ref a_firstRow, .int v_each, .long v_trace, .ref a_kept])), (a_hill, .inl (cyI, 46, .inl v_hill)), (a_now, .inl (cyI, 15, .inl v_now))]) args s 0 0 A) (F0 m 133 ls [.int k0])) := by
  obtain ⟨hx, hb, hr, hml, hown, hts, hlocks⟩ := id C0
  have f16 := hts (.fieldLink RX7 16 "LastOchreModel" "hill" "[I") (by decide +kernel)
  intro n
  induction n with
  | zero => exact ⟨fun _ _ _ _ _ _ _ _ _ h => absurd h id, fun _ _ _ _ _ _ _ _ _ h => absurd h id, fun _ _ _ _ _ _ _ _ _ h => absurd h id, fun _ _ _ _ _ _ _ _ _ h => absurd h id⟩
  | succ n ih =>
    obtain ⟨ih41, ih53, ih117, ih133⟩ := ih
    refine ⟨?_, ?_, ?_, ?_⟩
    · intro x4 x5 x6 x7 x8 k0 H locs ls h hP hD hS hl
      replace h : F_X7_sell_41 v_hill v_now p0 p1 p2 Q (wp_X7_sell v_hill v_now p0 p1 p2 Q n) x4 x5 x6 x7 x8 k0 := h
      unfold F_X7_sell_41 at h
      refine lv_iload hx hb dX7_sell_41 (lv_at hl 6 rfl) ?_
      refine lv_iload_n hx hb dX7_sell_43 rfl (lv_at hl 2 rfl) ?_
      refine lv_icmp_gt (tgt := 157) hx hb dX7_sell_44 (by decide) (fun c_7 => ?_) (fun c_7 => ?_)
      · replace h := h.1 c_7
        refine lv_iload_n hx hb dX7_sell_157 rfl (lv_at hl 3 rfl) ?_
        refine lv_if_ne (tgt := 166) hx hb dX7_sell_158 (by decide) (fun c_8 => ?_) (fun c_8 => ?_)
        · replace h := h.1 c_8
          refine lv_iload hx hb dX7_sell_166 (lv_at hl 5 rfl) ?_
          exact gri0 hx hb hr hlocks h hP hD hS dX7_sell_168
        · replace h := h.2 c_8
          refine lv_iload hx hb dX7_sell_161 (lv_at hl 4 rfl) ?_
          refine lv_goto (tgt := 168) hx hb dX7_sell_163 (by decide) ?_
          exact gri0 hx hb hr hlocks h hP hD hS dX7_sell_168
      · replace h := h.2 c_7
        refine lv_iconst (v := 0) hx hb dX7_sell_47 (by decide) ?_
        refine lv_istore (lv' := [(7, .int (0 : Int32)), (0, .ref a), (1, .int p0), (2, .int p1), (3, .int p2), (4, .int x4), (5, .int x5), (6, .int x6)]) hx hb dX7_sell_48 hl (by decide) rfl (fun ls hl => ?_)
        refine lv_iconst (v := 0) hx hb dX7_sell_50 (by decide) ?_
        refine lv_istore (lv' := [(8, .int (0 : Int32)), (7, .int (0 : Int32)), (0, .ref a), (1, .int p0), (2, .int p1), (3, .int p2), (4, .int x4), (5, .int x5), (6, .int x6)]) hx hb dX7_sell_51 hl (by decide) rfl (fun ls hl => ?_)
        exact ih53 x4 x5 x6 (0 : Int32) (0 : Int32) 0 _ _ _ h hP hD hS (lv_sub hl [2, 3, 4, 5, 6, 7, 8, 1, 0] rfl)
    · intro x4 x5 x6 x7 x8 k0 H locs ls h hP hD hS hl
      replace h : F_X7_sell_53 v_hill v_now p0 p1 p2 Q (wp_X7_sell v_hill v_now p0 p1 p2 Q n) x4 x5 x6 x7 x8 k0 := h
      unfold F_X7_sell_53 at h
      refine lv_iload hx hb dX7_sell_53 (lv_at hl 8 rfl) ?_
      refine lv_aload_n hx hb dX7_sell_55 rfl (lv_at hl 0 rfl) ?_
      refine va_get (D := (dC, dI)) (ci := 7) (v := .ref a_hill) (C := RX7) (T := TX7) (N := 19) hx hb hts iwX7_sell_X7 hown hK hP 0 rfl rfl 7 (by decide) f16 (fun _ h9 => h9) rfl dX7_sell_56 ?_
      refine lv_iconst (v := 2) hx hb dX7_sell_59 (by decide) ?_
      refine va_iald hx hb hK hP 1 0 rfl rfl (by unfold vp_in; decide) dX7_sell_60 ?_
      refine lv_icmp_ge (tgt := 92) hx hb dX7_sell_61 (by decide) (fun c_9 => ?_) (fun c_9 => ?_)
      · replace h := h.1 c_9
        refine lv_aload_n hx hb dX7_sell_92 rfl (lv_at hl 0 rfl) ?_
        refine lv_iload_n hx hb dX7_sell_93 rfl (lv_at hl 1 rfl) ?_
        refine lv_iload hx hb dX7_sell_94 (lv_at hl 6 rfl) ?_
        refine lv_iconst (v := 0) hx hb dX7_sell_96 (by decide) ?_
        refine gV_i0 (As := [.int p0, .int x6, .int (0 : Int32)]) (rest := []) ⟨hx, hb, hml, hown, hts⟩ (c_X7_isThen l dC dI cyC cyI cyZ _ a a_text a_read a_hill a_now a_undone a_need a_cameOf a_places a_firstRow a_kept v_size v_at v_begin v_token v_told v_undos v_cames v_each v_trace v_now v_hill p0 x6 (0 : Int32) h) (cwV 3 hts gX7_sell_X7_isThen rfl rfl rfl hdV_X7_isThen ⟨Nat.le_of_ble_eq_true rfl, Nat.le_of_ble_eq_true rfl⟩) hK hN hP hD hS hA [0, 2, 1] (by decide) rfl (ci := 7) rfl rfl rfl hl.1 rfl (Nat.le_of_ble_eq_true rfl) dX7_sell_97 ⟨Nat.zero_le _, Nat.zero_le _⟩ (fun r_10 H locs h hP hS => ?_)
        refine lv_if_eq (tgt := 116) hx hb dX7_sell_100 (by decide) (fun c_11 => ?_) (fun c_11 => ?_)
        · replace h := h.1 c_11
          refine lv_iconst (v := 0) hx hb dX7_sell_116 (by decide) ?_
          exact ih117 x4 x5 x6 0 0 (0 : Int32) _ _ _ h hP hD hS (lv_sub hl [0, 1, 2, 3, 4, 5, 6] rfl)
        · replace h := h.2 c_11
          refine lv_aload_n hx hb dX7_sell_103 rfl (lv_at hl 0 rfl) ?_
          refine lv_iload_n hx hb dX7_sell_104 rfl (lv_at hl 1 rfl) ?_
          refine gV_i0 (As := [.int p0]) (rest := []) ⟨hx, hb, hml, hown, hts⟩ (c_X7_worth l dC dI cyC cyI cyZ _ a a_text a_read a_hill a_now a_undone a_need a_cameOf a_places a_firstRow a_kept v_size v_at v_begin v_token v_told v_undos v_cames v_each v_trace v_hill p0 h) (cwV 1 hts gX7_sell_X7_worth rfl rfl rfl hdV_X7_worth ⟨Nat.le_of_ble_eq_true rfl, Nat.le_of_ble_eq_true rfl⟩) hK hN hP hD hS hA [0, 1] (by decide) rfl (ci := 7) rfl rfl rfl hl.1 rfl (Nat.le_of_ble_eq_true rfl) dX7_sell_105 ⟨Nat.zero_le _, Nat.zero_le _⟩ (fun r_12 H locs h hP hS => ?_)
          refine lv_iconst (v := 1) hx hb dX7_sell_108 (by decide) ?_
          refine lv_iload hx hb dX7_sell_109 (lv_at hl 7 rfl) ?_
          refine lv_iadd hx hb dX7_sell_111 ?_
          refine lv_imul hx hb dX7_sell_112 ?_
          refine lv_goto (tgt := 117) hx hb dX7_sell_113 (by decide) ?_
          exact ih117 x4 x5 x6 0 0 (r_12 * ((1 : Int32) + x7)) _ _ _ h hP hD hS (lv_sub hl [0, 1, 2, 3, 4, 5, 6] rfl)
      · replace h := h.2 c_9
        refine lv_iload hx hb dX7_sell_64 (lv_at hl 7 rfl) ?_
        refine lv_aload_n hx hb dX7_sell_66 rfl (lv_at hl 0 rfl) ?_
        refine lv_iload hx hb dX7_sell_67 (lv_at hl 8 rfl) ?_
        refine lv_iload hx hb dX7_sell_69 (lv_at hl 6 rfl) ?_
        refine lv_iconst (v := 0) hx hb dX7_sell_71 (by decide) ?_
        refine gV_i0 (As := [.int x8, .int x6, .int (0 : Int32)]) (rest := [.int x7]) ⟨hx, hb, hml, hown, hts⟩ (c_X7_isThen l dC dI cyC cyI cyZ _ a a_text a_read a_hill a_now a_undone a_need a_cameOf a_places a_firstRow a_kept v_size v_at v_begin v_token v_told v_undos v_cames v_each v_trace v_now v_hill x8 x6 (0 : Int32) h) (cwV 3 hts gX7_sell_X7_isThen rfl rfl rfl hdV_X7_isThen ⟨Nat.le_of_ble_eq_true rfl, Nat.le_of_ble_eq_true rfl⟩) hK hN hP hD hS hA [0, 2, 1] (by decide) rfl (ci := 7) rfl rfl rfl hl.1 rfl (Nat.le_of_ble_eq_true rfl) dX7_sell_72 ⟨Nat.zero_le _, Nat.zero_le _⟩ (fun r_13 H locs h hP hS => ?_)
        refine lv_if_eq (tgt := 82) hx hb dX7_sell_75 (by decide) (fun c_14 => ?_) (fun c_14 => ?_)
        · replace h := h.1 c_14
          refine lv_iconst (v := 1) hx hb dX7_sell_82 (by decide) ?_
          refine lv_iadd hx hb dX7_sell_83 ?_
          refine lv_topi (fun x7_15 e_16 => ?_)
          replace h := h x7_15 e_16
          refine lv_istore (lv' := [(7, .int x7_15), (0, .ref a), (1, .int p0), (2, .int p1), (3, .int p2), (4, .int x4), (5, .int x5), (6, .int x6), (8, .int x8)]) hx hb dX7_sell_84 hl (by decide) rfl (fun ls hl => ?_)
          obtain ⟨x8_17, e_18⟩ : ∃ y : Int32, y = (x8 + (1 : Int32)) := ⟨_, rfl⟩
          replace h := h x8_17 e_18
          refine lv_iinc (v := x8_17) (lv' := [(8, .int x8_17), (7, .int x7_15), (0, .ref a), (1, .int p0), (2, .int p1), (3, .int p2), (4, .int x4), (5, .int x5), (6, .int x6)]) hx hb dX7_sell_86 hl (k := 8) rfl (by rw [e_18]; rfl) (by decide) rfl (fun ls hl => ?_)
          refine lv_goto (tgt := 53) hx hb dX7_sell_89 (by decide) ?_
          exact ih53 x4 x5 x6 x7_15 x8_17 0 _ _ _ h hP hD hS (lv_sub hl [2, 3, 4, 5, 6, 7, 8, 1, 0] rfl)
        · replace h := h.2 c_14
          refine lv_iconst (v := 0) hx hb dX7_sell_78 (by decide) ?_
          refine lv_goto (tgt := 83) hx hb dX7_sell_79 (by decide) ?_
          refine lv_iadd hx hb dX7_sell_83 ?_
          refine lv_topi (fun x7_19 e_20 => ?_)
          replace h := h x7_19 e_20
          refine lv_istore (lv' := [(7, .int x7_19), (0, .ref a), (1, .int p0), (2, .int p1), (3, .int p2), (4, .int x4), (5, .int x5), (6, .int x6), (8, .int x8)]) hx hb dX7_sell_84 hl (by decide) rfl (fun ls hl => ?_)
          obtain ⟨x8_21, e_22⟩ : ∃ y : Int32, y = (x8 + (1 : Int32)) := ⟨_, rfl⟩
          replace h := h x8_21 e_22
          refine lv_iinc (v := x8_21) (lv' := [(8, .int x8_21), (7, .int x7_19), (0, .ref a), (1, .int p0), (2, .int p1), (3, .int p2), (4, .int x4), (5, .int x5), (6, .int x6)]) hx hb dX7_sell_86 hl (k := 8) rfl (by rw [e_22]; rfl) (by decide) rfl (fun ls hl => ?_)
          refine lv_goto (tgt := 53) hx hb dX7_sell_89 (by decide) ?_
          exact ih53 x4 x5 x6 x7_19 x8_21 0 _ _ _ h hP hD hS (lv_sub hl [2, 3, 4, 5, 6, 7, 8, 1, 0] rfl)
    · intro x4 x5 x6 x7 x8 k0 H locs ls h hP hD hS hl
      replace h : F_X7_sell_117 v_hill v_now p0 p1 p2 Q (wp_X7_sell v_hill v_now p0 p1 p2 Q n) x4 x5 x6 x7 x8 k0 := h
      unfold F_X7_sell_117 at h
      refine lv_istore (lv' := [(8, .int k0), (0, .ref a), (1, .int p0), (2, .int p1), (3, .int p2), (4, .int x4), (5, .int x5), (6, .int x6)]) hx hb dX7_sell_117 hl (by decide) rfl (fun ls hl => ?_)
      refine lv_iload hx hb dX7_sell_119 (lv_at hl 0 rfl) ?_
      refine lv_iload hx hb dX7_sell_121 (lv_at hl 6 rfl) ?_
      refine lv_icmp_le (tgt := 131) hx hb dX7_sell_123 (by decide) (fun c_23 => ?_) (fun c_23 => ?_)
      · replace h := h.1 c_23
        refine lv_iload hx hb dX7_sell_131 (lv_at hl 5 rfl) ?_
        exact ih133 0 x5 x6 0 k0 x4 _ _ _ h hP hD hS (lv_sub hl [1, 2, 3, 4, 6, 7, 0] rfl)
      · replace h := h.2 c_23
        refine lv_iload hx hb dX7_sell_126 (lv_at hl 7 rfl) ?_
        refine lv_goto (tgt := 133) hx hb dX7_sell_128 (by decide) ?_
        exact ih133 0 x5 x6 0 k0 x6 _ _ _ h hP hD hS (lv_sub hl [1, 2, 3, 4, 6, 7, 0] rfl)
    · intro x4 x5 x6 x7 x8 k0 H locs ls h hP hD hS hl
      replace h : F_X7_sell_133 v_hill v_now p0 p1 p2 Q (wp_X7_sell v_hill v_now p0 p1 p2 Q n) x4 x5 x6 x7 x8 k0 := h
      unfold F_X7_sell_133 at h
      refine lv_istore (lv' := [(4, .int k0), (0, .ref a), (1, .int p0), (2, .int p1), (3, .int p2), (5, .int x5), (6, .int x6), (8, .int x8)]) hx hb dX7_sell_133 hl (by decide) rfl (fun ls hl => ?_)
      refine lv_iload hx hb dX7_sell_135 (lv_at hl 7 rfl) ?_
      refine lv_iload hx hb dX7_sell_137 (lv_at hl 5 rfl) ?_
      refine lv_icmp_le (tgt := 147) hx hb dX7_sell_139 (by decide) (fun c_24 => ?_) (fun c_24 => ?_)
      · replace h := h.1 c_24
        refine lv_iload hx hb dX7_sell_147 (lv_at hl 5 rfl) ?_
        refine lv_istore (lv' := [(5, .int x5), (4, .int k0), (0, .ref a), (1, .int p0), (2, .int p1), (3, .int p2), (6, .int x6), (8, .int x8)]) hx hb dX7_sell_149 hl (by decide) rfl (fun ls hl => ?_)
        obtain ⟨x6_25, e_26⟩ : ∃ y : Int32, y = (x6 + (1 : Int32)) := ⟨_, rfl⟩
        replace h := h x6_25 e_26
        refine lv_iinc (v := x6_25) (lv' := [(6, .int x6_25), (5, .int x5), (4, .int k0), (0, .ref a), (1, .int p0), (2, .int p1), (3, .int p2), (8, .int x8)]) hx hb dX7_sell_151 hl (k := 6) rfl (by rw [e_26]; rfl) (by decide) rfl (fun ls hl => ?_)
        refine lv_goto (tgt := 41) hx hb dX7_sell_154 (by decide) ?_
        exact ih41 k0 x5 x6_25 0 0 0 _ _ _ h hP hD hS (lv_sub hl [3, 4, 5, 6, 2, 1, 0] rfl)
      · replace h := h.2 c_24
        refine lv_iload hx hb dX7_sell_142 (lv_at hl 7 rfl) ?_
        refine lv_goto (tgt := 149) hx hb dX7_sell_144 (by decide) ?_
        refine lv_istore (lv' := [(5, .int x8), (4, .int k0), (0, .ref a), (1, .int p0), (2, .int p1), (3, .int p2), (6, .int x6), (8, .int x8)]) hx hb dX7_sell_149 hl (by decide) rfl (fun ls hl => ?_)
        obtain ⟨x6_27, e_28⟩ : ∃ y : Int32, y = (x6 + (1 : Int32)) := ⟨_, rfl⟩
        replace h := h x6_27 e_28
        refine lv_iinc (v := x6_27) (lv' := [(6, .int x6_27), (5, .int x8), (4, .int k0), (0, .ref a), (1, .int p0), (2, .int p1), (3, .int p2), (8, .int x8)]) hx hb dX7_sell_151 hl (k := 6) rfl (by rw [e_28]; rfl) (by decide) rfl (fun ls hl => ?_)
        refine lv_goto (tgt := 41) hx hb dX7_sell_154 (by decide) ?_
        exact ih41 k0 x8 x6_27 0 0 0 _ _ _ h hP hD hS (lv_sub hl [3, 4, 5, 6, 2, 1, 0] rfl)
set_option maxHeartbeats 4000000 in
set_option maxRecDepth 100000 in
theorem c_X7_sell (l : Launch) (dC : Nat → ClassId) (dI : Nat → Nat → Nat) (cyC cyI cyZ : ClassId) (sz : Nat) (a a_text a_read a_hill a_now a_undone a_need a_cameOf a_places a_firstRow a_kept : Nat) (v_size : Int32) (v_at : Int32) (v_begin : Int32) (v_token : Int32) (v_told : Int32) (v_undos : Int32) (v_cames : Int32) (v_each : Int32) (v_trace : Int64) (v_hill : Nat → Int32) (v_now : Nat → Int32) (p0 : Int32) (p1 : Int32) (p2 : Int32) {Q : Int32 → Prop} (h : q_X7_sell v_hill v_now p0 p1 p2 Q) : Met l yX7_sell wsX7_sell ({ frames := 2, cells := 0, slots := 0, locals := 46 }) (gPc [.ref a, .int p0, .int p1, .int p2] (dC, dI) (gTy cyC cyI cyZ) sz [(a, .inr (7, [.ref a_text, .int v_size, .int v_at, .int v_begin, .int v_token, .int v_told, .ref a_read, .ref a_hill, .ref a_now, .ref a_undone, .int v_undos, .ref a_need, .int v_cames, .ref a_cameOf, .ref a_places, .ref a_firstRow, .int v_each, .long v_trace, .ref a_kept])), (a_hill, .inl (cyI, 46, .inl v_hill)), (a_now, .inl (cyI, 15, .inl v_now))]) (gQi0 Q (dC, dI) (va_A [(a, .inr (7, [.ref a_text, .int v_size, .int v_at, .int v_begin, .int v_token, .int v_told, .ref a_read, .ref a_hill, .ref a_now, .ref a_undone, .int v_undos, .ref a_need, .int v_cames, .ref a_cameOf, .ref a_places, .ref a_firstRow, .int v_each, .long v_trace, .ref a_kept])), (a_hill, .inl (cyI, 46, .inl v_hill)), (a_now, .inl (cyI, 15, .inl v_now))] sz) [(a, .inr (7, [.ref a_text, .int v_size, .int v_at, .int v_begin, .int v_token, .int v_told, .ref a_read, .ref a_hill, .ref a_now, .ref a_undone, .int v_undos, .ref a_need, .int v_cames, .ref a_cameOf, .ref a_places, .ref a_firstRow, .int v_each, .long v_trace, .ref a_kept])), (a_hill, .inl (cyI, 46, .inl v_hill)), (a_now, .inl (cyI, 15, .inl v_now))]) 0 0 (va_A [(a, .inr (7, [.ref a_text, .int v_size, .int v_at, .int v_begin, .int v_token, .int v_told, .ref a_read, .ref a_hill, .ref a_now, .ref a_undone, .int v_undos, .ref a_need, .int v_cames, .ref a_cameOf, .ref a_places, .ref a_firstRow, .int v_each, .long v_trace, .ref a_kept])), (a_hill, .inl (cyI, 46, .inl v_hill)), (a_now, .inl (cyI, 15, .inl v_now))] sz) := by
  refine gMet (cc := cX7_sell) (maxL := 9) (ret := (some .int)) (own := RX7) (fun A => gQi0 Q (dC, dI) A [(a, .inr (7, [.ref a_text, .int v_size, .int v_at, .int v_begin, .int v_token, .int v_told, .ref a_read, .ref a_hill, .ref a_now, .ref a_undone, .int v_undos, .ref a_need, .int v_cames, .ref a_cameOf, .ref a_places, .ref a_firstRow, .int v_each, .long v_trace, .ref a_kept])), (a_hill, .inl (cyI, 46, .inl v_hill)), (a_now, .inl (cyI, 15, .inl v_now))]) (by decide) rfl rfl (Nat.le_of_ble_eq_true rfl) ?_
  intro p e s m below meth c A ls C0 _ hK hN hP hD hA hl
  obtain ⟨hx, hb, hr, hml, hown, hts, hlocks⟩ := id C0
  have f16 := hts (.fieldLink RX7 16 "LastOchreModel" "hill" "[I") (by decide +kernel)
  have hS : va_S A s.heap s.heap [] := va_S.rf
  replace hl : lv_has ls 9 [(0, .ref a), (1, .int p0), (2, .int p1), (3, .int p2)] := hl
  unfold q_X7_sell at h
  obtain ⟨n, h⟩ := h
  obtain ⟨ih41, ih53, ih117, ih133⟩ := w_X7_sell (l := l) (e := e) (below := below) dC dI cyC cyI cyZ a a_text a_read a_hill a_now a_undone a_need a_cameOf a_places a_firstRow a_kept v_size v_at v_begin v_token v_told v_undos v_cames v_each v_trace v_hill v_now p0 p1 p2 Q C0 hK hN hA n
  unfold F_X7_sell_e at h
  refine lv_aload_n hx hb dX7_sell_0 rfl (lv_at hl 0 rfl) ?_
  refine lv_iload_n hx hb dX7_sell_1 rfl (lv_at hl 1 rfl) ?_
  refine gV_i0 (As := [.int p0]) (rest := []) ⟨hx, hb, hml, hown, hts⟩ (c_X7_isThing l dC dI cyC cyI cyZ _ a a_text a_read a_hill a_now a_undone a_need a_cameOf a_places a_firstRow a_kept v_size v_at v_begin v_token v_told v_undos v_cames v_each v_trace v_hill p0 h) (cwV 1 hts gX7_sell_X7_isThing rfl rfl rfl hdV_X7_isThing ⟨Nat.le_of_ble_eq_true rfl, Nat.le_of_ble_eq_true rfl⟩) hK hN hP hD hS hA [0, 1] (by decide) rfl (ci := 7) rfl rfl rfl hl.1 rfl (Nat.le_of_ble_eq_true rfl) dX7_sell_2 ⟨Nat.zero_le _, Nat.zero_le _⟩ (fun r_1 H locs h hP hS => ?_)
  refine lv_if_eq (tgt := 30) hx hb dX7_sell_5 (by decide) (fun c_2 => ?_) (fun c_2 => ?_)
  · replace h := h.1 c_2
    refine lv_iconst (v := -1) hx hb dX7_sell_30 (by decide) ?_
    exact gri0 hx hb hr hlocks h hP hD hS dX7_sell_31
  · replace h := h.2 c_2
    refine lv_iload_n hx hb dX7_sell_8 rfl (lv_at hl 2 rfl) ?_
    refine lv_i2l hx hb dX7_sell_9 rfl ?_
    refine lv_lconst (v := 0) hx hb dX7_sell_10 (by decide) ?_
    refine lv_ldc2 (v := 60) hx hb hown (hts (.constantLong RX7 184 (60)) (by decide +kernel)) dX7_sell_11 ?_
    refine gS_i0 (As := [.long ((p1).toInt64), .long (0 : Int64), .long (60 : Int64)]) (rest := []) ⟨hx, hb, hml, hown, hts⟩ (c_X7_in l dC dI cyC cyI cyZ _ ((p1).toInt64) (0 : Int64) (60 : Int64) h) (va_cwS 3 hts gX7_sell_X7_in rfl rfl rfl hdS_X7_in ⟨Nat.le_of_ble_eq_true rfl, Nat.le_of_ble_eq_true rfl⟩) hK hN hP hD hS hA [] (by decide) rfl rfl hl.1 rfl (Nat.le_of_ble_eq_true rfl) dX7_sell_14 ⟨Nat.zero_le _, Nat.zero_le _⟩ (fun r_3 H locs h hP hS => ?_)
    refine lv_if_eq (tgt := 30) hx hb dX7_sell_17 (by decide) (fun c_4 => ?_) (fun c_4 => ?_)
    · replace h := h.1 c_4
      refine lv_iconst (v := -1) hx hb dX7_sell_30 (by decide) ?_
      exact gri0 hx hb hr hlocks h hP hD hS dX7_sell_31
    · replace h := h.2 c_4
      refine lv_iload_n hx hb dX7_sell_20 rfl (lv_at hl 3 rfl) ?_
      refine lv_i2l hx hb dX7_sell_21 rfl ?_
      refine lv_lconst (v := 0) hx hb dX7_sell_22 (by decide) ?_
      refine lv_lconst (v := 1) hx hb dX7_sell_23 (by decide) ?_
      refine gS_i0 (As := [.long ((p2).toInt64), .long (0 : Int64), .long (1 : Int64)]) (rest := []) ⟨hx, hb, hml, hown, hts⟩ (c_X7_in l dC dI cyC cyI cyZ _ ((p2).toInt64) (0 : Int64) (1 : Int64) h) (va_cwS 3 hts gX7_sell_X7_in rfl rfl rfl hdS_X7_in ⟨Nat.le_of_ble_eq_true rfl, Nat.le_of_ble_eq_true rfl⟩) hK hN hP hD hS hA [] (by decide) rfl rfl hl.1 rfl (Nat.le_of_ble_eq_true rfl) dX7_sell_24 ⟨Nat.zero_le _, Nat.zero_le _⟩ (fun r_5 H locs h hP hS => ?_)
      refine lv_if_ne (tgt := 32) hx hb dX7_sell_27 (by decide) (fun c_6 => ?_) (fun c_6 => ?_)
      · replace h := h.1 c_6
        refine lv_iconst (v := 0) hx hb dX7_sell_32 (by decide) ?_
        refine lv_istore (lv' := [(4, .int (0 : Int32)), (0, .ref a), (1, .int p0), (2, .int p1), (3, .int p2)]) hx hb dX7_sell_33 hl (by decide) rfl (fun ls hl => ?_)
        refine lv_iconst (v := -1) hx hb dX7_sell_35 (by decide) ?_
        refine lv_istore (lv' := [(5, .int (-1 : Int32)), (4, .int (0 : Int32)), (0, .ref a), (1, .int p0), (2, .int p1), (3, .int p2)]) hx hb dX7_sell_36 hl (by decide) rfl (fun ls hl => ?_)
        refine lv_iconst (v := 0) hx hb dX7_sell_38 (by decide) ?_
        refine lv_istore (lv' := [(6, .int (0 : Int32)), (5, .int (-1 : Int32)), (4, .int (0 : Int32)), (0, .ref a), (1, .int p0), (2, .int p1), (3, .int p2)]) hx hb dX7_sell_39 hl (by decide) rfl (fun ls hl => ?_)
        exact ih41 (0 : Int32) (-1 : Int32) (0 : Int32) 0 0 0 _ _ _ h hP hD hS (lv_sub hl [3, 4, 5, 6, 2, 1, 0] rfl)
      · replace h := h.2 c_6
        refine lv_iconst (v := -1) hx hb dX7_sell_30 (by decide) ?_
        exact gri0 hx hb hr hlocks h hP hD hS dX7_sell_31

def F_X7_spareOf_e (v_now : Nat → Int32) (v_hill : Nat → Int32) (p0 : Int32) (Q : Int32 → Prop) (rec : Nat → Int32 → Prop)  : Prop :=
  rec 2 (0 : Int32)
def F_X7_spareOf_2 (v_now : Nat → Int32) (v_hill : Nat → Int32) (p0 : Int32) (Q : Int32 → Prop) (rec : Nat → Int32 → Prop) (x2 : Int32) : Prop :=
  q_X7_yellow v_now p0 (fun (r_1 : Int32) => q_X7_white v_now p0 (fun (r_2 : Int32) => q_X7_isCalled v_hill ((r_1 - x2) - (1 : Int32)) r_2 (fun (r_3 : Int32) => (r_3 = 0 → (q_X7_isThen v_now v_hill p0 (0 : Int32) (0 : Int32) (fun (r_5 : Int32) => (r_5 = 0 → (Q (0 : Int32))) ∧ (¬ r_5 = 0 → (Q x2))))) ∧ (¬ r_3 = 0 → (∀ x2_7 : Int32, x2_7 = (x2 + (1 : Int32)) → (rec 2 x2_7))))))
def wp_X7_spareOf (v_now : Nat → Int32) (v_hill : Nat → Int32) (p0 : Int32) (Q : Int32 → Prop) : Nat → Nat → Int32 → Prop
  | 0 => fun _ _ => False
  | n + 1 => fun t x2 => if t = 2 then F_X7_spareOf_2 v_now v_hill p0 Q (wp_X7_spareOf v_now v_hill p0 Q n) x2 else False
def q_X7_spareOf (v_now : Nat → Int32) (v_hill : Nat → Int32) (p0 : Int32) (Q : Int32 → Prop) : Prop := ∃ n, F_X7_spareOf_e v_now v_hill p0 Q (wp_X7_spareOf v_now v_hill p0 Q n) 
theorem hdV_X7_spareOf : yX7_spareOf.cls = RX7 ∧ yX7_spareOf.cls ≠ "java/lang/invoke/MethodHandle" ∧ yX7_spareOf.cls ≠ "java/lang/invoke/VarHandle" ∧ (parseMethodDescriptor yX7_spareOf.desc).map (fun d => d.parameters.length) = some 1 := by decide +kernel
set_option maxHeartbeats 4000000 in
set_option maxRecDepth 100000 in
theorem w_X7_spareOf {p : Program} {l : Launch} {e : Env} {s : State} {m : MethodId} {args : Array Value} {below : List Frame} {meth : Method} {c : Code} {A : Nat → Prop} (dC : Nat → ClassId) (dI : Nat → Nat → Nat) (cyC cyI cyZ : ClassId) (a a_text a_read a_hill a_now a_undone a_need a_cameOf a_places a_firstRow a_kept : Nat) (v_size : Int32) (v_at : Int32) (v_begin : Int32) (v_token : Int32) (v_told : Int32) (v_undos : Int32) (v_cames : Int32) (v_each : Int32) (v_trace : Int64) (v_now : Nat → Int32) (v_hill : Nat → Int32) (p0 : Int32) (Q : Int32 → Prop) (C0 : gAt cX7_spareOf (some .int) 3 RX7 wsX7_spareOf p s m meth c args) (hK : va_K (dC, dI) vwCl (gTy cyC cyI cyZ) s) (hN : nU s) (hA : ∀ q, s.heap.size ≤ q → A q) : ∀ n : Nat, (∀ (x2 : Int32) (H : Heap) (locs : List Loc) (ls : Array Slot), wp_X7_spareOf v_now v_hill p0 Q n 2 x2 → va_P (dC, dI) vwCl [(a, .inr (7, [.ref a_text, .int v_size, .int v_at, .int v_begin, .int v_token, .int v_told, .ref a_read, .ref a_hill, .ref a_now, .ref a_undone, .int v_undos, .ref a_need, .int v_cames, .ref a_cameOf, .ref a_places, .ref a_firstRow, .int v_each, .long v_trace, .ref a_kept])), (a_now, .inl (cyI, 15, .inl v_now)), (a_hill, .inl (cyI, 46, .inl v_hill))] H → va_D A [(a, .inr (7, [.ref a_text, .int v_size, .int v_at, .int v_begin, .int v_token, .int v_told, .ref a_read, .ref a_hill, .ref a_now, .ref a_undone, .int v_undos, .ref a_need, .int v_cames, .ref a_cameOf, .ref a_places, .ref a_firstRow, .int v_each, .long v_trace, .ref a_kept])), (a_now, .inl (cyI, 15, .inl v_now)), (a_hill, .inl (cyI, 46, .inl v_hill))] → va_S A s.heap H locs → lv_has ls 3 [(0, .ref a), (1, .int p0), (2, .int x2)] → W p l e { frames := 2, cells := 0, slots := 0, locals := 46 } s m args below meth c H locs 0 0 (MQ below (gQi0 Q (dC, dI) A [(a, .inr (7, [.ref a_text, .int v_size, .int v_at, .int v_begin, .int v_token, .int v_told, .ref a_read, .ref a_hill, .ref a_now, .ref a_undone, .int v_undos, .ref a_need, .int v_cames, .ref a_cameOf, .ref a_places, .ref a_firstRow, .int v_each, .long v_trace, .ref a_kept])), (a_now, .inl (cyI, 15, .inl v_now)), (a_hill, .inl (cyI, 46, .inl v_hill))]) args s 0 0 A) (F0 m 2 ls [])) := by
  obtain ⟨hx, hb, hr, hml, hown, hts, hlocks⟩ := id C0
  intro n
  induction n with
  | zero => exact fun _ _ _ _ h => absurd h id
  | succ n ih =>
    have ih2 := ih
    · intro x2 H locs ls h hP hD hS hl
      replace h : F_X7_spareOf_2 v_now v_hill p0 Q (wp_X7_spareOf v_now v_hill p0 Q n) x2 := h
      unfold F_X7_spareOf_2 at h
      refine lv_aload_n hx hb dX7_spareOf_2 rfl (lv_at hl 0 rfl) ?_
      refine lv_aload_n hx hb dX7_spareOf_3 rfl (lv_at hl 0 rfl) ?_
      refine lv_iload_n hx hb dX7_spareOf_4 rfl (lv_at hl 1 rfl) ?_
      refine gV_i0 (As := [.int p0]) (rest := [.ref a]) ⟨hx, hb, hml, hown, hts⟩ (c_X7_yellow l dC dI cyC cyI cyZ _ a a_text a_read a_hill a_now a_undone a_need a_cameOf a_places a_firstRow a_kept v_size v_at v_begin v_token v_told v_undos v_cames v_each v_trace v_now p0 h) (cwV 1 hts gX7_spareOf_X7_yellow rfl rfl rfl hdV_X7_yellow ⟨Nat.le_of_ble_eq_true rfl, Nat.le_of_ble_eq_true rfl⟩) hK hN hP hD hS hA [0, 1] (by decide) rfl (ci := 7) rfl rfl rfl hl.1 rfl (Nat.le_of_ble_eq_true rfl) dX7_spareOf_5 ⟨Nat.zero_le _, Nat.zero_le _⟩ (fun r_1 H locs h hP hS => ?_)
      refine lv_iload_n hx hb dX7_spareOf_8 rfl (lv_at hl 2 rfl) ?_
      refine lv_isub hx hb dX7_spareOf_9 ?_
      refine lv_iconst (v := 1) hx hb dX7_spareOf_10 (by decide) ?_
      refine lv_isub hx hb dX7_spareOf_11 ?_
      refine lv_aload_n hx hb dX7_spareOf_12 rfl (lv_at hl 0 rfl) ?_
      refine lv_iload_n hx hb dX7_spareOf_13 rfl (lv_at hl 1 rfl) ?_
      refine gV_i0 (As := [.int p0]) (rest := [.int ((r_1 - x2) - (1 : Int32)), .ref a]) ⟨hx, hb, hml, hown, hts⟩ (c_X7_white l dC dI cyC cyI cyZ _ a a_text a_read a_hill a_now a_undone a_need a_cameOf a_places a_firstRow a_kept v_size v_at v_begin v_token v_told v_undos v_cames v_each v_trace v_now p0 h) (cwV 1 hts gX7_spareOf_X7_white rfl rfl rfl hdV_X7_white ⟨Nat.le_of_ble_eq_true rfl, Nat.le_of_ble_eq_true rfl⟩) hK hN hP hD hS hA [0, 1] (by decide) rfl (ci := 7) rfl rfl rfl hl.1 rfl (Nat.le_of_ble_eq_true rfl) dX7_spareOf_14 ⟨Nat.zero_le _, Nat.zero_le _⟩ (fun r_2 H locs h hP hS => ?_)
      refine gV_i0 (As := [.int ((r_1 - x2) - (1 : Int32)), .int r_2]) (rest := []) ⟨hx, hb, hml, hown, hts⟩ (c_X7_isCalled l dC dI cyC cyI cyZ _ a a_text a_read a_hill a_now a_undone a_need a_cameOf a_places a_firstRow a_kept v_size v_at v_begin v_token v_told v_undos v_cames v_each v_trace v_hill ((r_1 - x2) - (1 : Int32)) r_2 h) (cwV 2 hts gX7_spareOf_X7_isCalled rfl rfl rfl hdV_X7_isCalled ⟨Nat.le_of_ble_eq_true rfl, Nat.le_of_ble_eq_true rfl⟩) hK hN hP hD hS hA [0, 2] (by decide) rfl (ci := 7) rfl rfl rfl hl.1 rfl (Nat.le_of_ble_eq_true rfl) dX7_spareOf_17 ⟨Nat.zero_le _, Nat.zero_le _⟩ (fun r_3 H locs h hP hS => ?_)
      refine lv_if_eq (tgt := 29) hx hb dX7_spareOf_20 (by decide) (fun c_4 => ?_) (fun c_4 => ?_)
      · replace h := h.1 c_4
        refine lv_aload_n hx hb dX7_spareOf_29 rfl (lv_at hl 0 rfl) ?_
        refine lv_iload_n hx hb dX7_spareOf_30 rfl (lv_at hl 1 rfl) ?_
        refine lv_iconst (v := 0) hx hb dX7_spareOf_31 (by decide) ?_
        refine lv_iconst (v := 0) hx hb dX7_spareOf_32 (by decide) ?_
        refine gV_i0 (As := [.int p0, .int (0 : Int32), .int (0 : Int32)]) (rest := []) ⟨hx, hb, hml, hown, hts⟩ (c_X7_isThen l dC dI cyC cyI cyZ _ a a_text a_read a_hill a_now a_undone a_need a_cameOf a_places a_firstRow a_kept v_size v_at v_begin v_token v_told v_undos v_cames v_each v_trace v_now v_hill p0 (0 : Int32) (0 : Int32) h) (cwV 3 hts gX7_spareOf_X7_isThen rfl rfl rfl hdV_X7_isThen ⟨Nat.le_of_ble_eq_true rfl, Nat.le_of_ble_eq_true rfl⟩) hK hN hP hD hS hA [0, 1, 2] (by decide) rfl (ci := 7) rfl rfl rfl hl.1 rfl (Nat.le_of_ble_eq_true rfl) dX7_spareOf_33 ⟨Nat.zero_le _, Nat.zero_le _⟩ (fun r_5 H locs h hP hS => ?_)
        refine lv_if_eq (tgt := 43) hx hb dX7_spareOf_36 (by decide) (fun c_6 => ?_) (fun c_6 => ?_)
        · replace h := h.1 c_6
          refine lv_iconst (v := 0) hx hb dX7_spareOf_43 (by decide) ?_
          exact gri0 hx hb hr hlocks h hP hD hS dX7_spareOf_44
        · replace h := h.2 c_6
          refine lv_iload_n hx hb dX7_spareOf_39 rfl (lv_at hl 2 rfl) ?_
          refine lv_goto (tgt := 44) hx hb dX7_spareOf_40 (by decide) ?_
          exact gri0 hx hb hr hlocks h hP hD hS dX7_spareOf_44
      · replace h := h.2 c_4
        obtain ⟨x2_7, e_8⟩ : ∃ y : Int32, y = (x2 + (1 : Int32)) := ⟨_, rfl⟩
        replace h := h x2_7 e_8
        refine lv_iinc (v := x2_7) (lv' := [(2, .int x2_7), (0, .ref a), (1, .int p0)]) hx hb dX7_spareOf_23 hl (k := 2) rfl (by rw [e_8]; rfl) (by decide) rfl (fun ls hl => ?_)
        refine lv_goto (tgt := 2) hx hb dX7_spareOf_26 (by decide) ?_
        exact ih2 x2_7 _ _ _ h hP hD hS (lv_sub hl [1, 2, 0] rfl)
set_option maxHeartbeats 4000000 in
set_option maxRecDepth 100000 in
theorem c_X7_spareOf (l : Launch) (dC : Nat → ClassId) (dI : Nat → Nat → Nat) (cyC cyI cyZ : ClassId) (sz : Nat) (a a_text a_read a_hill a_now a_undone a_need a_cameOf a_places a_firstRow a_kept : Nat) (v_size : Int32) (v_at : Int32) (v_begin : Int32) (v_token : Int32) (v_told : Int32) (v_undos : Int32) (v_cames : Int32) (v_each : Int32) (v_trace : Int64) (v_now : Nat → Int32) (v_hill : Nat → Int32) (p0 : Int32) {Q : Int32 → Prop} (h : q_X7_spareOf v_now v_hill p0 Q) : Met l yX7_spareOf wsX7_spareOf ({ frames := 2, cells := 0, slots := 0, locals := 46 }) (gPc [.ref a, .int p0] (dC, dI) (gTy cyC cyI cyZ) sz [(a, .inr (7, [.ref a_text, .int v_size, .int v_at, .int v_begin, .int v_token, .int v_told, .ref a_read, .ref a_hill, .ref a_now, .ref a_undone, .int v_undos, .ref a_need, .int v_cames, .ref a_cameOf, .ref a_places, .ref a_firstRow, .int v_each, .long v_trace, .ref a_kept])), (a_now, .inl (cyI, 15, .inl v_now)), (a_hill, .inl (cyI, 46, .inl v_hill))]) (gQi0 Q (dC, dI) (va_A [(a, .inr (7, [.ref a_text, .int v_size, .int v_at, .int v_begin, .int v_token, .int v_told, .ref a_read, .ref a_hill, .ref a_now, .ref a_undone, .int v_undos, .ref a_need, .int v_cames, .ref a_cameOf, .ref a_places, .ref a_firstRow, .int v_each, .long v_trace, .ref a_kept])), (a_now, .inl (cyI, 15, .inl v_now)), (a_hill, .inl (cyI, 46, .inl v_hill))] sz) [(a, .inr (7, [.ref a_text, .int v_size, .int v_at, .int v_begin, .int v_token, .int v_told, .ref a_read, .ref a_hill, .ref a_now, .ref a_undone, .int v_undos, .ref a_need, .int v_cames, .ref a_cameOf, .ref a_places, .ref a_firstRow, .int v_each, .long v_trace, .ref a_kept])), (a_now, .inl (cyI, 15, .inl v_now)), (a_hill, .inl (cyI, 46, .inl v_hill))]) 0 0 (va_A [(a, .inr (7, [.ref a_text, .int v_size, .int v_at, .int v_begin, .int v_token, .int v_told, .ref a_read, .ref a_hill, .ref a_now, .ref a_undone, .int v_undos, .ref a_need, .int v_cames, .ref a_cameOf, .ref a_places, .ref a_firstRow, .int v_each, .long v_trace, .ref a_kept])), (a_now, .inl (cyI, 15, .inl v_now)), (a_hill, .inl (cyI, 46, .inl v_hill))] sz) := by
  refine gMet (cc := cX7_spareOf) (maxL := 3) (ret := (some .int)) (own := RX7) (fun A => gQi0 Q (dC, dI) A [(a, .inr (7, [.ref a_text, .int v_size, .int v_at, .int v_begin, .int v_token, .int v_told, .ref a_read, .ref a_hill, .ref a_now, .ref a_undone, .int v_undos, .ref a_need, .int v_cames, .ref a_cameOf, .ref a_places, .ref a_firstRow, .int v_each, .long v_trace, .ref a_kept])), (a_now, .inl (cyI, 15, .inl v_now)), (a_hill, .inl (cyI, 46, .inl v_hill))]) (by decide) rfl rfl (Nat.le_of_ble_eq_true rfl) ?_
  intro p e s m below meth c A ls C0 _ hK hN hP hD hA hl
  obtain ⟨hx, hb, hr, hml, hown, hts, hlocks⟩ := id C0
  have hS : va_S A s.heap s.heap [] := va_S.rf
  replace hl : lv_has ls 3 [(0, .ref a), (1, .int p0)] := hl
  unfold q_X7_spareOf at h
  obtain ⟨n, h⟩ := h
  have ih2 := w_X7_spareOf (l := l) (e := e) (below := below) dC dI cyC cyI cyZ a a_text a_read a_hill a_now a_undone a_need a_cameOf a_places a_firstRow a_kept v_size v_at v_begin v_token v_told v_undos v_cames v_each v_trace v_now v_hill p0 Q C0 hK hN hA n
  unfold F_X7_spareOf_e at h
  refine lv_iconst (v := 0) hx hb dX7_spareOf_0 (by decide) ?_
  refine lv_istore_n (lv' := [(2, .int (0 : Int32)), (0, .ref a), (1, .int p0)]) hx hb dX7_spareOf_1 rfl hl (by decide) rfl (fun ls hl => ?_)
  exact ih2 (0 : Int32) _ _ _ h hP hD hS (lv_sub hl [1, 2, 0] rfl)

def F_X7_spare_e (v_hill : Nat → Int32) (v_now : Nat → Int32) (p0 : Int32) (Q : Int32 → Prop)  : Prop :=
  q_X7_isThing v_hill p0 (fun (r_1 : Int32) => (r_1 = 0 → (Q (-1 : Int32))) ∧ (¬ r_1 = 0 → (q_X7_spareOf v_now v_hill p0 (fun (r_3 : Int32) => Q r_3))))
def q_X7_spare (v_hill : Nat → Int32) (v_now : Nat → Int32) (p0 : Int32) (Q : Int32 → Prop) : Prop := F_X7_spare_e v_hill v_now p0 Q 
theorem hdV_X7_spare : yX7_spare.cls = RX7 ∧ yX7_spare.cls ≠ "java/lang/invoke/MethodHandle" ∧ yX7_spare.cls ≠ "java/lang/invoke/VarHandle" ∧ (parseMethodDescriptor yX7_spare.desc).map (fun d => d.parameters.length) = some 1 := by decide +kernel
set_option maxHeartbeats 4000000 in
set_option maxRecDepth 100000 in
theorem c_X7_spare (l : Launch) (dC : Nat → ClassId) (dI : Nat → Nat → Nat) (cyC cyI cyZ : ClassId) (sz : Nat) (a a_text a_read a_hill a_now a_undone a_need a_cameOf a_places a_firstRow a_kept : Nat) (v_size : Int32) (v_at : Int32) (v_begin : Int32) (v_token : Int32) (v_told : Int32) (v_undos : Int32) (v_cames : Int32) (v_each : Int32) (v_trace : Int64) (v_hill : Nat → Int32) (v_now : Nat → Int32) (p0 : Int32) {Q : Int32 → Prop} (h : q_X7_spare v_hill v_now p0 Q) : Met l yX7_spare wsX7_spare ({ frames := 3, cells := 0, slots := 0, locals := 68 }) (gPc [.ref a, .int p0] (dC, dI) (gTy cyC cyI cyZ) sz [(a, .inr (7, [.ref a_text, .int v_size, .int v_at, .int v_begin, .int v_token, .int v_told, .ref a_read, .ref a_hill, .ref a_now, .ref a_undone, .int v_undos, .ref a_need, .int v_cames, .ref a_cameOf, .ref a_places, .ref a_firstRow, .int v_each, .long v_trace, .ref a_kept])), (a_hill, .inl (cyI, 46, .inl v_hill)), (a_now, .inl (cyI, 15, .inl v_now))]) (gQi0 Q (dC, dI) (va_A [(a, .inr (7, [.ref a_text, .int v_size, .int v_at, .int v_begin, .int v_token, .int v_told, .ref a_read, .ref a_hill, .ref a_now, .ref a_undone, .int v_undos, .ref a_need, .int v_cames, .ref a_cameOf, .ref a_places, .ref a_firstRow, .int v_each, .long v_trace, .ref a_kept])), (a_hill, .inl (cyI, 46, .inl v_hill)), (a_now, .inl (cyI, 15, .inl v_now))] sz) [(a, .inr (7, [.ref a_text, .int v_size, .int v_at, .int v_begin, .int v_token, .int v_told, .ref a_read, .ref a_hill, .ref a_now, .ref a_undone, .int v_undos, .ref a_need, .int v_cames, .ref a_cameOf, .ref a_places, .ref a_firstRow, .int v_each, .long v_trace, .ref a_kept])), (a_hill, .inl (cyI, 46, .inl v_hill)), (a_now, .inl (cyI, 15, .inl v_now))]) 0 0 (va_A [(a, .inr (7, [.ref a_text, .int v_size, .int v_at, .int v_begin, .int v_token, .int v_told, .ref a_read, .ref a_hill, .ref a_now, .ref a_undone, .int v_undos, .ref a_need, .int v_cames, .ref a_cameOf, .ref a_places, .ref a_firstRow, .int v_each, .long v_trace, .ref a_kept])), (a_hill, .inl (cyI, 46, .inl v_hill)), (a_now, .inl (cyI, 15, .inl v_now))] sz) := by
  refine gMet (cc := cX7_spare) (maxL := 2) (ret := (some .int)) (own := RX7) (fun A => gQi0 Q (dC, dI) A [(a, .inr (7, [.ref a_text, .int v_size, .int v_at, .int v_begin, .int v_token, .int v_told, .ref a_read, .ref a_hill, .ref a_now, .ref a_undone, .int v_undos, .ref a_need, .int v_cames, .ref a_cameOf, .ref a_places, .ref a_firstRow, .int v_each, .long v_trace, .ref a_kept])), (a_hill, .inl (cyI, 46, .inl v_hill)), (a_now, .inl (cyI, 15, .inl v_now))]) (by decide) rfl rfl (Nat.le_of_ble_eq_true rfl) ?_
  intro p e s m below meth c A ls C0 _ hK hN hP hD hA hl
  obtain ⟨hx, hb, hr, hml, hown, hts, hlocks⟩ := id C0
  have hS : va_S A s.heap s.heap [] := va_S.rf
  replace hl : lv_has ls 2 [(0, .ref a), (1, .int p0)] := hl
  unfold q_X7_spare at h
  unfold F_X7_spare_e at h
  refine lv_aload_n hx hb dX7_spare_0 rfl (lv_at hl 0 rfl) ?_
  refine lv_iload_n hx hb dX7_spare_1 rfl (lv_at hl 1 rfl) ?_
  refine gV_i0 (As := [.int p0]) (rest := []) ⟨hx, hb, hml, hown, hts⟩ (c_X7_isThing l dC dI cyC cyI cyZ _ a a_text a_read a_hill a_now a_undone a_need a_cameOf a_places a_firstRow a_kept v_size v_at v_begin v_token v_told v_undos v_cames v_each v_trace v_hill p0 h) (cwV 1 hts gX7_spare_X7_isThing rfl rfl rfl hdV_X7_isThing ⟨Nat.le_of_ble_eq_true rfl, Nat.le_of_ble_eq_true rfl⟩) hK hN hP hD hS hA [0, 1] (by decide) rfl (ci := 7) rfl rfl rfl hl.1 rfl (Nat.le_of_ble_eq_true rfl) dX7_spare_2 ⟨Nat.zero_le _, Nat.zero_le _⟩ (fun r_1 H locs h hP hS => ?_)
  refine lv_if_eq (tgt := 16) hx hb dX7_spare_5 (by decide) (fun c_2 => ?_) (fun c_2 => ?_)
  · replace h := h.1 c_2
    refine lv_iconst (v := -1) hx hb dX7_spare_16 (by decide) ?_
    exact gri0 hx hb hr hlocks h hP hD hS dX7_spare_17
  · replace h := h.2 c_2
    refine lv_aload_n hx hb dX7_spare_8 rfl (lv_at hl 0 rfl) ?_
    refine lv_iload_n hx hb dX7_spare_9 rfl (lv_at hl 1 rfl) ?_
    refine gV_i0 (As := [.int p0]) (rest := []) ⟨hx, hb, hml, hown, hts⟩ (c_X7_spareOf l dC dI cyC cyI cyZ _ a a_text a_read a_hill a_now a_undone a_need a_cameOf a_places a_firstRow a_kept v_size v_at v_begin v_token v_told v_undos v_cames v_each v_trace v_now v_hill p0 h) (cwV 1 hts gX7_spare_X7_spareOf rfl rfl rfl hdV_X7_spareOf ⟨Nat.le_of_ble_eq_true rfl, Nat.le_of_ble_eq_true rfl⟩) hK hN hP hD hS hA [0, 2, 1] (by decide) rfl (ci := 7) rfl rfl rfl hl.1 rfl (Nat.le_of_ble_eq_true rfl) dX7_spare_10 ⟨Nat.zero_le _, Nat.zero_le _⟩ (fun r_3 H locs h hP hS => ?_)
    refine lv_goto (tgt := 17) hx hb dX7_spare_13 (by decide) ?_
    exact gri0 hx hb hr hlocks h hP hD hS dX7_spare_17

def F_X7_rich_e (v_hill : Nat → Int32) (v_now : Nat → Int32) (Q : Int32 → Prop) (rec : Nat → Int32 → Int32 → Prop)  : Prop :=
  rec 5 (-9 : Int32) (0 : Int32)
def F_X7_rich_5 (v_hill : Nat → Int32) (v_now : Nat → Int32) (Q : Int32 → Prop) (rec : Nat → Int32 → Int32 → Prop) (x1 : Int32) (x2 : Int32) : Prop :=
  ((v_hill ((2 : Int32)).toNatClampNeg) ≤ x2 → (Q x1)) ∧ (¬ (v_hill ((2 : Int32)).toNatClampNeg) ≤ x2 → (q_X7_spareOf v_now v_hill x2 (fun (r_2 : Int32) => (r_2 ≤ 0 → (∀ x2_4 : Int32, x2_4 = (x2 + (1 : Int32)) → (rec 5 x1 x2_4))) ∧ (¬ r_2 ≤ 0 → ((x1 = (-9 : Int32) → (∀ x2_7 : Int32, x2_7 = (x2 + (1 : Int32)) → (rec 5 x2 x2_7))) ∧ (¬ x1 = (-9 : Int32) → (q_X7_spareOf v_now v_hill x1 (fun (r_9 : Int32) => (r_2 ≤ r_9 → (∀ x2_11 : Int32, x2_11 = (x2 + (1 : Int32)) → (rec 5 x1 x2_11))) ∧ (¬ r_2 ≤ r_9 → (∀ x2_13 : Int32, x2_13 = (x2 + (1 : Int32)) → (rec 5 x2 x2_13)))))))))))
def wp_X7_rich (v_hill : Nat → Int32) (v_now : Nat → Int32) (Q : Int32 → Prop) : Nat → Nat → Int32 → Int32 → Prop
  | 0 => fun _ _ _ => False
  | n + 1 => fun t x1 x2 => if t = 5 then F_X7_rich_5 v_hill v_now Q (wp_X7_rich v_hill v_now Q n) x1 x2 else False
def q_X7_rich (v_hill : Nat → Int32) (v_now : Nat → Int32) (Q : Int32 → Prop) : Prop := ∃ n, F_X7_rich_e v_hill v_now Q (wp_X7_rich v_hill v_now Q n) 
theorem iwX7_rich_X7 : ∀ w ∈ wsX70, w ∈ wsX7_rich := by decide +kernel
theorem hdV_X7_rich : yX7_rich.cls = RX7 ∧ yX7_rich.cls ≠ "java/lang/invoke/MethodHandle" ∧ yX7_rich.cls ≠ "java/lang/invoke/VarHandle" ∧ (parseMethodDescriptor yX7_rich.desc).map (fun d => d.parameters.length) = some 0 := by decide +kernel
set_option maxHeartbeats 4000000 in
set_option maxRecDepth 100000 in
theorem w_X7_rich {p : Program} {l : Launch} {e : Env} {s : State} {m : MethodId} {args : Array Value} {below : List Frame} {meth : Method} {c : Code} {A : Nat → Prop} (dC : Nat → ClassId) (dI : Nat → Nat → Nat) (cyC cyI cyZ : ClassId) (a a_text a_read a_hill a_now a_undone a_need a_cameOf a_places a_firstRow a_kept : Nat) (v_size : Int32) (v_at : Int32) (v_begin : Int32) (v_token : Int32) (v_told : Int32) (v_undos : Int32) (v_cames : Int32) (v_each : Int32) (v_trace : Int64) (v_hill : Nat → Int32) (v_now : Nat → Int32) (Q : Int32 → Prop) (C0 : gAt cX7_rich (some .int) 4 RX7 wsX7_rich p s m meth c args) (hK : va_K (dC, dI) vwCl (gTy cyC cyI cyZ) s) (hN : nU s) (hA : ∀ q, s.heap.size ≤ q → A q) : ∀ n : Nat, (∀ (x1 : Int32) (x2 : Int32) (H : Heap) (locs : List Loc) (ls : Array Slot), wp_X7_rich v_hill v_now Q n 5 x1 x2 → va_P (dC, dI) vwCl [(a, .inr (7, [.ref a_text, .int v_size, .int v_at, .int v_begin, .int v_token, .int v_told, .ref a_read, .ref a_hill, .ref a_now, .ref a_undone, .int v_undos, .ref a_need, .int v_cames, .ref a_cameOf, .ref a_places, .ref a_firstRow, .int v_each, .long v_trace, .ref a_kept])), (a_hill, .inl (cyI, 46, .inl v_hill)), (a_now, .inl (cyI, 15, .inl v_now))] H → va_D A [(a, .inr (7, [.ref a_text, .int v_size, .int v_at, .int v_begin, .int v_token, .int v_told, .ref a_read, .ref a_hill, .ref a_now, .ref a_undone, .int v_undos, .ref a_need, .int v_cames, .ref a_cameOf, .ref a_places, .ref a_firstRow, .int v_each, .long v_trace, .ref a_kept])), (a_hill, .inl (cyI, 46, .inl v_hill)), (a_now, .inl (cyI, 15, .inl v_now))] → va_S A s.heap H locs → lv_has ls 4 [(0, .ref a), (1, .int x1), (2, .int x2)] → W p l e { frames := 3, cells := 0, slots := 0, locals := 68 } s m args below meth c H locs 0 0 (MQ below (gQi0 Q (dC, dI) A [(a, .inr (7, [.ref a_text, .int v_size, .int v_at, .int v_begin, .int v_token, .int v_told, .ref a_read, .ref a_hill, .ref a_now, .ref a_undone, .int v_undos, .ref a_need, .int v_cames, .ref a_cameOf, .ref a_places, .ref a_firstRow, .int v_each, .long v_trace, .ref a_kept])), (a_hill, .inl (cyI, 46, .inl v_hill)), (a_now, .inl (cyI, 15, .inl v_now))]) args s 0 0 A) (F0 m 5 ls [])) := by
  obtain ⟨hx, hb, hr, hml, hown, hts, hlocks⟩ := id C0
  have f16 := hts (.fieldLink RX7 16 "LastOchreModel" "hill" "[I") (by decide +kernel)
  intro n
  induction n with
  | zero => exact fun _ _ _ _ _ h => absurd h id
  | succ n ih =>
    have ih5 := ih
    · intro x1 x2 H locs ls h hP hD hS hl
      replace h : F_X7_rich_5 v_hill v_now Q (wp_X7_rich v_hill v_now Q n) x1 x2 := h
      unfold F_X7_rich_5 at h
      refine lv_iload_n hx hb dX7_rich_5 rfl (lv_at hl 2 rfl) ?_
      refine lv_aload_n hx hb dX7_rich_6 rfl (lv_at hl 0 rfl) ?_
      refine va_get (D := (dC, dI)) (ci := 7) (v := .ref a_hill) (C := RX7) (T := TX7) (N := 19) hx hb hts iwX7_rich_X7 hown hK hP 0 rfl rfl 7 (by decide) f16 (fun _ h9 => h9) rfl dX7_rich_7 ?_
      refine lv_iconst (v := 2) hx hb dX7_rich_10 (by decide) ?_
      refine va_iald hx hb hK hP 1 0 rfl rfl (by unfold vp_in; decide) dX7_rich_11 ?_
      refine lv_icmp_ge (tgt := 52) hx hb dX7_rich_12 (by decide) (fun c_1 => ?_) (fun c_1 => ?_)
      · replace h := h.1 c_1
        refine lv_iload_n hx hb dX7_rich_52 rfl (lv_at hl 1 rfl) ?_
        exact gri0 hx hb hr hlocks h hP hD hS dX7_rich_53
      · replace h := h.2 c_1
        refine lv_aload_n hx hb dX7_rich_15 rfl (lv_at hl 0 rfl) ?_
        refine lv_iload_n hx hb dX7_rich_16 rfl (lv_at hl 2 rfl) ?_
        refine gV_i0 (As := [.int x2]) (rest := []) ⟨hx, hb, hml, hown, hts⟩ (c_X7_spareOf l dC dI cyC cyI cyZ _ a a_text a_read a_hill a_now a_undone a_need a_cameOf a_places a_firstRow a_kept v_size v_at v_begin v_token v_told v_undos v_cames v_each v_trace v_now v_hill x2 h) (cwV 1 hts gX7_rich_X7_spareOf rfl rfl rfl hdV_X7_spareOf ⟨Nat.le_of_ble_eq_true rfl, Nat.le_of_ble_eq_true rfl⟩) hK hN hP hD hS hA [0, 2, 1] (by decide) rfl (ci := 7) rfl rfl rfl hl.1 rfl (Nat.le_of_ble_eq_true rfl) dX7_rich_17 ⟨Nat.zero_le _, Nat.zero_le _⟩ (fun r_2 H locs h hP hS => ?_)
        refine lv_istore_n (lv' := [(3, .int r_2), (0, .ref a), (1, .int x1), (2, .int x2)]) hx hb dX7_rich_20 rfl hl (by decide) rfl (fun ls hl => ?_)
        refine lv_iload_n hx hb dX7_rich_21 rfl (lv_at hl 0 rfl) ?_
        refine lv_if_le (tgt := 44) hx hb dX7_rich_22 (by decide) (fun c_3 => ?_) (fun c_3 => ?_)
        · replace h := h.1 c_3
          refine lv_iload_n hx hb dX7_rich_44 rfl (lv_at hl 2 rfl) ?_
          refine lv_istore_n (lv' := [(1, .int x1), (3, .int r_2), (0, .ref a), (2, .int x2)]) hx hb dX7_rich_45 rfl hl (by decide) rfl (fun ls hl => ?_)
          obtain ⟨x2_4, e_5⟩ : ∃ y : Int32, y = (x2 + (1 : Int32)) := ⟨_, rfl⟩
          replace h := h x2_4 e_5
          refine lv_iinc (v := x2_4) (lv' := [(2, .int x2_4), (1, .int x1), (3, .int r_2), (0, .ref a)]) hx hb dX7_rich_46 hl (k := 3) rfl (by rw [e_5]; rfl) (by decide) rfl (fun ls hl => ?_)
          refine lv_goto (tgt := 5) hx hb dX7_rich_49 (by decide) ?_
          exact ih5 x1 x2_4 _ _ _ h hP hD hS (lv_sub hl [3, 1, 0] rfl)
        · replace h := h.2 c_3
          refine lv_iload_n hx hb dX7_rich_25 rfl (lv_at hl 2 rfl) ?_
          refine lv_bipush (v := -9) hx hb dX7_rich_26 (by decide) ?_
          refine lv_icmp_eq (tgt := 40) hx hb dX7_rich_28 (by decide) (fun c_6 => ?_) (fun c_6 => ?_)
          · replace h := h.1 c_6
            refine lv_iload_n hx hb dX7_rich_40 rfl (lv_at hl 3 rfl) ?_
            refine lv_goto (tgt := 45) hx hb dX7_rich_41 (by decide) ?_
            refine lv_istore_n (lv' := [(1, .int x2), (3, .int r_2), (0, .ref a), (2, .int x2)]) hx hb dX7_rich_45 rfl hl (by decide) rfl (fun ls hl => ?_)
            obtain ⟨x2_7, e_8⟩ : ∃ y : Int32, y = (x2 + (1 : Int32)) := ⟨_, rfl⟩
            replace h := h x2_7 e_8
            refine lv_iinc (v := x2_7) (lv' := [(2, .int x2_7), (1, .int x2), (3, .int r_2), (0, .ref a)]) hx hb dX7_rich_46 hl (k := 3) rfl (by rw [e_8]; rfl) (by decide) rfl (fun ls hl => ?_)
            refine lv_goto (tgt := 5) hx hb dX7_rich_49 (by decide) ?_
            exact ih5 x2 x2_7 _ _ _ h hP hD hS (lv_sub hl [3, 1, 0] rfl)
          · replace h := h.2 c_6
            refine lv_iload_n hx hb dX7_rich_31 rfl (lv_at hl 0 rfl) ?_
            refine lv_aload_n hx hb dX7_rich_32 rfl (lv_at hl 1 rfl) ?_
            refine lv_iload_n hx hb dX7_rich_33 rfl (lv_at hl 2 rfl) ?_
            refine gV_i0 (As := [.int x1]) (rest := [.int r_2]) ⟨hx, hb, hml, hown, hts⟩ (c_X7_spareOf l dC dI cyC cyI cyZ _ a a_text a_read a_hill a_now a_undone a_need a_cameOf a_places a_firstRow a_kept v_size v_at v_begin v_token v_told v_undos v_cames v_each v_trace v_now v_hill x1 h) (cwV 1 hts gX7_rich_X7_spareOf rfl rfl rfl hdV_X7_spareOf ⟨Nat.le_of_ble_eq_true rfl, Nat.le_of_ble_eq_true rfl⟩) hK hN hP hD hS hA [0, 2, 1] (by decide) rfl (ci := 7) rfl rfl rfl hl.1 rfl (Nat.le_of_ble_eq_true rfl) dX7_rich_34 ⟨Nat.zero_le _, Nat.zero_le _⟩ (fun r_9 H locs h hP hS => ?_)
            refine lv_icmp_le (tgt := 44) hx hb dX7_rich_37 (by decide) (fun c_10 => ?_) (fun c_10 => ?_)
            · replace h := h.1 c_10
              refine lv_iload_n hx hb dX7_rich_44 rfl (lv_at hl 2 rfl) ?_
              refine lv_istore_n (lv' := [(1, .int x1), (3, .int r_2), (0, .ref a), (2, .int x2)]) hx hb dX7_rich_45 rfl hl (by decide) rfl (fun ls hl => ?_)
              obtain ⟨x2_11, e_12⟩ : ∃ y : Int32, y = (x2 + (1 : Int32)) := ⟨_, rfl⟩
              replace h := h x2_11 e_12
              refine lv_iinc (v := x2_11) (lv' := [(2, .int x2_11), (1, .int x1), (3, .int r_2), (0, .ref a)]) hx hb dX7_rich_46 hl (k := 3) rfl (by rw [e_12]; rfl) (by decide) rfl (fun ls hl => ?_)
              refine lv_goto (tgt := 5) hx hb dX7_rich_49 (by decide) ?_
              exact ih5 x1 x2_11 _ _ _ h hP hD hS (lv_sub hl [3, 1, 0] rfl)
            · replace h := h.2 c_10
              refine lv_iload_n hx hb dX7_rich_40 rfl (lv_at hl 3 rfl) ?_
              refine lv_goto (tgt := 45) hx hb dX7_rich_41 (by decide) ?_
              refine lv_istore_n (lv' := [(1, .int x2), (3, .int r_2), (0, .ref a), (2, .int x2)]) hx hb dX7_rich_45 rfl hl (by decide) rfl (fun ls hl => ?_)
              obtain ⟨x2_13, e_14⟩ : ∃ y : Int32, y = (x2 + (1 : Int32)) := ⟨_, rfl⟩
              replace h := h x2_13 e_14
              refine lv_iinc (v := x2_13) (lv' := [(2, .int x2_13), (1, .int x2), (3, .int r_2), (0, .ref a)]) hx hb dX7_rich_46 hl (k := 3) rfl (by rw [e_14]; rfl) (by decide) rfl (fun ls hl => ?_)
              refine lv_goto (tgt := 5) hx hb dX7_rich_49 (by decide) ?_
              exact ih5 x2 x2_13 _ _ _ h hP hD hS (lv_sub hl [3, 1, 0] rfl)
set_option maxHeartbeats 4000000 in
set_option maxRecDepth 100000 in
theorem c_X7_rich (l : Launch) (dC : Nat → ClassId) (dI : Nat → Nat → Nat) (cyC cyI cyZ : ClassId) (sz : Nat) (a a_text a_read a_hill a_now a_undone a_need a_cameOf a_places a_firstRow a_kept : Nat) (v_size : Int32) (v_at : Int32) (v_begin : Int32) (v_token : Int32) (v_told : Int32) (v_undos : Int32) (v_cames : Int32) (v_each : Int32) (v_trace : Int64) (v_hill : Nat → Int32) (v_now : Nat → Int32) {Q : Int32 → Prop} (h : q_X7_rich v_hill v_now Q) : Met l yX7_rich wsX7_rich ({ frames := 3, cells := 0, slots := 0, locals := 68 }) (gPc [.ref a] (dC, dI) (gTy cyC cyI cyZ) sz [(a, .inr (7, [.ref a_text, .int v_size, .int v_at, .int v_begin, .int v_token, .int v_told, .ref a_read, .ref a_hill, .ref a_now, .ref a_undone, .int v_undos, .ref a_need, .int v_cames, .ref a_cameOf, .ref a_places, .ref a_firstRow, .int v_each, .long v_trace, .ref a_kept])), (a_hill, .inl (cyI, 46, .inl v_hill)), (a_now, .inl (cyI, 15, .inl v_now))]) (gQi0 Q (dC, dI) (va_A [(a, .inr (7, [.ref a_text, .int v_size, .int v_at, .int v_begin, .int v_token, .int v_told, .ref a_read, .ref a_hill, .ref a_now, .ref a_undone, .int v_undos, .ref a_need, .int v_cames, .ref a_cameOf, .ref a_places, .ref a_firstRow, .int v_each, .long v_trace, .ref a_kept])), (a_hill, .inl (cyI, 46, .inl v_hill)), (a_now, .inl (cyI, 15, .inl v_now))] sz) [(a, .inr (7, [.ref a_text, .int v_size, .int v_at, .int v_begin, .int v_token, .int v_told, .ref a_read, .ref a_hill, .ref a_now, .ref a_undone, .int v_undos, .ref a_need, .int v_cames, .ref a_cameOf, .ref a_places, .ref a_firstRow, .int v_each, .long v_trace, .ref a_kept])), (a_hill, .inl (cyI, 46, .inl v_hill)), (a_now, .inl (cyI, 15, .inl v_now))]) 0 0 (va_A [(a, .inr (7, [.ref a_text, .int v_size, .int v_at, .int v_begin, .int v_token, .int v_told, .ref a_read, .ref a_hill, .ref a_now, .ref a_undone, .int v_undos, .ref a_need, .int v_cames, .ref a_cameOf, .ref a_places, .ref a_firstRow, .int v_each, .long v_trace, .ref a_kept])), (a_hill, .inl (cyI, 46, .inl v_hill)), (a_now, .inl (cyI, 15, .inl v_now))] sz) := by
  refine gMet (cc := cX7_rich) (maxL := 4) (ret := (some .int)) (own := RX7) (fun A => gQi0 Q (dC, dI) A [(a, .inr (7, [.ref a_text, .int v_size, .int v_at, .int v_begin, .int v_token, .int v_told, .ref a_read, .ref a_hill, .ref a_now, .ref a_undone, .int v_undos, .ref a_need, .int v_cames, .ref a_cameOf, .ref a_places, .ref a_firstRow, .int v_each, .long v_trace, .ref a_kept])), (a_hill, .inl (cyI, 46, .inl v_hill)), (a_now, .inl (cyI, 15, .inl v_now))]) (by decide) rfl rfl (Nat.le_of_ble_eq_true rfl) ?_
  intro p e s m below meth c A ls C0 _ hK hN hP hD hA hl
  obtain ⟨hx, hb, hr, hml, hown, hts, hlocks⟩ := id C0
  have f16 := hts (.fieldLink RX7 16 "LastOchreModel" "hill" "[I") (by decide +kernel)
  have hS : va_S A s.heap s.heap [] := va_S.rf
  replace hl : lv_has ls 4 [(0, .ref a)] := hl
  unfold q_X7_rich at h
  obtain ⟨n, h⟩ := h
  have ih5 := w_X7_rich (l := l) (e := e) (below := below) dC dI cyC cyI cyZ a a_text a_read a_hill a_now a_undone a_need a_cameOf a_places a_firstRow a_kept v_size v_at v_begin v_token v_told v_undos v_cames v_each v_trace v_hill v_now Q C0 hK hN hA n
  unfold F_X7_rich_e at h
  refine lv_bipush (v := -9) hx hb dX7_rich_0 (by decide) ?_
  refine lv_istore_n (lv' := [(1, .int (-9 : Int32)), (0, .ref a)]) hx hb dX7_rich_2 rfl hl (by decide) rfl (fun ls hl => ?_)
  refine lv_iconst (v := 0) hx hb dX7_rich_3 (by decide) ?_
  refine lv_istore_n (lv' := [(2, .int (0 : Int32)), (1, .int (-9 : Int32)), (0, .ref a)]) hx hb dX7_rich_4 rfl hl (by decide) rfl (fun ls hl => ?_)
  exact ih5 (-9 : Int32) (0 : Int32) _ _ _ h hP hD hS (lv_sub hl [2, 1, 0] rfl)

def F_X7_common_e (p0 : Int32) (p1 : Int32) (Q : Int32 → Prop) (rec : Nat → Int32 → Int32 → Prop)  : Prop :=
  rec 4 p0 p1
def F_X7_common_4 (p0 : Int32) (p1 : Int32) (Q : Int32 → Prop) (rec : Nat → Int32 → Int32 → Prop) (x2 : Int32) (x3 : Int32) : Prop :=
  (x3 = 0 → (Q x2)) ∧ (¬ x3 = 0 → (¬ x3 = 0 ∧ (∀ x4_3 : Int32, x4_3 = (x2 - x2 / x3 * x3) → (rec 4 x3 x4_3))))
def wp_X7_common (p0 : Int32) (p1 : Int32) (Q : Int32 → Prop) : Nat → Nat → Int32 → Int32 → Prop
  | 0 => fun _ _ _ => False
  | n + 1 => fun t x2 x3 => if t = 4 then F_X7_common_4 p0 p1 Q (wp_X7_common p0 p1 Q n) x2 x3 else False
def q_X7_common (p0 : Int32) (p1 : Int32) (Q : Int32 → Prop) : Prop := ∃ n, F_X7_common_e p0 p1 Q (wp_X7_common p0 p1 Q n) 
theorem hdS_X7_common : yX7_common.cls ≠ "java/lang/invoke/MethodHandle" ∧ yX7_common.cls ≠ "java/lang/invoke/VarHandle" ∧ (parseMethodDescriptor yX7_common.desc).map (fun d => d.parameters.length) = some 2 := by decide +kernel
set_option maxHeartbeats 4000000 in
set_option maxRecDepth 100000 in
theorem w_X7_common {p : Program} {l : Launch} {e : Env} {s : State} {m : MethodId} {args : Array Value} {below : List Frame} {meth : Method} {c : Code} {A : Nat → Prop} (dC : Nat → ClassId) (dI : Nat → Nat → Nat) (cyC cyI cyZ : ClassId) (p0 : Int32) (p1 : Int32) (Q : Int32 → Prop) (C0 : gAt cX7_common (some .int) 5 RX7 wsX7_common p s m meth c args) (hK : va_K (dC, dI) vwCl (gTy cyC cyI cyZ) s) (hN : nU s) (hA : ∀ q, s.heap.size ≤ q → A q) : ∀ n : Nat, (∀ (x2 : Int32) (x3 : Int32) (H : Heap) (locs : List Loc) (ls : Array Slot), wp_X7_common p0 p1 Q n 4 x2 x3 → va_P (dC, dI) vwCl [] H → va_D A [] → va_S A s.heap H locs → lv_has ls 5 [(2, .int x2), (3, .int x3)] → W p l e { frames := 0, cells := 0, slots := 0, locals := 0 } s m args below meth c H locs 0 0 (MQ below (gQi0 Q (dC, dI) A []) args s 0 0 A) (F0 m 4 ls [])) := by
  obtain ⟨hx, hb, hr, hml, hown, hts, hlocks⟩ := id C0
  intro n
  induction n with
  | zero => exact fun _ _ _ _ _ h => absurd h id
  | succ n ih =>
    have ih4 := ih
    · intro x2 x3 H locs ls h hP hD hS hl
      replace h : F_X7_common_4 p0 p1 Q (wp_X7_common p0 p1 Q n) x2 x3 := h
      unfold F_X7_common_4 at h
      refine lv_iload_n hx hb dX7_common_4 rfl (lv_at hl 1 rfl) ?_
      refine lv_if_eq (tgt := 21) hx hb dX7_common_5 (by decide) (fun c_1 => ?_) (fun c_1 => ?_)
      · replace h := h.1 c_1
        refine lv_iload_n hx hb dX7_common_21 rfl (lv_at hl 0 rfl) ?_
        exact gri0 hx hb hr hlocks h hP hD hS dX7_common_22
      · replace h := h.2 c_1
        refine lv_iload_n hx hb dX7_common_8 rfl (lv_at hl 0 rfl) ?_
        refine lv_iload_n hx hb dX7_common_9 rfl (lv_at hl 1 rfl) ?_
        have g_2 := h.1
        replace h := h.2
        refine lv_irem hx hb dX7_common_10 g_2 ?_
        refine lv_topi (fun x4_3 e_4 => ?_)
        replace h := h x4_3 e_4
        refine lv_istore (lv' := [(4, .int x4_3), (2, .int x2), (3, .int x3)]) hx hb dX7_common_11 hl (by decide) rfl (fun ls hl => ?_)
        refine lv_iload_n hx hb dX7_common_13 rfl (lv_at hl 2 rfl) ?_
        refine lv_istore_n (lv' := [(2, .int x3), (4, .int x4_3), (3, .int x3)]) hx hb dX7_common_14 rfl hl (by decide) rfl (fun ls hl => ?_)
        refine lv_iload hx hb dX7_common_15 (lv_at hl 1 rfl) ?_
        refine lv_istore_n (lv' := [(3, .int x4_3), (2, .int x3), (4, .int x4_3)]) hx hb dX7_common_17 rfl hl (by decide) rfl (fun ls hl => ?_)
        refine lv_goto (tgt := 4) hx hb dX7_common_18 (by decide) ?_
        exact ih4 x3 x4_3 _ _ _ h hP hD hS (lv_sub hl [1, 0] rfl)
set_option maxHeartbeats 4000000 in
set_option maxRecDepth 100000 in
theorem c_X7_common (l : Launch) (dC : Nat → ClassId) (dI : Nat → Nat → Nat) (cyC cyI cyZ : ClassId) (sz : Nat) (p0 : Int32) (p1 : Int32) {Q : Int32 → Prop} (h : q_X7_common p0 p1 Q) : Met l yX7_common wsX7_common ({ frames := 0, cells := 0, slots := 0, locals := 0 }) (gPc [.int p0, .int p1] (dC, dI) (gTy cyC cyI cyZ) sz []) (gQi0 Q (dC, dI) (va_A [] sz) []) 0 0 (va_A [] sz) := by
  refine gMet (cc := cX7_common) (maxL := 5) (ret := (some .int)) (own := RX7) (fun A => gQi0 Q (dC, dI) A []) (by decide) rfl rfl (Nat.le_of_ble_eq_true rfl) ?_
  intro p e s m below meth c A ls C0 _ hK hN hP hD hA hl
  obtain ⟨hx, hb, hr, hml, hown, hts, hlocks⟩ := id C0
  have hS : va_S A s.heap s.heap [] := va_S.rf
  replace hl : lv_has ls 5 [(0, .int p0), (1, .int p1)] := hl
  unfold q_X7_common at h
  obtain ⟨n, h⟩ := h
  have ih4 := w_X7_common (l := l) (e := e) (below := below) dC dI cyC cyI cyZ p0 p1 Q C0 hK hN hA n
  unfold F_X7_common_e at h
  refine lv_iload_n hx hb dX7_common_0 rfl (lv_at hl 0 rfl) ?_
  refine lv_istore_n (lv' := [(2, .int p0), (0, .int p0), (1, .int p1)]) hx hb dX7_common_1 rfl hl (by decide) rfl (fun ls hl => ?_)
  refine lv_iload_n hx hb dX7_common_2 rfl (lv_at hl 2 rfl) ?_
  refine lv_istore_n (lv' := [(3, .int p1), (2, .int p0), (0, .int p0), (1, .int p1)]) hx hb dX7_common_3 rfl hl (by decide) rfl (fun ls hl => ?_)
  exact ih4 p0 p1 _ _ _ h hP hD hS (lv_sub hl [1, 0] rfl)

def F_X7_odds_e (v_hill : Nat → Int32) (v_now : Nat → Int32) (p0 : Int32) (p1 : Int32) (p2 : Int32) (p3 : Int32) (Q : Int32 → Prop) (rec : Nat → Int32 → Int32 → Int32 → Prop)  : Prop :=
  q_X7_isThing v_hill p0 (fun (r_1 : Int32) => (r_1 = 0 → (Q (-1 : Int32))) ∧ (¬ r_1 = 0 → (q_X7_in ((p1).toInt64) (0 : Int64) (10 : Int64) (fun (r_3 : Int32) => (r_3 = 0 → (Q (-1 : Int32))) ∧ (¬ r_3 = 0 → (q_X7_in ((p2).toInt64) (0 : Int64) (8 : Int64) (fun (r_5 : Int32) => (r_5 = 0 → (Q (-1 : Int32))) ∧ (¬ r_5 = 0 → (q_X7_in ((p3).toInt64) (0 : Int64) (1 : Int64) (fun (r_7 : Int32) => (¬ r_7 = 0 → (q_X7_isThen v_now v_hill p0 p2 (0 : Int32) (fun (r_9 : Int32) => (r_9 = 0 → (rec 68 (0 : Int32) (1 : Int32) (0 : Int32))) ∧ (¬ r_9 = 0 → (rec 68 (1 : Int32) (1 : Int32) (0 : Int32)))))) ∧ (r_7 = 0 → (Q (-1 : Int32)))))))))))))
def F_X7_odds_68 (v_hill : Nat → Int32) (v_now : Nat → Int32) (p0 : Int32) (p1 : Int32) (p2 : Int32) (p3 : Int32) (Q : Int32 → Prop) (rec : Nat → Int32 → Int32 → Int32 → Prop) (x5 : Int32) (x6 : Int32) (x7 : Int32) : Prop :=
  (p2 ≤ x7 → (q_X7_common x5 x6 (fun (r_12 : Int32) => (¬ p3 = 0 → (¬ r_12 = 0 ∧ (Q (x6 / r_12)))) ∧ (p3 = 0 → (¬ r_12 = 0 ∧ (Q (x5 / r_12))))))) ∧ (¬ p2 ≤ x7 → (∀ x5_16 : Int32, x5_16 = (x5 * ((10 : Int32) - p1)) → (∀ x6_18 : Int32, x6_18 = (x6 * (10 : Int32)) → (∀ x7_20 : Int32, x7_20 = (x7 + (1 : Int32)) → (rec 68 x5_16 x6_18 x7_20)))))
def wp_X7_odds (v_hill : Nat → Int32) (v_now : Nat → Int32) (p0 : Int32) (p1 : Int32) (p2 : Int32) (p3 : Int32) (Q : Int32 → Prop) : Nat → Nat → Int32 → Int32 → Int32 → Prop
  | 0 => fun _ _ _ _ => False
  | n + 1 => fun t x5 x6 x7 => if t = 68 then F_X7_odds_68 v_hill v_now p0 p1 p2 p3 Q (wp_X7_odds v_hill v_now p0 p1 p2 p3 Q n) x5 x6 x7 else False
def q_X7_odds (v_hill : Nat → Int32) (v_now : Nat → Int32) (p0 : Int32) (p1 : Int32) (p2 : Int32) (p3 : Int32) (Q : Int32 → Prop) : Prop := ∃ n, F_X7_odds_e v_hill v_now p0 p1 p2 p3 Q (wp_X7_odds v_hill v_now p0 p1 p2 p3 Q n) 
theorem hdV_X7_odds : yX7_odds.cls = RX7 ∧ yX7_odds.cls ≠ "java/lang/invoke/MethodHandle" ∧ yX7_odds.cls ≠ "java/lang/invoke/VarHandle" ∧ (parseMethodDescriptor yX7_odds.desc).map (fun d => d.parameters.length) = some 4 := by decide +kernel
set_option maxHeartbeats 4000000 in
set_option maxRecDepth 100000 in
theorem w_X7_odds {p : Program} {l : Launch} {e : Env} {s : State} {m : MethodId} {args : Array Value} {below : List Frame} {meth : Method} {c : Code} {A : Nat → Prop} (dC : Nat → ClassId) (dI : Nat → Nat → Nat) (cyC cyI cyZ : ClassId) (a a_text a_read a_hill a_now a_undone a_need a_cameOf a_places a_firstRow a_kept : Nat) (v_size : Int32) (v_at : Int32) (v_begin : Int32) (v_token : Int32) (v_told : Int32) (v_undos : Int32) (v_cames : Int32) (v_each : Int32) (v_trace : Int64) (v_hill : Nat → Int32) (v_now : Nat → Int32) (p0 : Int32) (p1 : Int32) (p2 : Int32) (p3 : Int32) (Q : Int32 → Prop) (C0 : gAt cX7_odds (some .int) 8 RX7 wsX7_odds p s m meth c args) (hK : va_K (dC, dI) vwCl (gTy cyC cyI cyZ) s) (hN : nU s) (hA : ∀ q, s.heap.size ≤ q → A q) : ∀ n : Nat, (∀ (x5 : Int32) (x6 : Int32) (x7 : Int32) (H : Heap) (locs : List Loc) (ls : Array Slot), wp_X7_odds v_hill v_now p0 p1 p2 p3 Q n 68 x5 x6 x7 → va_P (dC, dI) vwCl [(a, .inr (7, [.ref a_text, .int v_size, .int v_at, .int v_begin, .int v_token, .int v_told, .ref a_read, .ref a_hill, .ref a_now, .ref a_undone, .int v_undos, .ref a_need, .int v_cames, .ref a_cameOf, .ref a_places, .ref a_firstRow, .int v_each, .long v_trace, .ref a_kept])), (a_hill, .inl (cyI, 46, .inl v_hill)), (a_now, .inl (cyI, 15, .inl v_now))] H → va_D A [(a, .inr (7, [.ref a_text, .int v_size, .int v_at, .int v_begin, .int v_token, .int v_told, .ref a_read, .ref a_hill, .ref a_now, .ref a_undone, .int v_undos, .ref a_need, .int v_cames, .ref a_cameOf, .ref a_places, .ref a_firstRow, .int v_each, .long v_trace, .ref a_kept])), (a_hill, .inl (cyI, 46, .inl v_hill)), (a_now, .inl (cyI, 15, .inl v_now))] → va_S A s.heap H locs → lv_has ls 8 [(2, .int p1), (3, .int p2), (4, .int p3), (5, .int x5), (6, .int x6), (7, .int x7)] → W p l e { frames := 2, cells := 0, slots := 0, locals := 46 } s m args below meth c H locs 0 0 (MQ below (gQi0 Q (dC, dI) A [(a, .inr (7, [.ref a_text, .int v_size, .int v_at, .int v_begin, .int v_token, .int v_told, .ref a_read, .ref a_hill, .ref a_now, .ref a_undone, .int v_undos, .ref a_need, .int v_cames, .ref a_cameOf, .ref a_places, .ref a_firstRow, .int v_each, .long v_trace, .ref a_kept])), (a_hill, .inl (cyI, 46, .inl v_hill)), (a_now, .inl (cyI, 15, .inl v_now))]) args s 0 0 A) (F0 m 68 ls [])) := by
  obtain ⟨hx, hb, hr, hml, hown, hts, hlocks⟩ := id C0
  intro n
  induction n with
  | zero => exact fun _ _ _ _ _ _ h => absurd h id
  | succ n ih =>
    have ih68 := ih
    · intro x5 x6 x7 H locs ls h hP hD hS hl
      replace h : F_X7_odds_68 v_hill v_now p0 p1 p2 p3 Q (wp_X7_odds v_hill v_now p0 p1 p2 p3 Q n) x5 x6 x7 := h
      unfold F_X7_odds_68 at h
      refine lv_iload hx hb dX7_odds_68 (lv_at hl 5 rfl) ?_
      refine lv_iload_n hx hb dX7_odds_70 rfl (lv_at hl 1 rfl) ?_
      refine lv_icmp_ge (tgt := 96) hx hb dX7_odds_71 (by decide) (fun c_11 => ?_) (fun c_11 => ?_)
      · replace h := h.1 c_11
        refine lv_iload hx hb dX7_odds_96 (lv_at hl 3 rfl) ?_
        refine lv_iload hx hb dX7_odds_98 (lv_at hl 4 rfl) ?_
        refine gS_i0 (As := [.int x5, .int x6]) (rest := []) ⟨hx, hb, hml, hown, hts⟩ (c_X7_common l dC dI cyC cyI cyZ _ x5 x6 h) (va_cwS 2 hts gX7_odds_X7_common rfl rfl rfl hdS_X7_common ⟨Nat.le_of_ble_eq_true rfl, Nat.le_of_ble_eq_true rfl⟩) hK hN hP hD hS hA [] (by decide) rfl rfl hl.1 rfl (Nat.le_of_ble_eq_true rfl) dX7_odds_100 ⟨Nat.zero_le _, Nat.zero_le _⟩ (fun r_12 H locs h hP hS => ?_)
        refine lv_istore (lv' := [(7, .int r_12), (2, .int p1), (3, .int p2), (4, .int p3), (5, .int x5), (6, .int x6)]) hx hb dX7_odds_103 hl (by decide) rfl (fun ls hl => ?_)
        refine lv_iload hx hb dX7_odds_105 (lv_at hl 3 rfl) ?_
        refine lv_if_ne (tgt := 118) hx hb dX7_odds_107 (by decide) (fun c_13 => ?_) (fun c_13 => ?_)
        · replace h := h.1 c_13
          refine lv_iload hx hb dX7_odds_118 (lv_at hl 5 rfl) ?_
          refine lv_iload hx hb dX7_odds_120 (lv_at hl 0 rfl) ?_
          have g_14 := h.1
          replace h := h.2
          refine lv_idiv hx hb dX7_odds_122 g_14 ?_
          exact gri0 hx hb hr hlocks h hP hD hS dX7_odds_123
        · replace h := h.2 c_13
          refine lv_iload hx hb dX7_odds_110 (lv_at hl 4 rfl) ?_
          refine lv_iload hx hb dX7_odds_112 (lv_at hl 0 rfl) ?_
          have g_15 := h.1
          replace h := h.2
          refine lv_idiv hx hb dX7_odds_114 g_15 ?_
          refine lv_goto (tgt := 123) hx hb dX7_odds_115 (by decide) ?_
          exact gri0 hx hb hr hlocks h hP hD hS dX7_odds_123
      · replace h := h.2 c_11
        refine lv_iload hx hb dX7_odds_74 (lv_at hl 3 rfl) ?_
        refine lv_bipush (v := 10) hx hb dX7_odds_76 (by decide) ?_
        refine lv_iload_n hx hb dX7_odds_78 rfl (lv_at hl 0 rfl) ?_
        refine lv_isub hx hb dX7_odds_79 ?_
        refine lv_imul hx hb dX7_odds_80 ?_
        refine lv_topi (fun x5_16 e_17 => ?_)
        replace h := h x5_16 e_17
        refine lv_istore (lv' := [(5, .int x5_16), (2, .int p1), (3, .int p2), (4, .int p3), (6, .int x6), (7, .int x7)]) hx hb dX7_odds_81 hl (by decide) rfl (fun ls hl => ?_)
        refine lv_iload hx hb dX7_odds_83 (lv_at hl 4 rfl) ?_
        refine lv_bipush (v := 10) hx hb dX7_odds_85 (by decide) ?_
        refine lv_imul hx hb dX7_odds_87 ?_
        refine lv_topi (fun x6_18 e_19 => ?_)
        replace h := h x6_18 e_19
        refine lv_istore (lv' := [(6, .int x6_18), (5, .int x5_16), (2, .int p1), (3, .int p2), (4, .int p3), (7, .int x7)]) hx hb dX7_odds_88 hl (by decide) rfl (fun ls hl => ?_)
        obtain ⟨x7_20, e_21⟩ : ∃ y : Int32, y = (x7 + (1 : Int32)) := ⟨_, rfl⟩
        replace h := h x7_20 e_21
        refine lv_iinc (v := x7_20) (lv' := [(7, .int x7_20), (6, .int x6_18), (5, .int x5_16), (2, .int p1), (3, .int p2), (4, .int p3)]) hx hb dX7_odds_90 hl (k := 5) rfl (by rw [e_21]; rfl) (by decide) rfl (fun ls hl => ?_)
        refine lv_goto (tgt := 68) hx hb dX7_odds_93 (by decide) ?_
        exact ih68 x5_16 x6_18 x7_20 _ _ _ h hP hD hS (lv_sub hl [3, 4, 5, 2, 1, 0] rfl)
set_option maxHeartbeats 4000000 in
set_option maxRecDepth 100000 in
theorem c_X7_odds (l : Launch) (dC : Nat → ClassId) (dI : Nat → Nat → Nat) (cyC cyI cyZ : ClassId) (sz : Nat) (a a_text a_read a_hill a_now a_undone a_need a_cameOf a_places a_firstRow a_kept : Nat) (v_size : Int32) (v_at : Int32) (v_begin : Int32) (v_token : Int32) (v_told : Int32) (v_undos : Int32) (v_cames : Int32) (v_each : Int32) (v_trace : Int64) (v_hill : Nat → Int32) (v_now : Nat → Int32) (p0 : Int32) (p1 : Int32) (p2 : Int32) (p3 : Int32) {Q : Int32 → Prop} (h : q_X7_odds v_hill v_now p0 p1 p2 p3 Q) : Met l yX7_odds wsX7_odds ({ frames := 2, cells := 0, slots := 0, locals := 46 }) (gPc [.ref a, .int p0, .int p1, .int p2, .int p3] (dC, dI) (gTy cyC cyI cyZ) sz [(a, .inr (7, [.ref a_text, .int v_size, .int v_at, .int v_begin, .int v_token, .int v_told, .ref a_read, .ref a_hill, .ref a_now, .ref a_undone, .int v_undos, .ref a_need, .int v_cames, .ref a_cameOf, .ref a_places, .ref a_firstRow, .int v_each, .long v_trace, .ref a_kept])), (a_hill, .inl (cyI, 46, .inl v_hill)), (a_now, .inl (cyI, 15, .inl v_now))]) (gQi0 Q (dC, dI) (va_A [(a, .inr (7, [.ref a_text, .int v_size, .int v_at, .int v_begin, .int v_token, .int v_told, .ref a_read, .ref a_hill, .ref a_now, .ref a_undone, .int v_undos, .ref a_need, .int v_cames, .ref a_cameOf, .ref a_places, .ref a_firstRow, .int v_each, .long v_trace, .ref a_kept])), (a_hill, .inl (cyI, 46, .inl v_hill)), (a_now, .inl (cyI, 15, .inl v_now))] sz) [(a, .inr (7, [.ref a_text, .int v_size, .int v_at, .int v_begin, .int v_token, .int v_told, .ref a_read, .ref a_hill, .ref a_now, .ref a_undone, .int v_undos, .ref a_need, .int v_cames, .ref a_cameOf, .ref a_places, .ref a_firstRow, .int v_each, .long v_trace, .ref a_kept])), (a_hill, .inl (cyI, 46, .inl v_hill)), (a_now, .inl (cyI, 15, .inl v_now))]) 0 0 (va_A [(a, .inr (7, [.ref a_text, .int v_size, .int v_at, .int v_begin, .int v_token, .int v_told, .ref a_read, .ref a_hill, .ref a_now, .ref a_undone, .int v_undos, .ref a_need, .int v_cames, .ref a_cameOf, .ref a_places, .ref a_firstRow, .int v_each, .long v_trace, .ref a_kept])), (a_hill, .inl (cyI, 46, .inl v_hill)), (a_now, .inl (cyI, 15, .inl v_now))] sz) := by
  refine gMet (cc := cX7_odds) (maxL := 8) (ret := (some .int)) (own := RX7) (fun A => gQi0 Q (dC, dI) A [(a, .inr (7, [.ref a_text, .int v_size, .int v_at, .int v_begin, .int v_token, .int v_told, .ref a_read, .ref a_hill, .ref a_now, .ref a_undone, .int v_undos, .ref a_need, .int v_cames, .ref a_cameOf, .ref a_places, .ref a_firstRow, .int v_each, .long v_trace, .ref a_kept])), (a_hill, .inl (cyI, 46, .inl v_hill)), (a_now, .inl (cyI, 15, .inl v_now))]) (by decide) rfl rfl (Nat.le_of_ble_eq_true rfl) ?_
  intro p e s m below meth c A ls C0 _ hK hN hP hD hA hl
  obtain ⟨hx, hb, hr, hml, hown, hts, hlocks⟩ := id C0
  have hS : va_S A s.heap s.heap [] := va_S.rf
  replace hl : lv_has ls 8 [(0, .ref a), (1, .int p0), (2, .int p1), (3, .int p2), (4, .int p3)] := hl
  unfold q_X7_odds at h
  obtain ⟨n, h⟩ := h
  have ih68 := w_X7_odds (l := l) (e := e) (below := below) dC dI cyC cyI cyZ a a_text a_read a_hill a_now a_undone a_need a_cameOf a_places a_firstRow a_kept v_size v_at v_begin v_token v_told v_undos v_cames v_each v_trace v_hill v_now p0 p1 p2 p3 Q C0 hK hN hA n
  unfold F_X7_odds_e at h
  refine lv_aload_n hx hb dX7_odds_0 rfl (lv_at hl 0 rfl) ?_
  refine lv_iload_n hx hb dX7_odds_1 rfl (lv_at hl 1 rfl) ?_
  refine gV_i0 (As := [.int p0]) (rest := []) ⟨hx, hb, hml, hown, hts⟩ (c_X7_isThing l dC dI cyC cyI cyZ _ a a_text a_read a_hill a_now a_undone a_need a_cameOf a_places a_firstRow a_kept v_size v_at v_begin v_token v_told v_undos v_cames v_each v_trace v_hill p0 h) (cwV 1 hts gX7_odds_X7_isThing rfl rfl rfl hdV_X7_isThing ⟨Nat.le_of_ble_eq_true rfl, Nat.le_of_ble_eq_true rfl⟩) hK hN hP hD hS hA [0, 1] (by decide) rfl (ci := 7) rfl rfl rfl hl.1 rfl (Nat.le_of_ble_eq_true rfl) dX7_odds_2 ⟨Nat.zero_le _, Nat.zero_le _⟩ (fun r_1 H locs h hP hS => ?_)
  refine lv_if_eq (tgt := 43) hx hb dX7_odds_5 (by decide) (fun c_2 => ?_) (fun c_2 => ?_)
  · replace h := h.1 c_2
    refine lv_iconst (v := -1) hx hb dX7_odds_43 (by decide) ?_
    exact gri0 hx hb hr hlocks h hP hD hS dX7_odds_44
  · replace h := h.2 c_2
    refine lv_iload_n hx hb dX7_odds_8 rfl (lv_at hl 2 rfl) ?_
    refine lv_i2l hx hb dX7_odds_9 rfl ?_
    refine lv_lconst (v := 0) hx hb dX7_odds_10 (by decide) ?_
    refine lv_ldc2 (v := 10) hx hb hown (hts (.constantLong RX7 189 (10)) (by decide +kernel)) dX7_odds_11 ?_
    refine gS_i0 (As := [.long ((p1).toInt64), .long (0 : Int64), .long (10 : Int64)]) (rest := []) ⟨hx, hb, hml, hown, hts⟩ (c_X7_in l dC dI cyC cyI cyZ _ ((p1).toInt64) (0 : Int64) (10 : Int64) h) (va_cwS 3 hts gX7_odds_X7_in rfl rfl rfl hdS_X7_in ⟨Nat.le_of_ble_eq_true rfl, Nat.le_of_ble_eq_true rfl⟩) hK hN hP hD hS hA [] (by decide) rfl rfl hl.1 rfl (Nat.le_of_ble_eq_true rfl) dX7_odds_14 ⟨Nat.zero_le _, Nat.zero_le _⟩ (fun r_3 H locs h hP hS => ?_)
    refine lv_if_eq (tgt := 43) hx hb dX7_odds_17 (by decide) (fun c_4 => ?_) (fun c_4 => ?_)
    · replace h := h.1 c_4
      refine lv_iconst (v := -1) hx hb dX7_odds_43 (by decide) ?_
      exact gri0 hx hb hr hlocks h hP hD hS dX7_odds_44
    · replace h := h.2 c_4
      refine lv_iload_n hx hb dX7_odds_20 rfl (lv_at hl 3 rfl) ?_
      refine lv_i2l hx hb dX7_odds_21 rfl ?_
      refine lv_lconst (v := 0) hx hb dX7_odds_22 (by decide) ?_
      refine lv_ldc2 (v := 8) hx hb hown (hts (.constantLong RX7 191 (8)) (by decide +kernel)) dX7_odds_23 ?_
      refine gS_i0 (As := [.long ((p2).toInt64), .long (0 : Int64), .long (8 : Int64)]) (rest := []) ⟨hx, hb, hml, hown, hts⟩ (c_X7_in l dC dI cyC cyI cyZ _ ((p2).toInt64) (0 : Int64) (8 : Int64) h) (va_cwS 3 hts gX7_odds_X7_in rfl rfl rfl hdS_X7_in ⟨Nat.le_of_ble_eq_true rfl, Nat.le_of_ble_eq_true rfl⟩) hK hN hP hD hS hA [] (by decide) rfl rfl hl.1 rfl (Nat.le_of_ble_eq_true rfl) dX7_odds_26 ⟨Nat.zero_le _, Nat.zero_le _⟩ (fun r_5 H locs h hP hS => ?_)
      refine lv_if_eq (tgt := 43) hx hb dX7_odds_29 (by decide) (fun c_6 => ?_) (fun c_6 => ?_)
      · replace h := h.1 c_6
        refine lv_iconst (v := -1) hx hb dX7_odds_43 (by decide) ?_
        exact gri0 hx hb hr hlocks h hP hD hS dX7_odds_44
      · replace h := h.2 c_6
        refine lv_iload hx hb dX7_odds_32 (lv_at hl 4 rfl) ?_
        refine lv_i2l hx hb dX7_odds_34 rfl ?_
        refine lv_lconst (v := 0) hx hb dX7_odds_35 (by decide) ?_
        refine lv_lconst (v := 1) hx hb dX7_odds_36 (by decide) ?_
        refine gS_i0 (As := [.long ((p3).toInt64), .long (0 : Int64), .long (1 : Int64)]) (rest := []) ⟨hx, hb, hml, hown, hts⟩ (c_X7_in l dC dI cyC cyI cyZ _ ((p3).toInt64) (0 : Int64) (1 : Int64) h) (va_cwS 3 hts gX7_odds_X7_in rfl rfl rfl hdS_X7_in ⟨Nat.le_of_ble_eq_true rfl, Nat.le_of_ble_eq_true rfl⟩) hK hN hP hD hS hA [] (by decide) rfl rfl hl.1 rfl (Nat.le_of_ble_eq_true rfl) dX7_odds_37 ⟨Nat.zero_le _, Nat.zero_le _⟩ (fun r_7 H locs h hP hS => ?_)
        refine lv_if_ne (tgt := 45) hx hb dX7_odds_40 (by decide) (fun c_8 => ?_) (fun c_8 => ?_)
        · replace h := h.1 c_8
          refine lv_aload_n hx hb dX7_odds_45 rfl (lv_at hl 0 rfl) ?_
          refine lv_iload_n hx hb dX7_odds_46 rfl (lv_at hl 1 rfl) ?_
          refine lv_iload_n hx hb dX7_odds_47 rfl (lv_at hl 3 rfl) ?_
          refine lv_iconst (v := 0) hx hb dX7_odds_48 (by decide) ?_
          refine gV_i0 (As := [.int p0, .int p2, .int (0 : Int32)]) (rest := []) ⟨hx, hb, hml, hown, hts⟩ (c_X7_isThen l dC dI cyC cyI cyZ _ a a_text a_read a_hill a_now a_undone a_need a_cameOf a_places a_firstRow a_kept v_size v_at v_begin v_token v_told v_undos v_cames v_each v_trace v_now v_hill p0 p2 (0 : Int32) h) (cwV 3 hts gX7_odds_X7_isThen rfl rfl rfl hdV_X7_isThen ⟨Nat.le_of_ble_eq_true rfl, Nat.le_of_ble_eq_true rfl⟩) hK hN hP hD hS hA [0, 2, 1] (by decide) rfl (ci := 7) rfl rfl rfl hl.1 rfl (Nat.le_of_ble_eq_true rfl) dX7_odds_49 ⟨Nat.zero_le _, Nat.zero_le _⟩ (fun r_9 H locs h hP hS => ?_)
          refine lv_if_eq (tgt := 59) hx hb dX7_odds_52 (by decide) (fun c_10 => ?_) (fun c_10 => ?_)
          · replace h := h.1 c_10
            refine lv_iconst (v := 0) hx hb dX7_odds_59 (by decide) ?_
            refine lv_istore (lv' := [(5, .int (0 : Int32)), (0, .ref a), (1, .int p0), (2, .int p1), (3, .int p2), (4, .int p3)]) hx hb dX7_odds_60 hl (by decide) rfl (fun ls hl => ?_)
            refine lv_iconst (v := 1) hx hb dX7_odds_62 (by decide) ?_
            refine lv_istore (lv' := [(6, .int (1 : Int32)), (5, .int (0 : Int32)), (0, .ref a), (1, .int p0), (2, .int p1), (3, .int p2), (4, .int p3)]) hx hb dX7_odds_63 hl (by decide) rfl (fun ls hl => ?_)
            refine lv_iconst (v := 0) hx hb dX7_odds_65 (by decide) ?_
            refine lv_istore (lv' := [(7, .int (0 : Int32)), (6, .int (1 : Int32)), (5, .int (0 : Int32)), (0, .ref a), (1, .int p0), (2, .int p1), (3, .int p2), (4, .int p3)]) hx hb dX7_odds_66 hl (by decide) rfl (fun ls hl => ?_)
            exact ih68 (0 : Int32) (1 : Int32) (0 : Int32) _ _ _ h hP hD hS (lv_sub hl [5, 6, 7, 2, 1, 0] rfl)
          · replace h := h.2 c_10
            refine lv_iconst (v := 1) hx hb dX7_odds_55 (by decide) ?_
            refine lv_goto (tgt := 60) hx hb dX7_odds_56 (by decide) ?_
            refine lv_istore (lv' := [(5, .int (1 : Int32)), (0, .ref a), (1, .int p0), (2, .int p1), (3, .int p2), (4, .int p3)]) hx hb dX7_odds_60 hl (by decide) rfl (fun ls hl => ?_)
            refine lv_iconst (v := 1) hx hb dX7_odds_62 (by decide) ?_
            refine lv_istore (lv' := [(6, .int (1 : Int32)), (5, .int (1 : Int32)), (0, .ref a), (1, .int p0), (2, .int p1), (3, .int p2), (4, .int p3)]) hx hb dX7_odds_63 hl (by decide) rfl (fun ls hl => ?_)
            refine lv_iconst (v := 0) hx hb dX7_odds_65 (by decide) ?_
            refine lv_istore (lv' := [(7, .int (0 : Int32)), (6, .int (1 : Int32)), (5, .int (1 : Int32)), (0, .ref a), (1, .int p0), (2, .int p1), (3, .int p2), (4, .int p3)]) hx hb dX7_odds_66 hl (by decide) rfl (fun ls hl => ?_)
            exact ih68 (1 : Int32) (1 : Int32) (0 : Int32) _ _ _ h hP hD hS (lv_sub hl [5, 6, 7, 2, 1, 0] rfl)
        · replace h := h.2 c_8
          refine lv_iconst (v := -1) hx hb dX7_odds_43 (by decide) ?_
          exact gri0 hx hb hr hlocks h hP hD hS dX7_odds_44

def F_X7_came_e (p0 : Int32) (Q : Int32 → Int32 → (Nat → Int32) → Prop) (v_cames : Int32) (v_cameOf : Nat → Int32) : Prop :=
  q_X7_in ((p0).toInt64) (0 : Int64) (9 : Int64) (fun (r_1 : Int32) => (¬ r_1 = 0 → ((¬ v_cames = (5 : Int32) → (vp_in v_cames 5 ∧ (∀ f_5 : Nat → Int32, f_5 = upd v_cameOf (v_cames).toNatClampNeg p0 → (∀ n_7 : Int32, n_7 = (v_cames + (1 : Int32)) → (Q n_7 n_7 f_5))))) ∧ (v_cames = (5 : Int32) → (Q (-3 : Int32) v_cames v_cameOf)))) ∧ (r_1 = 0 → (Q (-1 : Int32) v_cames v_cameOf)))
def q_X7_came (v_cames : Int32) (v_cameOf : Nat → Int32) (p0 : Int32) (Q : Int32 → Int32 → (Nat → Int32) → Prop) : Prop := F_X7_came_e p0 Q v_cames v_cameOf
theorem iwX7_came_X7 : ∀ w ∈ wsX70, w ∈ wsX7_came := by decide +kernel
theorem hdV_X7_came : yX7_came.cls = RX7 ∧ yX7_came.cls ≠ "java/lang/invoke/MethodHandle" ∧ yX7_came.cls ≠ "java/lang/invoke/VarHandle" ∧ (parseMethodDescriptor yX7_came.desc).map (fun d => d.parameters.length) = some 1 := by decide +kernel
set_option maxHeartbeats 4000000 in
set_option maxRecDepth 100000 in
theorem c_X7_came (l : Launch) (dC : Nat → ClassId) (dI : Nat → Nat → Nat) (cyC cyI cyZ : ClassId) (sz : Nat) (a a_text a_read a_hill a_now a_undone a_need a_cameOf a_places a_firstRow a_kept : Nat) (v_size : Int32) (v_at : Int32) (v_begin : Int32) (v_token : Int32) (v_told : Int32) (v_undos : Int32) (v_cames : Int32) (v_each : Int32) (v_trace : Int64) (v_cameOf : Nat → Int32) (p0 : Int32) {Q : Int32 → Int32 → (Nat → Int32) → Prop} (h : q_X7_came v_cames v_cameOf p0 Q) : Met l yX7_came wsX7_came ({ frames := 1, cells := 0, slots := 0, locals := 25 }) (gPc [.ref a, .int p0] (dC, dI) (gTy cyC cyI cyZ) sz [(a, .inr (7, [.ref a_text, .int v_size, .int v_at, .int v_begin, .int v_token, .int v_told, .ref a_read, .ref a_hill, .ref a_now, .ref a_undone, .int v_undos, .ref a_need, .int v_cames, .ref a_cameOf, .ref a_places, .ref a_firstRow, .int v_each, .long v_trace, .ref a_kept])), (a_cameOf, .inl (cyI, 5, .inl v_cameOf))]) (gQi2 Q (dC, dI) (va_A [(a, .inr (7, [.ref a_text, .int v_size, .int v_at, .int v_begin, .int v_token, .int v_told, .ref a_read, .ref a_hill, .ref a_now, .ref a_undone, .int v_undos, .ref a_need, .int v_cames, .ref a_cameOf, .ref a_places, .ref a_firstRow, .int v_each, .long v_trace, .ref a_kept])), (a_cameOf, .inl (cyI, 5, .inl v_cameOf))] sz) (fun (u1 : Int32) (u2 : Nat → Int32) => [(a, .inr (7, [.ref a_text, .int v_size, .int v_at, .int v_begin, .int v_token, .int v_told, .ref a_read, .ref a_hill, .ref a_now, .ref a_undone, .int v_undos, .ref a_need, .int u1, .ref a_cameOf, .ref a_places, .ref a_firstRow, .int v_each, .long v_trace, .ref a_kept])), (a_cameOf, .inl (cyI, 5, .inl u2))])) 0 0 (va_A [(a, .inr (7, [.ref a_text, .int v_size, .int v_at, .int v_begin, .int v_token, .int v_told, .ref a_read, .ref a_hill, .ref a_now, .ref a_undone, .int v_undos, .ref a_need, .int v_cames, .ref a_cameOf, .ref a_places, .ref a_firstRow, .int v_each, .long v_trace, .ref a_kept])), (a_cameOf, .inl (cyI, 5, .inl v_cameOf))] sz) := by
  refine gMet (cc := cX7_came) (maxL := 2) (ret := (some .int)) (own := RX7) (fun A => gQi2 Q (dC, dI) A (fun (u1 : Int32) (u2 : Nat → Int32) => [(a, .inr (7, [.ref a_text, .int v_size, .int v_at, .int v_begin, .int v_token, .int v_told, .ref a_read, .ref a_hill, .ref a_now, .ref a_undone, .int v_undos, .ref a_need, .int u1, .ref a_cameOf, .ref a_places, .ref a_firstRow, .int v_each, .long v_trace, .ref a_kept])), (a_cameOf, .inl (cyI, 5, .inl u2))])) (by decide) rfl rfl (Nat.le_of_ble_eq_true rfl) ?_
  intro p e s m below meth c A ls C0 _ hK hN hP hD hA hl
  obtain ⟨hx, hb, hr, hml, hown, hts, hlocks⟩ := id C0
  have f116 := hts (.fieldLink RX7 116 "LastOchreModel" "cames" "I") (by decide +kernel)
  have f28 := hts (.fieldLink RX7 28 "LastOchreModel" "cameOf" "[I") (by decide +kernel)
  have hS : va_S A s.heap s.heap [] := va_S.rf
  replace hl : lv_has ls 2 [(0, .ref a), (1, .int p0)] := hl
  unfold q_X7_came at h
  unfold F_X7_came_e at h
  refine lv_iload_n hx hb dX7_came_0 rfl (lv_at hl 1 rfl) ?_
  refine lv_i2l hx hb dX7_came_1 rfl ?_
  refine lv_lconst (v := 0) hx hb dX7_came_2 (by decide) ?_
  refine lv_ldc2 (v := 9) hx hb hown (hts (.constantLong RX7 196 (9)) (by decide +kernel)) dX7_came_3 ?_
  refine gS_i0 (As := [.long ((p0).toInt64), .long (0 : Int64), .long (9 : Int64)]) (rest := []) ⟨hx, hb, hml, hown, hts⟩ (c_X7_in l dC dI cyC cyI cyZ _ ((p0).toInt64) (0 : Int64) (9 : Int64) h) (va_cwS 3 hts gX7_came_X7_in rfl rfl rfl hdS_X7_in ⟨Nat.le_of_ble_eq_true rfl, Nat.le_of_ble_eq_true rfl⟩) hK hN hP hD hS hA [] (by decide) rfl rfl hl.1 rfl (Nat.le_of_ble_eq_true rfl) dX7_came_6 ⟨Nat.zero_le _, Nat.zero_le _⟩ (fun r_1 H locs h hP hS => ?_)
  refine lv_if_ne (tgt := 14) hx hb dX7_came_9 (by decide) (fun c_2 => ?_) (fun c_2 => ?_)
  · replace h := h.1 c_2
    refine lv_aload_n hx hb dX7_came_14 rfl (lv_at hl 0 rfl) ?_
    refine va_get (D := (dC, dI)) (ci := 7) (v := .int v_cames) (C := RX7) (T := TX7) (N := 19) hx hb hts iwX7_came_X7 hown hK hP 0 rfl rfl 12 (by decide) f116 (fun _ h9 => h9) rfl dX7_came_15 ?_
    refine lv_iconst (v := 5) hx hb dX7_came_18 (by decide) ?_
    refine lv_icmp_ne (tgt := 25) hx hb dX7_came_19 (by decide) (fun c_3 => ?_) (fun c_3 => ?_)
    · replace h := h.1 c_3
      refine lv_aload_n hx hb dX7_came_25 rfl (lv_at hl 0 rfl) ?_
      refine va_get (D := (dC, dI)) (ci := 7) (v := .ref a_cameOf) (C := RX7) (T := TX7) (N := 19) hx hb hts iwX7_came_X7 hown hK hP 0 rfl rfl 13 (by decide) f28 (fun _ h9 => h9) rfl dX7_came_26 ?_
      refine lv_aload_n hx hb dX7_came_29 rfl (lv_at hl 0 rfl) ?_
      refine va_get (D := (dC, dI)) (ci := 7) (v := .int v_cames) (C := RX7) (T := TX7) (N := 19) hx hb hts iwX7_came_X7 hown hK hP 0 rfl rfl 12 (by decide) f116 (fun _ h9 => h9) rfl dX7_came_30 ?_
      refine lv_iload_n hx hb dX7_came_33 rfl (lv_at hl 1 rfl) ?_
      have g_4 := h.1
      replace h := h.2
      refine va_iast hx hb hK hP hD hS 1 0 rfl rfl g_4 dX7_came_34 (fun H locs hP hD hS => ?_)
      obtain ⟨f_5, e_6⟩ : ∃ y : Nat → Int32, y = upd v_cameOf (v_cames).toNatClampNeg p0 := ⟨_, rfl⟩
      replace h := h f_5 e_6
      replace hP : va_P (dC, dI) vwCl [(a, .inr (7, [.ref a_text, .int v_size, .int v_at, .int v_begin, .int v_token, .int v_told, .ref a_read, .ref a_hill, .ref a_now, .ref a_undone, .int v_undos, .ref a_need, .int v_cames, .ref a_cameOf, .ref a_places, .ref a_firstRow, .int v_each, .long v_trace, .ref a_kept])), (a_cameOf, .inl (cyI, 5, .inl f_5))] H := by rw [e_6]; exact hP
      replace hD : va_D A [(a, .inr (7, [.ref a_text, .int v_size, .int v_at, .int v_begin, .int v_token, .int v_told, .ref a_read, .ref a_hill, .ref a_now, .ref a_undone, .int v_undos, .ref a_need, .int v_cames, .ref a_cameOf, .ref a_places, .ref a_firstRow, .int v_each, .long v_trace, .ref a_kept])), (a_cameOf, .inl (cyI, 5, .inl f_5))] := by rw [e_6]; exact hD
      refine lv_aload_n hx hb dX7_came_35 rfl (lv_at hl 0 rfl) ?_
      refine lv_dup hx hb dX7_came_36 rfl ?_
      refine va_get (D := (dC, dI)) (ci := 7) (v := .int v_cames) (C := RX7) (T := TX7) (N := 19) hx hb hts iwX7_came_X7 hown hK hP 0 rfl rfl 12 (by decide) f116 (fun _ h9 => h9) rfl dX7_came_37 ?_
      refine lv_iconst (v := 1) hx hb dX7_came_40 (by decide) ?_
      refine lv_iadd hx hb dX7_came_41 ?_
      refine lv_topi (fun n_7 e_8 => ?_)
      replace h := h n_7 e_8
      refine va_put (D := (dC, dI)) (ci := 7) (v := .int n_7) (ty := .int) (C := RX7) (T := TX7) (N := 19) hx hb hts iwX7_came_X7 tyX7 tyX7_ok nmX7 hown hK hP hD hS 0 rfl rfl 12 (by decide) f116 (fun _ h9 => h9) rfl (by decide +kernel) rfl rfl (Nat.le_of_ble_eq_true rfl) dX7_came_42 (fun H locs hP hD hS => ?_)
      replace hP : va_P (dC, dI) vwCl [(a, .inr (7, [.ref a_text, .int v_size, .int v_at, .int v_begin, .int v_token, .int v_told, .ref a_read, .ref a_hill, .ref a_now, .ref a_undone, .int v_undos, .ref a_need, .int n_7, .ref a_cameOf, .ref a_places, .ref a_firstRow, .int v_each, .long v_trace, .ref a_kept])), (a_cameOf, .inl (cyI, 5, .inl f_5))] H := hP
      replace hD : va_D A [(a, .inr (7, [.ref a_text, .int v_size, .int v_at, .int v_begin, .int v_token, .int v_told, .ref a_read, .ref a_hill, .ref a_now, .ref a_undone, .int v_undos, .ref a_need, .int n_7, .ref a_cameOf, .ref a_places, .ref a_firstRow, .int v_each, .long v_trace, .ref a_kept])), (a_cameOf, .inl (cyI, 5, .inl f_5))] := hD
      refine lv_aload_n hx hb dX7_came_45 rfl (lv_at hl 0 rfl) ?_
      refine va_get (D := (dC, dI)) (ci := 7) (v := .int n_7) (C := RX7) (T := TX7) (N := 19) hx hb hts iwX7_came_X7 hown hK hP 0 rfl rfl 12 (by decide) f116 (fun _ h9 => h9) rfl dX7_came_46 ?_
      exact gri2 hx hb hr hlocks h hP hD hS dX7_came_49
    · replace h := h.2 c_3
      refine lv_bipush (v := -3) hx hb dX7_came_22 (by decide) ?_
      exact gri2 hx hb hr hlocks h hP hD hS dX7_came_24
  · replace h := h.2 c_2
    refine lv_iconst (v := -1) hx hb dX7_came_12 (by decide) ?_
    exact gri2 hx hb hr hlocks h hP hD hS dX7_came_13

def F_X7_forget_e  (Q : Int32 → Int32 → Prop) (v_cames : Int32) : Prop :=
  Q v_cames (0 : Int32)
def q_X7_forget (v_cames : Int32) (Q : Int32 → Int32 → Prop) : Prop := F_X7_forget_e  Q v_cames
theorem iwX7_forget_X7 : ∀ w ∈ wsX70, w ∈ wsX7_forget := by decide +kernel
theorem hdV_X7_forget : yX7_forget.cls = RX7 ∧ yX7_forget.cls ≠ "java/lang/invoke/MethodHandle" ∧ yX7_forget.cls ≠ "java/lang/invoke/VarHandle" ∧ (parseMethodDescriptor yX7_forget.desc).map (fun d => d.parameters.length) = some 0 := by decide +kernel
set_option maxHeartbeats 4000000 in
set_option maxRecDepth 100000 in
theorem c_X7_forget (l : Launch) (dC : Nat → ClassId) (dI : Nat → Nat → Nat) (cyC cyI cyZ : ClassId) (sz : Nat) (a a_text a_read a_hill a_now a_undone a_need a_cameOf a_places a_firstRow a_kept : Nat) (v_size : Int32) (v_at : Int32) (v_begin : Int32) (v_token : Int32) (v_told : Int32) (v_undos : Int32) (v_cames : Int32) (v_each : Int32) (v_trace : Int64) {Q : Int32 → Int32 → Prop} (h : q_X7_forget v_cames Q) : Met l yX7_forget wsX7_forget ({ frames := 0, cells := 0, slots := 0, locals := 0 }) (gPc [.ref a] (dC, dI) (gTy cyC cyI cyZ) sz [(a, .inr (7, [.ref a_text, .int v_size, .int v_at, .int v_begin, .int v_token, .int v_told, .ref a_read, .ref a_hill, .ref a_now, .ref a_undone, .int v_undos, .ref a_need, .int v_cames, .ref a_cameOf, .ref a_places, .ref a_firstRow, .int v_each, .long v_trace, .ref a_kept]))]) (gQi1 Q (dC, dI) (va_A [(a, .inr (7, [.ref a_text, .int v_size, .int v_at, .int v_begin, .int v_token, .int v_told, .ref a_read, .ref a_hill, .ref a_now, .ref a_undone, .int v_undos, .ref a_need, .int v_cames, .ref a_cameOf, .ref a_places, .ref a_firstRow, .int v_each, .long v_trace, .ref a_kept]))] sz) (fun (u1 : Int32) => [(a, .inr (7, [.ref a_text, .int v_size, .int v_at, .int v_begin, .int v_token, .int v_told, .ref a_read, .ref a_hill, .ref a_now, .ref a_undone, .int v_undos, .ref a_need, .int u1, .ref a_cameOf, .ref a_places, .ref a_firstRow, .int v_each, .long v_trace, .ref a_kept]))])) 0 0 (va_A [(a, .inr (7, [.ref a_text, .int v_size, .int v_at, .int v_begin, .int v_token, .int v_told, .ref a_read, .ref a_hill, .ref a_now, .ref a_undone, .int v_undos, .ref a_need, .int v_cames, .ref a_cameOf, .ref a_places, .ref a_firstRow, .int v_each, .long v_trace, .ref a_kept]))] sz) := by
  refine gMet (cc := cX7_forget) (maxL := 2) (ret := (some .int)) (own := RX7) (fun A => gQi1 Q (dC, dI) A (fun (u1 : Int32) => [(a, .inr (7, [.ref a_text, .int v_size, .int v_at, .int v_begin, .int v_token, .int v_told, .ref a_read, .ref a_hill, .ref a_now, .ref a_undone, .int v_undos, .ref a_need, .int u1, .ref a_cameOf, .ref a_places, .ref a_firstRow, .int v_each, .long v_trace, .ref a_kept]))])) (by decide) rfl rfl (Nat.le_of_ble_eq_true rfl) ?_
  intro p e s m below meth c A ls C0 _ hK hN hP hD hA hl
  obtain ⟨hx, hb, hr, hml, hown, hts, hlocks⟩ := id C0
  have f116 := hts (.fieldLink RX7 116 "LastOchreModel" "cames" "I") (by decide +kernel)
  have hS : va_S A s.heap s.heap [] := va_S.rf
  replace hl : lv_has ls 2 [(0, .ref a)] := hl
  unfold q_X7_forget at h
  unfold F_X7_forget_e at h
  refine lv_aload_n hx hb dX7_forget_0 rfl (lv_at hl 0 rfl) ?_
  refine va_get (D := (dC, dI)) (ci := 7) (v := .int v_cames) (C := RX7) (T := TX7) (N := 19) hx hb hts iwX7_forget_X7 hown hK hP 0 rfl rfl 12 (by decide) f116 (fun _ h9 => h9) rfl dX7_forget_1 ?_
  refine lv_istore_n (lv' := [(1, .int v_cames), (0, .ref a)]) hx hb dX7_forget_4 rfl hl (by decide) rfl (fun ls hl => ?_)
  refine lv_aload_n hx hb dX7_forget_5 rfl (lv_at hl 1 rfl) ?_
  refine lv_iconst (v := 0) hx hb dX7_forget_6 (by decide) ?_
  refine va_put (D := (dC, dI)) (ci := 7) (v := .int (0 : Int32)) (ty := .int) (C := RX7) (T := TX7) (N := 19) hx hb hts iwX7_forget_X7 tyX7 tyX7_ok nmX7 hown hK hP hD hS 0 rfl rfl 12 (by decide) f116 (fun _ h9 => h9) rfl (by decide +kernel) rfl rfl (Nat.le_of_ble_eq_true rfl) dX7_forget_7 (fun H locs hP hD hS => ?_)
  replace hP : va_P (dC, dI) vwCl [(a, .inr (7, [.ref a_text, .int v_size, .int v_at, .int v_begin, .int v_token, .int v_told, .ref a_read, .ref a_hill, .ref a_now, .ref a_undone, .int v_undos, .ref a_need, .int (0 : Int32), .ref a_cameOf, .ref a_places, .ref a_firstRow, .int v_each, .long v_trace, .ref a_kept]))] H := hP
  replace hD : va_D A [(a, .inr (7, [.ref a_text, .int v_size, .int v_at, .int v_begin, .int v_token, .int v_told, .ref a_read, .ref a_hill, .ref a_now, .ref a_undone, .int v_undos, .ref a_need, .int (0 : Int32), .ref a_cameOf, .ref a_places, .ref a_firstRow, .int v_each, .long v_trace, .ref a_kept]))] := hD
  refine lv_iload_n hx hb dX7_forget_10 rfl (lv_at hl 0 rfl) ?_
  exact gri1 hx hb hr hlocks h hP hD hS dX7_forget_11

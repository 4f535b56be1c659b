def F_X7_rows_e (v_cames : Int32) (v_now : Nat → Int32) (v_hill : Nat → Int32) (v_cameOf : Nat → Int32) (Q : Int32 → Int32 → (Nat → Int32) → (Nat → Int32) → Prop) (rec : Nat → Int32 → Int32 → Int32 → Int32 → Int32 → (Nat → Int32) → (Nat → Int32) → Prop) (v_each : Int32) (v_places : Nat → Int32) (v_firstRow : Nat → Int32) : Prop :=
  ∀ x3_1 : Int32, x3_1 = (v_now ((2 : Int32)).toNatClampNeg) → (∀ f_3 : Nat → Int32, f_3 = upd v_places ((0 : Int32)).toNatClampNeg (-1 : Int32) → (rec 24 (0 : Int32) (0 : Int32) x3_1 0 (65535 : Int32) f_3 v_firstRow))
def F_X7_rows_24 (v_cames : Int32) (v_now : Nat → Int32) (v_hill : Nat → Int32) (v_cameOf : Nat → Int32) (Q : Int32 → Int32 → (Nat → Int32) → (Nat → Int32) → Prop) (rec : Nat → Int32 → Int32 → Int32 → Int32 → Int32 → (Nat → Int32) → (Nat → Int32) → Prop) (x1 : Int32) (x2 : Int32) (x3 : Int32) (x4 : Int32) (v_each : Int32) (v_places : Nat → Int32) (v_firstRow : Nat → Int32) : Prop :=
  (x2 < 0 → (Q x1 v_each v_places v_firstRow)) ∧ (¬ x2 < 0 → ((¬ x2 = v_cames → (vp_in x2 5 ∧ (vp_in x2 5 ∧ (∀ f_9 : Nat → Int32, f_9 = upd v_places (x2).toNatClampNeg ((v_places (x2).toNatClampNeg) + (1 : Int32)) → (rec 131 x1 x2 x3 0 v_each f_9 v_firstRow))))) ∧ (x2 = v_cames → (rec 39 x1 x2 x3 (0 : Int32) v_each v_places v_firstRow))))
def F_X7_rows_39 (v_cames : Int32) (v_now : Nat → Int32) (v_hill : Nat → Int32) (v_cameOf : Nat → Int32) (Q : Int32 → Int32 → (Nat → Int32) → (Nat → Int32) → Prop) (rec : Nat → Int32 → Int32 → Int32 → Int32 → Int32 → (Nat → Int32) → (Nat → Int32) → Prop) (x1 : Int32) (x2 : Int32) (x3 : Int32) (x4 : Int32) (v_each : Int32) (v_places : Nat → Int32) (v_firstRow : Nat → Int32) : Prop :=
  (v_cames ≤ x4 → (rec 72 x1 x2 x3 0 v_each v_places v_firstRow)) ∧ (¬ v_cames ≤ x4 → ((¬ x1 = 0 → (rec 72 x1 x2 x3 0 v_each v_places v_firstRow)) ∧ (x1 = 0 → (vp_in x4 5 ∧ (vp_in x4 5 ∧ (∀ f_15 : Nat → Int32, f_15 = upd v_firstRow (x4).toNatClampNeg (v_places (x4).toNatClampNeg) → (∀ x4_17 : Int32, x4_17 = (x4 + (1 : Int32)) → (rec 39 x1 x2 x3 x4_17 v_each v_places f_15))))))))
def F_X7_rows_72 (v_cames : Int32) (v_now : Nat → Int32) (v_hill : Nat → Int32) (v_cameOf : Nat → Int32) (Q : Int32 → Int32 → (Nat → Int32) → (Nat → Int32) → Prop) (rec : Nat → Int32 → Int32 → Int32 → Int32 → Int32 → (Nat → Int32) → (Nat → Int32) → Prop) (x1 : Int32) (x2 : Int32) (x3 : Int32) (x4 : Int32) (v_each : Int32) (v_places : Nat → Int32) (v_firstRow : Nat → Int32) : Prop :=
  ∀ x1_19 : Int32, x1_19 = (x1 + (1 : Int32)) → (∀ n_21 : Int32, n_21 = (v_each &&& (x3 &&& ((v_now ((2 : Int32)).toNatClampNeg) ^^^ (-1 : Int32)))) → (∀ x2_23 : Int32, x2_23 = (x2 + (-1 : Int32)) → ((0 ≤ x2_23 → (vp_in x2_23 5 ∧ (∀ x3_27 : Int32, x3_27 = (x3 &&& (((1 : Int32) <<< ((v_places (x2_23).toNatClampNeg) &&& 31)) ^^^ (-1 : Int32))) → (rec 24 x1_19 x2_23 x3_27 0 n_21 v_places v_firstRow)))) ∧ (¬ 0 ≤ x2_23 → (∀ x3_29 : Int32, x3_29 = (x3 &&& x3) → (rec 24 x1_19 x2_23 x3_29 0 n_21 v_places v_firstRow))))))
def F_X7_rows_131 (v_cames : Int32) (v_now : Nat → Int32) (v_hill : Nat → Int32) (v_cameOf : Nat → Int32) (Q : Int32 → Int32 → (Nat → Int32) → (Nat → Int32) → Prop) (rec : Nat → Int32 → Int32 → Int32 → Int32 → Int32 → (Nat → Int32) → (Nat → Int32) → Prop) (x1 : Int32) (x2 : Int32) (x3 : Int32) (x4 : Int32) (v_each : Int32) (v_places : Nat → Int32) (v_firstRow : Nat → Int32) : Prop :=
  vp_in x2 5 ∧ (q_X7_cells v_hill (fun (r_32 : Int32) => (r_32 ≤ (v_places (x2).toNatClampNeg) → (rec 194 x1 x2 x3 0 v_each v_places v_firstRow)) ∧ (¬ r_32 ≤ (v_places (x2).toNatClampNeg) → (vp_in x2 5 ∧ (vp_in ((6 : Int32) + (v_places (x2).toNatClampNeg)) 46 ∧ (vp_in x2 5 ∧ ((¬ (v_hill (((6 : Int32) + (v_places (x2).toNatClampNeg))).toNatClampNeg) = (v_cameOf (x2).toNatClampNeg) → (rec 181 x1 x2 x3 0 v_each v_places v_firstRow)) ∧ ((v_hill (((6 : Int32) + (v_places (x2).toNatClampNeg))).toNatClampNeg) = (v_cameOf (x2).toNatClampNeg) → (vp_in x2 5 ∧ (q_X7_may v_hill (v_places (x2).toNatClampNeg) x3 (fun (r_39 : Int32) => (¬ r_39 = 0 → (rec 194 x1 x2 x3 0 v_each v_places v_firstRow)) ∧ (r_39 = 0 → (rec 181 x1 x2 x3 0 v_each v_places v_firstRow)))))))))))))
def F_X7_rows_181 (v_cames : Int32) (v_now : Nat → Int32) (v_hill : Nat → Int32) (v_cameOf : Nat → Int32) (Q : Int32 → Int32 → (Nat → Int32) → (Nat → Int32) → Prop) (rec : Nat → Int32 → Int32 → Int32 → Int32 → Int32 → (Nat → Int32) → (Nat → Int32) → Prop) (x1 : Int32) (x2 : Int32) (x3 : Int32) (x4 : Int32) (v_each : Int32) (v_places : Nat → Int32) (v_firstRow : Nat → Int32) : Prop :=
  vp_in x2 5 ∧ (vp_in x2 5 ∧ (∀ f_43 : Nat → Int32, f_43 = upd v_places (x2).toNatClampNeg ((v_places (x2).toNatClampNeg) + (1 : Int32)) → (rec 131 x1 x2 x3 0 v_each f_43 v_firstRow)))
def F_X7_rows_194 (v_cames : Int32) (v_now : Nat → Int32) (v_hill : Nat → Int32) (v_cameOf : Nat → Int32) (Q : Int32 → Int32 → (Nat → Int32) → (Nat → Int32) → Prop) (rec : Nat → Int32 → Int32 → Int32 → Int32 → Int32 → (Nat → Int32) → (Nat → Int32) → Prop) (x1 : Int32) (x2 : Int32) (x3 : Int32) (x4 : Int32) (v_each : Int32) (v_places : Nat → Int32) (v_firstRow : Nat → Int32) : Prop :=
  vp_in x2 5 ∧ (q_X7_cells v_hill (fun (r_46 : Int32) => (r_46 ≤ (v_places (x2).toNatClampNeg) → (∀ x2_48 : Int32, x2_48 = (x2 + (-1 : Int32)) → ((0 ≤ x2_48 → (vp_in x2_48 5 ∧ (∀ x3_52 : Int32, x3_52 = (x3 &&& (((1 : Int32) <<< ((v_places (x2_48).toNatClampNeg) &&& 31)) ^^^ (-1 : Int32))) → (rec 24 x1 x2_48 x3_52 0 v_each v_places v_firstRow)))) ∧ (¬ 0 ≤ x2_48 → (∀ x3_54 : Int32, x3_54 = (x3 &&& x3) → (rec 24 x1 x2_48 x3_54 0 v_each v_places v_firstRow)))))) ∧ (¬ r_46 ≤ (v_places (x2).toNatClampNeg) → (vp_in x2 5 ∧ (∀ x3_57 : Int32, x3_57 = (x3 ||| ((1 : Int32) <<< ((v_places (x2).toNatClampNeg) &&& 31))) → (∀ x2_59 : Int32, x2_59 = (x2 + (1 : Int32)) → (((5 : Int32) ≤ x2_59 → (rec 24 x1 x2_59 x3_57 0 v_each v_places v_firstRow)) ∧ (¬ (5 : Int32) ≤ x2_59 → (vp_in x2_59 5 ∧ (∀ f_63 : Nat → Int32, f_63 = upd v_places (x2_59).toNatClampNeg (-1 : Int32) → (rec 24 x1 x2_59 x3_57 0 v_each f_63 v_firstRow)))))))))))
def wp_X7_rows (v_cames : Int32) (v_now : Nat → Int32) (v_hill : Nat → Int32) (v_cameOf : Nat → Int32) (Q : Int32 → Int32 → (Nat → Int32) → (Nat → Int32) → Prop) : Nat → Nat → Int32 → Int32 → Int32 → Int32 → Int32 → (Nat → Int32) → (Nat → Int32) → Prop
  | 0 => fun _ _ _ _ _ _ _ _ => False
  | n + 1 => fun t x1 x2 x3 x4 v_each v_places v_firstRow => if t = 24 then F_X7_rows_24 v_cames v_now v_hill v_cameOf Q (wp_X7_rows v_cames v_now v_hill v_cameOf Q n) x1 x2 x3 x4 v_each v_places v_firstRow else if t = 39 then F_X7_rows_39 v_cames v_now v_hill v_cameOf Q (wp_X7_rows v_cames v_now v_hill v_cameOf Q n) x1 x2 x3 x4 v_each v_places v_firstRow else if t = 72 then F_X7_rows_72 v_cames v_now v_hill v_cameOf Q (wp_X7_rows v_cames v_now v_hill v_cameOf Q n) x1 x2 x3 x4 v_each v_places v_firstRow else if t = 131 then F_X7_rows_131 v_cames v_now v_hill v_cameOf Q (wp_X7_rows v_cames v_now v_hill v_cameOf Q n) x1 x2 x3 x4 v_each v_places v_firstRow else if t = 181 then F_X7_rows_181 v_cames v_now v_hill v_cameOf Q (wp_X7_rows v_cames v_now v_hill v_cameOf Q n) x1 x2 x3 x4 v_each v_places v_firstRow else if t = 194 then F_X7_rows_194 v_cames v_now v_hill v_cameOf Q (wp_X7_rows v_cames v_now v_hill v_cameOf Q n) x1 x2 x3 x4 v_each v_places v_firstRow else False
def q_X7_rows (v_cames : Int32) (v_each : Int32) (v_now : Nat → Int32) (v_places : Nat → Int32) (v_firstRow : Nat → Int32) (v_hill : Nat → Int32) (v_cameOf : Nat → Int32) (Q : Int32 → Int32 → (Nat → Int32) → (Nat → Int32) → Prop) : Prop := ∃ n, F_X7_rows_e v_cames v_now v_hill v_cameOf Q (wp_X7_rows v_cames v_now v_hill v_cameOf Q n) v_each v_places v_firstRow
theorem iwX7_rows_X7 : ∀ w ∈ wsX70, w ∈ wsX7_rows := by decide +kernel
theorem hdV_X7_rows : yX7_rows.cls = RX7 ∧ yX7_rows.cls ≠ "java/lang/invoke/MethodHandle" ∧ yX7_rows.cls ≠ "java/lang/invoke/VarHandle" ∧ (parseMethodDescriptor yX7_rows.desc).map (fun d => d.parameters.length) = some 0 := by decide +kernel
set_option maxHeartbeats 4000000 in
set_option maxRecDepth 100000 in
theorem w_X7_rows {p : Program} {l : Launch} {e : Env} {s : State} {m : MethodId} {args : Array Value} {below : List Frame} {meth : Method} {c : Code} {A : Nat → Prop} (dC : Nat → ClassId) (dI : Nat → Nat → Nat) (cyC cyI cyZ : ClassId) (a a_text a_read a_hill a_now a_undone a_need a_cameOf a_places a_firstRow a_kept : Nat) (v_size : Int32) (v_at : Int32) (v_begin : Int32) (v_token : Int32) (v_told : Int32) (v_undos : Int32) (v_cames : Int32) (v_trace : Int64) (v_now : Nat → Int32) (v_hill : Nat → Int32) (v_cameOf : Nat → Int32) (Q : Int32 → Int32 → (Nat → Int32) → (Nat → Int32) → Prop) (C0 : gAt cX7_rows (some .int) 5 RX7 wsX7_rows p s m meth c args) (hK : va_K (dC, dI) vwCl (gTy cyC cyI cyZ) s) (hN : nU s) (hA : ∀ q, s.heap.size ≤ q → A q) : ∀ n : Nat, (∀ (x1 : Int32) (x2 : Int32) (x3 : Int32) (x4 : Int32) (v_each : Int32) (v_places : Nat → Int32) (v_firstRow : Nat → Int32) (H : Heap) (locs : List Loc) (ls : Array Slot), wp_X7_rows v_cames v_now v_hill v_cameOf Q n 24 x1 x2 x3 x4 v_each v_places v_firstRow → va_P (dC, dI) vwCl [(a, .inr (7, [.ref a_text, .int v_size, .int v_at, .int v_begin, .int v_token, .int v_told, .ref a_read, .ref a_hill, .ref a_now, .ref a_undone, .int v_undos, .ref a_need, .int v_cames, .ref a_cameOf, .ref a_places, .ref a_firstRow, .int v_each, .long v_trace, .ref a_kept])), (a_now, .inl (cyI, 15, .inl v_now)), (a_places, .inl (cyI, 5, .inl v_places)), (a_firstRow, .inl (cyI, 5, .inl v_firstRow)), (a_hill, .inl (cyI, 46, .inl v_hill)), (a_cameOf, .inl (cyI, 5, .inl v_cameOf))] H → va_D A [(a, .inr (7, [.ref a_text, .int v_size, .int v_at, .int v_begin, .int v_token, .int v_told, .ref a_read, .ref a_hill, .ref a_now, .ref a_undone, .int v_undos, .ref a_need, .int v_cames, .ref a_cameOf, .ref a_places, .ref a_firstRow, .int v_each, .long v_trace, .ref a_kept])), (a_now, .inl (cyI, 15, .inl v_now)), (a_places, .inl (cyI, 5, .inl v_places)), (a_firstRow, .inl (cyI, 5, .inl v_firstRow)), (a_hill, .inl (cyI, 46, .inl v_hill)), (a_cameOf, .inl (cyI, 5, .inl v_cameOf))] → va_S A s.heap H locs → lv_has ls 5 [(0, .ref a), (1, .int x1), (2, .int x2), (3, .int x3)] → W p l e { frames := 2, cells := 0, slots := 0, locals := 44 } s m args below meth c H locs 0 0 (MQ below (gQi3 Q (dC, dI) A (fun (u1 : Int32) (u2 : Nat → Int32) (u3 : Nat → Int32) => [(a, .inr (7, [.ref a_text, .int v_size, .int v_at, .int v_begin, .int v_token, .int v_told, .ref a_read, .ref a_hill, .ref a_now, .ref a_undone, .int v_undos, .ref a_need, .int v_cames, .ref a_cameOf, .ref a_places, .ref a_firstRow, .int u1, .long v_trace, .ref a_kept])), (a_now, .inl (cyI, 15, .inl v_now)), (a_places, .inl (cyI, 5, .inl u2)), (a_firstRow, .inl (cyI, 5, .inl u3)), (a_hill, .inl (cyI, 46, .inl v_hill)), (a_cameOf, .inl (cyI, 5, .inl v_cameOf))])) args s 0 0 A) (F0 m 24 ls [])) ∧ (∀ (x1 : Int32) (x2 : Int32) (x3 : Int32) (x4 : Int32) (v_each : Int32) (v_places : Nat → Int32) (v_firstRow : Nat → Int32) (H : Heap) (locs : List Loc) (ls : Array Slot), wp_X7_rows v_cames v_now v_hill v_cameOf Q n 39 x1 x2 x3 x4 v_each v_places v_firstRow → va_P (dC, dI) vwCl [(a, .inr (7, [.ref a_text, .int v_size, .int v_at, .int v_begin, .int v_token, .int v_told, .ref a_read, .ref a_hill, .ref a_now, .ref a_undone, .int v_undos, .ref a_need, .int v_cames, .ref a_cameOf, .ref a_places, .ref a_firstRow, .int v_each, .long v_trace, .ref a_kept])), (a_now, .inl (cyI, 15, .inl v_now)), (a_places, .inl (cyI, 5, .inl v_places)), (a_firstRow, .inl (cyI, 5, .inl v_firstRow)), (a_hill, .inl (cyI, 46, .inl v_hill)), (a_cameOf, .inl (cyI, 5, .inl v_cameOf))] H → va_D A [(a, .inr (7, [.ref a_text, .int v_size, .int v_at, .int v_begin, .int v_token, .int v_told, .ref a_read, .ref a_hill, .ref a_now, .ref a_undone, .int v_undos, .ref a_need, .int v_cames, .ref a_cameOf, .ref a_places, .ref a_firstRow, .int v_each, .long v_trace, .ref a_kept])), (a_now, .inl (cyI, 15, .inl v_now)), (a_places, .inl (cyI, 5, .inl v_places)), (a_firstRow, .inl (cyI, 5, .inl v_firstRow)), (a_hill, .inl (cyI, 46, .inl v_hill)), (a_cameOf, .inl (cyI, 5, .inl v_cameOf))] → va_S A s.heap H locs → lv_has ls 5 [(0, .ref a), (1, .int x1), (2, .int x2), (3, .int x3), (4, .int x4)] → W p l e { frames := 2, cells := 0, slots := 0, locals := 44 } s m args below meth c H locs 0 0 (MQ below (gQi3 Q (dC, dI) A (fun (u1 : Int32) (u2 : Nat → Int32) (u3 : Nat → Int32) => [(a, .inr (7, [.ref a_text, .int v_size, .int v_at, .int v_begin, .int v_token, .int v_told, .ref a_read, .ref a_hill, .ref a_now, .ref a_undone, .int v_undos, .ref a_need, .int v_cames, .ref a_cameOf, .ref a_places, .ref a_firstRow, .int u1, .long v_trace, .ref a_kept])), (a_now, .inl (cyI, 15, .inl v_now)), (a_places, .inl (cyI, 5, .inl u2)), (a_firstRow, .inl (cyI, 5, .inl u3)), (a_hill, .inl (cyI, 46, .inl v_hill)), (a_cameOf, .inl (cyI, 5, .inl v_cameOf))])) args s 0 0 A) (F0 m 39 ls [])) ∧ (∀ (x1 : Int32) (x2 : Int32) (x3 : Int32) (x4 : Int32) (v_each : Int32) (v_places : Nat → Int32) (v_firstRow : Nat → Int32) (H : Heap) (locs : List Loc) (ls : Array Slot), wp_X7_rows v_cames v_now v_hill v_cameOf Q n 72 x1 x2 x3 x4 v_each v_places v_firstRow → va_P (dC, dI) vwCl [(a, .inr (7, [.ref a_text, .int v_size, .int v_at, .int v_begin, .int v_token, .int v_told, .ref a_read, .ref a_hill, .ref a_now, .ref a_undone, .int v_undos, .ref a_need, .int v_cames, .ref a_cameOf, .ref a_places, .ref a_firstRow, .int v_each, .long v_trace, .ref a_kept])), (a_now, .inl (cyI, 15, .inl v_now)), (a_places, .inl (cyI, 5, .inl v_places)), (a_firstRow, .inl (cyI, 5, .inl v_firstRow)), (a_hill, .inl (cyI, 46, .inl v_hill)), (a_cameOf, .inl (cyI, 5, .inl v_cameOf))] H → va_D A [(a, .inr (7, [.ref a_text, .int v_size, .int v_at, .int v_begin, .int v_token, .int v_told, .ref a_read, .ref a_hill, .ref a_now, .ref a_undone, .int v_undos, .ref a_need, .int v_cames, .ref a_cameOf, .ref a_places, .ref a_firstRow, .int v_each, .long v_trace, .ref a_kept])), (a_now, .inl (cyI, 15, .inl v_now)), (a_places, .inl (cyI, 5, .inl v_places)), (a_firstRow, .inl (cyI, 5, .inl v_firstRow)), (a_hill, .inl (cyI, 46, .inl v_hill)), (a_cameOf, .inl (cyI, 5, .inl v_cameOf))] → va_S A s.heap H locs → lv_has ls 5 [(0, .ref a), (1, .int x1), (2, .int x2), (3, .int x3)] → W p l e { frames := 2, cells := 0, slots := 0, locals := 44 } s m args below meth c H locs 0 0 (MQ below (gQi3 Q (dC, dI) A (fun (u1 : Int32) (u2 : Nat → Int32) (u3 : Nat → Int32) => [(a, .inr (7, [.ref a_text, .int v_size, .int v_at, .int v_begin, .int v_token, .int v_told, .ref a_read, .ref a_hill, .ref a_now, .ref a_undone, .int v_undos, .ref a_need, .int v_cames, .ref a_cameOf, .ref a_places, .ref a_firstRow, .int u1, .long v_trace, .ref a_kept])), (a_now, .inl (cyI, 15, .inl v_now)), (a_places, .inl (cyI, 5, .inl u2)), (a_firstRow, .inl (cyI, 5, .inl u3)), (a_hill, .inl (cyI, 46, .inl v_hill)), (a_cameOf, .inl (cyI, 5, .inl v_cameOf))])) args s 0 0 A) (F0 m 72 ls [])) ∧ (∀ (x1 : Int32) (x2 : Int32) (x3 : Int32) (x4 : Int32) (v_each : Int32) (v_places : Nat → Int32) (v_firstRow : Nat → Int32) (H : Heap) (locs : List Loc) (ls : Array Slot), wp_X7_rows v_cames v_now v_hill v_cameOf Q n 131 x1 x2 x3 x4 v_each v_places v_firstRow → va_P (dC, dI) vwCl [(a, .inr (7, [.ref a_text, .int v_size, .int v_at, .int v_begin, .int v_token, .int v_told, .ref a_read, .ref a_hill, .ref a_now, .ref a_undone, .int v_undos, .ref a_need, .int v_cames, .ref a_cameOf, .ref a_places, .ref a_firstRow, .int v_each, .long v_trace, .ref a_kept])), (a_now, .inl (cyI, 15, .inl v_now)), (a_places, .inl (cyI, 5, .inl v_places)), (a_firstRow, .inl (cyI, 5, .inl v_firstRow)), (a_hill, .inl (cyI, 46, .inl v_hill)), (a_cameOf, .inl (cyI, 5, .inl v_cameOf))] H → va_D A [(a, .inr (7, [.ref a_text, .int v_size, .int v_at, .int v_begin, .int v_token, .int v_told, .ref a_read, .ref a_hill, .ref a_now, .ref a_undone, .int v_undos, .ref a_need, .int v_cames, .ref a_cameOf, .ref a_places, .ref a_firstRow, .int v_each, .long v_trace, .ref a_kept])), (a_now, .inl (cyI, 15, .inl v_now)), (a_places, .inl (cyI, 5, .inl v_places)), (a_firstRow, .inl (cyI, 5, .inl v_firstRow)), (a_hill, .inl (cyI, 46, .inl v_hill)), (a_cameOf, .inl (cyI, 5, .inl v_cameOf))] → va_S A s.heap H locs → lv_has ls 5 [(0, .ref a), (1, .int x1), (2, .int x2), (3, .int x3)] → W p l e { frames := 2, cells := 0, slots := 0, locals := 44 } s m args below meth c H locs 0 0 (MQ below (gQi3 Q (dC, dI) A (fun (u1 : Int32) (u2 : Nat → Int32) (u3 : Nat → Int32) => [(a, .inr (7, [.ref a_text, .int v_size, .int v_at, .int v_begin, .int v_token, .int v_told, .ref a_read, .ref a_hill, .ref a_now, .ref a_undone, .int v_undos, .ref a_need, .int v_cames, .ref a_cameOf, .ref a_places, .ref a_firstRow, .int u1, .long v_trace, .ref a_kept])), (a_now, .inl (cyI, 15, .inl v_now)), (a_places, .inl (cyI, 5, .inl u2)), (a_firstRow, .inl (cyI, 5, .inl u3)), (a_hill, .inl (cyI, 46, .inl v_hill)), (a_cameOf, .inl (cyI, 5, .inl v_cameOf))])) args s 0 0 A) (F0 m 131 ls [])) ∧ (∀ (x1 : Int32) (x2 : Int32) (x3 : Int32) (x4 : Int32) (v_each : Int32) (v_places : Nat → Int32) (v_firstRow : Nat → Int32) (H : Heap) (locs : List Loc) (ls : Array Slot), wp_X7_rows v_cames v_now v_hill v_cameOf Q n 181 x1 x2 x3 x4 v_each v_places v_firstRow → va_P (dC, dI) vwCl [(a, .inr (7, [.ref a_text, .int v_size, .int v_at, .int v_begin, .int v_token, .int v_told, .ref a_read, .ref a_hill, .ref a_now, .ref a_undone, .int v_undos, .ref a_need, .int v_cames, .ref a_cameOf, .ref a_places, .ref a_firstRow, .int v_each, .long v_trace, .ref a_kept])), (a_now, .inl (cyI, 15, .inl v_now)), (a_places, .inl (cyI, 5, .inl v_places)), (a_firstRow, .inl (cyI, 5, .inl v_firstRow)), (a_hill, .inl (cyI, 46, .inl v_hill)), (a_cameOf, .inl (cyI, 5, .inl v_cameOf))] H → va_D A [(a, .inr (7, [.ref a_text, .int v_size, .int v_at, .int v_begin, .int v_token, .int v_told, .ref a_read, .ref a_hill, .ref a_now, .ref a_undone, .int v_undos, .ref a_need, .int v_cames, .ref a_cameOf, .ref a_places, .ref a_firstRow, .int v_each, .long v_trace, .ref a_kept])), (a_now, .inl (cyI, 15, .inl v_now)), (a_places, .inl (cyI, 5, .inl v_places)), (a_firstRow, .inl (cyI, 5, .inl v_firstRow)), (a_hill, .inl (cyI, 46, .inl v_hill)), (a_cameOf, .inl (cyI, 5, .inl v_cameOf))] → va_S A s.heap H locs → lv_has ls 5 [(0, .ref a), (1, .int x1), (2, .int x2), (3, .int x3)] → W p l e { frames := 2, cells := 0, slots := 0, locals := 44 } s m args below meth c H locs 0 0 (MQ below (gQi3 Q (dC, dI) A (fun (u1 : Int32) (u2 : Nat → Int32) (u3 : Nat → Int32) => [(a, .inr (7, [.ref a_text, .int v_size, .int v_at, .int v_begin, .int v_token, .int v_told, .ref a_read, .ref a_hill, .ref a_now, .ref a_undone, .int v_undos, .ref a_need, .int v_cames, .ref a_cameOf, .ref a_places, .ref a_firstRow, .int u1, .long v_trace, .ref a_kept])), (a_now, .inl (cyI, 15, .inl v_now)), (a_places, .inl (cyI, 5, .inl u2)), (a_firstRow, .inl (cyI, 5, .inl u3)), (a_hill, .inl (cyI, 46, .inl v_hill)), (a_cameOf, .inl (cyI, 5, .inl v_cameOf))])) args s 0 0 A) (F0 m 181 ls [])) ∧ (∀ (x1 : Int32) (x2 : Int32) (x3 : Int32) (x4 : Int32) (v_each : Int32) (v_places : Nat → Int32) (v_firstRow : Nat → Int32) (H : Heap) (locs : List Loc) (ls : Array Slot), wp_X7_rows v_cames v_now v_hill v_cameOf Q n 194 x1 x2 x3 x4 v_each v_places v_firstRow → va_P (dC, dI) vwCl [(a, .inr (7, [.ref a_text, .int v_size, .int v_at, .int v_begin, .int v_token, .int v_told, .ref a_read, .ref a_hill, .ref a_now, .ref a_undone, .int v_undos, .ref a_need, .int v_cames, .ref a_cameOf, .ref a_places, .ref a_firstRow, .int v_each, .long v_trace, .ref a_kept])), (a_now, .inl (cyI, 15, .inl v_now)), (a_places, .inl (cyI, 5, .inl v_places)), (a_firstRow, .inl (cyI, 5, .inl v_firstRow)), (a_hill, .inl (cyI, 46, .inl v_hill)), (a_cameOf, .inl (cyI, 5, .inl v_cameOf))] H → va_D A [(a, .inr (7, [.ref a_text, .int v_size, .int v_at, .int v_begin, .int v_token, .int v_told, .ref a_read, .ref a_hill, .ref a_now, .ref a_undone, .int v_undos, .ref a_need, .int v_cames, .ref a_cameOf, .ref a_places, .ref a_firstRow, .int v_each, .long v_trace, .ref a_kept])), (a_now, .inl (cyI, 15, .inl v_now)), (a_places, .inl (cyI, 5, .inl v_places)), (a_firstRow, .inl (cyI, 5, .inl v_firstRow)), (a_hill, .inl (cyI, 46, .inl v_hill)), (a_cameOf, .inl (cyI, 5, .inl v_cameOf))] → va_S A s.heap H locs → lv_has ls 5 [(0, .ref a), (1, .int x1), (2, .int x2), (3, .int x3)] → W p l e { frames := 2, cells := 0, slots := 0, locals := 44 } s m args below meth c H locs 0 0 (MQ below (gQi3 Q (dC, dI) A (fun (u1 : Int32) (u2 : Nat → Int32) (u3 : Nat → Int32) => [(a, .inr (7, [.ref a_text, .int v_size, .int v_at, .int v_begin, .int v_token, .int v_told, .ref a_read, .ref a_hill, .ref a_now, .ref a_undone, .int v_undos, .ref a_need, .int v_cames, .ref a_cameOf, .ref a_places, .ref a_firstRow, .int u1, .long v_trace, .ref a_kept])), (a_now, .inl (cyI, 15, .inl v_now)), (a_places, .inl (cyI, 5, .inl u2)), (a_firstRow, .inl (cyI, 5, .inl u3)), (a_hill, .inl (cyI, 46, .inl v_hill)), (a_cameOf, .inl (cyI, 5, .inl v_cameOf))])) args s 0 0 A) (F0 m 194 ls [])) := by
  obtain ⟨hx, hb, hr, hml, hown, hts, hlocks⟩ := id C0
  have f116 := hts (.fieldLink RX7 116 "LastOchreModel" "cames" "I") (by decide +kernel)
  have f16 := hts (.fieldLink RX7 16 "LastOchreModel" "hill" "[I") (by decide +kernel)
  have f19 := hts (.fieldLink RX7 19 "LastOchreModel" "now" "[I") (by decide +kernel)
  have f199 := hts (.fieldLink RX7 199 "LastOchreModel" "each" "I") (by decide +kernel)
  have f28 := hts (.fieldLink RX7 28 "LastOchreModel" "cameOf" "[I") (by decide +kernel)
  have f31 := hts (.fieldLink RX7 31 "LastOchreModel" "places" "[I") (by decide +kernel)
  have f34 := hts (.fieldLink RX7 34 "LastOchreModel" "firstRow" "[I") (by decide +kernel)
  intro n
  induction n with
  | zero => exact ⟨fun _ _ _ _ _ _ _ _ _ _ h => absurd h id, fun _ _ _ _ _ _ _ _ _ _ h => absurd h id, fun _ _ _ _ _ _ _ _ _ _ h => absurd h id, fun _ _ _ _ _ _ _ _ _ _ h => absurd h id, fun _ _ _ _ _ _ _ _ _ _ h => absurd h id, fun _ _ _ _ _ _ _ _ _ _ h => absurd h id⟩
  | succ n ih =>
    obtain ⟨ih24, ih39, ih72, ih131, ih181, ih194⟩ := ih
    refine ⟨?_, ?_, ?_, ?_, ?_, ?_⟩
    · intro x1 x2 x3 x4 v_each v_places v_firstRow H locs ls h hP hD hS hl
      replace h : F_X7_rows_24 v_cames v_now v_hill v_cameOf Q (wp_X7_rows v_cames v_now v_hill v_cameOf Q n) x1 x2 x3 x4 v_each v_places v_firstRow := h
      unfold F_X7_rows_24 at h
      refine lv_iload_n hx hb dX7_rows_24 rfl (lv_at hl 2 rfl) ?_
      refine lv_if_lt (tgt := 263) hx hb dX7_rows_25 (by decide) (fun c_5 => ?_) (fun c_5 => ?_)
      · replace h := h.1 c_5
        refine lv_iload_n hx hb dX7_rows_263 rfl (lv_at hl 1 rfl) ?_
        exact gri3 hx hb hr hlocks h hP hD hS dX7_rows_264
      · replace h := h.2 c_5
        refine lv_iload_n hx hb dX7_rows_28 rfl (lv_at hl 2 rfl) ?_
        refine lv_aload_n hx hb dX7_rows_29 rfl (lv_at hl 0 rfl) ?_
        refine va_get (D := (dC, dI)) (ci := 7) (v := .int v_cames) (C := RX7) (T := TX7) (N := 19) hx hb hts iwX7_rows_X7 hown hK hP 0 rfl rfl 12 (by decide) f116 (fun _ h9 => h9) rfl dX7_rows_30 ?_
        refine lv_icmp_ne (tgt := 121) hx hb dX7_rows_33 (by decide) (fun c_6 => ?_) (fun c_6 => ?_)
        · replace h := h.1 c_6
          refine lv_aload_n hx hb dX7_rows_121 rfl (lv_at hl 0 rfl) ?_
          refine va_get (D := (dC, dI)) (ci := 7) (v := .ref a_places) (C := RX7) (T := TX7) (N := 19) hx hb hts iwX7_rows_X7 hown hK hP 0 rfl rfl 14 (by decide) f31 (fun _ h9 => h9) rfl dX7_rows_122 ?_
          refine lv_iload_n hx hb dX7_rows_125 rfl (lv_at hl 2 rfl) ?_
          refine lv_dup2_11 hx hb dX7_rows_126 rfl rfl ?_
          have g_7 := h.1
          replace h := h.2
          refine va_iald hx hb hK hP 2 0 rfl rfl g_7 dX7_rows_127 ?_
          refine lv_iconst (v := 1) hx hb dX7_rows_128 (by decide) ?_
          refine lv_iadd hx hb dX7_rows_129 ?_
          have g_8 := h.1
          replace h := h.2
          refine va_iast hx hb hK hP hD hS 2 0 rfl rfl g_8 dX7_rows_130 (fun H locs hP hD hS => ?_)
          obtain ⟨f_9, e_10⟩ : ∃ y : Nat → Int32, y = upd v_places (x2).toNatClampNeg ((v_places (x2).toNatClampNeg) + (1 : Int32)) := ⟨_, rfl⟩
          replace h := h f_9 e_10
          replace hP : va_P (dC, dI) vwCl [(a, .inr (7, [.ref a_text, .int v_size, .int v_at, .int v_begin, .int v_token, .int v_told, .ref a_read, .ref a_hill, .ref a_now, .ref a_undone, .int v_undos, .ref a_need, .int v_cames, .ref a_cameOf, .ref a_places, .ref a_firstRow, .int v_each, .long v_trace, .ref a_kept])), (a_now, .inl (cyI, 15, .inl v_now)), (a_places, .inl (cyI, 5, .inl f_9)), (a_firstRow, .inl (cyI, 5, .inl v_firstRow)), (a_hill, .inl (cyI, 46, .inl v_hill)), (a_cameOf, .inl (cyI, 5, .inl v_cameOf))] H := by rw [e_10]; exact hP
          replace hD : va_D A [(a, .inr (7, [.ref a_text, .int v_size, .int v_at, .int v_begin, .int v_token, .int v_told, .ref a_read, .ref a_hill, .ref a_now, .ref a_undone, .int v_undos, .ref a_need, .int v_cames, .ref a_cameOf, .ref a_places, .ref a_firstRow, .int v_each, .long v_trace, .ref a_kept])), (a_now, .inl (cyI, 15, .inl v_now)), (a_places, .inl (cyI, 5, .inl f_9)), (a_firstRow, .inl (cyI, 5, .inl v_firstRow)), (a_hill, .inl (cyI, 46, .inl v_hill)), (a_cameOf, .inl (cyI, 5, .inl v_cameOf))] := by rw [e_10]; exact hD
          exact ih131 x1 x2 x3 0 v_each f_9 v_firstRow _ _ _ h hP hD hS (lv_sub hl [0, 1, 2, 3] rfl)
        · replace h := h.2 c_6
          refine lv_iconst (v := 0) hx hb dX7_rows_36 (by decide) ?_
          refine lv_istore (lv' := [(4, .int (0 : Int32)), (0, .ref a), (1, .int x1), (2, .int x2), (3, .int x3)]) hx hb dX7_rows_37 hl (by decide) rfl (fun ls hl => ?_)
          exact ih39 x1 x2 x3 (0 : Int32) v_each v_places v_firstRow _ _ _ h hP hD hS (lv_sub hl [1, 2, 3, 4, 0] rfl)
    · intro x1 x2 x3 x4 v_each v_places v_firstRow H locs ls h hP hD hS hl
      replace h : F_X7_rows_39 v_cames v_now v_hill v_cameOf Q (wp_X7_rows v_cames v_now v_hill v_cameOf Q n) x1 x2 x3 x4 v_each v_places v_firstRow := h
      unfold F_X7_rows_39 at h
      refine lv_iload hx hb dX7_rows_39 (lv_at hl 4 rfl) ?_
      refine lv_aload_n hx hb dX7_rows_41 rfl (lv_at hl 0 rfl) ?_
      refine va_get (D := (dC, dI)) (ci := 7) (v := .int v_cames) (C := RX7) (T := TX7) (N := 19) hx hb hts iwX7_rows_X7 hown hK hP 0 rfl rfl 12 (by decide) f116 (fun _ h9 => h9) rfl dX7_rows_42 ?_
      refine lv_icmp_ge (tgt := 72) hx hb dX7_rows_45 (by decide) (fun c_11 => ?_) (fun c_11 => ?_)
      · replace h := h.1 c_11
        exact ih72 x1 x2 x3 0 v_each v_places v_firstRow _ _ _ h hP hD hS (lv_sub hl [0, 1, 2, 3] rfl)
      · replace h := h.2 c_11
        refine lv_iload_n hx hb dX7_rows_48 rfl (lv_at hl 1 rfl) ?_
        refine lv_if_ne (tgt := 72) hx hb dX7_rows_49 (by decide) (fun c_12 => ?_) (fun c_12 => ?_)
        · replace h := h.1 c_12
          exact ih72 x1 x2 x3 0 v_each v_places v_firstRow _ _ _ h hP hD hS (lv_sub hl [0, 1, 2, 3] rfl)
        · replace h := h.2 c_12
          refine lv_aload_n hx hb dX7_rows_52 rfl (lv_at hl 0 rfl) ?_
          refine va_get (D := (dC, dI)) (ci := 7) (v := .ref a_firstRow) (C := RX7) (T := TX7) (N := 19) hx hb hts iwX7_rows_X7 hown hK hP 0 rfl rfl 15 (by decide) f34 (fun _ h9 => h9) rfl dX7_rows_53 ?_
          refine lv_iload hx hb dX7_rows_56 (lv_at hl 4 rfl) ?_
          refine lv_aload_n hx hb dX7_rows_58 rfl (lv_at hl 0 rfl) ?_
          refine va_get (D := (dC, dI)) (ci := 7) (v := .ref a_places) (C := RX7) (T := TX7) (N := 19) hx hb hts iwX7_rows_X7 hown hK hP 0 rfl rfl 14 (by decide) f31 (fun _ h9 => h9) rfl dX7_rows_59 ?_
          refine lv_iload hx hb dX7_rows_62 (lv_at hl 4 rfl) ?_
          have g_13 := h.1
          replace h := h.2
          refine va_iald hx hb hK hP 2 0 rfl rfl g_13 dX7_rows_64 ?_
          have g_14 := h.1
          replace h := h.2
          refine va_iast hx hb hK hP hD hS 3 0 rfl rfl g_14 dX7_rows_65 (fun H locs hP hD hS => ?_)
          obtain ⟨f_15, e_16⟩ : ∃ y : Nat → Int32, y = upd v_firstRow (x4).toNatClampNeg (v_places (x4).toNatClampNeg) := ⟨_, rfl⟩
          replace h := h f_15 e_16
          replace hP : va_P (dC, dI) vwCl [(a, .inr (7, [.ref a_text, .int v_size, .int v_at, .int v_begin, .int v_token, .int v_told, .ref a_read, .ref a_hill, .ref a_now, .ref a_undone, .int v_undos, .ref a_need, .int v_cames, .ref a_cameOf, .ref a_places, .ref a_firstRow, .int v_each, .long v_trace, .ref a_kept])), (a_now, .inl (cyI, 15, .inl v_now)), (a_places, .inl (cyI, 5, .inl v_places)), (a_firstRow, .inl (cyI, 5, .inl f_15)), (a_hill, .inl (cyI, 46, .inl v_hill)), (a_cameOf, .inl (cyI, 5, .inl v_cameOf))] H := by rw [e_16]; exact hP
          replace hD : va_D A [(a, .inr (7, [.ref a_text, .int v_size, .int v_at, .int v_begin, .int v_token, .int v_told, .ref a_read, .ref a_hill, .ref a_now, .ref a_undone, .int v_undos, .ref a_need, .int v_cames, .ref a_cameOf, .ref a_places, .ref a_firstRow, .int v_each, .long v_trace, .ref a_kept])), (a_now, .inl (cyI, 15, .inl v_now)), (a_places, .inl (cyI, 5, .inl v_places)), (a_firstRow, .inl (cyI, 5, .inl f_15)), (a_hill, .inl (cyI, 46, .inl v_hill)), (a_cameOf, .inl (cyI, 5, .inl v_cameOf))] := by rw [e_16]; exact hD
          obtain ⟨x4_17, e_18⟩ : ∃ y : Int32, y = (x4 + (1 : Int32)) := ⟨_, rfl⟩
          replace h := h x4_17 e_18
          refine lv_iinc (v := x4_17) (lv' := [(4, .int x4_17), (0, .ref a), (1, .int x1), (2, .int x2), (3, .int x3)]) hx hb dX7_rows_66 hl (k := 4) rfl (by rw [e_18]; rfl) (by decide) rfl (fun ls hl => ?_)
          refine lv_goto (tgt := 39) hx hb dX7_rows_69 (by decide) ?_
          exact ih39 x1 x2 x3 x4_17 v_each v_places f_15 _ _ _ h hP hD hS (lv_sub hl [1, 2, 3, 4, 0] rfl)
    · intro x1 x2 x3 x4 v_each v_places v_firstRow H locs ls h hP hD hS hl
      replace h : F_X7_rows_72 v_cames v_now v_hill v_cameOf Q (wp_X7_rows v_cames v_now v_hill v_cameOf Q n) x1 x2 x3 x4 v_each v_places v_firstRow := h
      unfold F_X7_rows_72 at h
      obtain ⟨x1_19, e_20⟩ : ∃ y : Int32, y = (x1 + (1 : Int32)) := ⟨_, rfl⟩
      replace h := h x1_19 e_20
      refine lv_iinc (v := x1_19) (lv' := [(1, .int x1_19), (0, .ref a), (2, .int x2), (3, .int x3)]) hx hb dX7_rows_72 hl (k := 1) rfl (by rw [e_20]; rfl) (by decide) rfl (fun ls hl => ?_)
      refine lv_aload_n hx hb dX7_rows_75 rfl (lv_at hl 1 rfl) ?_
      refine lv_dup hx hb dX7_rows_76 rfl ?_
      refine va_get (D := (dC, dI)) (ci := 7) (v := .int v_each) (C := RX7) (T := TX7) (N := 19) hx hb hts iwX7_rows_X7 hown hK hP 0 rfl rfl 16 (by decide) f199 (fun _ h9 => h9) rfl dX7_rows_77 ?_
      refine lv_iload_n hx hb dX7_rows_80 rfl (lv_at hl 3 rfl) ?_
      refine lv_aload_n hx hb dX7_rows_81 rfl (lv_at hl 1 rfl) ?_
      refine va_get (D := (dC, dI)) (ci := 7) (v := .ref a_now) (C := RX7) (T := TX7) (N := 19) hx hb hts iwX7_rows_X7 hown hK hP 0 rfl rfl 8 (by decide) f19 (fun _ h9 => h9) rfl dX7_rows_82 ?_
      refine lv_iconst (v := 2) hx hb dX7_rows_85 (by decide) ?_
      refine va_iald hx hb hK hP 1 0 rfl rfl (by unfold vp_in; decide) dX7_rows_86 ?_
      refine lv_iconst (v := -1) hx hb dX7_rows_87 (by decide) ?_
      refine lv_ixor hx hb dX7_rows_88 ?_
      refine lv_iand hx hb dX7_rows_89 ?_
      refine lv_iand hx hb dX7_rows_90 ?_
      refine lv_topi (fun n_21 e_22 => ?_)
      replace h := h n_21 e_22
      refine va_put (D := (dC, dI)) (ci := 7) (v := .int n_21) (ty := .int) (C := RX7) (T := TX7) (N := 19) hx hb hts iwX7_rows_X7 tyX7 tyX7_ok nmX7 hown hK hP hD hS 0 rfl rfl 16 (by decide) f199 (fun _ h9 => h9) rfl (by decide +kernel) rfl rfl (Nat.le_of_ble_eq_true rfl) dX7_rows_91 (fun H locs hP hD hS => ?_)
      replace hP : va_P (dC, dI) vwCl [(a, .inr (7, [.ref a_text, .int v_size, .int v_at, .int v_begin, .int v_token, .int v_told, .ref a_read, .ref a_hill, .ref a_now, .ref a_undone, .int v_undos, .ref a_need, .int v_cames, .ref a_cameOf, .ref a_places, .ref a_firstRow, .int n_21, .long v_trace, .ref a_kept])), (a_now, .inl (cyI, 15, .inl v_now)), (a_places, .inl (cyI, 5, .inl v_places)), (a_firstRow, .inl (cyI, 5, .inl v_firstRow)), (a_hill, .inl (cyI, 46, .inl v_hill)), (a_cameOf, .inl (cyI, 5, .inl v_cameOf))] H := hP
      replace hD : va_D A [(a, .inr (7, [.ref a_text, .int v_size, .int v_at, .int v_begin, .int v_token, .int v_told, .ref a_read, .ref a_hill, .ref a_now, .ref a_undone, .int v_undos, .ref a_need, .int v_cames, .ref a_cameOf, .ref a_places, .ref a_firstRow, .int n_21, .long v_trace, .ref a_kept])), (a_now, .inl (cyI, 15, .inl v_now)), (a_places, .inl (cyI, 5, .inl v_places)), (a_firstRow, .inl (cyI, 5, .inl v_firstRow)), (a_hill, .inl (cyI, 46, .inl v_hill)), (a_cameOf, .inl (cyI, 5, .inl v_cameOf))] := hD
      obtain ⟨x2_23, e_24⟩ : ∃ y : Int32, y = (x2 + (-1 : Int32)) := ⟨_, rfl⟩
      replace h := h x2_23 e_24
      refine lv_iinc (v := x2_23) (lv' := [(2, .int x2_23), (1, .int x1_19), (0, .ref a), (3, .int x3)]) hx hb dX7_rows_94 hl (k := 2) rfl (by rw [e_24]; rfl) (by decide) rfl (fun ls hl => ?_)
      refine lv_iload_n hx hb dX7_rows_97 rfl (lv_at hl 3 rfl) ?_
      refine lv_iload_n hx hb dX7_rows_98 rfl (lv_at hl 0 rfl) ?_
      refine lv_if_ge (tgt := 106) hx hb dX7_rows_99 (by decide) (fun c_25 => ?_) (fun c_25 => ?_)
      · replace h := h.1 c_25
        refine lv_iconst (v := 1) hx hb dX7_rows_106 (by decide) ?_
        refine lv_aload_n hx hb dX7_rows_107 rfl (lv_at hl 2 rfl) ?_
        refine va_get (D := (dC, dI)) (ci := 7) (v := .ref a_places) (C := RX7) (T := TX7) (N := 19) hx hb hts iwX7_rows_X7 hown hK hP 0 rfl rfl 14 (by decide) f31 (fun _ h9 => h9) rfl dX7_rows_108 ?_
        refine lv_iload_n hx hb dX7_rows_111 rfl (lv_at hl 0 rfl) ?_
        have g_26 := h.1
        replace h := h.2
        refine va_iald hx hb hK hP 2 0 rfl rfl g_26 dX7_rows_112 ?_
        refine lv_ishl hx hb dX7_rows_113 ?_
        refine lv_iconst (v := -1) hx hb dX7_rows_114 (by decide) ?_
        refine lv_ixor hx hb dX7_rows_115 ?_
        refine lv_iand hx hb dX7_rows_116 ?_
        refine lv_topi (fun x3_27 e_28 => ?_)
        replace h := h x3_27 e_28
        refine lv_istore_n (lv' := [(3, .int x3_27), (2, .int x2_23), (1, .int x1_19), (0, .ref a)]) hx hb dX7_rows_117 rfl hl (by decide) rfl (fun ls hl => ?_)
        refine lv_goto (tgt := 24) hx hb dX7_rows_118 (by decide) ?_
        exact ih24 x1_19 x2_23 x3_27 0 n_21 v_places v_firstRow _ _ _ h hP hD hS (lv_sub hl [3, 2, 1, 0] rfl)
      · replace h := h.2 c_25
        refine lv_iload_n hx hb dX7_rows_102 rfl (lv_at hl 3 rfl) ?_
        refine lv_goto (tgt := 116) hx hb dX7_rows_103 (by decide) ?_
        refine lv_iand hx hb dX7_rows_116 ?_
        refine lv_topi (fun x3_29 e_30 => ?_)
        replace h := h x3_29 e_30
        refine lv_istore_n (lv' := [(3, .int x3_29), (2, .int x2_23), (1, .int x1_19), (0, .ref a)]) hx hb dX7_rows_117 rfl hl (by decide) rfl (fun ls hl => ?_)
        refine lv_goto (tgt := 24) hx hb dX7_rows_118 (by decide) ?_
        exact ih24 x1_19 x2_23 x3_29 0 n_21 v_places v_firstRow _ _ _ h hP hD hS (lv_sub hl [3, 2, 1, 0] rfl)
    · intro x1 x2 x3 x4 v_each v_places v_firstRow H locs ls h hP hD hS hl
      replace h : F_X7_rows_131 v_cames v_now v_hill v_cameOf Q (wp_X7_rows v_cames v_now v_hill v_cameOf Q n) x1 x2 x3 x4 v_each v_places v_firstRow := h
      unfold F_X7_rows_131 at h
      refine lv_aload_n hx hb dX7_rows_131 rfl (lv_at hl 0 rfl) ?_
      refine va_get (D := (dC, dI)) (ci := 7) (v := .ref a_places) (C := RX7) (T := TX7) (N := 19) hx hb hts iwX7_rows_X7 hown hK hP 0 rfl rfl 14 (by decide) f31 (fun _ h9 => h9) rfl dX7_rows_132 ?_
      refine lv_iload_n hx hb dX7_rows_135 rfl (lv_at hl 2 rfl) ?_
      have g_31 := h.1
      replace h := h.2
      refine va_iald hx hb hK hP 2 0 rfl rfl g_31 dX7_rows_136 ?_
      refine lv_aload_n hx hb dX7_rows_137 rfl (lv_at hl 0 rfl) ?_
      refine gV_i0 (As := []) (rest := [.int (v_places (x2).toNatClampNeg)]) ⟨hx, hb, hml, hown, hts⟩ (c_X7_cells l dC dI cyC cyI cyZ _ a a_text a_read a_hill a_now a_undone a_need a_cameOf a_places a_firstRow a_kept v_size v_at v_begin v_token v_told v_undos v_cames v_each v_trace v_hill h) (cwV 0 hts gX7_rows_X7_cells rfl rfl rfl hdV_X7_cells ⟨Nat.le_of_ble_eq_true rfl, Nat.le_of_ble_eq_true rfl⟩) hK hN hP hD hS hA [0, 4] (by decide) rfl (ci := 7) rfl rfl rfl hl.1 rfl (Nat.le_of_ble_eq_true rfl) dX7_rows_138 ⟨Nat.zero_le _, Nat.zero_le _⟩ (fun r_32 H locs h hP hS => ?_)
      refine lv_icmp_ge (tgt := 194) hx hb dX7_rows_141 (by decide) (fun c_33 => ?_) (fun c_33 => ?_)
      · replace h := h.1 c_33
        exact ih194 x1 x2 x3 0 v_each v_places v_firstRow _ _ _ h hP hD hS (lv_sub hl [0, 1, 2, 3] rfl)
      · replace h := h.2 c_33
        refine lv_aload_n hx hb dX7_rows_144 rfl (lv_at hl 0 rfl) ?_
        refine va_get (D := (dC, dI)) (ci := 7) (v := .ref a_hill) (C := RX7) (T := TX7) (N := 19) hx hb hts iwX7_rows_X7 hown hK hP 0 rfl rfl 7 (by decide) f16 (fun _ h9 => h9) rfl dX7_rows_145 ?_
        refine lv_bipush (v := 6) hx hb dX7_rows_148 (by decide) ?_
        refine lv_aload_n hx hb dX7_rows_150 rfl (lv_at hl 0 rfl) ?_
        refine va_get (D := (dC, dI)) (ci := 7) (v := .ref a_places) (C := RX7) (T := TX7) (N := 19) hx hb hts iwX7_rows_X7 hown hK hP 0 rfl rfl 14 (by decide) f31 (fun _ h9 => h9) rfl dX7_rows_151 ?_
        refine lv_iload_n hx hb dX7_rows_154 rfl (lv_at hl 2 rfl) ?_
        have g_34 := h.1
        replace h := h.2
        refine va_iald hx hb hK hP 2 0 rfl rfl g_34 dX7_rows_155 ?_
        refine lv_iadd hx hb dX7_rows_156 ?_
        have g_35 := h.1
        replace h := h.2
        refine va_iald hx hb hK hP 4 0 rfl rfl g_35 dX7_rows_157 ?_
        refine lv_aload_n hx hb dX7_rows_158 rfl (lv_at hl 0 rfl) ?_
        refine va_get (D := (dC, dI)) (ci := 7) (v := .ref a_cameOf) (C := RX7) (T := TX7) (N := 19) hx hb hts iwX7_rows_X7 hown hK hP 0 rfl rfl 13 (by decide) f28 (fun _ h9 => h9) rfl dX7_rows_159 ?_
        refine lv_iload_n hx hb dX7_rows_162 rfl (lv_at hl 2 rfl) ?_
        have g_36 := h.1
        replace h := h.2
        refine va_iald hx hb hK hP 5 0 rfl rfl g_36 dX7_rows_163 ?_
        refine lv_icmp_ne (tgt := 181) hx hb dX7_rows_164 (by decide) (fun c_37 => ?_) (fun c_37 => ?_)
        · replace h := h.1 c_37
          exact ih181 x1 x2 x3 0 v_each v_places v_firstRow _ _ _ h hP hD hS (lv_sub hl [0, 1, 2, 3] rfl)
        · replace h := h.2 c_37
          refine lv_aload_n hx hb dX7_rows_167 rfl (lv_at hl 0 rfl) ?_
          refine lv_aload_n hx hb dX7_rows_168 rfl (lv_at hl 0 rfl) ?_
          refine va_get (D := (dC, dI)) (ci := 7) (v := .ref a_places) (C := RX7) (T := TX7) (N := 19) hx hb hts iwX7_rows_X7 hown hK hP 0 rfl rfl 14 (by decide) f31 (fun _ h9 => h9) rfl dX7_rows_169 ?_
          refine lv_iload_n hx hb dX7_rows_172 rfl (lv_at hl 2 rfl) ?_
          have g_38 := h.1
          replace h := h.2
          refine va_iald hx hb hK hP 2 0 rfl rfl g_38 dX7_rows_173 ?_
          refine lv_iload_n hx hb dX7_rows_174 rfl (lv_at hl 3 rfl) ?_
          refine gV_i0 (As := [.int (v_places (x2).toNatClampNeg), .int x3]) (rest := []) ⟨hx, hb, hml, hown, hts⟩ (c_X7_may l dC dI cyC cyI cyZ _ a a_text a_read a_hill a_now a_undone a_need a_cameOf a_places a_firstRow a_kept v_size v_at v_begin v_token v_told v_undos v_cames v_each v_trace v_hill (v_places (x2).toNatClampNeg) x3 h) (cwV 2 hts gX7_rows_X7_may rfl rfl rfl hdV_X7_may ⟨Nat.le_of_ble_eq_true rfl, Nat.le_of_ble_eq_true rfl⟩) hK hN hP hD hS hA [0, 4] (by decide) rfl (ci := 7) rfl rfl rfl hl.1 rfl (Nat.le_of_ble_eq_true rfl) dX7_rows_175 ⟨Nat.zero_le _, Nat.zero_le _⟩ (fun r_39 H locs h hP hS => ?_)
          refine lv_if_ne (tgt := 194) hx hb dX7_rows_178 (by decide) (fun c_40 => ?_) (fun c_40 => ?_)
          · replace h := h.1 c_40
            exact ih194 x1 x2 x3 0 v_each v_places v_firstRow _ _ _ h hP hD hS (lv_sub hl [0, 1, 2, 3] rfl)
          · replace h := h.2 c_40
            exact ih181 x1 x2 x3 0 v_each v_places v_firstRow _ _ _ h hP hD hS (lv_sub hl [0, 1, 2, 3] rfl)
    · intro x1 x2 x3 x4 v_each v_places v_firstRow H locs ls h hP hD hS hl
      replace h : F_X7_rows_181 v_cames v_now v_hill v_cameOf Q (wp_X7_rows v_cames v_now v_hill v_cameOf Q n) x1 x2 x3 x4 v_each v_places v_firstRow := h
      unfold F_X7_rows_181 at h
      refine lv_aload_n hx hb dX7_rows_181 rfl (lv_at hl 0 rfl) ?_
      refine va_get (D := (dC, dI)) (ci := 7) (v := .ref a_places) (C := RX7) (T := TX7) (N := 19) hx hb hts iwX7_rows_X7 hown hK hP 0 rfl rfl 14 (by decide) f31 (fun _ h9 => h9) rfl dX7_rows_182 ?_
      refine lv_iload_n hx hb dX7_rows_185 rfl (lv_at hl 2 rfl) ?_
      refine lv_dup2_11 hx hb dX7_rows_186 rfl rfl ?_
      have g_41 := h.1
      replace h := h.2
      refine va_iald hx hb hK hP 2 0 rfl rfl g_41 dX7_rows_187 ?_
      refine lv_iconst (v := 1) hx hb dX7_rows_188 (by decide) ?_
      refine lv_iadd hx hb dX7_rows_189 ?_
      have g_42 := h.1
      replace h := h.2
      refine va_iast hx hb hK hP hD hS 2 0 rfl rfl g_42 dX7_rows_190 (fun H locs hP hD hS => ?_)
      obtain ⟨f_43, e_44⟩ : ∃ y : Nat → Int32, y = upd v_places (x2).toNatClampNeg ((v_places (x2).toNatClampNeg) + (1 : Int32)) := ⟨_, rfl⟩
      replace h := h f_43 e_44
      replace hP : va_P (dC, dI) vwCl [(a, .inr (7, [.ref a_text, .int v_size, .int v_at, .int v_begin, .int v_token, .int v_told, .ref a_read, .ref a_hill, .ref a_now, .ref a_undone, .int v_undos, .ref a_need, .int v_cames, .ref a_cameOf, .ref a_places, .ref a_firstRow, .int v_each, .long v_trace, .ref a_kept])), (a_now, .inl (cyI, 15, .inl v_now)), (a_places, .inl (cyI, 5, .inl f_43)), (a_firstRow, .inl (cyI, 5, .inl v_firstRow)), (a_hill, .inl (cyI, 46, .inl v_hill)), (a_cameOf, .inl (cyI, 5, .inl v_cameOf))] H := by rw [e_44]; exact hP
      replace hD : va_D A [(a, .inr (7, [.ref a_text, .int v_size, .int v_at, .int v_begin, .int v_token, .int v_told, .ref a_read, .ref a_hill, .ref a_now, .ref a_undone, .int v_undos, .ref a_need, .int v_cames, .ref a_cameOf, .ref a_places, .ref a_firstRow, .int v_each, .long v_trace, .ref a_kept])), (a_now, .inl (cyI, 15, .inl v_now)), (a_places, .inl (cyI, 5, .inl f_43)), (a_firstRow, .inl (cyI, 5, .inl v_firstRow)), (a_hill, .inl (cyI, 46, .inl v_hill)), (a_cameOf, .inl (cyI, 5, .inl v_cameOf))] := by rw [e_44]; exact hD
      refine lv_goto (tgt := 131) hx hb dX7_rows_191 (by decide) ?_
      exact ih131 x1 x2 x3 0 v_each f_43 v_firstRow _ _ _ h hP hD hS (lv_sub hl [0, 1, 2, 3] rfl)
    · intro x1 x2 x3 x4 v_each v_places v_firstRow H locs ls h hP hD hS hl
      replace h : F_X7_rows_194 v_cames v_now v_hill v_cameOf Q (wp_X7_rows v_cames v_now v_hill v_cameOf Q n) x1 x2 x3 x4 v_each v_places v_firstRow := h
      unfold F_X7_rows_194 at h
      refine lv_aload_n hx hb dX7_rows_194 rfl (lv_at hl 0 rfl) ?_
      refine va_get (D := (dC, dI)) (ci := 7) (v := .ref a_places) (C := RX7) (T := TX7) (N := 19) hx hb hts iwX7_rows_X7 hown hK hP 0 rfl rfl 14 (by decide) f31 (fun _ h9 => h9) rfl dX7_rows_195 ?_
      refine lv_iload_n hx hb dX7_rows_198 rfl (lv_at hl 2 rfl) ?_
      have g_45 := h.1
      replace h := h.2
      refine va_iald hx hb hK hP 2 0 rfl rfl g_45 dX7_rows_199 ?_
      refine lv_aload_n hx hb dX7_rows_200 rfl (lv_at hl 0 rfl) ?_
      refine gV_i0 (As := []) (rest := [.int (v_places (x2).toNatClampNeg)]) ⟨hx, hb, hml, hown, hts⟩ (c_X7_cells l dC dI cyC cyI cyZ _ a a_text a_read a_hill a_now a_undone a_need a_cameOf a_places a_firstRow a_kept v_size v_at v_begin v_token v_told v_undos v_cames v_each v_trace v_hill h) (cwV 0 hts gX7_rows_X7_cells rfl rfl rfl hdV_X7_cells ⟨Nat.le_of_ble_eq_true rfl, Nat.le_of_ble_eq_true rfl⟩) hK hN hP hD hS hA [0, 4] (by decide) rfl (ci := 7) rfl rfl rfl hl.1 rfl (Nat.le_of_ble_eq_true rfl) dX7_rows_201 ⟨Nat.zero_le _, Nat.zero_le _⟩ (fun r_46 H locs h hP hS => ?_)
      refine lv_icmp_ge (tgt := 236) hx hb dX7_rows_204 (by decide) (fun c_47 => ?_) (fun c_47 => ?_)
      · replace h := h.1 c_47
        obtain ⟨x2_48, e_49⟩ : ∃ y : Int32, y = (x2 + (-1 : Int32)) := ⟨_, rfl⟩
        replace h := h x2_48 e_49
        refine lv_iinc (v := x2_48) (lv' := [(2, .int x2_48), (0, .ref a), (1, .int x1), (3, .int x3)]) hx hb dX7_rows_236 hl (k := 2) rfl (by rw [e_49]; rfl) (by decide) rfl (fun ls hl => ?_)
        refine lv_iload_n hx hb dX7_rows_239 rfl (lv_at hl 3 rfl) ?_
        refine lv_iload_n hx hb dX7_rows_240 rfl (lv_at hl 0 rfl) ?_
        refine lv_if_ge (tgt := 248) hx hb dX7_rows_241 (by decide) (fun c_50 => ?_) (fun c_50 => ?_)
        · replace h := h.1 c_50
          refine lv_iconst (v := 1) hx hb dX7_rows_248 (by decide) ?_
          refine lv_aload_n hx hb dX7_rows_249 rfl (lv_at hl 1 rfl) ?_
          refine va_get (D := (dC, dI)) (ci := 7) (v := .ref a_places) (C := RX7) (T := TX7) (N := 19) hx hb hts iwX7_rows_X7 hown hK hP 0 rfl rfl 14 (by decide) f31 (fun _ h9 => h9) rfl dX7_rows_250 ?_
          refine lv_iload_n hx hb dX7_rows_253 rfl (lv_at hl 0 rfl) ?_
          have g_51 := h.1
          replace h := h.2
          refine va_iald hx hb hK hP 2 0 rfl rfl g_51 dX7_rows_254 ?_
          refine lv_ishl hx hb dX7_rows_255 ?_
          refine lv_iconst (v := -1) hx hb dX7_rows_256 (by decide) ?_
          refine lv_ixor hx hb dX7_rows_257 ?_
          refine lv_iand hx hb dX7_rows_258 ?_
          refine lv_topi (fun x3_52 e_53 => ?_)
          replace h := h x3_52 e_53
          refine lv_istore_n (lv' := [(3, .int x3_52), (2, .int x2_48), (0, .ref a), (1, .int x1)]) hx hb dX7_rows_259 rfl hl (by decide) rfl (fun ls hl => ?_)
          refine lv_goto (tgt := 24) hx hb dX7_rows_260 (by decide) ?_
          exact ih24 x1 x2_48 x3_52 0 v_each v_places v_firstRow _ _ _ h hP hD hS (lv_sub hl [2, 3, 1, 0] rfl)
        · replace h := h.2 c_50
          refine lv_iload_n hx hb dX7_rows_244 rfl (lv_at hl 3 rfl) ?_
          refine lv_goto (tgt := 258) hx hb dX7_rows_245 (by decide) ?_
          refine lv_iand hx hb dX7_rows_258 ?_
          refine lv_topi (fun x3_54 e_55 => ?_)
          replace h := h x3_54 e_55
          refine lv_istore_n (lv' := [(3, .int x3_54), (2, .int x2_48), (0, .ref a), (1, .int x1)]) hx hb dX7_rows_259 rfl hl (by decide) rfl (fun ls hl => ?_)
          refine lv_goto (tgt := 24) hx hb dX7_rows_260 (by decide) ?_
          exact ih24 x1 x2_48 x3_54 0 v_each v_places v_firstRow _ _ _ h hP hD hS (lv_sub hl [2, 3, 1, 0] rfl)
      · replace h := h.2 c_47
        refine lv_iload_n hx hb dX7_rows_207 rfl (lv_at hl 3 rfl) ?_
        refine lv_iconst (v := 1) hx hb dX7_rows_208 (by decide) ?_
        refine lv_aload_n hx hb dX7_rows_209 rfl (lv_at hl 0 rfl) ?_
        refine va_get (D := (dC, dI)) (ci := 7) (v := .ref a_places) (C := RX7) (T := TX7) (N := 19) hx hb hts iwX7_rows_X7 hown hK hP 0 rfl rfl 14 (by decide) f31 (fun _ h9 => h9) rfl dX7_rows_210 ?_
        refine lv_iload_n hx hb dX7_rows_213 rfl (lv_at hl 2 rfl) ?_
        have g_56 := h.1
        replace h := h.2
        refine va_iald hx hb hK hP 2 0 rfl rfl g_56 dX7_rows_214 ?_
        refine lv_ishl hx hb dX7_rows_215 ?_
        refine lv_ior hx hb dX7_rows_216 ?_
        refine lv_topi (fun x3_57 e_58 => ?_)
        replace h := h x3_57 e_58
        refine lv_istore_n (lv' := [(3, .int x3_57), (0, .ref a), (1, .int x1), (2, .int x2)]) hx hb dX7_rows_217 rfl hl (by decide) rfl (fun ls hl => ?_)
        obtain ⟨x2_59, e_60⟩ : ∃ y : Int32, y = (x2 + (1 : Int32)) := ⟨_, rfl⟩
        replace h := h x2_59 e_60
        refine lv_iinc (v := x2_59) (lv' := [(2, .int x2_59), (3, .int x3_57), (0, .ref a), (1, .int x1)]) hx hb dX7_rows_218 hl (k := 3) rfl (by rw [e_60]; rfl) (by decide) rfl (fun ls hl => ?_)
        refine lv_iload_n hx hb dX7_rows_221 rfl (lv_at hl 0 rfl) ?_
        refine lv_iconst (v := 5) hx hb dX7_rows_222 (by decide) ?_
        refine lv_icmp_ge (tgt := 24) hx hb dX7_rows_223 (by decide) (fun c_61 => ?_) (fun c_61 => ?_)
        · replace h := h.1 c_61
          exact ih24 x1 x2_59 x3_57 0 v_each v_places v_firstRow _ _ _ h hP hD hS (lv_sub hl [2, 3, 0, 1] rfl)
        · replace h := h.2 c_61
          refine lv_aload_n hx hb dX7_rows_226 rfl (lv_at hl 2 rfl) ?_
          refine va_get (D := (dC, dI)) (ci := 7) (v := .ref a_places) (C := RX7) (T := TX7) (N := 19) hx hb hts iwX7_rows_X7 hown hK hP 0 rfl rfl 14 (by decide) f31 (fun _ h9 => h9) rfl dX7_rows_227 ?_
          refine lv_iload_n hx hb dX7_rows_230 rfl (lv_at hl 0 rfl) ?_
          refine lv_iconst (v := -1) hx hb dX7_rows_231 (by decide) ?_
          have g_62 := h.1
          replace h := h.2
          refine va_iast hx hb hK hP hD hS 2 0 rfl rfl g_62 dX7_rows_232 (fun H locs hP hD hS => ?_)
          obtain ⟨f_63, e_64⟩ : ∃ y : Nat → Int32, y = upd v_places (x2_59).toNatClampNeg (-1 : Int32) := ⟨_, rfl⟩
          replace h := h f_63 e_64
          replace hP : va_P (dC, dI) vwCl [(a, .inr (7, [.ref a_text, .int v_size, .int v_at, .int v_begin, .int v_token, .int v_told, .ref a_read, .ref a_hill, .ref a_now, .ref a_undone, .int v_undos, .ref a_need, .int v_cames, .ref a_cameOf, .ref a_places, .ref a_firstRow, .int v_each, .long v_trace, .ref a_kept])), (a_now, .inl (cyI, 15, .inl v_now)), (a_places, .inl (cyI, 5, .inl f_63)), (a_firstRow, .inl (cyI, 5, .inl v_firstRow)), (a_hill, .inl (cyI, 46, .inl v_hill)), (a_cameOf, .inl (cyI, 5, .inl v_cameOf))] H := by rw [e_64]; exact hP
          replace hD : va_D A [(a, .inr (7, [.ref a_text, .int v_size, .int v_at, .int v_begin, .int v_token, .int v_told, .ref a_read, .ref a_hill, .ref a_now, .ref a_undone, .int v_undos, .ref a_need, .int v_cames, .ref a_cameOf, .ref a_places, .ref a_firstRow, .int v_each, .long v_trace, .ref a_kept])), (a_now, .inl (cyI, 15, .inl v_now)), (a_places, .inl (cyI, 5, .inl f_63)), (a_firstRow, .inl (cyI, 5, .inl v_firstRow)), (a_hill, .inl (cyI, 46, .inl v_hill)), (a_cameOf, .inl (cyI, 5, .inl v_cameOf))] := by rw [e_64]; exact hD
          refine lv_goto (tgt := 24) hx hb dX7_rows_233 (by decide) ?_
          exact ih24 x1 x2_59 x3_57 0 v_each f_63 v_firstRow _ _ _ h hP hD hS (lv_sub hl [2, 3, 0, 1] rfl)
set_option maxHeartbeats 4000000 in
set_option maxRecDepth 100000 in
theorem c_X7_rows (l : Launch) (dC : Nat → ClassId) (dI : Nat → Nat → Nat) (cyC cyI cyZ : ClassId) (sz : Nat) (a a_text a_read a_hill a_now a_undone a_need a_cameOf a_places a_firstRow a_kept : Nat) (v_size : Int32) (v_at : Int32) (v_begin : Int32) (v_token : Int32) (v_told : Int32) (v_undos : Int32) (v_cames : Int32) (v_each : Int32) (v_trace : Int64) (v_now : Nat → Int32) (v_places : Nat → Int32) (v_firstRow : Nat → Int32) (v_hill : Nat → Int32) (v_cameOf : Nat → Int32) {Q : Int32 → Int32 → (Nat → Int32) → (Nat → Int32) → Prop} (h : q_X7_rows v_cames v_each v_now v_places v_firstRow v_hill v_cameOf Q) : Met l yX7_rows wsX7_rows ({ frames := 2, cells := 0, slots := 0, locals := 44 }) (gPc [.ref a] (dC, dI) (gTy cyC cyI cyZ) sz [(a, .inr (7, [.ref a_text, .int v_size, .int v_at, .int v_begin, .int v_token, .int v_told, .ref a_read, .ref a_hill, .ref a_now, .ref a_undone, .int v_undos, .ref a_need, .int v_cames, .ref a_cameOf, .ref a_places, .ref a_firstRow, .int v_each, .long v_trace, .ref a_kept])), (a_now, .inl (cyI, 15, .inl v_now)), (a_places, .inl (cyI, 5, .inl v_places)), (a_firstRow, .inl (cyI, 5, .inl v_firstRow)), (a_hill, .inl (cyI, 46, .inl v_hill)), (a_cameOf, .inl (cyI, 5, .inl v_cameOf))]) (gQi3 Q (dC, dI) (va_A [(a, .inr (7, [.ref a_text, .int v_size, .int v_at, .int v_begin, .int v_token, .int v_told, .ref a_read, .ref a_hill, .ref a_now, .ref a_undone, .int v_undos, .ref a_need, .int v_cames, .ref a_cameOf, .ref a_places, .ref a_firstRow, .int v_each, .long v_trace, .ref a_kept])), (a_now, .inl (cyI, 15, .inl v_now)), (a_places, .inl (cyI, 5, .inl v_places)), (a_firstRow, .inl (cyI, 5, .inl v_firstRow)), (a_hill, .inl (cyI, 46, .inl v_hill)), (a_cameOf, .inl (cyI, 5, .inl v_cameOf))] sz) (fun (u1 : Int32) (u2 : Nat → Int32) (u3 : Nat → Int32) => [(a, .inr (7, [.ref a_text, .int v_size, .int v_at, .int v_begin, .int v_token, .int v_told, .ref a_read, .ref a_hill, .ref a_now, .ref a_undone, .int v_undos, .ref a_need, .int v_cames, .ref a_cameOf, .ref a_places, .ref a_firstRow, .int u1, .long v_trace, .ref a_kept])), (a_now, .inl (cyI, 15, .inl v_now)), (a_places, .inl (cyI, 5, .inl u2)), (a_firstRow, .inl (cyI, 5, .inl u3)), (a_hill, .inl (cyI, 46, .inl v_hill)), (a_cameOf, .inl (cyI, 5, .inl v_cameOf))])) 0 0 (va_A [(a, .inr (7, [.ref a_text, .int v_size, .int v_at, .int v_begin, .int v_token, .int v_told, .ref a_read, .ref a_hill, .ref a_now, .ref a_undone, .int v_undos, .ref a_need, .int v_cames, .ref a_cameOf, .ref a_places, .ref a_firstRow, .int v_each, .long v_trace, .ref a_kept])), (a_now, .inl (cyI, 15, .inl v_now)), (a_places, .inl (cyI, 5, .inl v_places)), (a_firstRow, .inl (cyI, 5, .inl v_firstRow)), (a_hill, .inl (cyI, 46, .inl v_hill)), (a_cameOf, .inl (cyI, 5, .inl v_cameOf))] sz) := by
  refine gMet (cc := cX7_rows) (maxL := 5) (ret := (some .int)) (own := RX7) (fun A => gQi3 Q (dC, dI) A (fun (u1 : Int32) (u2 : Nat → Int32) (u3 : Nat → Int32) => [(a, .inr (7, [.ref a_text, .int v_size, .int v_at, .int v_begin, .int v_token, .int v_told, .ref a_read, .ref a_hill, .ref a_now, .ref a_undone, .int v_undos, .ref a_need, .int v_cames, .ref a_cameOf, .ref a_places, .ref a_firstRow, .int u1, .long v_trace, .ref a_kept])), (a_now, .inl (cyI, 15, .inl v_now)), (a_places, .inl (cyI, 5, .inl u2)), (a_firstRow, .inl (cyI, 5, .inl u3)), (a_hill, .inl (cyI, 46, .inl v_hill)), (a_cameOf, .inl (cyI, 5, .inl v_cameOf))])) (by decide) rfl rfl (Nat.le_of_ble_eq_true rfl) ?_
  intro p e s m below meth c A ls C0 _ hK hN hP hD hA hl
  obtain ⟨hx, hb, hr, hml, hown, hts, hlocks⟩ := id C0
  have f116 := hts (.fieldLink RX7 116 "LastOchreModel" "cames" "I") (by decide +kernel)
  have f16 := hts (.fieldLink RX7 16 "LastOchreModel" "hill" "[I") (by decide +kernel)
  have f19 := hts (.fieldLink RX7 19 "LastOchreModel" "now" "[I") (by decide +kernel)
  have f199 := hts (.fieldLink RX7 199 "LastOchreModel" "each" "I") (by decide +kernel)
  have f28 := hts (.fieldLink RX7 28 "LastOchreModel" "cameOf" "[I") (by decide +kernel)
  have f31 := hts (.fieldLink RX7 31 "LastOchreModel" "places" "[I") (by decide +kernel)
  have f34 := hts (.fieldLink RX7 34 "LastOchreModel" "firstRow" "[I") (by decide +kernel)
  have hS : va_S A s.heap s.heap [] := va_S.rf
  replace hl : lv_has ls 5 [(0, .ref a)] := hl
  unfold q_X7_rows at h
  obtain ⟨n, h⟩ := h
  obtain ⟨ih24, ih39, ih72, ih131, ih181, ih194⟩ := w_X7_rows (l := l) (e := e) (below := below) dC dI cyC cyI cyZ a a_text a_read a_hill a_now a_undone a_need a_cameOf a_places a_firstRow a_kept v_size v_at v_begin v_token v_told v_undos v_cames v_trace v_now v_hill v_cameOf Q C0 hK hN hA n
  unfold F_X7_rows_e at h
  refine lv_iconst (v := 0) hx hb dX7_rows_0 (by decide) ?_
  refine lv_istore_n (lv' := [(1, .int (0 : Int32)), (0, .ref a)]) hx hb dX7_rows_1 rfl hl (by decide) rfl (fun ls hl => ?_)
  refine lv_aload_n hx hb dX7_rows_2 rfl (lv_at hl 1 rfl) ?_
  refine lv_ldc (v := 65535) hx hb hown (hts (.constant RX7 198 (65535)) (by decide +kernel)) dX7_rows_3 ?_
  refine va_put (D := (dC, dI)) (ci := 7) (v := .int (65535 : Int32)) (ty := .int) (C := RX7) (T := TX7) (N := 19) hx hb hts iwX7_rows_X7 tyX7 tyX7_ok nmX7 hown hK hP hD hS 0 rfl rfl 16 (by decide) f199 (fun _ h9 => h9) rfl (by decide +kernel) rfl rfl (Nat.le_of_ble_eq_true rfl) dX7_rows_5 (fun H locs hP hD hS => ?_)
  replace hP : va_P (dC, dI) vwCl [(a, .inr (7, [.ref a_text, .int v_size, .int v_at, .int v_begin, .int v_token, .int v_told, .ref a_read, .ref a_hill, .ref a_now, .ref a_undone, .int v_undos, .ref a_need, .int v_cames, .ref a_cameOf, .ref a_places, .ref a_firstRow, .int (65535 : Int32), .long v_trace, .ref a_kept])), (a_now, .inl (cyI, 15, .inl v_now)), (a_places, .inl (cyI, 5, .inl v_places)), (a_firstRow, .inl (cyI, 5, .inl v_firstRow)), (a_hill, .inl (cyI, 46, .inl v_hill)), (a_cameOf, .inl (cyI, 5, .inl v_cameOf))] H := hP
  replace hD : va_D A [(a, .inr (7, [.ref a_text, .int v_size, .int v_at, .int v_begin, .int v_token, .int v_told, .ref a_read, .ref a_hill, .ref a_now, .ref a_undone, .int v_undos, .ref a_need, .int v_cames, .ref a_cameOf, .ref a_places, .ref a_firstRow, .int (65535 : Int32), .long v_trace, .ref a_kept])), (a_now, .inl (cyI, 15, .inl v_now)), (a_places, .inl (cyI, 5, .inl v_places)), (a_firstRow, .inl (cyI, 5, .inl v_firstRow)), (a_hill, .inl (cyI, 46, .inl v_hill)), (a_cameOf, .inl (cyI, 5, .inl v_cameOf))] := hD
  refine lv_iconst (v := 0) hx hb dX7_rows_8 (by decide) ?_
  refine lv_istore_n (lv' := [(2, .int (0 : Int32)), (1, .int (0 : Int32)), (0, .ref a)]) hx hb dX7_rows_9 rfl hl (by decide) rfl (fun ls hl => ?_)
  refine lv_aload_n hx hb dX7_rows_10 rfl (lv_at hl 2 rfl) ?_
  refine va_get (D := (dC, dI)) (ci := 7) (v := .ref a_now) (C := RX7) (T := TX7) (N := 19) hx hb hts iwX7_rows_X7 hown hK hP 0 rfl rfl 8 (by decide) f19 (fun _ h9 => h9) rfl dX7_rows_11 ?_
  refine lv_iconst (v := 2) hx hb dX7_rows_14 (by decide) ?_
  refine va_iald hx hb hK hP 1 0 rfl rfl (by unfold vp_in; decide) dX7_rows_15 ?_
  refine lv_topi (fun x3_1 e_2 => ?_)
  replace h := h x3_1 e_2
  refine lv_istore_n (lv' := [(3, .int x3_1), (2, .int (0 : Int32)), (1, .int (0 : Int32)), (0, .ref a)]) hx hb dX7_rows_16 rfl hl (by decide) rfl (fun ls hl => ?_)
  refine lv_aload_n hx hb dX7_rows_17 rfl (lv_at hl 3 rfl) ?_
  refine va_get (D := (dC, dI)) (ci := 7) (v := .ref a_places) (C := RX7) (T := TX7) (N := 19) hx hb hts iwX7_rows_X7 hown hK hP 0 rfl rfl 14 (by decide) f31 (fun _ h9 => h9) rfl dX7_rows_18 ?_
  refine lv_iconst (v := 0) hx hb dX7_rows_21 (by decide) ?_
  refine lv_iconst (v := -1) hx hb dX7_rows_22 (by decide) ?_
  refine va_iast hx hb hK hP hD hS 2 0 rfl rfl (by unfold vp_in; decide) dX7_rows_23 (fun H locs hP hD hS => ?_)
  obtain ⟨f_3, e_4⟩ : ∃ y : Nat → Int32, y = upd v_places ((0 : Int32)).toNatClampNeg (-1 : Int32) := ⟨_, rfl⟩
  replace h := h f_3 e_4
  replace hP : va_P (dC, dI) vwCl [(a, .inr (7, [.ref a_text, .int v_size, .int v_at, .int v_begin, .int v_token, .int v_told, .ref a_read, .ref a_hill, .ref a_now, .ref a_undone, .int v_undos, .ref a_need, .int v_cames, .ref a_cameOf, .ref a_places, .ref a_firstRow, .int (65535 : Int32), .long v_trace, .ref a_kept])), (a_now, .inl (cyI, 15, .inl v_now)), (a_places, .inl (cyI, 5, .inl f_3)), (a_firstRow, .inl (cyI, 5, .inl v_firstRow)), (a_hill, .inl (cyI, 46, .inl v_hill)), (a_cameOf, .inl (cyI, 5, .inl v_cameOf))] H := by rw [e_4]; exact hP
  replace hD : va_D A [(a, .inr (7, [.ref a_text, .int v_size, .int v_at, .int v_begin, .int v_token, .int v_told, .ref a_read, .ref a_hill, .ref a_now, .ref a_undone, .int v_undos, .ref a_need, .int v_cames, .ref a_cameOf, .ref a_places, .ref a_firstRow, .int (65535 : Int32), .long v_trace, .ref a_kept])), (a_now, .inl (cyI, 15, .inl v_now)), (a_places, .inl (cyI, 5, .inl f_3)), (a_firstRow, .inl (cyI, 5, .inl v_firstRow)), (a_hill, .inl (cyI, 46, .inl v_hill)), (a_cameOf, .inl (cyI, 5, .inl v_cameOf))] := by rw [e_4]; exact hD
  exact ih24 (0 : Int32) (0 : Int32) x3_1 0 (65535 : Int32) f_3 v_firstRow _ _ _ h hP hD hS (lv_sub hl [3, 2, 1, 0] rfl)

def F_X7_fits_e (v_cames : Int32) (v_now : Nat → Int32) (v_hill : Nat → Int32) (v_cameOf : Nat → Int32) (p0 : Int32) (Q : Int32 → Int32 → (Nat → Int32) → (Nat → Int32) → Prop) (v_each : Int32) (v_places : Nat → Int32) (v_firstRow : Nat → Int32) : Prop :=
  q_X7_in ((p0).toInt64) (-2 : Int64) (4 : Int64) (fun (r_1 : Int32) => (¬ r_1 = 0 → (q_X7_rows v_cames v_each v_now v_places v_firstRow v_hill v_cameOf (fun (r_3 : Int32) (u_4 : Int32) (u_5 : Nat → Int32) (u_6 : Nat → Int32) => (0 ≤ p0 → ((r_3 = 0 → (Q (-9 : Int32) u_4 u_5 u_6)) ∧ (¬ r_3 = 0 → ((p0 < v_cames → (vp_in p0 5 ∧ (¬ (v_hill ((0 : Int32)).toNatClampNeg) = 0 ∧ (vp_in p0 5 ∧ (¬ (v_hill ((0 : Int32)).toNatClampNeg) = 0 ∧ (Q (((10 : Int32) * ((u_6 (p0).toNatClampNeg) - (u_6 (p0).toNatClampNeg) / (v_hill ((0 : Int32)).toNatClampNeg) * (v_hill ((0 : Int32)).toNatClampNeg))) + ((u_6 (p0).toNatClampNeg) / (v_hill ((0 : Int32)).toNatClampNeg))) u_4 u_5 u_6)))))) ∧ (¬ p0 < v_cames → (Q (-9 : Int32) u_4 u_5 u_6)))))) ∧ (¬ 0 ≤ p0 → ((¬ p0 = (-1 : Int32) → ((¬ r_3 = 0 → (Q u_4 u_4 u_5 u_6)) ∧ (r_3 = 0 → (Q (0 : Int32) u_4 u_5 u_6)))) ∧ (p0 = (-1 : Int32) → (Q r_3 u_4 u_5 u_6))))))) ∧ (r_1 = 0 → (Q (-1 : Int32) v_each v_places v_firstRow)))
def q_X7_fits (v_cames : Int32) (v_each : Int32) (v_now : Nat → Int32) (v_places : Nat → Int32) (v_firstRow : Nat → Int32) (v_hill : Nat → Int32) (v_cameOf : Nat → Int32) (p0 : Int32) (Q : Int32 → Int32 → (Nat → Int32) → (Nat → Int32) → Prop) : Prop := F_X7_fits_e v_cames v_now v_hill v_cameOf p0 Q v_each v_places v_firstRow
theorem iwX7_fits_X7 : ∀ w ∈ wsX70, w ∈ wsX7_fits := by decide +kernel
theorem hdV_X7_fits : yX7_fits.cls = RX7 ∧ yX7_fits.cls ≠ "java/lang/invoke/MethodHandle" ∧ yX7_fits.cls ≠ "java/lang/invoke/VarHandle" ∧ (parseMethodDescriptor yX7_fits.desc).map (fun d => d.parameters.length) = some 1 := by decide +kernel
set_option maxHeartbeats 4000000 in
set_option maxRecDepth 100000 in
theorem c_X7_fits (l : Launch) (dC : Nat → ClassId) (dI : Nat → Nat → Nat) (cyC cyI cyZ : ClassId) (sz : Nat) (a a_text a_read a_hill a_now a_undone a_need a_cameOf a_places a_firstRow a_kept : Nat) (v_size : Int32) (v_at : Int32) (v_begin : Int32) (v_token : Int32) (v_told : Int32) (v_undos : Int32) (v_cames : Int32) (v_each : Int32) (v_trace : Int64) (v_now : Nat → Int32) (v_places : Nat → Int32) (v_firstRow : Nat → Int32) (v_hill : Nat → Int32) (v_cameOf : Nat → Int32) (p0 : Int32) {Q : Int32 → Int32 → (Nat → Int32) → (Nat → Int32) → Prop} (h : q_X7_fits v_cames v_each v_now v_places v_firstRow v_hill v_cameOf p0 Q) : Met l yX7_fits wsX7_fits ({ frames := 3, cells := 0, slots := 0, locals := 68 }) (gPc [.ref a, .int p0] (dC, dI) (gTy cyC cyI cyZ) sz [(a, .inr (7, [.ref a_text, .int v_size, .int v_at, .int v_begin, .int v_token, .int v_told, .ref a_read, .ref a_hill, .ref a_now, .ref a_undone, .int v_undos, .ref a_need, .int v_cames, .ref a_cameOf, .ref a_places, .ref a_firstRow, .int v_each, .long v_trace, .ref a_kept])), (a_now, .inl (cyI, 15, .inl v_now)), (a_places, .inl (cyI, 5, .inl v_places)), (a_firstRow, .inl (cyI, 5, .inl v_firstRow)), (a_hill, .inl (cyI, 46, .inl v_hill)), (a_cameOf, .inl (cyI, 5, .inl v_cameOf))]) (gQi3 Q (dC, dI) (va_A [(a, .inr (7, [.ref a_text, .int v_size, .int v_at, .int v_begin, .int v_token, .int v_told, .ref a_read, .ref a_hill, .ref a_now, .ref a_undone, .int v_undos, .ref a_need, .int v_cames, .ref a_cameOf, .ref a_places, .ref a_firstRow, .int v_each, .long v_trace, .ref a_kept])), (a_now, .inl (cyI, 15, .inl v_now)), (a_places, .inl (cyI, 5, .inl v_places)), (a_firstRow, .inl (cyI, 5, .inl v_firstRow)), (a_hill, .inl (cyI, 46, .inl v_hill)), (a_cameOf, .inl (cyI, 5, .inl v_cameOf))] sz) (fun (u1 : Int32) (u2 : Nat → Int32) (u3 : Nat → Int32) => [(a, .inr (7, [.ref a_text, .int v_size, .int v_at, .int v_begin, .int v_token, .int v_told, .ref a_read, .ref a_hill, .ref a_now, .ref a_undone, .int v_undos, .ref a_need, .int v_cames, .ref a_cameOf, .ref a_places, .ref a_firstRow, .int u1, .long v_trace, .ref a_kept])), (a_now, .inl (cyI, 15, .inl v_now)), (a_places, .inl (cyI, 5, .inl u2)), (a_firstRow, .inl (cyI, 5, .inl u3)), (a_hill, .inl (cyI, 46, .inl v_hill)), (a_cameOf, .inl (cyI, 5, .inl v_cameOf))])) 0 0 (va_A [(a, .inr (7, [.ref a_text, .int v_size, .int v_at, .int v_begin, .int v_token, .int v_told, .ref a_read, .ref a_hill, .ref a_now, .ref a_undone, .int v_undos, .ref a_need, .int v_cames, .ref a_cameOf, .ref a_places, .ref a_firstRow, .int v_each, .long v_trace, .ref a_kept])), (a_now, .inl (cyI, 15, .inl v_now)), (a_places, .inl (cyI, 5, .inl v_places)), (a_firstRow, .inl (cyI, 5, .inl v_firstRow)), (a_hill, .inl (cyI, 46, .inl v_hill)), (a_cameOf, .inl (cyI, 5, .inl v_cameOf))] sz) := by
  refine gMet (cc := cX7_fits) (maxL := 3) (ret := (some .int)) (own := RX7) (fun A => gQi3 Q (dC, dI) A (fun (u1 : Int32) (u2 : Nat → Int32) (u3 : Nat → Int32) => [(a, .inr (7, [.ref a_text, .int v_size, .int v_at, .int v_begin, .int v_token, .int v_told, .ref a_read, .ref a_hill, .ref a_now, .ref a_undone, .int v_undos, .ref a_need, .int v_cames, .ref a_cameOf, .ref a_places, .ref a_firstRow, .int u1, .long v_trace, .ref a_kept])), (a_now, .inl (cyI, 15, .inl v_now)), (a_places, .inl (cyI, 5, .inl u2)), (a_firstRow, .inl (cyI, 5, .inl u3)), (a_hill, .inl (cyI, 46, .inl v_hill)), (a_cameOf, .inl (cyI, 5, .inl v_cameOf))])) (by decide) rfl rfl (Nat.le_of_ble_eq_true rfl) ?_
  intro p e s m below meth c A ls C0 _ hK hN hP hD hA hl
  obtain ⟨hx, hb, hr, hml, hown, hts, hlocks⟩ := id C0
  have f116 := hts (.fieldLink RX7 116 "LastOchreModel" "cames" "I") (by decide +kernel)
  have f16 := hts (.fieldLink RX7 16 "LastOchreModel" "hill" "[I") (by decide +kernel)
  have f199 := hts (.fieldLink RX7 199 "LastOchreModel" "each" "I") (by decide +kernel)
  have f34 := hts (.fieldLink RX7 34 "LastOchreModel" "firstRow" "[I") (by decide +kernel)
  have hS : va_S A s.heap s.heap [] := va_S.rf
  replace hl : lv_has ls 3 [(0, .ref a), (1, .int p0)] := hl
  unfold q_X7_fits at h
  unfold F_X7_fits_e at h
  refine lv_iload_n hx hb dX7_fits_0 rfl (lv_at hl 1 rfl) ?_
  refine lv_i2l hx hb dX7_fits_1 rfl ?_
  refine lv_ldc2 (v := -2) hx hb hown (hts (.constantLong RX7 202 (-2)) (by decide +kernel)) dX7_fits_2 ?_
  refine lv_ldc2 (v := 4) hx hb hown (hts (.constantLong RX7 150 (4)) (by decide +kernel)) dX7_fits_5 ?_
  refine gS_i0 (As := [.long ((p0).toInt64), .long (-2 : Int64), .long (4 : Int64)]) (rest := []) ⟨hx, hb, hml, hown, hts⟩ (c_X7_in l dC dI cyC cyI cyZ _ ((p0).toInt64) (-2 : Int64) (4 : Int64) h) (va_cwS 3 hts gX7_fits_X7_in rfl rfl rfl hdS_X7_in ⟨Nat.le_of_ble_eq_true rfl, Nat.le_of_ble_eq_true rfl⟩) hK hN hP hD hS hA [] (by decide) rfl rfl hl.1 rfl (Nat.le_of_ble_eq_true rfl) dX7_fits_8 ⟨Nat.zero_le _, Nat.zero_le _⟩ (fun r_1 H locs h hP hS => ?_)
  refine lv_if_ne (tgt := 16) hx hb dX7_fits_11 (by decide) (fun c_2 => ?_) (fun c_2 => ?_)
  · replace h := h.1 c_2
    refine lv_aload_n hx hb dX7_fits_16 rfl (lv_at hl 0 rfl) ?_
    refine gV_i3 (As := []) (rest := []) ⟨hx, hb, hml, hown, hts⟩ (c_X7_rows l dC dI cyC cyI cyZ _ a a_text a_read a_hill a_now a_undone a_need a_cameOf a_places a_firstRow a_kept v_size v_at v_begin v_token v_told v_undos v_cames v_each v_trace v_now v_places v_firstRow v_hill v_cameOf h) (cwV 0 hts gX7_fits_X7_rows rfl rfl rfl hdV_X7_rows ⟨Nat.le_of_ble_eq_true rfl, Nat.le_of_ble_eq_true rfl⟩) hK hN hP hD hS hA [0, 1, 2, 3, 4, 5] (by decide) rfl (ci := 7) rfl rfl rfl hl.1 rfl (Nat.le_of_ble_eq_true rfl) dX7_fits_17 ⟨Nat.zero_le _, Nat.zero_le _⟩ (wr := []) [] rfl (by decide) (by decide) (fun r_3 u_4 u_5 u_6 H locs h hP hD hS => ?_)
    replace hP : va_P (dC, dI) vwCl [(a, .inr (7, [.ref a_text, .int v_size, .int v_at, .int v_begin, .int v_token, .int v_told, .ref a_read, .ref a_hill, .ref a_now, .ref a_undone, .int v_undos, .ref a_need, .int v_cames, .ref a_cameOf, .ref a_places, .ref a_firstRow, .int u_4, .long v_trace, .ref a_kept])), (a_now, .inl (cyI, 15, .inl v_now)), (a_places, .inl (cyI, 5, .inl u_5)), (a_firstRow, .inl (cyI, 5, .inl u_6)), (a_hill, .inl (cyI, 46, .inl v_hill)), (a_cameOf, .inl (cyI, 5, .inl v_cameOf))] H := hP
    replace hD : va_D A [(a, .inr (7, [.ref a_text, .int v_size, .int v_at, .int v_begin, .int v_token, .int v_told, .ref a_read, .ref a_hill, .ref a_now, .ref a_undone, .int v_undos, .ref a_need, .int v_cames, .ref a_cameOf, .ref a_places, .ref a_firstRow, .int u_4, .long v_trace, .ref a_kept])), (a_now, .inl (cyI, 15, .inl v_now)), (a_places, .inl (cyI, 5, .inl u_5)), (a_firstRow, .inl (cyI, 5, .inl u_6)), (a_hill, .inl (cyI, 46, .inl v_hill)), (a_cameOf, .inl (cyI, 5, .inl v_cameOf))] := hD
    refine lv_istore_n (lv' := [(2, .int r_3), (0, .ref a), (1, .int p0)]) hx hb dX7_fits_20 rfl hl (by decide) rfl (fun ls hl => ?_)
    refine lv_iload_n hx hb dX7_fits_21 rfl (lv_at hl 2 rfl) ?_
    refine lv_if_ge (tgt := 47) hx hb dX7_fits_22 (by decide) (fun c_7 => ?_) (fun c_7 => ?_)
    · replace h := h.1 c_7
      refine lv_iload_n hx hb dX7_fits_47 rfl (lv_at hl 0 rfl) ?_
      refine lv_if_eq (tgt := 59) hx hb dX7_fits_48 (by decide) (fun c_8 => ?_) (fun c_8 => ?_)
      · replace h := h.1 c_8
        refine lv_bipush (v := -9) hx hb dX7_fits_59 (by decide) ?_
        exact gri3 hx hb hr hlocks h hP hD hS dX7_fits_61
      · replace h := h.2 c_8
        refine lv_iload_n hx hb dX7_fits_51 rfl (lv_at hl 2 rfl) ?_
        refine lv_aload_n hx hb dX7_fits_52 rfl (lv_at hl 1 rfl) ?_
        refine va_get (D := (dC, dI)) (ci := 7) (v := .int v_cames) (C := RX7) (T := TX7) (N := 19) hx hb hts iwX7_fits_X7 hown hK hP 0 rfl rfl 12 (by decide) f116 (fun _ h9 => h9) rfl dX7_fits_53 ?_
        refine lv_icmp_lt (tgt := 62) hx hb dX7_fits_56 (by decide) (fun c_9 => ?_) (fun c_9 => ?_)
        · replace h := h.1 c_9
          refine lv_bipush (v := 10) hx hb dX7_fits_62 (by decide) ?_
          refine lv_aload_n hx hb dX7_fits_64 rfl (lv_at hl 1 rfl) ?_
          refine va_get (D := (dC, dI)) (ci := 7) (v := .ref a_firstRow) (C := RX7) (T := TX7) (N := 19) hx hb hts iwX7_fits_X7 hown hK hP 0 rfl rfl 15 (by decide) f34 (fun _ h9 => h9) rfl dX7_fits_65 ?_
          refine lv_iload_n hx hb dX7_fits_68 rfl (lv_at hl 2 rfl) ?_
          have g_10 := h.1
          replace h := h.2
          refine va_iald hx hb hK hP 3 0 rfl rfl g_10 dX7_fits_69 ?_
          refine lv_aload_n hx hb dX7_fits_70 rfl (lv_at hl 1 rfl) ?_
          refine va_get (D := (dC, dI)) (ci := 7) (v := .ref a_hill) (C := RX7) (T := TX7) (N := 19) hx hb hts iwX7_fits_X7 hown hK hP 0 rfl rfl 7 (by decide) f16 (fun _ h9 => h9) rfl dX7_fits_71 ?_
          refine lv_iconst (v := 0) hx hb dX7_fits_74 (by decide) ?_
          refine va_iald hx hb hK hP 4 0 rfl rfl (by unfold vp_in; decide) dX7_fits_75 ?_
          have g_11 := h.1
          replace h := h.2
          refine lv_irem hx hb dX7_fits_76 g_11 ?_
          refine lv_imul hx hb dX7_fits_77 ?_
          refine lv_aload_n hx hb dX7_fits_78 rfl (lv_at hl 1 rfl) ?_
          refine va_get (D := (dC, dI)) (ci := 7) (v := .ref a_firstRow) (C := RX7) (T := TX7) (N := 19) hx hb hts iwX7_fits_X7 hown hK hP 0 rfl rfl 15 (by decide) f34 (fun _ h9 => h9) rfl dX7_fits_79 ?_
          refine lv_iload_n hx hb dX7_fits_82 rfl (lv_at hl 2 rfl) ?_
          have g_12 := h.1
          replace h := h.2
          refine va_iald hx hb hK hP 3 0 rfl rfl g_12 dX7_fits_83 ?_
          refine lv_aload_n hx hb dX7_fits_84 rfl (lv_at hl 1 rfl) ?_
          refine va_get (D := (dC, dI)) (ci := 7) (v := .ref a_hill) (C := RX7) (T := TX7) (N := 19) hx hb hts iwX7_fits_X7 hown hK hP 0 rfl rfl 7 (by decide) f16 (fun _ h9 => h9) rfl dX7_fits_85 ?_
          refine lv_iconst (v := 0) hx hb dX7_fits_88 (by decide) ?_
          refine va_iald hx hb hK hP 4 0 rfl rfl (by unfold vp_in; decide) dX7_fits_89 ?_
          have g_13 := h.1
          replace h := h.2
          refine lv_idiv hx hb dX7_fits_90 g_13 ?_
          refine lv_iadd hx hb dX7_fits_91 ?_
          exact gri3 hx hb hr hlocks h hP hD hS dX7_fits_92
        · replace h := h.2 c_9
          refine lv_bipush (v := -9) hx hb dX7_fits_59 (by decide) ?_
          exact gri3 hx hb hr hlocks h hP hD hS dX7_fits_61
    · replace h := h.2 c_7
      refine lv_iload_n hx hb dX7_fits_25 rfl (lv_at hl 2 rfl) ?_
      refine lv_iconst (v := -1) hx hb dX7_fits_26 (by decide) ?_
      refine lv_icmp_ne (tgt := 34) hx hb dX7_fits_27 (by decide) (fun c_14 => ?_) (fun c_14 => ?_)
      · replace h := h.1 c_14
        refine lv_iload_n hx hb dX7_fits_34 rfl (lv_at hl 0 rfl) ?_
        refine lv_if_ne (tgt := 42) hx hb dX7_fits_35 (by decide) (fun c_15 => ?_) (fun c_15 => ?_)
        · replace h := h.1 c_15
          refine lv_aload_n hx hb dX7_fits_42 rfl (lv_at hl 1 rfl) ?_
          refine va_get (D := (dC, dI)) (ci := 7) (v := .int u_4) (C := RX7) (T := TX7) (N := 19) hx hb hts iwX7_fits_X7 hown hK hP 0 rfl rfl 16 (by decide) f199 (fun _ h9 => h9) rfl dX7_fits_43 ?_
          exact gri3 hx hb hr hlocks h hP hD hS dX7_fits_46
        · replace h := h.2 c_15
          refine lv_iconst (v := 0) hx hb dX7_fits_38 (by decide) ?_
          refine lv_goto (tgt := 46) hx hb dX7_fits_39 (by decide) ?_
          exact gri3 hx hb hr hlocks h hP hD hS dX7_fits_46
      · replace h := h.2 c_14
        refine lv_iload_n hx hb dX7_fits_30 rfl (lv_at hl 0 rfl) ?_
        refine lv_goto (tgt := 46) hx hb dX7_fits_31 (by decide) ?_
        exact gri3 hx hb hr hlocks h hP hD hS dX7_fits_46
  · replace h := h.2 c_2
    refine lv_iconst (v := -1) hx hb dX7_fits_14 (by decide) ?_
    exact gri3 hx hb hr hlocks h hP hD hS dX7_fits_15

def F_X7_mark_e (v_hill : Nat → Int32) (v_now : Nat → Int32) (p0 : Int32) (p1 : Int32) (Q : Int32 → Int64 → Prop) (rec : Nat → Int64 → Int64 → Int32 → Int64 → Prop) (v_trace : Int64) : Prop :=
  q_X7_in ((p0).toInt64) (0 : Int64) (5 : Int64) (fun (r_1 : Int32) => (r_1 = 0 → (Q (-1000000 : Int32) v_trace)) ∧ (¬ r_1 = 0 → (q_X7_isThing v_hill p1 (fun (r_3 : Int32) => (¬ r_3 = 0 → ((¬ p0 = 0 → ((¬ p0 = (1 : Int32) → ((¬ p0 = (2 : Int32) → ((¬ p0 = (3 : Int32) → ((¬ p0 = (4 : Int32) → (rec 83 (100001 : Int64) v_trace 0 v_trace)) ∧ (p0 = (4 : Int32) → (rec 83 (10101 : Int64) v_trace 0 v_trace)))) ∧ (p0 = (3 : Int32) → (rec 83 (1011 : Int64) v_trace 0 v_trace)))) ∧ (p0 = (2 : Int32) → (rec 83 (101 : Int64) v_trace 0 v_trace)))) ∧ (p0 = (1 : Int32) → (rec 83 (11 : Int64) v_trace 0 v_trace)))) ∧ (p0 = 0 → (rec 83 (1 : Int64) v_trace 0 v_trace)))) ∧ (r_3 = 0 → (Q (-1000000 : Int32) v_trace))))))
def F_X7_mark_83 (v_hill : Nat → Int32) (v_now : Nat → Int32) (p0 : Int32) (p1 : Int32) (Q : Int32 → Int64 → Prop) (rec : Nat → Int64 → Int64 → Int32 → Int64 → Prop) (k0 : Int64) (k1 : Int64) (k2 : Int32) (v_trace : Int64) : Prop :=
  ∀ n_10 : Int64, n_10 = (k1 + k0) → ((p0 = (0 : Int32) → (q_X7_yellow v_now p1 (fun (r_13 : Int32) => Q r_13 n_10))) ∧ (p0 = (1 : Int32) → (q_X7_yellow v_now p1 (fun (r_15 : Int32) => q_X7_worth v_hill p1 (fun (r_16 : Int32) => Q (r_15 + r_16) n_10)))) ∧ (p0 = (2 : Int32) → (q_X7_yellow v_now p1 (fun (r_18 : Int32) => q_X7_white v_now p1 (fun (r_19 : Int32) => Q (r_18 - r_19) n_10)))) ∧ (p0 = (3 : Int32) → (q_X7_yellow v_now p1 (fun (r_21 : Int32) => q_X7_worth v_hill p1 (fun (r_22 : Int32) => Q ((2 : Int32) * (r_21 + r_22)) n_10)))) ∧ (p0 = (4 : Int32) → (q_X7_yellow v_now p1 (fun (r_24 : Int32) => q_X7_white v_now p1 (fun (r_25 : Int32) => Q ((r_24 - r_25) + (v_hill ((3 : Int32)).toNatClampNeg)) n_10)))) ∧ ((¬ p0 = (0 : Int32) ∧ ¬ p0 = (1 : Int32) ∧ ¬ p0 = (2 : Int32) ∧ ¬ p0 = (3 : Int32) ∧ ¬ p0 = (4 : Int32)) → (q_X7_yellow v_now p1 (fun (r_26 : Int32) => Q (r_26 + (v_now ((0 : Int32)).toNatClampNeg)) n_10))))
def wp_X7_mark (v_hill : Nat → Int32) (v_now : Nat → Int32) (p0 : Int32) (p1 : Int32) (Q : Int32 → Int64 → Prop) : Nat → Nat → Int64 → Int64 → Int32 → Int64 → Prop
  | 0 => fun _ _ _ _ _ => False
  | n + 1 => fun t k0 k1 k2 v_trace => if t = 83 then F_X7_mark_83 v_hill v_now p0 p1 Q (wp_X7_mark v_hill v_now p0 p1 Q n) k0 k1 k2 v_trace else False
def q_X7_mark (v_trace : Int64) (v_hill : Nat → Int32) (v_now : Nat → Int32) (p0 : Int32) (p1 : Int32) (Q : Int32 → Int64 → Prop) : Prop := ∃ n, F_X7_mark_e v_hill v_now p0 p1 Q (wp_X7_mark v_hill v_now p0 p1 Q n) v_trace
theorem iwX7_mark_X7 : ∀ w ∈ wsX70, w ∈ wsX7_mark := by decide +kernel
theorem hdV_X7_mark : yX7_mark.cls = RX7 ∧ yX7_mark.cls ≠ "java/lang/invoke/MethodHandle" ∧ yX7_mark.cls ≠ "java/lang/invoke/VarHandle" ∧ (parseMethodDescriptor yX7_mark.desc).map (fun d => d.parameters.length) = some 2 := by decide +kernel
set_option maxHeartbeats 4000000 in
set_option maxRecDepth 100000 in
theorem w_X7_mark {p : Program} {l : Launch} {e : Env} {s : State} {m : MethodId} {args : Array Value} {below : List Frame} {meth : Method} {c : Code} {A : Nat → Prop} (dC : Nat → ClassId) (dI : Nat → Nat → Nat) (cyC cyI cyZ : ClassId) (a a_text a_read a_hill a_now a_undone a_need a_cameOf a_places a_firstRow a_kept : Nat) (v_size : Int32) (v_at : Int32) (v_begin : Int32) (v_token : Int32) (v_told : Int32) (v_undos : Int32) (v_cames : Int32) (v_each : Int32) (v_hill : Nat → Int32) (v_now : Nat → Int32) (p0 : Int32) (p1 : Int32) (Q : Int32 → Int64 → Prop) (C0 : gAt cX7_mark (some .int) 3 RX7 wsX7_mark p s m meth c args) (hK : va_K (dC, dI) vwCl (gTy cyC cyI cyZ) s) (hN : nU s) (hA : ∀ q, s.heap.size ≤ q → A q) : ∀ n : Nat, (∀ (k0 : Int64) (k1 : Int64) (k2 : Int32) (v_trace : Int64) (H : Heap) (locs : List Loc) (ls : Array Slot), wp_X7_mark v_hill v_now p0 p1 Q n 83 k0 k1 k2 v_trace → va_P (dC, dI) vwCl [(a, .inr (7, [.ref a_text, .int v_size, .int v_at, .int v_begin, .int v_token, .int v_told, .ref a_read, .ref a_hill, .ref a_now, .ref a_undone, .int v_undos, .ref a_need, .int v_cames, .ref a_cameOf, .ref a_places, .ref a_firstRow, .int v_each, .long v_trace, .ref a_kept])), (a_hill, .inl (cyI, 46, .inl v_hill)), (a_now, .inl (cyI, 15, .inl v_now))] H → va_D A [(a, .inr (7, [.ref a_text, .int v_size, .int v_at, .int v_begin, .int v_token, .int v_told, .ref a_read, .ref a_hill, .ref a_now, .ref a_undone, .int v_undos, .ref a_need, .int v_cames, .ref a_cameOf, .ref a_places, .ref a_firstRow, .int v_each, .long v_trace, .ref a_kept])), (a_hill, .inl (cyI, 46, .inl v_hill)), (a_now, .inl (cyI, 15, .inl v_now))] → va_S A s.heap H locs → lv_has ls 3 [(0, .ref a), (1, .int p0), (2, .int p1)] → W p l e { frames := 2, cells := 0, slots := 0, locals := 46 } s m args below meth c H locs 0 0 (MQ below (gQi1 Q (dC, dI) A (fun (u1 : Int64) => [(a, .inr (7, [.ref a_text, .int v_size, .int v_at, .int v_begin, .int v_token, .int v_told, .ref a_read, .ref a_hill, .ref a_now, .ref a_undone, .int v_undos, .ref a_need, .int v_cames, .ref a_cameOf, .ref a_places, .ref a_firstRow, .int v_each, .long u1, .ref a_kept])), (a_hill, .inl (cyI, 46, .inl v_hill)), (a_now, .inl (cyI, 15, .inl v_now))])) args s 0 0 A) (F0 m 83 ls [.long k0, .long k1, .ref a])) := by
  obtain ⟨hx, hb, hr, hml, hown, hts, hlocks⟩ := id C0
  have f16 := hts (.fieldLink RX7 16 "LastOchreModel" "hill" "[I") (by decide +kernel)
  have f19 := hts (.fieldLink RX7 19 "LastOchreModel" "now" "[I") (by decide +kernel)
  have f210 := hts (.fieldLink RX7 210 "LastOchreModel" "trace" "J") (by decide +kernel)
  intro n
  induction n with
  | zero => exact fun _ _ _ _ _ _ _ h => absurd h id
  | succ n ih =>
    have ih83 := ih
    · intro k0 k1 k2 v_trace H locs ls h hP hD hS hl
      replace h : F_X7_mark_83 v_hill v_now p0 p1 Q (wp_X7_mark v_hill v_now p0 p1 Q n) k0 k1 k2 v_trace := h
      unfold F_X7_mark_83 at h
      refine lv_ladd hx hb dX7_mark_83 ?_
      refine lv_topl (fun n_10 e_11 => ?_)
      replace h := h n_10 e_11
      refine va_put (D := (dC, dI)) (ci := 7) (v := .long n_10) (ty := .long) (C := RX7) (T := TX7) (N := 19) hx hb hts iwX7_mark_X7 tyX7 tyX7_ok nmX7 hown hK hP hD hS 0 rfl rfl 17 (by decide) f210 (fun _ h9 => h9) rfl (by decide +kernel) rfl rfl (Nat.le_of_ble_eq_true rfl) dX7_mark_84 (fun H locs hP hD hS => ?_)
      replace hP : va_P (dC, dI) vwCl [(a, .inr (7, [.ref a_text, .int v_size, .int v_at, .int v_begin, .int v_token, .int v_told, .ref a_read, .ref a_hill, .ref a_now, .ref a_undone, .int v_undos, .ref a_need, .int v_cames, .ref a_cameOf, .ref a_places, .ref a_firstRow, .int v_each, .long n_10, .ref a_kept])), (a_hill, .inl (cyI, 46, .inl v_hill)), (a_now, .inl (cyI, 15, .inl v_now))] H := hP
      replace hD : va_D A [(a, .inr (7, [.ref a_text, .int v_size, .int v_at, .int v_begin, .int v_token, .int v_told, .ref a_read, .ref a_hill, .ref a_now, .ref a_undone, .int v_undos, .ref a_need, .int v_cames, .ref a_cameOf, .ref a_places, .ref a_firstRow, .int v_each, .long n_10, .ref a_kept])), (a_hill, .inl (cyI, 46, .inl v_hill)), (a_now, .inl (cyI, 15, .inl v_now))] := hD
      refine lv_iload_n hx hb dX7_mark_87 rfl (lv_at hl 1 rfl) ?_
      refine (Classical.em (p0 = (0 : Int32))).elim (fun c_12 => ?_) (fun c_12 => ?_)
      · replace h := h.1 c_12
        refine lv_tableIn (off := 36) (tgt := 124) hx hb dX7_mark_88 (by rw [c_12]; decide) (by rw [c_12]; decide) (by rw [c_12]; rfl) (by decide) ?_
        refine lv_aload_n hx hb dX7_mark_124 rfl (lv_at hl 0 rfl) ?_
        refine lv_iload_n hx hb dX7_mark_125 rfl (lv_at hl 2 rfl) ?_
        refine gV_i0 (As := [.int p1]) (rest := []) ⟨hx, hb, hml, hown, hts⟩ (c_X7_yellow l dC dI cyC cyI cyZ _ a a_text a_read a_hill a_now a_undone a_need a_cameOf a_places a_firstRow a_kept v_size v_at v_begin v_token v_told v_undos v_cames v_each n_10 v_now p1 h) (cwV 1 hts gX7_mark_X7_yellow rfl rfl rfl hdV_X7_yellow ⟨Nat.le_of_ble_eq_true rfl, Nat.le_of_ble_eq_true rfl⟩) hK hN hP hD hS hA [0, 2] (by decide) rfl (ci := 7) rfl rfl rfl hl.1 rfl (Nat.le_of_ble_eq_true rfl) dX7_mark_126 ⟨Nat.zero_le _, Nat.zero_le _⟩ (fun r_13 H locs h hP hS => ?_)
        exact gri1 hx hb hr hlocks h hP hD hS dX7_mark_129
      refine (Classical.em (p0 = (1 : Int32))).elim (fun c_14 => ?_) (fun c_14 => ?_)
      · replace h := h.2.1 c_14
        refine lv_tableIn (off := 42) (tgt := 130) hx hb dX7_mark_88 (by rw [c_14]; decide) (by rw [c_14]; decide) (by rw [c_14]; rfl) (by decide) ?_
        refine lv_aload_n hx hb dX7_mark_130 rfl (lv_at hl 0 rfl) ?_
        refine lv_iload_n hx hb dX7_mark_131 rfl (lv_at hl 2 rfl) ?_
        refine gV_i0 (As := [.int p1]) (rest := []) ⟨hx, hb, hml, hown, hts⟩ (c_X7_yellow l dC dI cyC cyI cyZ _ a a_text a_read a_hill a_now a_undone a_need a_cameOf a_places a_firstRow a_kept v_size v_at v_begin v_token v_told v_undos v_cames v_each n_10 v_now p1 h) (cwV 1 hts gX7_mark_X7_yellow rfl rfl rfl hdV_X7_yellow ⟨Nat.le_of_ble_eq_true rfl, Nat.le_of_ble_eq_true rfl⟩) hK hN hP hD hS hA [0, 2] (by decide) rfl (ci := 7) rfl rfl rfl hl.1 rfl (Nat.le_of_ble_eq_true rfl) dX7_mark_132 ⟨Nat.zero_le _, Nat.zero_le _⟩ (fun r_15 H locs h hP hS => ?_)
        refine lv_aload_n hx hb dX7_mark_135 rfl (lv_at hl 0 rfl) ?_
        refine lv_iload_n hx hb dX7_mark_136 rfl (lv_at hl 2 rfl) ?_
        refine gV_i0 (As := [.int p1]) (rest := [.int r_15]) ⟨hx, hb, hml, hown, hts⟩ (c_X7_worth l dC dI cyC cyI cyZ _ a a_text a_read a_hill a_now a_undone a_need a_cameOf a_places a_firstRow a_kept v_size v_at v_begin v_token v_told v_undos v_cames v_each n_10 v_hill p1 h) (cwV 1 hts gX7_mark_X7_worth rfl rfl rfl hdV_X7_worth ⟨Nat.le_of_ble_eq_true rfl, Nat.le_of_ble_eq_true rfl⟩) hK hN hP hD hS hA [0, 1] (by decide) rfl (ci := 7) rfl rfl rfl hl.1 rfl (Nat.le_of_ble_eq_true rfl) dX7_mark_137 ⟨Nat.zero_le _, Nat.zero_le _⟩ (fun r_16 H locs h hP hS => ?_)
        refine lv_iadd hx hb dX7_mark_140 ?_
        exact gri1 hx hb hr hlocks h hP hD hS dX7_mark_141
      refine (Classical.em (p0 = (2 : Int32))).elim (fun c_17 => ?_) (fun c_17 => ?_)
      · replace h := h.2.2.1 c_17
        refine lv_tableIn (off := 54) (tgt := 142) hx hb dX7_mark_88 (by rw [c_17]; decide) (by rw [c_17]; decide) (by rw [c_17]; rfl) (by decide) ?_
        refine lv_aload_n hx hb dX7_mark_142 rfl (lv_at hl 0 rfl) ?_
        refine lv_iload_n hx hb dX7_mark_143 rfl (lv_at hl 2 rfl) ?_
        refine gV_i0 (As := [.int p1]) (rest := []) ⟨hx, hb, hml, hown, hts⟩ (c_X7_yellow l dC dI cyC cyI cyZ _ a a_text a_read a_hill a_now a_undone a_need a_cameOf a_places a_firstRow a_kept v_size v_at v_begin v_token v_told v_undos v_cames v_each n_10 v_now p1 h) (cwV 1 hts gX7_mark_X7_yellow rfl rfl rfl hdV_X7_yellow ⟨Nat.le_of_ble_eq_true rfl, Nat.le_of_ble_eq_true rfl⟩) hK hN hP hD hS hA [0, 2] (by decide) rfl (ci := 7) rfl rfl rfl hl.1 rfl (Nat.le_of_ble_eq_true rfl) dX7_mark_144 ⟨Nat.zero_le _, Nat.zero_le _⟩ (fun r_18 H locs h hP hS => ?_)
        refine lv_aload_n hx hb dX7_mark_147 rfl (lv_at hl 0 rfl) ?_
        refine lv_iload_n hx hb dX7_mark_148 rfl (lv_at hl 2 rfl) ?_
        refine gV_i0 (As := [.int p1]) (rest := [.int r_18]) ⟨hx, hb, hml, hown, hts⟩ (c_X7_white l dC dI cyC cyI cyZ _ a a_text a_read a_hill a_now a_undone a_need a_cameOf a_places a_firstRow a_kept v_size v_at v_begin v_token v_told v_undos v_cames v_each n_10 v_now p1 h) (cwV 1 hts gX7_mark_X7_white rfl rfl rfl hdV_X7_white ⟨Nat.le_of_ble_eq_true rfl, Nat.le_of_ble_eq_true rfl⟩) hK hN hP hD hS hA [0, 2] (by decide) rfl (ci := 7) rfl rfl rfl hl.1 rfl (Nat.le_of_ble_eq_true rfl) dX7_mark_149 ⟨Nat.zero_le _, Nat.zero_le _⟩ (fun r_19 H locs h hP hS => ?_)
        refine lv_isub hx hb dX7_mark_152 ?_
        exact gri1 hx hb hr hlocks h hP hD hS dX7_mark_153
      refine (Classical.em (p0 = (3 : Int32))).elim (fun c_20 => ?_) (fun c_20 => ?_)
      · replace h := h.2.2.2.1 c_20
        refine lv_tableIn (off := 66) (tgt := 154) hx hb dX7_mark_88 (by rw [c_20]; decide) (by rw [c_20]; decide) (by rw [c_20]; rfl) (by decide) ?_
        refine lv_iconst (v := 2) hx hb dX7_mark_154 (by decide) ?_
        refine lv_aload_n hx hb dX7_mark_155 rfl (lv_at hl 0 rfl) ?_
        refine lv_iload_n hx hb dX7_mark_156 rfl (lv_at hl 2 rfl) ?_
        refine gV_i0 (As := [.int p1]) (rest := [.int (2 : Int32)]) ⟨hx, hb, hml, hown, hts⟩ (c_X7_yellow l dC dI cyC cyI cyZ _ a a_text a_read a_hill a_now a_undone a_need a_cameOf a_places a_firstRow a_kept v_size v_at v_begin v_token v_told v_undos v_cames v_each n_10 v_now p1 h) (cwV 1 hts gX7_mark_X7_yellow rfl rfl rfl hdV_X7_yellow ⟨Nat.le_of_ble_eq_true rfl, Nat.le_of_ble_eq_true rfl⟩) hK hN hP hD hS hA [0, 2] (by decide) rfl (ci := 7) rfl rfl rfl hl.1 rfl (Nat.le_of_ble_eq_true rfl) dX7_mark_157 ⟨Nat.zero_le _, Nat.zero_le _⟩ (fun r_21 H locs h hP hS => ?_)
        refine lv_aload_n hx hb dX7_mark_160 rfl (lv_at hl 0 rfl) ?_
        refine lv_iload_n hx hb dX7_mark_161 rfl (lv_at hl 2 rfl) ?_
        refine gV_i0 (As := [.int p1]) (rest := [.int r_21, .int (2 : Int32)]) ⟨hx, hb, hml, hown, hts⟩ (c_X7_worth l dC dI cyC cyI cyZ _ a a_text a_read a_hill a_now a_undone a_need a_cameOf a_places a_firstRow a_kept v_size v_at v_begin v_token v_told v_undos v_cames v_each n_10 v_hill p1 h) (cwV 1 hts gX7_mark_X7_worth rfl rfl rfl hdV_X7_worth ⟨Nat.le_of_ble_eq_true rfl, Nat.le_of_ble_eq_true rfl⟩) hK hN hP hD hS hA [0, 1] (by decide) rfl (ci := 7) rfl rfl rfl hl.1 rfl (Nat.le_of_ble_eq_true rfl) dX7_mark_162 ⟨Nat.zero_le _, Nat.zero_le _⟩ (fun r_22 H locs h hP hS => ?_)
        refine lv_iadd hx hb dX7_mark_165 ?_
        refine lv_imul hx hb dX7_mark_166 ?_
        exact gri1 hx hb hr hlocks h hP hD hS dX7_mark_167
      refine (Classical.em (p0 = (4 : Int32))).elim (fun c_23 => ?_) (fun c_23 => ?_)
      · replace h := h.2.2.2.2.1 c_23
        refine lv_tableIn (off := 80) (tgt := 168) hx hb dX7_mark_88 (by rw [c_23]; decide) (by rw [c_23]; decide) (by rw [c_23]; rfl) (by decide) ?_
        refine lv_aload_n hx hb dX7_mark_168 rfl (lv_at hl 0 rfl) ?_
        refine lv_iload_n hx hb dX7_mark_169 rfl (lv_at hl 2 rfl) ?_
        refine gV_i0 (As := [.int p1]) (rest := []) ⟨hx, hb, hml, hown, hts⟩ (c_X7_yellow l dC dI cyC cyI cyZ _ a a_text a_read a_hill a_now a_undone a_need a_cameOf a_places a_firstRow a_kept v_size v_at v_begin v_token v_told v_undos v_cames v_each n_10 v_now p1 h) (cwV 1 hts gX7_mark_X7_yellow rfl rfl rfl hdV_X7_yellow ⟨Nat.le_of_ble_eq_true rfl, Nat.le_of_ble_eq_true rfl⟩) hK hN hP hD hS hA [0, 2] (by decide) rfl (ci := 7) rfl rfl rfl hl.1 rfl (Nat.le_of_ble_eq_true rfl) dX7_mark_170 ⟨Nat.zero_le _, Nat.zero_le _⟩ (fun r_24 H locs h hP hS => ?_)
        refine lv_aload_n hx hb dX7_mark_173 rfl (lv_at hl 0 rfl) ?_
        refine lv_iload_n hx hb dX7_mark_174 rfl (lv_at hl 2 rfl) ?_
        refine gV_i0 (As := [.int p1]) (rest := [.int r_24]) ⟨hx, hb, hml, hown, hts⟩ (c_X7_white l dC dI cyC cyI cyZ _ a a_text a_read a_hill a_now a_undone a_need a_cameOf a_places a_firstRow a_kept v_size v_at v_begin v_token v_told v_undos v_cames v_each n_10 v_now p1 h) (cwV 1 hts gX7_mark_X7_white rfl rfl rfl hdV_X7_white ⟨Nat.le_of_ble_eq_true rfl, Nat.le_of_ble_eq_true rfl⟩) hK hN hP hD hS hA [0, 2] (by decide) rfl (ci := 7) rfl rfl rfl hl.1 rfl (Nat.le_of_ble_eq_true rfl) dX7_mark_175 ⟨Nat.zero_le _, Nat.zero_le _⟩ (fun r_25 H locs h hP hS => ?_)
        refine lv_isub hx hb dX7_mark_178 ?_
        refine lv_aload_n hx hb dX7_mark_179 rfl (lv_at hl 0 rfl) ?_
        refine va_get (D := (dC, dI)) (ci := 7) (v := .ref a_hill) (C := RX7) (T := TX7) (N := 19) hx hb hts iwX7_mark_X7 hown hK hP 0 rfl rfl 7 (by decide) f16 (fun _ h9 => h9) rfl dX7_mark_180 ?_
        refine lv_iconst (v := 3) hx hb dX7_mark_183 (by decide) ?_
        refine va_iald hx hb hK hP 1 0 rfl rfl (by unfold vp_in; decide) dX7_mark_184 ?_
        refine lv_iadd hx hb dX7_mark_185 ?_
        exact gri1 hx hb hr hlocks h hP hD hS dX7_mark_186
      replace h := h.2.2.2.2.2 ⟨c_12, c_14, c_17, c_20, c_23⟩
      have t_27 := sw_ne (a := 0) c_12 (by decide)
      have t_28 := sw_ne (a := 1) c_14 (by decide)
      have t_29 := sw_ne (a := 2) c_17 (by decide)
      have t_30 := sw_ne (a := 3) c_20 (by decide)
      have t_31 := sw_ne (a := 4) c_23 (by decide)
      refine lv_tableOut (tgt := 187) hx hb dX7_mark_88 (by omega) (by decide) ?_
      refine lv_aload_n hx hb dX7_mark_187 rfl (lv_at hl 0 rfl) ?_
      refine lv_iload_n hx hb dX7_mark_188 rfl (lv_at hl 2 rfl) ?_
      refine gV_i0 (As := [.int p1]) (rest := []) ⟨hx, hb, hml, hown, hts⟩ (c_X7_yellow l dC dI cyC cyI cyZ _ a a_text a_read a_hill a_now a_undone a_need a_cameOf a_places a_firstRow a_kept v_size v_at v_begin v_token v_told v_undos v_cames v_each n_10 v_now p1 h) (cwV 1 hts gX7_mark_X7_yellow rfl rfl rfl hdV_X7_yellow ⟨Nat.le_of_ble_eq_true rfl, Nat.le_of_ble_eq_true rfl⟩) hK hN hP hD hS hA [0, 2] (by decide) rfl (ci := 7) rfl rfl rfl hl.1 rfl (Nat.le_of_ble_eq_true rfl) dX7_mark_189 ⟨Nat.zero_le _, Nat.zero_le _⟩ (fun r_26 H locs h hP hS => ?_)
      refine lv_aload_n hx hb dX7_mark_192 rfl (lv_at hl 0 rfl) ?_
      refine va_get (D := (dC, dI)) (ci := 7) (v := .ref a_now) (C := RX7) (T := TX7) (N := 19) hx hb hts iwX7_mark_X7 hown hK hP 0 rfl rfl 8 (by decide) f19 (fun _ h9 => h9) rfl dX7_mark_193 ?_
      refine lv_iconst (v := 0) hx hb dX7_mark_196 (by decide) ?_
      refine va_iald hx hb hK hP 2 0 rfl rfl (by unfold vp_in; decide) dX7_mark_197 ?_
      refine lv_iadd hx hb dX7_mark_198 ?_
      exact gri1 hx hb hr hlocks h hP hD hS dX7_mark_199
set_option maxHeartbeats 4000000 in
set_option maxRecDepth 100000 in
theorem c_X7_mark (l : Launch) (dC : Nat → ClassId) (dI : Nat → Nat → Nat) (cyC cyI cyZ : ClassId) (sz : Nat) (a a_text a_read a_hill a_now a_undone a_need a_cameOf a_places a_firstRow a_kept : Nat) (v_size : Int32) (v_at : Int32) (v_begin : Int32) (v_token : Int32) (v_told : Int32) (v_undos : Int32) (v_cames : Int32) (v_each : Int32) (v_trace : Int64) (v_hill : Nat → Int32) (v_now : Nat → Int32) (p0 : Int32) (p1 : Int32) {Q : Int32 → Int64 → Prop} (h : q_X7_mark v_trace v_hill v_now p0 p1 Q) : Met l yX7_mark wsX7_mark ({ frames := 2, cells := 0, slots := 0, locals := 46 }) (gPc [.ref a, .int p0, .int p1] (dC, dI) (gTy cyC cyI cyZ) sz [(a, .inr (7, [.ref a_text, .int v_size, .int v_at, .int v_begin, .int v_token, .int v_told, .ref a_read, .ref a_hill, .ref a_now, .ref a_undone, .int v_undos, .ref a_need, .int v_cames, .ref a_cameOf, .ref a_places, .ref a_firstRow, .int v_each, .long v_trace, .ref a_kept])), (a_hill, .inl (cyI, 46, .inl v_hill)), (a_now, .inl (cyI, 15, .inl v_now))]) (gQi1 Q (dC, dI) (va_A [(a, .inr (7, [.ref a_text, .int v_size, .int v_at, .int v_begin, .int v_token, .int v_told, .ref a_read, .ref a_hill, .ref a_now, .ref a_undone, .int v_undos, .ref a_need, .int v_cames, .ref a_cameOf, .ref a_places, .ref a_firstRow, .int v_each, .long v_trace, .ref a_kept])), (a_hill, .inl (cyI, 46, .inl v_hill)), (a_now, .inl (cyI, 15, .inl v_now))] sz) (fun (u1 : Int64) => [(a, .inr (7, [.ref a_text, .int v_size, .int v_at, .int v_begin, .int v_token, .int v_told, .ref a_read, .ref a_hill, .ref a_now, .ref a_undone, .int v_undos, .ref a_need, .int v_cames, .ref a_cameOf, .ref a_places, .ref a_firstRow, .int v_each, .long u1, .ref a_kept])), (a_hill, .inl (cyI, 46, .inl v_hill)), (a_now, .inl (cyI, 15, .inl v_now))])) 0 0 (va_A [(a, .inr (7, [.ref a_text, .int v_size, .int v_at, .int v_begin, .int v_token, .int v_told, .ref a_read, .ref a_hill, .ref a_now, .ref a_undone, .int v_undos, .ref a_need, .int v_cames, .ref a_cameOf, .ref a_places, .ref a_firstRow, .int v_each, .long v_trace, .ref a_kept])), (a_hill, .inl (cyI, 46, .inl v_hill)), (a_now, .inl (cyI, 15, .inl v_now))] sz) := by
  refine gMet (cc := cX7_mark) (maxL := 3) (ret := (some .int)) (own := RX7) (fun A => gQi1 Q (dC, dI) A (fun (u1 : Int64) => [(a, .inr (7, [.ref a_text, .int v_size, .int v_at, .int v_begin, .int v_token, .int v_told, .ref a_read, .ref a_hill, .ref a_now, .ref a_undone, .int v_undos, .ref a_need, .int v_cames, .ref a_cameOf, .ref a_places, .ref a_firstRow, .int v_each, .long u1, .ref a_kept])), (a_hill, .inl (cyI, 46, .inl v_hill)), (a_now, .inl (cyI, 15, .inl v_now))])) (by decide) rfl rfl (Nat.le_of_ble_eq_true rfl) ?_
  intro p e s m below meth c A ls C0 _ hK hN hP hD hA hl
  obtain ⟨hx, hb, hr, hml, hown, hts, hlocks⟩ := id C0
  have f16 := hts (.fieldLink RX7 16 "LastOchreModel" "hill" "[I") (by decide +kernel)
  have f19 := hts (.fieldLink RX7 19 "LastOchreModel" "now" "[I") (by decide +kernel)
  have f210 := hts (.fieldLink RX7 210 "LastOchreModel" "trace" "J") (by decide +kernel)
  have hS : va_S A s.heap s.heap [] := va_S.rf
  replace hl : lv_has ls 3 [(0, .ref a), (1, .int p0), (2, .int p1)] := hl
  unfold q_X7_mark at h
  obtain ⟨n, h⟩ := h
  have ih83 := w_X7_mark (l := l) (e := e) (below := below) dC dI cyC cyI cyZ a a_text a_read a_hill a_now a_undone a_need a_cameOf a_places a_firstRow a_kept v_size v_at v_begin v_token v_told v_undos v_cames v_each v_hill v_now p0 p1 Q C0 hK hN hA n
  unfold F_X7_mark_e at h
  refine lv_iload_n hx hb dX7_mark_0 rfl (lv_at hl 1 rfl) ?_
  refine lv_i2l hx hb dX7_mark_1 rfl ?_
  refine lv_lconst (v := 0) hx hb dX7_mark_2 (by decide) ?_
  refine lv_ldc2 (v := 5) hx hb hown (hts (.constantLong RX7 207 (5)) (by decide +kernel)) dX7_mark_3 ?_
  refine gS_i0 (As := [.long ((p0).toInt64), .long (0 : Int64), .long (5 : Int64)]) (rest := []) ⟨hx, hb, hml, hown, hts⟩ (c_X7_in l dC dI cyC cyI cyZ _ ((p0).toInt64) (0 : Int64) (5 : Int64) h) (va_cwS 3 hts gX7_mark_X7_in rfl rfl rfl hdS_X7_in ⟨Nat.le_of_ble_eq_true rfl, Nat.le_of_ble_eq_true rfl⟩) hK hN hP hD hS hA [] (by decide) rfl rfl hl.1 rfl (Nat.le_of_ble_eq_true rfl) dX7_mark_6 ⟨Nat.zero_le _, Nat.zero_le _⟩ (fun r_1 H locs h hP hS => ?_)
  refine lv_if_eq (tgt := 20) hx hb dX7_mark_9 (by decide) (fun c_2 => ?_) (fun c_2 => ?_)
  · replace h := h.1 c_2
    refine lv_ldc (v := -1000000) hx hb hown (hts (.constant RX7 209 (-1000000)) (by decide +kernel)) dX7_mark_20 ?_
    exact gri1 hx hb hr hlocks h hP hD hS dX7_mark_22
  · replace h := h.2 c_2
    refine lv_aload_n hx hb dX7_mark_12 rfl (lv_at hl 0 rfl) ?_
    refine lv_iload_n hx hb dX7_mark_13 rfl (lv_at hl 2 rfl) ?_
    refine gV_i0 (As := [.int p1]) (rest := []) ⟨hx, hb, hml, hown, hts⟩ (c_X7_isThing l dC dI cyC cyI cyZ _ a a_text a_read a_hill a_now a_undone a_need a_cameOf a_places a_firstRow a_kept v_size v_at v_begin v_token v_told v_undos v_cames v_each v_trace v_hill p1 h) (cwV 1 hts gX7_mark_X7_isThing rfl rfl rfl hdV_X7_isThing ⟨Nat.le_of_ble_eq_true rfl, Nat.le_of_ble_eq_true rfl⟩) hK hN hP hD hS hA [0, 1] (by decide) rfl (ci := 7) rfl rfl rfl hl.1 rfl (Nat.le_of_ble_eq_true rfl) dX7_mark_14 ⟨Nat.zero_le _, Nat.zero_le _⟩ (fun r_3 H locs h hP hS => ?_)
    refine lv_if_ne (tgt := 23) hx hb dX7_mark_17 (by decide) (fun c_4 => ?_) (fun c_4 => ?_)
    · replace h := h.1 c_4
      refine lv_aload_n hx hb dX7_mark_23 rfl (lv_at hl 0 rfl) ?_
      refine lv_dup hx hb dX7_mark_24 rfl ?_
      refine va_get (D := (dC, dI)) (ci := 7) (v := .long v_trace) (C := RX7) (T := TX7) (N := 19) hx hb hts iwX7_mark_X7 hown hK hP 0 rfl rfl 17 (by decide) f210 (fun _ h9 => h9) rfl dX7_mark_25 ?_
      refine lv_iload_n hx hb dX7_mark_28 rfl (lv_at hl 1 rfl) ?_
      refine lv_if_ne (tgt := 36) hx hb dX7_mark_29 (by decide) (fun c_5 => ?_) (fun c_5 => ?_)
      · replace h := h.1 c_5
        refine lv_iload_n hx hb dX7_mark_36 rfl (lv_at hl 1 rfl) ?_
        refine lv_iconst (v := 1) hx hb dX7_mark_37 (by decide) ?_
        refine lv_icmp_ne (tgt := 47) hx hb dX7_mark_38 (by decide) (fun c_6 => ?_) (fun c_6 => ?_)
        · replace h := h.1 c_6
          refine lv_iload_n hx hb dX7_mark_47 rfl (lv_at hl 1 rfl) ?_
          refine lv_iconst (v := 2) hx hb dX7_mark_48 (by decide) ?_
          refine lv_icmp_ne (tgt := 58) hx hb dX7_mark_49 (by decide) (fun c_7 => ?_) (fun c_7 => ?_)
          · replace h := h.1 c_7
            refine lv_iload_n hx hb dX7_mark_58 rfl (lv_at hl 1 rfl) ?_
            refine lv_iconst (v := 3) hx hb dX7_mark_59 (by decide) ?_
            refine lv_icmp_ne (tgt := 69) hx hb dX7_mark_60 (by decide) (fun c_8 => ?_) (fun c_8 => ?_)
            · replace h := h.1 c_8
              refine lv_iload_n hx hb dX7_mark_69 rfl (lv_at hl 1 rfl) ?_
              refine lv_iconst (v := 4) hx hb dX7_mark_70 (by decide) ?_
              refine lv_icmp_ne (tgt := 80) hx hb dX7_mark_71 (by decide) (fun c_9 => ?_) (fun c_9 => ?_)
              · replace h := h.1 c_9
                refine lv_ldc2 (v := 100001) hx hb hown (hts (.constantLong RX7 222 (100001)) (by decide +kernel)) dX7_mark_80 ?_
                exact ih83 (100001 : Int64) v_trace 0 v_trace _ _ _ h hP hD hS (lv_sub hl [0, 1, 2] rfl)
              · replace h := h.2 c_9
                refine lv_ldc2 (v := 10101) hx hb hown (hts (.constantLong RX7 220 (10101)) (by decide +kernel)) dX7_mark_74 ?_
                refine lv_goto (tgt := 83) hx hb dX7_mark_77 (by decide) ?_
                exact ih83 (10101 : Int64) v_trace 0 v_trace _ _ _ h hP hD hS (lv_sub hl [0, 1, 2] rfl)
            · replace h := h.2 c_8
              refine lv_ldc2 (v := 1011) hx hb hown (hts (.constantLong RX7 218 (1011)) (by decide +kernel)) dX7_mark_63 ?_
              refine lv_goto (tgt := 83) hx hb dX7_mark_66 (by decide) ?_
              exact ih83 (1011 : Int64) v_trace 0 v_trace _ _ _ h hP hD hS (lv_sub hl [0, 1, 2] rfl)
          · replace h := h.2 c_7
            refine lv_ldc2 (v := 101) hx hb hown (hts (.constantLong RX7 216 (101)) (by decide +kernel)) dX7_mark_52 ?_
            refine lv_goto (tgt := 83) hx hb dX7_mark_55 (by decide) ?_
            exact ih83 (101 : Int64) v_trace 0 v_trace _ _ _ h hP hD hS (lv_sub hl [0, 1, 2] rfl)
        · replace h := h.2 c_6
          refine lv_ldc2 (v := 11) hx hb hown (hts (.constantLong RX7 214 (11)) (by decide +kernel)) dX7_mark_41 ?_
          refine lv_goto (tgt := 83) hx hb dX7_mark_44 (by decide) ?_
          exact ih83 (11 : Int64) v_trace 0 v_trace _ _ _ h hP hD hS (lv_sub hl [0, 1, 2] rfl)
      · replace h := h.2 c_5
        refine lv_lconst (v := 1) hx hb dX7_mark_32 (by decide) ?_
        refine lv_goto (tgt := 83) hx hb dX7_mark_33 (by decide) ?_
        exact ih83 (1 : Int64) v_trace 0 v_trace _ _ _ h hP hD hS (lv_sub hl [0, 1, 2] rfl)
    · replace h := h.2 c_4
      refine lv_ldc (v := -1000000) hx hb hown (hts (.constant RX7 209 (-1000000)) (by decide +kernel)) dX7_mark_20 ?_
      exact gri1 hx hb hr hlocks h hP hD hS dX7_mark_22

def F_X7_trace_e (v_trace : Int64) (Q : Int64 → Prop)  : Prop :=
  Q v_trace
def q_X7_trace (v_trace : Int64) (Q : Int64 → Prop) : Prop := F_X7_trace_e v_trace Q 
theorem iwX7_trace_X7 : ∀ w ∈ wsX70, w ∈ wsX7_trace := by decide +kernel
theorem hdV_X7_trace : yX7_trace.cls = RX7 ∧ yX7_trace.cls ≠ "java/lang/invoke/MethodHandle" ∧ yX7_trace.cls ≠ "java/lang/invoke/VarHandle" ∧ (parseMethodDescriptor yX7_trace.desc).map (fun d => d.parameters.length) = some 0 := by decide +kernel
set_option maxHeartbeats 4000000 in
set_option maxRecDepth 100000 in
theorem c_X7_trace (l : Launch) (dC : Nat → ClassId) (dI : Nat → Nat → Nat) (cyC cyI cyZ : ClassId) (sz : Nat) (a a_text a_read a_hill a_now a_undone a_need a_cameOf a_places a_firstRow a_kept : Nat) (v_size : Int32) (v_at : Int32) (v_begin : Int32) (v_token : Int32) (v_told : Int32) (v_undos : Int32) (v_cames : Int32) (v_each : Int32) (v_trace : Int64) {Q : Int64 → Prop} (h : q_X7_trace v_trace Q) : Met l yX7_trace wsX7_trace ({ frames := 0, cells := 0, slots := 0, locals := 0 }) (gPc [.ref a] (dC, dI) (gTy cyC cyI cyZ) sz [(a, .inr (7, [.ref a_text, .int v_size, .int v_at, .int v_begin, .int v_token, .int v_told, .ref a_read, .ref a_hill, .ref a_now, .ref a_undone, .int v_undos, .ref a_need, .int v_cames, .ref a_cameOf, .ref a_places, .ref a_firstRow, .int v_each, .long v_trace, .ref a_kept]))]) (gQl0 Q (dC, dI) (va_A [(a, .inr (7, [.ref a_text, .int v_size, .int v_at, .int v_begin, .int v_token, .int v_told, .ref a_read, .ref a_hill, .ref a_now, .ref a_undone, .int v_undos, .ref a_need, .int v_cames, .ref a_cameOf, .ref a_places, .ref a_firstRow, .int v_each, .long v_trace, .ref a_kept]))] sz) [(a, .inr (7, [.ref a_text, .int v_size, .int v_at, .int v_begin, .int v_token, .int v_told, .ref a_read, .ref a_hill, .ref a_now, .ref a_undone, .int v_undos, .ref a_need, .int v_cames, .ref a_cameOf, .ref a_places, .ref a_firstRow, .int v_each, .long v_trace, .ref a_kept]))]) 0 0 (va_A [(a, .inr (7, [.ref a_text, .int v_size, .int v_at, .int v_begin, .int v_token, .int v_told, .ref a_read, .ref a_hill, .ref a_now, .ref a_undone, .int v_undos, .ref a_need, .int v_cames, .ref a_cameOf, .ref a_places, .ref a_firstRow, .int v_each, .long v_trace, .ref a_kept]))] sz) := by
  refine gMet (cc := cX7_trace) (maxL := 1) (ret := (some .long)) (own := RX7) (fun A => gQl0 Q (dC, dI) A [(a, .inr (7, [.ref a_text, .int v_size, .int v_at, .int v_begin, .int v_token, .int v_told, .ref a_read, .ref a_hill, .ref a_now, .ref a_undone, .int v_undos, .ref a_need, .int v_cames, .ref a_cameOf, .ref a_places, .ref a_firstRow, .int v_each, .long v_trace, .ref a_kept]))]) (by decide) rfl rfl (Nat.le_of_ble_eq_true rfl) ?_
  intro p e s m below meth c A ls C0 _ hK hN hP hD hA hl
  obtain ⟨hx, hb, hr, hml, hown, hts, hlocks⟩ := id C0
  have f210 := hts (.fieldLink RX7 210 "LastOchreModel" "trace" "J") (by decide +kernel)
  have hS : va_S A s.heap s.heap [] := va_S.rf
  replace hl : lv_has ls 1 [(0, .ref a)] := hl
  unfold q_X7_trace at h
  unfold F_X7_trace_e at h
  refine lv_aload_n hx hb dX7_trace_0 rfl (lv_at hl 0 rfl) ?_
  refine va_get (D := (dC, dI)) (ci := 7) (v := .long v_trace) (C := RX7) (T := TX7) (N := 19) hx hb hts iwX7_trace_X7 hown hK hP 0 rfl rfl 17 (by decide) f210 (fun _ h9 => h9) rfl dX7_trace_1 ?_
  exact grl0 hx hb hr hlocks h hP hD hS dX7_trace_4

def F_X7_keep_e (v_undos : Int32) (v_now : Nat → Int32) (v_undone : Nat → Int32) (p0 : Int32) (Q : Int32 → (Nat → Int32) → Prop) (rec : Nat → Int32 → Int32 → (Nat → Int32) → Prop) (v_kept : Nat → Int32) : Prop :=
  q_X7_in ((p0).toInt64) (0 : Int64) (1 : Int64) (fun (r_1 : Int32) => (¬ r_1 = 0 → (∀ x2_3 : Int32, x2_3 = ((167 : Int32) * p0) → (vp_in x2_3 334 ∧ (∀ f_6 : Nat → Int32, f_6 = upd v_kept (x2_3).toNatClampNeg (1 : Int32) → (vp_in (x2_3 + (1 : Int32)) 334 ∧ (∀ f_9 : Nat → Int32, f_9 = upd f_6 ((x2_3 + (1 : Int32))).toNatClampNeg v_undos → (rec 39 x2_3 (0 : Int32) f_9))))))) ∧ (r_1 = 0 → (Q (-1 : Int32) v_kept)))
def F_X7_keep_39 (v_undos : Int32) (v_now : Nat → Int32) (v_undone : Nat → Int32) (p0 : Int32) (Q : Int32 → (Nat → Int32) → Prop) (rec : Nat → Int32 → Int32 → (Nat → Int32) → Prop) (x2 : Int32) (x3 : Int32) (v_kept : Nat → Int32) : Prop :=
  ((15 : Int32) ≤ x3 → (rec 69 x2 (0 : Int32) v_kept)) ∧ (¬ (15 : Int32) ≤ x3 → (vp_in x3 15 ∧ (vp_in ((x2 + (2 : Int32)) + x3) 334 ∧ (∀ f_14 : Nat → Int32, f_14 = upd v_kept (((x2 + (2 : Int32)) + x3)).toNatClampNeg (v_now (x3).toNatClampNeg) → (∀ x3_16 : Int32, x3_16 = (x3 + (1 : Int32)) → (rec 39 x2 x3_16 f_14))))))
def F_X7_keep_69 (v_undos : Int32) (v_now : Nat → Int32) (v_undone : Nat → Int32) (p0 : Int32) (Q : Int32 → (Nat → Int32) → Prop) (rec : Nat → Int32 → Int32 → (Nat → Int32) → Prop) (x2 : Int32) (x3 : Int32) (v_kept : Nat → Int32) : Prop :=
  ((150 : Int32) ≤ x3 → (Q (v_now ((0 : Int32)).toNatClampNeg) v_kept)) ∧ (¬ (150 : Int32) ≤ x3 → (vp_in x3 150 ∧ (vp_in ((x2 + (17 : Int32)) + x3) 334 ∧ (∀ f_21 : Nat → Int32, f_21 = upd v_kept (((x2 + (17 : Int32)) + x3)).toNatClampNeg (v_undone (x3).toNatClampNeg) → (∀ x3_23 : Int32, x3_23 = (x3 + (1 : Int32)) → (rec 69 x2 x3_23 f_21))))))
def wp_X7_keep (v_undos : Int32) (v_now : Nat → Int32) (v_undone : Nat → Int32) (p0 : Int32) (Q : Int32 → (Nat → Int32) → Prop) : Nat → Nat → Int32 → Int32 → (Nat → Int32) → Prop
  | 0 => fun _ _ _ _ => False
  | n + 1 => fun t x2 x3 v_kept => if t = 39 then F_X7_keep_39 v_undos v_now v_undone p0 Q (wp_X7_keep v_undos v_now v_undone p0 Q n) x2 x3 v_kept else if t = 69 then F_X7_keep_69 v_undos v_now v_undone p0 Q (wp_X7_keep v_undos v_now v_undone p0 Q n) x2 x3 v_kept else False
def q_X7_keep (v_undos : Int32) (v_kept : Nat → Int32) (v_now : Nat → Int32) (v_undone : Nat → Int32) (p0 : Int32) (Q : Int32 → (Nat → Int32) → Prop) : Prop := ∃ n, F_X7_keep_e v_undos v_now v_undone p0 Q (wp_X7_keep v_undos v_now v_undone p0 Q n) v_kept
theorem iwX7_keep_X7 : ∀ w ∈ wsX70, w ∈ wsX7_keep := by decide +kernel
theorem hdV_X7_keep : yX7_keep.cls = RX7 ∧ yX7_keep.cls ≠ "java/lang/invoke/MethodHandle" ∧ yX7_keep.cls ≠ "java/lang/invoke/VarHandle" ∧ (parseMethodDescriptor yX7_keep.desc).map (fun d => d.parameters.length) = some 1 := by decide +kernel
set_option maxHeartbeats 4000000 in
set_option maxRecDepth 100000 in
theorem w_X7_keep {p : Program} {l : Launch} {e : Env} {s : State} {m : MethodId} {args : Array Value} {below : List Frame} {meth : Method} {c : Code} {A : Nat → Prop} (dC : Nat → ClassId) (dI : Nat → Nat → Nat) (cyC cyI cyZ : ClassId) (a a_text a_read a_hill a_now a_undone a_need a_cameOf a_places a_firstRow a_kept : Nat) (v_size : Int32) (v_at : Int32) (v_begin : Int32) (v_token : Int32) (v_told : Int32) (v_undos : Int32) (v_cames : Int32) (v_each : Int32) (v_trace : Int64) (v_now : Nat → Int32) (v_undone : Nat → Int32) (p0 : Int32) (Q : Int32 → (Nat → Int32) → Prop) (C0 : gAt cX7_keep (some .int) 4 RX7 wsX7_keep p s m meth c args) (hK : va_K (dC, dI) vwCl (gTy cyC cyI cyZ) s) (hN : nU s) (hA : ∀ q, s.heap.size ≤ q → A q) : ∀ n : Nat, (∀ (x2 : Int32) (x3 : Int32) (v_kept : Nat → Int32) (H : Heap) (locs : List Loc) (ls : Array Slot), wp_X7_keep v_undos v_now v_undone p0 Q n 39 x2 x3 v_kept → va_P (dC, dI) vwCl [(a, .inr (7, [.ref a_text, .int v_size, .int v_at, .int v_begin, .int v_token, .int v_told, .ref a_read, .ref a_hill, .ref a_now, .ref a_undone, .int v_undos, .ref a_need, .int v_cames, .ref a_cameOf, .ref a_places, .ref a_firstRow, .int v_each, .long v_trace, .ref a_kept])), (a_kept, .inl (cyI, 334, .inl v_kept)), (a_now, .inl (cyI, 15, .inl v_now)), (a_undone, .inl (cyI, 150, .inl v_undone))] H → va_D A [(a, .inr (7, [.ref a_text, .int v_size, .int v_at, .int v_begin, .int v_token, .int v_told, .ref a_read, .ref a_hill, .ref a_now, .ref a_undone, .int v_undos, .ref a_need, .int v_cames, .ref a_cameOf, .ref a_places, .ref a_firstRow, .int v_each, .long v_trace, .ref a_kept])), (a_kept, .inl (cyI, 334, .inl v_kept)), (a_now, .inl (cyI, 15, .inl v_now)), (a_undone, .inl (cyI, 150, .inl v_undone))] → va_S A s.heap H locs → lv_has ls 4 [(0, .ref a), (2, .int x2), (3, .int x3)] → W p l e { frames := 1, cells := 0, slots := 0, locals := 25 } s m args below meth c H locs 0 0 (MQ below (gQi1 Q (dC, dI) A (fun (u1 : Nat → Int32) => [(a, .inr (7, [.ref a_text, .int v_size, .int v_at, .int v_begin, .int v_token, .int v_told, .ref a_read, .ref a_hill, .ref a_now, .ref a_undone, .int v_undos, .ref a_need, .int v_cames, .ref a_cameOf, .ref a_places, .ref a_firstRow, .int v_each, .long v_trace, .ref a_kept])), (a_kept, .inl (cyI, 334, .inl u1)), (a_now, .inl (cyI, 15, .inl v_now)), (a_undone, .inl (cyI, 150, .inl v_undone))])) args s 0 0 A) (F0 m 39 ls [])) ∧ (∀ (x2 : Int32) (x3 : Int32) (v_kept : Nat → Int32) (H : Heap) (locs : List Loc) (ls : Array Slot), wp_X7_keep v_undos v_now v_undone p0 Q n 69 x2 x3 v_kept → va_P (dC, dI) vwCl [(a, .inr (7, [.ref a_text, .int v_size, .int v_at, .int v_begin, .int v_token, .int v_told, .ref a_read, .ref a_hill, .ref a_now, .ref a_undone, .int v_undos, .ref a_need, .int v_cames, .ref a_cameOf, .ref a_places, .ref a_firstRow, .int v_each, .long v_trace, .ref a_kept])), (a_kept, .inl (cyI, 334, .inl v_kept)), (a_now, .inl (cyI, 15, .inl v_now)), (a_undone, .inl (cyI, 150, .inl v_undone))] H → va_D A [(a, .inr (7, [.ref a_text, .int v_size, .int v_at, .int v_begin, .int v_token, .int v_told, .ref a_read, .ref a_hill, .ref a_now, .ref a_undone, .int v_undos, .ref a_need, .int v_cames, .ref a_cameOf, .ref a_places, .ref a_firstRow, .int v_each, .long v_trace, .ref a_kept])), (a_kept, .inl (cyI, 334, .inl v_kept)), (a_now, .inl (cyI, 15, .inl v_now)), (a_undone, .inl (cyI, 150, .inl v_undone))] → va_S A s.heap H locs → lv_has ls 4 [(0, .ref a), (2, .int x2), (3, .int x3)] → W p l e { frames := 1, cells := 0, slots := 0, locals := 25 } s m args below meth c H locs 0 0 (MQ below (gQi1 Q (dC, dI) A (fun (u1 : Nat → Int32) => [(a, .inr (7, [.ref a_text, .int v_size, .int v_at, .int v_begin, .int v_token, .int v_told, .ref a_read, .ref a_hill, .ref a_now, .ref a_undone, .int v_undos, .ref a_need, .int v_cames, .ref a_cameOf, .ref a_places, .ref a_firstRow, .int v_each, .long v_trace, .ref a_kept])), (a_kept, .inl (cyI, 334, .inl u1)), (a_now, .inl (cyI, 15, .inl v_now)), (a_undone, .inl (cyI, 150, .inl v_undone))])) args s 0 0 A) (F0 m 69 ls [])) := by
  obtain ⟨hx, hb, hr, hml, hown, hts, hlocks⟩ := id C0
  have f119 := hts (.fieldLink RX7 119 "LastOchreModel" "undos" "I") (by decide +kernel)
  have f19 := hts (.fieldLink RX7 19 "LastOchreModel" "now" "[I") (by decide +kernel)
  have f22 := hts (.fieldLink RX7 22 "LastOchreModel" "undone" "[I") (by decide +kernel)
  have f37 := hts (.fieldLink RX7 37 "LastOchreModel" "kept" "[I") (by decide +kernel)
  intro n
  induction n with
  | zero => exact ⟨fun _ _ _ _ _ _ h => absurd h id, fun _ _ _ _ _ _ h => absurd h id⟩
  | succ n ih =>
    obtain ⟨ih39, ih69⟩ := ih
    refine ⟨?_, ?_⟩
    · intro x2 x3 v_kept H locs ls h hP hD hS hl
      replace h : F_X7_keep_39 v_undos v_now v_undone p0 Q (wp_X7_keep v_undos v_now v_undone p0 Q n) x2 x3 v_kept := h
      unfold F_X7_keep_39 at h
      refine lv_iload_n hx hb dX7_keep_39 rfl (lv_at hl 2 rfl) ?_
      refine lv_bipush (v := 15) hx hb dX7_keep_40 (by decide) ?_
      refine lv_icmp_ge (tgt := 67) hx hb dX7_keep_42 (by decide) (fun c_11 => ?_) (fun c_11 => ?_)
      · replace h := h.1 c_11
        refine lv_iconst (v := 0) hx hb dX7_keep_67 (by decide) ?_
        refine lv_istore_n (lv' := [(3, .int (0 : Int32)), (0, .ref a), (2, .int x2)]) hx hb dX7_keep_68 rfl hl (by decide) rfl (fun ls hl => ?_)
        exact ih69 x2 (0 : Int32) v_kept _ _ _ h hP hD hS (lv_sub hl [1, 2, 0] rfl)
      · replace h := h.2 c_11
        refine lv_aload_n hx hb dX7_keep_45 rfl (lv_at hl 0 rfl) ?_
        refine va_get (D := (dC, dI)) (ci := 7) (v := .ref a_kept) (C := RX7) (T := TX7) (N := 19) hx hb hts iwX7_keep_X7 hown hK hP 0 rfl rfl 18 (by decide) f37 (fun _ h9 => h9) rfl dX7_keep_46 ?_
        refine lv_iload_n hx hb dX7_keep_49 rfl (lv_at hl 1 rfl) ?_
        refine lv_iconst (v := 2) hx hb dX7_keep_50 (by decide) ?_
        refine lv_iadd hx hb dX7_keep_51 ?_
        refine lv_iload_n hx hb dX7_keep_52 rfl (lv_at hl 2 rfl) ?_
        refine lv_iadd hx hb dX7_keep_53 ?_
        refine lv_aload_n hx hb dX7_keep_54 rfl (lv_at hl 0 rfl) ?_
        refine va_get (D := (dC, dI)) (ci := 7) (v := .ref a_now) (C := RX7) (T := TX7) (N := 19) hx hb hts iwX7_keep_X7 hown hK hP 0 rfl rfl 8 (by decide) f19 (fun _ h9 => h9) rfl dX7_keep_55 ?_
        refine lv_iload_n hx hb dX7_keep_58 rfl (lv_at hl 2 rfl) ?_
        have g_12 := h.1
        replace h := h.2
        refine va_iald hx hb hK hP 2 0 rfl rfl g_12 dX7_keep_59 ?_
        have g_13 := h.1
        replace h := h.2
        refine va_iast hx hb hK hP hD hS 1 0 rfl rfl g_13 dX7_keep_60 (fun H locs hP hD hS => ?_)
        obtain ⟨f_14, e_15⟩ : ∃ y : Nat → Int32, y = upd v_kept (((x2 + (2 : Int32)) + x3)).toNatClampNeg (v_now (x3).toNatClampNeg) := ⟨_, rfl⟩
        replace h := h f_14 e_15
        replace hP : va_P (dC, dI) vwCl [(a, .inr (7, [.ref a_text, .int v_size, .int v_at, .int v_begin, .int v_token, .int v_told, .ref a_read, .ref a_hill, .ref a_now, .ref a_undone, .int v_undos, .ref a_need, .int v_cames, .ref a_cameOf, .ref a_places, .ref a_firstRow, .int v_each, .long v_trace, .ref a_kept])), (a_kept, .inl (cyI, 334, .inl f_14)), (a_now, .inl (cyI, 15, .inl v_now)), (a_undone, .inl (cyI, 150, .inl v_undone))] H := by rw [e_15]; exact hP
        replace hD : va_D A [(a, .inr (7, [.ref a_text, .int v_size, .int v_at, .int v_begin, .int v_token, .int v_told, .ref a_read, .ref a_hill, .ref a_now, .ref a_undone, .int v_undos, .ref a_need, .int v_cames, .ref a_cameOf, .ref a_places, .ref a_firstRow, .int v_each, .long v_trace, .ref a_kept])), (a_kept, .inl (cyI, 334, .inl f_14)), (a_now, .inl (cyI, 15, .inl v_now)), (a_undone, .inl (cyI, 150, .inl v_undone))] := by rw [e_15]; exact hD
        obtain ⟨x3_16, e_17⟩ : ∃ y : Int32, y = (x3 + (1 : Int32)) := ⟨_, rfl⟩
        replace h := h x3_16 e_17
        refine lv_iinc (v := x3_16) (lv' := [(3, .int x3_16), (0, .ref a), (2, .int x2)]) hx hb dX7_keep_61 hl (k := 2) rfl (by rw [e_17]; rfl) (by decide) rfl (fun ls hl => ?_)
        refine lv_goto (tgt := 39) hx hb dX7_keep_64 (by decide) ?_
        exact ih39 x2 x3_16 f_14 _ _ _ h hP hD hS (lv_sub hl [1, 2, 0] rfl)
    · intro x2 x3 v_kept H locs ls h hP hD hS hl
      replace h : F_X7_keep_69 v_undos v_now v_undone p0 Q (wp_X7_keep v_undos v_now v_undone p0 Q n) x2 x3 v_kept := h
      unfold F_X7_keep_69 at h
      refine lv_iload_n hx hb dX7_keep_69 rfl (lv_at hl 2 rfl) ?_
      refine lv_sipush (v := 150) hx hb dX7_keep_70 (by decide) ?_
      refine lv_icmp_ge (tgt := 99) hx hb dX7_keep_73 (by decide) (fun c_18 => ?_) (fun c_18 => ?_)
      · replace h := h.1 c_18
        refine lv_aload_n hx hb dX7_keep_99 rfl (lv_at hl 0 rfl) ?_
        refine va_get (D := (dC, dI)) (ci := 7) (v := .ref a_now) (C := RX7) (T := TX7) (N := 19) hx hb hts iwX7_keep_X7 hown hK hP 0 rfl rfl 8 (by decide) f19 (fun _ h9 => h9) rfl dX7_keep_100 ?_
        refine lv_iconst (v := 0) hx hb dX7_keep_103 (by decide) ?_
        refine va_iald hx hb hK hP 2 0 rfl rfl (by unfold vp_in; decide) dX7_keep_104 ?_
        exact gri1 hx hb hr hlocks h hP hD hS dX7_keep_105
      · replace h := h.2 c_18
        refine lv_aload_n hx hb dX7_keep_76 rfl (lv_at hl 0 rfl) ?_
        refine va_get (D := (dC, dI)) (ci := 7) (v := .ref a_kept) (C := RX7) (T := TX7) (N := 19) hx hb hts iwX7_keep_X7 hown hK hP 0 rfl rfl 18 (by decide) f37 (fun _ h9 => h9) rfl dX7_keep_77 ?_
        refine lv_iload_n hx hb dX7_keep_80 rfl (lv_at hl 1 rfl) ?_
        refine lv_bipush (v := 17) hx hb dX7_keep_81 (by decide) ?_
        refine lv_iadd hx hb dX7_keep_83 ?_
        refine lv_iload_n hx hb dX7_keep_84 rfl (lv_at hl 2 rfl) ?_
        refine lv_iadd hx hb dX7_keep_85 ?_
        refine lv_aload_n hx hb dX7_keep_86 rfl (lv_at hl 0 rfl) ?_
        refine va_get (D := (dC, dI)) (ci := 7) (v := .ref a_undone) (C := RX7) (T := TX7) (N := 19) hx hb hts iwX7_keep_X7 hown hK hP 0 rfl rfl 9 (by decide) f22 (fun _ h9 => h9) rfl dX7_keep_87 ?_
        refine lv_iload_n hx hb dX7_keep_90 rfl (lv_at hl 2 rfl) ?_
        have g_19 := h.1
        replace h := h.2
        refine va_iald hx hb hK hP 3 0 rfl rfl g_19 dX7_keep_91 ?_
        have g_20 := h.1
        replace h := h.2
        refine va_iast hx hb hK hP hD hS 1 0 rfl rfl g_20 dX7_keep_92 (fun H locs hP hD hS => ?_)
        obtain ⟨f_21, e_22⟩ : ∃ y : Nat → Int32, y = upd v_kept (((x2 + (17 : Int32)) + x3)).toNatClampNeg (v_undone (x3).toNatClampNeg) := ⟨_, rfl⟩
        replace h := h f_21 e_22
        replace hP : va_P (dC, dI) vwCl [(a, .inr (7, [.ref a_text, .int v_size, .int v_at, .int v_begin, .int v_token, .int v_told, .ref a_read, .ref a_hill, .ref a_now, .ref a_undone, .int v_undos, .ref a_need, .int v_cames, .ref a_cameOf, .ref a_places, .ref a_firstRow, .int v_each, .long v_trace, .ref a_kept])), (a_kept, .inl (cyI, 334, .inl f_21)), (a_now, .inl (cyI, 15, .inl v_now)), (a_undone, .inl (cyI, 150, .inl v_undone))] H := by rw [e_22]; exact hP
        replace hD : va_D A [(a, .inr (7, [.ref a_text, .int v_size, .int v_at, .int v_begin, .int v_token, .int v_told, .ref a_read, .ref a_hill, .ref a_now, .ref a_undone, .int v_undos, .ref a_need, .int v_cames, .ref a_cameOf, .ref a_places, .ref a_firstRow, .int v_each, .long v_trace, .ref a_kept])), (a_kept, .inl (cyI, 334, .inl f_21)), (a_now, .inl (cyI, 15, .inl v_now)), (a_undone, .inl (cyI, 150, .inl v_undone))] := by rw [e_22]; exact hD
        obtain ⟨x3_23, e_24⟩ : ∃ y : Int32, y = (x3 + (1 : Int32)) := ⟨_, rfl⟩
        replace h := h x3_23 e_24
        refine lv_iinc (v := x3_23) (lv' := [(3, .int x3_23), (0, .ref a), (2, .int x2)]) hx hb dX7_keep_93 hl (k := 2) rfl (by rw [e_24]; rfl) (by decide) rfl (fun ls hl => ?_)
        refine lv_goto (tgt := 69) hx hb dX7_keep_96 (by decide) ?_
        exact ih69 x2 x3_23 f_21 _ _ _ h hP hD hS (lv_sub hl [1, 2, 0] rfl)
set_option maxHeartbeats 4000000 in
set_option maxRecDepth 100000 in
theorem c_X7_keep (l : Launch) (dC : Nat → ClassId) (dI : Nat → Nat → Nat) (cyC cyI cyZ : ClassId) (sz : Nat) (a a_text a_read a_hill a_now a_undone a_need a_cameOf a_places a_firstRow a_kept : Nat) (v_size : Int32) (v_at : Int32) (v_begin : Int32) (v_token : Int32) (v_told : Int32) (v_undos : Int32) (v_cames : Int32) (v_each : Int32) (v_trace : Int64) (v_kept : Nat → Int32) (v_now : Nat → Int32) (v_undone : Nat → Int32) (p0 : Int32) {Q : Int32 → (Nat → Int32) → Prop} (h : q_X7_keep v_undos v_kept v_now v_undone p0 Q) : Met l yX7_keep wsX7_keep ({ frames := 1, cells := 0, slots := 0, locals := 25 }) (gPc [.ref a, .int p0] (dC, dI) (gTy cyC cyI cyZ) sz [(a, .inr (7, [.ref a_text, .int v_size, .int v_at, .int v_begin, .int v_token, .int v_told, .ref a_read, .ref a_hill, .ref a_now, .ref a_undone, .int v_undos, .ref a_need, .int v_cames, .ref a_cameOf, .ref a_places, .ref a_firstRow, .int v_each, .long v_trace, .ref a_kept])), (a_kept, .inl (cyI, 334, .inl v_kept)), (a_now, .inl (cyI, 15, .inl v_now)), (a_undone, .inl (cyI, 150, .inl v_undone))]) (gQi1 Q (dC, dI) (va_A [(a, .inr (7, [.ref a_text, .int v_size, .int v_at, .int v_begin, .int v_token, .int v_told, .ref a_read, .ref a_hill, .ref a_now, .ref a_undone, .int v_undos, .ref a_need, .int v_cames, .ref a_cameOf, .ref a_places, .ref a_firstRow, .int v_each, .long v_trace, .ref a_kept])), (a_kept, .inl (cyI, 334, .inl v_kept)), (a_now, .inl (cyI, 15, .inl v_now)), (a_undone, .inl (cyI, 150, .inl v_undone))] sz) (fun (u1 : Nat → Int32) => [(a, .inr (7, [.ref a_text, .int v_size, .int v_at, .int v_begin, .int v_token, .int v_told, .ref a_read, .ref a_hill, .ref a_now, .ref a_undone, .int v_undos, .ref a_need, .int v_cames, .ref a_cameOf, .ref a_places, .ref a_firstRow, .int v_each, .long v_trace, .ref a_kept])), (a_kept, .inl (cyI, 334, .inl u1)), (a_now, .inl (cyI, 15, .inl v_now)), (a_undone, .inl (cyI, 150, .inl v_undone))])) 0 0 (va_A [(a, .inr (7, [.ref a_text, .int v_size, .int v_at, .int v_begin, .int v_token, .int v_told, .ref a_read, .ref a_hill, .ref a_now, .ref a_undone, .int v_undos, .ref a_need, .int v_cames, .ref a_cameOf, .ref a_places, .ref a_firstRow, .int v_each, .long v_trace, .ref a_kept])), (a_kept, .inl (cyI, 334, .inl v_kept)), (a_now, .inl (cyI, 15, .inl v_now)), (a_undone, .inl (cyI, 150, .inl v_undone))] sz) := by
  refine gMet (cc := cX7_keep) (maxL := 4) (ret := (some .int)) (own := RX7) (fun A => gQi1 Q (dC, dI) A (fun (u1 : Nat → Int32) => [(a, .inr (7, [.ref a_text, .int v_size, .int v_at, .int v_begin, .int v_token, .int v_told, .ref a_read, .ref a_hill, .ref a_now, .ref a_undone, .int v_undos, .ref a_need, .int v_cames, .ref a_cameOf, .ref a_places, .ref a_firstRow, .int v_each, .long v_trace, .ref a_kept])), (a_kept, .inl (cyI, 334, .inl u1)), (a_now, .inl (cyI, 15, .inl v_now)), (a_undone, .inl (cyI, 150, .inl v_undone))])) (by decide) rfl rfl (Nat.le_of_ble_eq_true rfl) ?_
  intro p e s m below meth c A ls C0 _ hK hN hP hD hA hl
  obtain ⟨hx, hb, hr, hml, hown, hts, hlocks⟩ := id C0
  have f119 := hts (.fieldLink RX7 119 "LastOchreModel" "undos" "I") (by decide +kernel)
  have f19 := hts (.fieldLink RX7 19 "LastOchreModel" "now" "[I") (by decide +kernel)
  have f22 := hts (.fieldLink RX7 22 "LastOchreModel" "undone" "[I") (by decide +kernel)
  have f37 := hts (.fieldLink RX7 37 "LastOchreModel" "kept" "[I") (by decide +kernel)
  have hS : va_S A s.heap s.heap [] := va_S.rf
  replace hl : lv_has ls 4 [(0, .ref a), (1, .int p0)] := hl
  unfold q_X7_keep at h
  obtain ⟨n, h⟩ := h
  obtain ⟨ih39, ih69⟩ := w_X7_keep (l := l) (e := e) (below := below) dC dI cyC cyI cyZ a a_text a_read a_hill a_now a_undone a_need a_cameOf a_places a_firstRow a_kept v_size v_at v_begin v_token v_told v_undos v_cames v_each v_trace v_now v_undone p0 Q C0 hK hN hA n
  unfold F_X7_keep_e at h
  refine lv_iload_n hx hb dX7_keep_0 rfl (lv_at hl 1 rfl) ?_
  refine lv_i2l hx hb dX7_keep_1 rfl ?_
  refine lv_lconst (v := 0) hx hb dX7_keep_2 (by decide) ?_
  refine lv_lconst (v := 1) hx hb dX7_keep_3 (by decide) ?_
  refine gS_i0 (As := [.long ((p0).toInt64), .long (0 : Int64), .long (1 : Int64)]) (rest := []) ⟨hx, hb, hml, hown, hts⟩ (c_X7_in l dC dI cyC cyI cyZ _ ((p0).toInt64) (0 : Int64) (1 : Int64) h) (va_cwS 3 hts gX7_keep_X7_in rfl rfl rfl hdS_X7_in ⟨Nat.le_of_ble_eq_true rfl, Nat.le_of_ble_eq_true rfl⟩) hK hN hP hD hS hA [] (by decide) rfl rfl hl.1 rfl (Nat.le_of_ble_eq_true rfl) dX7_keep_4 ⟨Nat.zero_le _, Nat.zero_le _⟩ (fun r_1 H locs h hP hS => ?_)
  refine lv_if_ne (tgt := 12) hx hb dX7_keep_7 (by decide) (fun c_2 => ?_) (fun c_2 => ?_)
  · replace h := h.1 c_2
    refine lv_sipush (v := 167) hx hb dX7_keep_12 (by decide) ?_
    refine lv_iload_n hx hb dX7_keep_15 rfl (lv_at hl 1 rfl) ?_
    refine lv_imul hx hb dX7_keep_16 ?_
    refine lv_topi (fun x2_3 e_4 => ?_)
    replace h := h x2_3 e_4
    refine lv_istore_n (lv' := [(2, .int x2_3), (0, .ref a), (1, .int p0)]) hx hb dX7_keep_17 rfl hl (by decide) rfl (fun ls hl => ?_)
    refine lv_aload_n hx hb dX7_keep_18 rfl (lv_at hl 1 rfl) ?_
    refine va_get (D := (dC, dI)) (ci := 7) (v := .ref a_kept) (C := RX7) (T := TX7) (N := 19) hx hb hts iwX7_keep_X7 hown hK hP 0 rfl rfl 18 (by decide) f37 (fun _ h9 => h9) rfl dX7_keep_19 ?_
    refine lv_iload_n hx hb dX7_keep_22 rfl (lv_at hl 0 rfl) ?_
    refine lv_iconst (v := 1) hx hb dX7_keep_23 (by decide) ?_
    have g_5 := h.1
    replace h := h.2
    refine va_iast hx hb hK hP hD hS 1 0 rfl rfl g_5 dX7_keep_24 (fun H locs hP hD hS => ?_)
    obtain ⟨f_6, e_7⟩ : ∃ y : Nat → Int32, y = upd v_kept (x2_3).toNatClampNeg (1 : Int32) := ⟨_, rfl⟩
    replace h := h f_6 e_7
    replace hP : va_P (dC, dI) vwCl [(a, .inr (7, [.ref a_text, .int v_size, .int v_at, .int v_begin, .int v_token, .int v_told, .ref a_read, .ref a_hill, .ref a_now, .ref a_undone, .int v_undos, .ref a_need, .int v_cames, .ref a_cameOf, .ref a_places, .ref a_firstRow, .int v_each, .long v_trace, .ref a_kept])), (a_kept, .inl (cyI, 334, .inl f_6)), (a_now, .inl (cyI, 15, .inl v_now)), (a_undone, .inl (cyI, 150, .inl v_undone))] H := by rw [e_7]; exact hP
    replace hD : va_D A [(a, .inr (7, [.ref a_text, .int v_size, .int v_at, .int v_begin, .int v_token, .int v_told, .ref a_read, .ref a_hill, .ref a_now, .ref a_undone, .int v_undos, .ref a_need, .int v_cames, .ref a_cameOf, .ref a_places, .ref a_firstRow, .int v_each, .long v_trace, .ref a_kept])), (a_kept, .inl (cyI, 334, .inl f_6)), (a_now, .inl (cyI, 15, .inl v_now)), (a_undone, .inl (cyI, 150, .inl v_undone))] := by rw [e_7]; exact hD
    refine lv_aload_n hx hb dX7_keep_25 rfl (lv_at hl 1 rfl) ?_
    refine va_get (D := (dC, dI)) (ci := 7) (v := .ref a_kept) (C := RX7) (T := TX7) (N := 19) hx hb hts iwX7_keep_X7 hown hK hP 0 rfl rfl 18 (by decide) f37 (fun _ h9 => h9) rfl dX7_keep_26 ?_
    refine lv_iload_n hx hb dX7_keep_29 rfl (lv_at hl 0 rfl) ?_
    refine lv_iconst (v := 1) hx hb dX7_keep_30 (by decide) ?_
    refine lv_iadd hx hb dX7_keep_31 ?_
    refine lv_aload_n hx hb dX7_keep_32 rfl (lv_at hl 1 rfl) ?_
    refine va_get (D := (dC, dI)) (ci := 7) (v := .int v_undos) (C := RX7) (T := TX7) (N := 19) hx hb hts iwX7_keep_X7 hown hK hP 0 rfl rfl 10 (by decide) f119 (fun _ h9 => h9) rfl dX7_keep_33 ?_
    have g_8 := h.1
    replace h := h.2
    refine va_iast hx hb hK hP hD hS 1 0 rfl rfl g_8 dX7_keep_36 (fun H locs hP hD hS => ?_)
    obtain ⟨f_9, e_10⟩ : ∃ y : Nat → Int32, y = upd f_6 ((x2_3 + (1 : Int32))).toNatClampNeg v_undos := ⟨_, rfl⟩
    replace h := h f_9 e_10
    replace hP : va_P (dC, dI) vwCl [(a, .inr (7, [.ref a_text, .int v_size, .int v_at, .int v_begin, .int v_token, .int v_told, .ref a_read, .ref a_hill, .ref a_now, .ref a_undone, .int v_undos, .ref a_need, .int v_cames, .ref a_cameOf, .ref a_places, .ref a_firstRow, .int v_each, .long v_trace, .ref a_kept])), (a_kept, .inl (cyI, 334, .inl f_9)), (a_now, .inl (cyI, 15, .inl v_now)), (a_undone, .inl (cyI, 150, .inl v_undone))] H := by rw [e_10]; exact hP
    replace hD : va_D A [(a, .inr (7, [.ref a_text, .int v_size, .int v_at, .int v_begin, .int v_token, .int v_told, .ref a_read, .ref a_hill, .ref a_now, .ref a_undone, .int v_undos, .ref a_need, .int v_cames, .ref a_cameOf, .ref a_places, .ref a_firstRow, .int v_each, .long v_trace, .ref a_kept])), (a_kept, .inl (cyI, 334, .inl f_9)), (a_now, .inl (cyI, 15, .inl v_now)), (a_undone, .inl (cyI, 150, .inl v_undone))] := by rw [e_10]; exact hD
    refine lv_iconst (v := 0) hx hb dX7_keep_37 (by decide) ?_
    refine lv_istore_n (lv' := [(3, .int (0 : Int32)), (2, .int x2_3), (0, .ref a), (1, .int p0)]) hx hb dX7_keep_38 rfl hl (by decide) rfl (fun ls hl => ?_)
    exact ih39 x2_3 (0 : Int32) f_9 _ _ _ h hP hD hS (lv_sub hl [2, 1, 0] rfl)
  · replace h := h.2 c_2
    refine lv_iconst (v := -1) hx hb dX7_keep_10 (by decide) ?_
    exact gri1 hx hb hr hlocks h hP hD hS dX7_keep_11

def F_X7_back_e (v_kept : Nat → Int32) (p0 : Int32) (Q : Int32 → Int32 → (Nat → Int32) → (Nat → Int32) → Prop) (rec : Nat → Int32 → Int32 → Int32 → (Nat → Int32) → (Nat → Int32) → Prop) (v_undos : Int32) (v_now : Nat → Int32) (v_undone : Nat → Int32) : Prop :=
  q_X7_in ((p0).toInt64) (0 : Int64) (1 : Int64) (fun (r_1 : Int32) => (¬ r_1 = 0 → (∀ x2_3 : Int32, x2_3 = ((167 : Int32) * p0) → (vp_in x2_3 334 ∧ ((¬ (v_kept (x2_3).toNatClampNeg) = 0 → (vp_in (x2_3 + (1 : Int32)) 334 ∧ (∀ n_8 : Int32, n_8 = (v_kept ((x2_3 + (1 : Int32))).toNatClampNeg) → (rec 44 x2_3 (0 : Int32) n_8 v_now v_undone)))) ∧ ((v_kept (x2_3).toNatClampNeg) = 0 → (Q (-2 : Int32) v_undos v_now v_undone)))))) ∧ (r_1 = 0 → (Q (-1 : Int32) v_undos v_now v_undone)))
def F_X7_back_44 (v_kept : Nat → Int32) (p0 : Int32) (Q : Int32 → Int32 → (Nat → Int32) → (Nat → Int32) → Prop) (rec : Nat → Int32 → Int32 → Int32 → (Nat → Int32) → (Nat → Int32) → Prop) (x2 : Int32) (x3 : Int32) (v_undos : Int32) (v_now : Nat → Int32) (v_undone : Nat → Int32) : Prop :=
  ((15 : Int32) ≤ x3 → (rec 74 x2 (0 : Int32) v_undos v_now v_undone)) ∧ (¬ (15 : Int32) ≤ x3 → (vp_in ((x2 + (2 : Int32)) + x3) 334 ∧ (vp_in x3 15 ∧ (∀ f_13 : Nat → Int32, f_13 = upd v_now (x3).toNatClampNeg (v_kept (((x2 + (2 : Int32)) + x3)).toNatClampNeg) → (∀ x3_15 : Int32, x3_15 = (x3 + (1 : Int32)) → (rec 44 x2 x3_15 v_undos f_13 v_undone))))))
def F_X7_back_74 (v_kept : Nat → Int32) (p0 : Int32) (Q : Int32 → Int32 → (Nat → Int32) → (Nat → Int32) → Prop) (rec : Nat → Int32 → Int32 → Int32 → (Nat → Int32) → (Nat → Int32) → Prop) (x2 : Int32) (x3 : Int32) (v_undos : Int32) (v_now : Nat → Int32) (v_undone : Nat → Int32) : Prop :=
  ((150 : Int32) ≤ x3 → (Q (v_now ((0 : Int32)).toNatClampNeg) v_undos v_now v_undone)) ∧ (¬ (150 : Int32) ≤ x3 → (vp_in ((x2 + (17 : Int32)) + x3) 334 ∧ (vp_in x3 150 ∧ (∀ f_20 : Nat → Int32, f_20 = upd v_undone (x3).toNatClampNeg (v_kept (((x2 + (17 : Int32)) + x3)).toNatClampNeg) → (∀ x3_22 : Int32, x3_22 = (x3 + (1 : Int32)) → (rec 74 x2 x3_22 v_undos v_now f_20))))))
def wp_X7_back (v_kept : Nat → Int32) (p0 : Int32) (Q : Int32 → Int32 → (Nat → Int32) → (Nat → Int32) → Prop) : Nat → Nat → Int32 → Int32 → Int32 → (Nat → Int32) → (Nat → Int32) → Prop
  | 0 => fun _ _ _ _ _ _ => False
  | n + 1 => fun t x2 x3 v_undos v_now v_undone => if t = 44 then F_X7_back_44 v_kept p0 Q (wp_X7_back v_kept p0 Q n) x2 x3 v_undos v_now v_undone else if t = 74 then F_X7_back_74 v_kept p0 Q (wp_X7_back v_kept p0 Q n) x2 x3 v_undos v_now v_undone else False
def q_X7_back (v_undos : Int32) (v_kept : Nat → Int32) (v_now : Nat → Int32) (v_undone : Nat → Int32) (p0 : Int32) (Q : Int32 → Int32 → (Nat → Int32) → (Nat → Int32) → Prop) : Prop := ∃ n, F_X7_back_e v_kept p0 Q (wp_X7_back v_kept p0 Q n) v_undos v_now v_undone
theorem iwX7_back_X7 : ∀ w ∈ wsX70, w ∈ wsX7_back := by decide +kernel
theorem hdV_X7_back : yX7_back.cls = RX7 ∧ yX7_back.cls ≠ "java/lang/invoke/MethodHandle" ∧ yX7_back.cls ≠ "java/lang/invoke/VarHandle" ∧ (parseMethodDescriptor yX7_back.desc).map (fun d => d.parameters.length) = some 1 := by decide +kernel
set_option maxHeartbeats 4000000 in
set_option maxRecDepth 100000 in
theorem w_X7_back {p : Program} {l : Launch} {e : Env} {s : State} {m : MethodId} {args : Array Value} {below : List Frame} {meth : Method} {c : Code} {A : Nat → Prop} (dC : Nat → ClassId) (dI : Nat → Nat → Nat) (cyC cyI cyZ : ClassId) (a a_text a_read a_hill a_now a_undone a_need a_cameOf a_places a_firstRow a_kept : Nat) (v_size : Int32) (v_at : Int32) (v_begin : Int32) (v_token : Int32) (v_told : Int32) (v_cames : Int32) (v_each : Int32) (v_trace : Int64) (v_kept : Nat → Int32) (p0 : Int32) (Q : Int32 → Int32 → (Nat → Int32) → (Nat → Int32) → Prop) (C0 : gAt cX7_back (some .int) 4 RX7 wsX7_back p s m meth c args) (hK : va_K (dC, dI) vwCl (gTy cyC cyI cyZ) s) (hN : nU s) (hA : ∀ q, s.heap.size ≤ q → A q) : ∀ n : Nat, (∀ (x2 : Int32) (x3 : Int32) (v_undos : Int32) (v_now : Nat → Int32) (v_undone : Nat → Int32) (H : Heap) (locs : List Loc) (ls : Array Slot), wp_X7_back v_kept p0 Q n 44 x2 x3 v_undos v_now v_undone → va_P (dC, dI) vwCl [(a, .inr (7, [.ref a_text, .int v_size, .int v_at, .int v_begin, .int v_token, .int v_told, .ref a_read, .ref a_hill, .ref a_now, .ref a_undone, .int v_undos, .ref a_need, .int v_cames, .ref a_cameOf, .ref a_places, .ref a_firstRow, .int v_each, .long v_trace, .ref a_kept])), (a_kept, .inl (cyI, 334, .inl v_kept)), (a_now, .inl (cyI, 15, .inl v_now)), (a_undone, .inl (cyI, 150, .inl v_undone))] H → va_D A [(a, .inr (7, [.ref a_text, .int v_size, .int v_at, .int v_begin, .int v_token, .int v_told, .ref a_read, .ref a_hill, .ref a_now, .ref a_undone, .int v_undos, .ref a_need, .int v_cames, .ref a_cameOf, .ref a_places, .ref a_firstRow, .int v_each, .long v_trace, .ref a_kept])), (a_kept, .inl (cyI, 334, .inl v_kept)), (a_now, .inl (cyI, 15, .inl v_now)), (a_undone, .inl (cyI, 150, .inl v_undone))] → va_S A s.heap H locs → lv_has ls 4 [(0, .ref a), (2, .int x2), (3, .int x3)] → W p l e { frames := 1, cells := 0, slots := 0, locals := 25 } s m args below meth c H locs 0 0 (MQ below (gQi3 Q (dC, dI) A (fun (u1 : Int32) (u2 : Nat → Int32) (u3 : Nat → Int32) => [(a, .inr (7, [.ref a_text, .int v_size, .int v_at, .int v_begin, .int v_token, .int v_told, .ref a_read, .ref a_hill, .ref a_now, .ref a_undone, .int u1, .ref a_need, .int v_cames, .ref a_cameOf, .ref a_places, .ref a_firstRow, .int v_each, .long v_trace, .ref a_kept])), (a_kept, .inl (cyI, 334, .inl v_kept)), (a_now, .inl (cyI, 15, .inl u2)), (a_undone, .inl (cyI, 150, .inl u3))])) args s 0 0 A) (F0 m 44 ls [])) ∧ (∀ (x2 : Int32) (x3 : Int32) (v_undos : Int32) (v_now : Nat → Int32) (v_undone : Nat → Int32) (H : Heap) (locs : List Loc) (ls : Array Slot), wp_X7_back v_kept p0 Q n 74 x2 x3 v_undos v_now v_undone → va_P (dC, dI) vwCl [(a, .inr (7, [.ref a_text, .int v_size, .int v_at, .int v_begin, .int v_token, .int v_told, .ref a_read, .ref a_hill, .ref a_now, .ref a_undone, .int v_undos, .ref a_need, .int v_cames, .ref a_cameOf, .ref a_places, .ref a_firstRow, .int v_each, .long v_trace, .ref a_kept])), (a_kept, .inl (cyI, 334, .inl v_kept)), (a_now, .inl (cyI, 15, .inl v_now)), (a_undone, .inl (cyI, 150, .inl v_undone))] H → va_D A [(a, .inr (7, [.ref a_text, .int v_size, .int v_at, .int v_begin, .int v_token, .int v_told, .ref a_read, .ref a_hill, .ref a_now, .ref a_undone, .int v_undos, .ref a_need, .int v_cames, .ref a_cameOf, .ref a_places, .ref a_firstRow, .int v_each, .long v_trace, .ref a_kept])), (a_kept, .inl (cyI, 334, .inl v_kept)), (a_now, .inl (cyI, 15, .inl v_now)), (a_undone, .inl (cyI, 150, .inl v_undone))] → va_S A s.heap H locs → lv_has ls 4 [(0, .ref a), (2, .int x2), (3, .int x3)] → W p l e { frames := 1, cells := 0, slots := 0, locals := 25 } s m args below meth c H locs 0 0 (MQ below (gQi3 Q (dC, dI) A (fun (u1 : Int32) (u2 : Nat → Int32) (u3 : Nat → Int32) => [(a, .inr (7, [.ref a_text, .int v_size, .int v_at, .int v_begin, .int v_token, .int v_told, .ref a_read, .ref a_hill, .ref a_now, .ref a_undone, .int u1, .ref a_need, .int v_cames, .ref a_cameOf, .ref a_places, .ref a_firstRow, .int v_each, .long v_trace, .ref a_kept])), (a_kept, .inl (cyI, 334, .inl v_kept)), (a_now, .inl (cyI, 15, .inl u2)), (a_undone, .inl (cyI, 150, .inl u3))])) args s 0 0 A) (F0 m 74 ls [])) := by
  obtain ⟨hx, hb, hr, hml, hown, hts, hlocks⟩ := id C0
  have f119 := hts (.fieldLink RX7 119 "LastOchreModel" "undos" "I") (by decide +kernel)
  have f19 := hts (.fieldLink RX7 19 "LastOchreModel" "now" "[I") (by decide +kernel)
  have f22 := hts (.fieldLink RX7 22 "LastOchreModel" "undone" "[I") (by decide +kernel)
  have f37 := hts (.fieldLink RX7 37 "LastOchreModel" "kept" "[I") (by decide +kernel)
  intro n
  induction n with
  | zero => exact ⟨fun _ _ _ _ _ _ _ _ h => absurd h id, fun _ _ _ _ _ _ _ _ h => absurd h id⟩
  | succ n ih =>
    obtain ⟨ih44, ih74⟩ := ih
    refine ⟨?_, ?_⟩
    · intro x2 x3 v_undos v_now v_undone H locs ls h hP hD hS hl
      replace h : F_X7_back_44 v_kept p0 Q (wp_X7_back v_kept p0 Q n) x2 x3 v_undos v_now v_undone := h
      unfold F_X7_back_44 at h
      refine lv_iload_n hx hb dX7_back_44 rfl (lv_at hl 2 rfl) ?_
      refine lv_bipush (v := 15) hx hb dX7_back_45 (by decide) ?_
      refine lv_icmp_ge (tgt := 72) hx hb dX7_back_47 (by decide) (fun c_10 => ?_) (fun c_10 => ?_)
      · replace h := h.1 c_10
        refine lv_iconst (v := 0) hx hb dX7_back_72 (by decide) ?_
        refine lv_istore_n (lv' := [(3, .int (0 : Int32)), (0, .ref a), (2, .int x2)]) hx hb dX7_back_73 rfl hl (by decide) rfl (fun ls hl => ?_)
        exact ih74 x2 (0 : Int32) v_undos v_now v_undone _ _ _ h hP hD hS (lv_sub hl [1, 2, 0] rfl)
      · replace h := h.2 c_10
        refine lv_aload_n hx hb dX7_back_50 rfl (lv_at hl 0 rfl) ?_
        refine va_get (D := (dC, dI)) (ci := 7) (v := .ref a_now) (C := RX7) (T := TX7) (N := 19) hx hb hts iwX7_back_X7 hown hK hP 0 rfl rfl 8 (by decide) f19 (fun _ h9 => h9) rfl dX7_back_51 ?_
        refine lv_iload_n hx hb dX7_back_54 rfl (lv_at hl 2 rfl) ?_
        refine lv_aload_n hx hb dX7_back_55 rfl (lv_at hl 0 rfl) ?_
        refine va_get (D := (dC, dI)) (ci := 7) (v := .ref a_kept) (C := RX7) (T := TX7) (N := 19) hx hb hts iwX7_back_X7 hown hK hP 0 rfl rfl 18 (by decide) f37 (fun _ h9 => h9) rfl dX7_back_56 ?_
        refine lv_iload_n hx hb dX7_back_59 rfl (lv_at hl 1 rfl) ?_
        refine lv_iconst (v := 2) hx hb dX7_back_60 (by decide) ?_
        refine lv_iadd hx hb dX7_back_61 ?_
        refine lv_iload_n hx hb dX7_back_62 rfl (lv_at hl 2 rfl) ?_
        refine lv_iadd hx hb dX7_back_63 ?_
        have g_11 := h.1
        replace h := h.2
        refine va_iald hx hb hK hP 1 0 rfl rfl g_11 dX7_back_64 ?_
        have g_12 := h.1
        replace h := h.2
        refine va_iast hx hb hK hP hD hS 2 0 rfl rfl g_12 dX7_back_65 (fun H locs hP hD hS => ?_)
        obtain ⟨f_13, e_14⟩ : ∃ y : Nat → Int32, y = upd v_now (x3).toNatClampNeg (v_kept (((x2 + (2 : Int32)) + x3)).toNatClampNeg) := ⟨_, rfl⟩
        replace h := h f_13 e_14
        replace hP : va_P (dC, dI) vwCl [(a, .inr (7, [.ref a_text, .int v_size, .int v_at, .int v_begin, .int v_token, .int v_told, .ref a_read, .ref a_hill, .ref a_now, .ref a_undone, .int v_undos, .ref a_need, .int v_cames, .ref a_cameOf, .ref a_places, .ref a_firstRow, .int v_each, .long v_trace, .ref a_kept])), (a_kept, .inl (cyI, 334, .inl v_kept)), (a_now, .inl (cyI, 15, .inl f_13)), (a_undone, .inl (cyI, 150, .inl v_undone))] H := by rw [e_14]; exact hP
        replace hD : va_D A [(a, .inr (7, [.ref a_text, .int v_size, .int v_at, .int v_begin, .int v_token, .int v_told, .ref a_read, .ref a_hill, .ref a_now, .ref a_undone, .int v_undos, .ref a_need, .int v_cames, .ref a_cameOf, .ref a_places, .ref a_firstRow, .int v_each, .long v_trace, .ref a_kept])), (a_kept, .inl (cyI, 334, .inl v_kept)), (a_now, .inl (cyI, 15, .inl f_13)), (a_undone, .inl (cyI, 150, .inl v_undone))] := by rw [e_14]; exact hD
        obtain ⟨x3_15, e_16⟩ : ∃ y : Int32, y = (x3 + (1 : Int32)) := ⟨_, rfl⟩
        replace h := h x3_15 e_16
        refine lv_iinc (v := x3_15) (lv' := [(3, .int x3_15), (0, .ref a), (2, .int x2)]) hx hb dX7_back_66 hl (k := 2) rfl (by rw [e_16]; rfl) (by decide) rfl (fun ls hl => ?_)
        refine lv_goto (tgt := 44) hx hb dX7_back_69 (by decide) ?_
        exact ih44 x2 x3_15 v_undos f_13 v_undone _ _ _ h hP hD hS (lv_sub hl [1, 2, 0] rfl)
    · intro x2 x3 v_undos v_now v_undone H locs ls h hP hD hS hl
      replace h : F_X7_back_74 v_kept p0 Q (wp_X7_back v_kept p0 Q n) x2 x3 v_undos v_now v_undone := h
      unfold F_X7_back_74 at h
      refine lv_iload_n hx hb dX7_back_74 rfl (lv_at hl 2 rfl) ?_
      refine lv_sipush (v := 150) hx hb dX7_back_75 (by decide) ?_
      refine lv_icmp_ge (tgt := 104) hx hb dX7_back_78 (by decide) (fun c_17 => ?_) (fun c_17 => ?_)
      · replace h := h.1 c_17
        refine lv_aload_n hx hb dX7_back_104 rfl (lv_at hl 0 rfl) ?_
        refine va_get (D := (dC, dI)) (ci := 7) (v := .ref a_now) (C := RX7) (T := TX7) (N := 19) hx hb hts iwX7_back_X7 hown hK hP 0 rfl rfl 8 (by decide) f19 (fun _ h9 => h9) rfl dX7_back_105 ?_
        refine lv_iconst (v := 0) hx hb dX7_back_108 (by decide) ?_
        refine va_iald hx hb hK hP 2 0 rfl rfl (by unfold vp_in; decide) dX7_back_109 ?_
        exact gri3 hx hb hr hlocks h hP hD hS dX7_back_110
      · replace h := h.2 c_17
        refine lv_aload_n hx hb dX7_back_81 rfl (lv_at hl 0 rfl) ?_
        refine va_get (D := (dC, dI)) (ci := 7) (v := .ref a_undone) (C := RX7) (T := TX7) (N := 19) hx hb hts iwX7_back_X7 hown hK hP 0 rfl rfl 9 (by decide) f22 (fun _ h9 => h9) rfl dX7_back_82 ?_
        refine lv_iload_n hx hb dX7_back_85 rfl (lv_at hl 2 rfl) ?_
        refine lv_aload_n hx hb dX7_back_86 rfl (lv_at hl 0 rfl) ?_
        refine va_get (D := (dC, dI)) (ci := 7) (v := .ref a_kept) (C := RX7) (T := TX7) (N := 19) hx hb hts iwX7_back_X7 hown hK hP 0 rfl rfl 18 (by decide) f37 (fun _ h9 => h9) rfl dX7_back_87 ?_
        refine lv_iload_n hx hb dX7_back_90 rfl (lv_at hl 1 rfl) ?_
        refine lv_bipush (v := 17) hx hb dX7_back_91 (by decide) ?_
        refine lv_iadd hx hb dX7_back_93 ?_
        refine lv_iload_n hx hb dX7_back_94 rfl (lv_at hl 2 rfl) ?_
        refine lv_iadd hx hb dX7_back_95 ?_
        have g_18 := h.1
        replace h := h.2
        refine va_iald hx hb hK hP 1 0 rfl rfl g_18 dX7_back_96 ?_
        have g_19 := h.1
        replace h := h.2
        refine va_iast hx hb hK hP hD hS 3 0 rfl rfl g_19 dX7_back_97 (fun H locs hP hD hS => ?_)
        obtain ⟨f_20, e_21⟩ : ∃ y : Nat → Int32, y = upd v_undone (x3).toNatClampNeg (v_kept (((x2 + (17 : Int32)) + x3)).toNatClampNeg) := ⟨_, rfl⟩
        replace h := h f_20 e_21
        replace hP : va_P (dC, dI) vwCl [(a, .inr (7, [.ref a_text, .int v_size, .int v_at, .int v_begin, .int v_token, .int v_told, .ref a_read, .ref a_hill, .ref a_now, .ref a_undone, .int v_undos, .ref a_need, .int v_cames, .ref a_cameOf, .ref a_places, .ref a_firstRow, .int v_each, .long v_trace, .ref a_kept])), (a_kept, .inl (cyI, 334, .inl v_kept)), (a_now, .inl (cyI, 15, .inl v_now)), (a_undone, .inl (cyI, 150, .inl f_20))] H := by rw [e_21]; exact hP
        replace hD : va_D A [(a, .inr (7, [.ref a_text, .int v_size, .int v_at, .int v_begin, .int v_token, .int v_told, .ref a_read, .ref a_hill, .ref a_now, .ref a_undone, .int v_undos, .ref a_need, .int v_cames, .ref a_cameOf, .ref a_places, .ref a_firstRow, .int v_each, .long v_trace, .ref a_kept])), (a_kept, .inl (cyI, 334, .inl v_kept)), (a_now, .inl (cyI, 15, .inl v_now)), (a_undone, .inl (cyI, 150, .inl f_20))] := by rw [e_21]; exact hD
        obtain ⟨x3_22, e_23⟩ : ∃ y : Int32, y = (x3 + (1 : Int32)) := ⟨_, rfl⟩
        replace h := h x3_22 e_23
        refine lv_iinc (v := x3_22) (lv' := [(3, .int x3_22), (0, .ref a), (2, .int x2)]) hx hb dX7_back_98 hl (k := 2) rfl (by rw [e_23]; rfl) (by decide) rfl (fun ls hl => ?_)
        refine lv_goto (tgt := 74) hx hb dX7_back_101 (by decide) ?_
        exact ih74 x2 x3_22 v_undos v_now f_20 _ _ _ h hP hD hS (lv_sub hl [1, 2, 0] rfl)
set_option maxHeartbeats 4000000 in
set_option maxRecDepth 100000 in
theorem c_X7_back (l : Launch) (dC : Nat → ClassId) (dI : Nat → Nat → Nat) (cyC cyI cyZ : ClassId) (sz : Nat) (a a_text a_read a_hill a_now a_undone a_need a_cameOf a_places a_firstRow a_kept : Nat) (v_size : Int32) (v_at : Int32) (v_begin : Int32) (v_token : Int32) (v_told : Int32) (v_undos : Int32) (v_cames : Int32) (v_each : Int32) (v_trace : Int64) (v_kept : Nat → Int32) (v_now : Nat → Int32) (v_undone : Nat → Int32) (p0 : Int32) {Q : Int32 → Int32 → (Nat → Int32) → (Nat → Int32) → Prop} (h : q_X7_back v_undos v_kept v_now v_undone p0 Q) : Met l yX7_back wsX7_back ({ frames := 1, cells := 0, slots := 0, locals := 25 }) (gPc [.ref a, .int p0] (dC, dI) (gTy cyC cyI cyZ) sz [(a, .inr (7, [.ref a_text, .int v_size, .int v_at, .int v_begin, .int v_token, .int v_told, .ref a_read, .ref a_hill, .ref a_now, .ref a_undone, .int v_undos, .ref a_need, .int v_cames, .ref a_cameOf, .ref a_places, .ref a_firstRow, .int v_each, .long v_trace, .ref a_kept])), (a_kept, .inl (cyI, 334, .inl v_kept)), (a_now, .inl (cyI, 15, .inl v_now)), (a_undone, .inl (cyI, 150, .inl v_undone))]) (gQi3 Q (dC, dI) (va_A [(a, .inr (7, [.ref a_text, .int v_size, .int v_at, .int v_begin, .int v_token, .int v_told, .ref a_read, .ref a_hill, .ref a_now, .ref a_undone, .int v_undos, .ref a_need, .int v_cames, .ref a_cameOf, .ref a_places, .ref a_firstRow, .int v_each, .long v_trace, .ref a_kept])), (a_kept, .inl (cyI, 334, .inl v_kept)), (a_now, .inl (cyI, 15, .inl v_now)), (a_undone, .inl (cyI, 150, .inl v_undone))] sz) (fun (u1 : Int32) (u2 : Nat → Int32) (u3 : Nat → Int32) => [(a, .inr (7, [.ref a_text, .int v_size, .int v_at, .int v_begin, .int v_token, .int v_told, .ref a_read, .ref a_hill, .ref a_now, .ref a_undone, .int u1, .ref a_need, .int v_cames, .ref a_cameOf, .ref a_places, .ref a_firstRow, .int v_each, .long v_trace, .ref a_kept])), (a_kept, .inl (cyI, 334, .inl v_kept)), (a_now, .inl (cyI, 15, .inl u2)), (a_undone, .inl (cyI, 150, .inl u3))])) 0 0 (va_A [(a, .inr (7, [.ref a_text, .int v_size, .int v_at, .int v_begin, .int v_token, .int v_told, .ref a_read, .ref a_hill, .ref a_now, .ref a_undone, .int v_undos, .ref a_need, .int v_cames, .ref a_cameOf, .ref a_places, .ref a_firstRow, .int v_each, .long v_trace, .ref a_kept])), (a_kept, .inl (cyI, 334, .inl v_kept)), (a_now, .inl (cyI, 15, .inl v_now)), (a_undone, .inl (cyI, 150, .inl v_undone))] sz) := by
  refine gMet (cc := cX7_back) (maxL := 4) (ret := (some .int)) (own := RX7) (fun A => gQi3 Q (dC, dI) A (fun (u1 : Int32) (u2 : Nat → Int32) (u3 : Nat → Int32) => [(a, .inr (7, [.ref a_text, .int v_size, .int v_at, .int v_begin, .int v_token, .int v_told, .ref a_read, .ref a_hill, .ref a_now, .ref a_undone, .int u1, .ref a_need, .int v_cames, .ref a_cameOf, .ref a_places, .ref a_firstRow, .int v_each, .long v_trace, .ref a_kept])), (a_kept, .inl (cyI, 334, .inl v_kept)), (a_now, .inl (cyI, 15, .inl u2)), (a_undone, .inl (cyI, 150, .inl u3))])) (by decide) rfl rfl (Nat.le_of_ble_eq_true rfl) ?_
  intro p e s m below meth c A ls C0 _ hK hN hP hD hA hl
  obtain ⟨hx, hb, hr, hml, hown, hts, hlocks⟩ := id C0
  have f119 := hts (.fieldLink RX7 119 "LastOchreModel" "undos" "I") (by decide +kernel)
  have f19 := hts (.fieldLink RX7 19 "LastOchreModel" "now" "[I") (by decide +kernel)
  have f22 := hts (.fieldLink RX7 22 "LastOchreModel" "undone" "[I") (by decide +kernel)
  have f37 := hts (.fieldLink RX7 37 "LastOchreModel" "kept" "[I") (by decide +kernel)
  have hS : va_S A s.heap s.heap [] := va_S.rf
  replace hl : lv_has ls 4 [(0, .ref a), (1, .int p0)] := hl
  unfold q_X7_back at h
  obtain ⟨n, h⟩ := h
  obtain ⟨ih44, ih74⟩ := w_X7_back (l := l) (e := e) (below := below) dC dI cyC cyI cyZ a a_text a_read a_hill a_now a_undone a_need a_cameOf a_places a_firstRow a_kept v_size v_at v_begin v_token v_told v_cames v_each v_trace v_kept p0 Q C0 hK hN hA n
  unfold F_X7_back_e at h
  refine lv_iload_n hx hb dX7_back_0 rfl (lv_at hl 1 rfl) ?_
  refine lv_i2l hx hb dX7_back_1 rfl ?_
  refine lv_lconst (v := 0) hx hb dX7_back_2 (by decide) ?_
  refine lv_lconst (v := 1) hx hb dX7_back_3 (by decide) ?_
  refine gS_i0 (As := [.long ((p0).toInt64), .long (0 : Int64), .long (1 : Int64)]) (rest := []) ⟨hx, hb, hml, hown, hts⟩ (c_X7_in l dC dI cyC cyI cyZ _ ((p0).toInt64) (0 : Int64) (1 : Int64) h) (va_cwS 3 hts gX7_back_X7_in rfl rfl rfl hdS_X7_in ⟨Nat.le_of_ble_eq_true rfl, Nat.le_of_ble_eq_true rfl⟩) hK hN hP hD hS hA [] (by decide) rfl rfl hl.1 rfl (Nat.le_of_ble_eq_true rfl) dX7_back_4 ⟨Nat.zero_le _, Nat.zero_le _⟩ (fun r_1 H locs h hP hS => ?_)
  refine lv_if_ne (tgt := 12) hx hb dX7_back_7 (by decide) (fun c_2 => ?_) (fun c_2 => ?_)
  · replace h := h.1 c_2
    refine lv_sipush (v := 167) hx hb dX7_back_12 (by decide) ?_
    refine lv_iload_n hx hb dX7_back_15 rfl (lv_at hl 1 rfl) ?_
    refine lv_imul hx hb dX7_back_16 ?_
    refine lv_topi (fun x2_3 e_4 => ?_)
    replace h := h x2_3 e_4
    refine lv_istore_n (lv' := [(2, .int x2_3), (0, .ref a), (1, .int p0)]) hx hb dX7_back_17 rfl hl (by decide) rfl (fun ls hl => ?_)
    refine lv_aload_n hx hb dX7_back_18 rfl (lv_at hl 1 rfl) ?_
    refine va_get (D := (dC, dI)) (ci := 7) (v := .ref a_kept) (C := RX7) (T := TX7) (N := 19) hx hb hts iwX7_back_X7 hown hK hP 0 rfl rfl 18 (by decide) f37 (fun _ h9 => h9) rfl dX7_back_19 ?_
    refine lv_iload_n hx hb dX7_back_22 rfl (lv_at hl 0 rfl) ?_
    have g_5 := h.1
    replace h := h.2
    refine va_iald hx hb hK hP 1 0 rfl rfl g_5 dX7_back_23 ?_
    refine lv_if_ne (tgt := 30) hx hb dX7_back_24 (by decide) (fun c_6 => ?_) (fun c_6 => ?_)
    · replace h := h.1 c_6
      refine lv_aload_n hx hb dX7_back_30 rfl (lv_at hl 1 rfl) ?_
      refine lv_aload_n hx hb dX7_back_31 rfl (lv_at hl 1 rfl) ?_
      refine va_get (D := (dC, dI)) (ci := 7) (v := .ref a_kept) (C := RX7) (T := TX7) (N := 19) hx hb hts iwX7_back_X7 hown hK hP 0 rfl rfl 18 (by decide) f37 (fun _ h9 => h9) rfl dX7_back_32 ?_
      refine lv_iload_n hx hb dX7_back_35 rfl (lv_at hl 0 rfl) ?_
      refine lv_iconst (v := 1) hx hb dX7_back_36 (by decide) ?_
      refine lv_iadd hx hb dX7_back_37 ?_
      have g_7 := h.1
      replace h := h.2
      refine va_iald hx hb hK hP 1 0 rfl rfl g_7 dX7_back_38 ?_
      refine lv_topi (fun n_8 e_9 => ?_)
      replace h := h n_8 e_9
      refine va_put (D := (dC, dI)) (ci := 7) (v := .int n_8) (ty := .int) (C := RX7) (T := TX7) (N := 19) hx hb hts iwX7_back_X7 tyX7 tyX7_ok nmX7 hown hK hP hD hS 0 rfl rfl 10 (by decide) f119 (fun _ h9 => h9) rfl (by decide +kernel) rfl rfl (Nat.le_of_ble_eq_true rfl) dX7_back_39 (fun H locs hP hD hS => ?_)
      replace hP : va_P (dC, dI) vwCl [(a, .inr (7, [.ref a_text, .int v_size, .int v_at, .int v_begin, .int v_token, .int v_told, .ref a_read, .ref a_hill, .ref a_now, .ref a_undone, .int n_8, .ref a_need, .int v_cames, .ref a_cameOf, .ref a_places, .ref a_firstRow, .int v_each, .long v_trace, .ref a_kept])), (a_kept, .inl (cyI, 334, .inl v_kept)), (a_now, .inl (cyI, 15, .inl v_now)), (a_undone, .inl (cyI, 150, .inl v_undone))] H := hP
      replace hD : va_D A [(a, .inr (7, [.ref a_text, .int v_size, .int v_at, .int v_begin, .int v_token, .int v_told, .ref a_read, .ref a_hill, .ref a_now, .ref a_undone, .int n_8, .ref a_need, .int v_cames, .ref a_cameOf, .ref a_places, .ref a_firstRow, .int v_each, .long v_trace, .ref a_kept])), (a_kept, .inl (cyI, 334, .inl v_kept)), (a_now, .inl (cyI, 15, .inl v_now)), (a_undone, .inl (cyI, 150, .inl v_undone))] := hD
      refine lv_iconst (v := 0) hx hb dX7_back_42 (by decide) ?_
      refine lv_istore_n (lv' := [(3, .int (0 : Int32)), (2, .int x2_3), (0, .ref a), (1, .int p0)]) hx hb dX7_back_43 rfl hl (by decide) rfl (fun ls hl => ?_)
      exact ih44 x2_3 (0 : Int32) n_8 v_now v_undone _ _ _ h hP hD hS (lv_sub hl [2, 1, 0] rfl)
    · replace h := h.2 c_6
      refine lv_bipush (v := -2) hx hb dX7_back_27 (by decide) ?_
      exact gri3 hx hb hr hlocks h hP hD hS dX7_back_29
  · replace h := h.2 c_2
    refine lv_iconst (v := -1) hx hb dX7_back_10 (by decide) ?_
    exact gri3 hx hb hr hlocks h hP hD hS dX7_back_11

def F_X7_kept_e (v_hill : Nat → Int32) (v_now : Nat → Int32) (p0 : Int32) (p1 : Int32) (Q : Int32 → (Nat → Int32) → Prop) (rec : Nat → Int32 → Int32 → Int32 → Int32 → Int32 → Int32 → Int32 → Int32 → Int32 → Int32 → Int32 → (Nat → Int32) → Prop) (v_need : Nat → Int32) : Prop :=
  q_X7_in ((p0).toInt64) (0 : Int64) (99 : Int64) (fun (r_1 : Int32) => (r_1 = 0 → (Q (-1 : Int32) v_need)) ∧ (¬ r_1 = 0 → (q_X7_in ((p1).toInt64) (0 : Int64) (2 : Int64) (fun (r_3 : Int32) => (¬ r_3 = 0 → (rec 28 (0 : Int32) 0 0 0 0 0 0 0 0 0 0 v_need)) ∧ (r_3 = 0 → (Q (-1 : Int32) v_need))))))
def F_X7_kept_28 (v_hill : Nat → Int32) (v_now : Nat → Int32) (p0 : Int32) (p1 : Int32) (Q : Int32 → (Nat → Int32) → Prop) (rec : Nat → Int32 → Int32 → Int32 → Int32 → Int32 → Int32 → Int32 → Int32 → Int32 → Int32 → Int32 → (Nat → Int32) → Prop) (x3 : Int32) (x4 : Int32) (x5 : Int32) (x6 : Int32) (x7 : Int32) (x8 : Int32) (x9 : Int32) (x10 : Int32) (x11 : Int32) (k0 : Int32) (k1 : Int32) (v_need : Nat → Int32) : Prop :=
  ((v_hill ((2 : Int32)).toNatClampNeg) ≤ x3 → (rec 67 (0 : Int32) (-1 : Int32) (0 : Int32) (0 : Int32) 0 0 0 0 0 0 0 v_need)) ∧ (¬ (v_hill ((2 : Int32)).toNatClampNeg) ≤ x3 → (q_X7_needsOf v_now v_hill x3 p0 (fun (r_6 : Int32) => vp_in x3 6 ∧ (∀ f_8 : Nat → Int32, f_8 = upd v_need (x3).toNatClampNeg r_6 → (∀ x3_10 : Int32, x3_10 = (x3 + (1 : Int32)) → (rec 28 x3_10 0 0 0 0 0 0 0 0 0 0 f_8))))))
def F_X7_kept_67 (v_hill : Nat → Int32) (v_now : Nat → Int32) (p0 : Int32) (p1 : Int32) (Q : Int32 → (Nat → Int32) → Prop) (rec : Nat → Int32 → Int32 → Int32 → Int32 → Int32 → Int32 → Int32 → Int32 → Int32 → Int32 → Int32 → (Nat → Int32) → Prop) (x3 : Int32) (x4 : Int32) (x5 : Int32) (x6 : Int32) (x7 : Int32) (x8 : Int32) (x9 : Int32) (x10 : Int32) (x11 : Int32) (k0 : Int32) (k1 : Int32) (v_need : Nat → Int32) : Prop :=
  (((1 : Int32) <<< ((v_hill ((2 : Int32)).toNatClampNeg) &&& 31)) ≤ x6 → ((¬ p1 = 0 → ((¬ p1 = (1 : Int32) → (Q x5 v_need)) ∧ (p1 = (1 : Int32) → (Q x4 v_need)))) ∧ (p1 = 0 → (Q x3 v_need)))) ∧ (¬ ((1 : Int32) <<< ((v_hill ((2 : Int32)).toNatClampNeg) &&& 31)) ≤ x6 → (∀ x7_15 : Int32, x7_15 = (v_now ((1 : Int32)).toNatClampNeg) → (rec 97 x3 x4 x5 x6 x7_15 (0 : Int32) (1 : Int32) (0 : Int32) 0 0 0 v_need)))
def F_X7_kept_97 (v_hill : Nat → Int32) (v_now : Nat → Int32) (p0 : Int32) (p1 : Int32) (Q : Int32 → (Nat → Int32) → Prop) (rec : Nat → Int32 → Int32 → Int32 → Int32 → Int32 → Int32 → Int32 → Int32 → Int32 → Int32 → Int32 → (Nat → Int32) → Prop) (x3 : Int32) (x4 : Int32) (x5 : Int32) (x6 : Int32) (x7 : Int32) (x8 : Int32) (x9 : Int32) (x10 : Int32) (x11 : Int32) (k0 : Int32) (k1 : Int32) (v_need : Nat → Int32) : Prop :=
  ((v_hill ((2 : Int32)).toNatClampNeg) ≤ x10 → ((x9 = 0 → (rec 229 x3 x4 x5 x6 x7 x8 0 0 0 0 0 v_need)) ∧ (¬ x9 = 0 → ((x7 < 0 → (rec 229 x3 x4 x5 x6 x7 x8 0 0 0 0 0 v_need)) ∧ (¬ x7 < 0 → ((x8 ≤ x4 → (rec 229 x3 x4 x5 x6 x7 x8 0 0 0 0 0 v_need)) ∧ (¬ x8 ≤ x4 → (rec 230 x3 x4 x5 x6 x7 x8 0 0 0 (1 : Int32) 0 v_need)))))))) ∧ (¬ (v_hill ((2 : Int32)).toNatClampNeg) ≤ x10 → ((¬ ((x6 >>> (x10 &&& 31)) &&& (1 : Int32)) = (1 : Int32) → (rec 124 x3 x4 x5 x6 x7 x8 x9 x10 0 (0 : Int32) 0 v_need)) ∧ (((x6 >>> (x10 &&& 31)) &&& (1 : Int32)) = (1 : Int32) → (rec 124 x3 x4 x5 x6 x7 x8 x9 x10 0 (1 : Int32) 0 v_need))))
def F_X7_kept_124 (v_hill : Nat → Int32) (v_now : Nat → Int32) (p0 : Int32) (p1 : Int32) (Q : Int32 → (Nat → Int32) → Prop) (rec : Nat → Int32 → Int32 → Int32 → Int32 → Int32 → Int32 → Int32 → Int32 → Int32 → Int32 → Int32 → (Nat → Int32) → Prop) (x3 : Int32) (x4 : Int32) (x5 : Int32) (x6 : Int32) (x7 : Int32) (x8 : Int32) (x9 : Int32) (x10 : Int32) (x11 : Int32) (k0 : Int32) (k1 : Int32) (v_need : Nat → Int32) : Prop :=
  (x9 = 0 → (rec 152 x3 x4 x5 x6 x7 x8 0 x10 k0 0 0 v_need)) ∧ (¬ x9 = 0 → ((k0 = 0 → (rec 148 x3 x4 x5 x6 x7 x8 0 x10 k0 0 0 v_need)) ∧ (¬ k0 = 0 → (vp_in x10 6 ∧ (((v_need (x10).toNatClampNeg) = (-9 : Int32) → (rec 152 x3 x4 x5 x6 x7 x8 0 x10 k0 0 0 v_need)) ∧ (¬ (v_need (x10).toNatClampNeg) = (-9 : Int32) → (rec 148 x3 x4 x5 x6 x7 x8 0 x10 k0 0 0 v_need)))))))
def F_X7_kept_148 (v_hill : Nat → Int32) (v_now : Nat → Int32) (p0 : Int32) (p1 : Int32) (Q : Int32 → (Nat → Int32) → Prop) (rec : Nat → Int32 → Int32 → Int32 → Int32 → Int32 → Int32 → Int32 → Int32 → Int32 → Int32 → Int32 → (Nat → Int32) → Prop) (x3 : Int32) (x4 : Int32) (x5 : Int32) (x6 : Int32) (x7 : Int32) (x8 : Int32) (x9 : Int32) (x10 : Int32) (x11 : Int32) (k0 : Int32) (k1 : Int32) (v_need : Nat → Int32) : Prop :=
  rec 153 x3 x4 x5 x6 x7 x8 0 x10 x11 (1 : Int32) 0 v_need
def F_X7_kept_152 (v_hill : Nat → Int32) (v_now : Nat → Int32) (p0 : Int32) (p1 : Int32) (Q : Int32 → (Nat → Int32) → Prop) (rec : Nat → Int32 → Int32 → Int32 → Int32 → Int32 → Int32 → Int32 → Int32 → Int32 → Int32 → Int32 → (Nat → Int32) → Prop) (x3 : Int32) (x4 : Int32) (x5 : Int32) (x6 : Int32) (x7 : Int32) (x8 : Int32) (x9 : Int32) (x10 : Int32) (x11 : Int32) (k0 : Int32) (k1 : Int32) (v_need : Nat → Int32) : Prop :=
  rec 153 x3 x4 x5 x6 x7 x8 0 x10 x11 (0 : Int32) 0 v_need
def F_X7_kept_153 (v_hill : Nat → Int32) (v_now : Nat → Int32) (p0 : Int32) (p1 : Int32) (Q : Int32 → (Nat → Int32) → Prop) (rec : Nat → Int32 → Int32 → Int32 → Int32 → Int32 → Int32 → Int32 → Int32 → Int32 → Int32 → Int32 → (Nat → Int32) → Prop) (x3 : Int32) (x4 : Int32) (x5 : Int32) (x6 : Int32) (x7 : Int32) (x8 : Int32) (x9 : Int32) (x10 : Int32) (x11 : Int32) (k0 : Int32) (k1 : Int32) (v_need : Nat → Int32) : Prop :=
  (x11 = 0 → (q_X7_scraped v_now v_hill x10 (fun (r_27 : Int32) => rec 179 x3 x4 x5 x6 0 x8 k0 x10 x11 r_27 x7 v_need))) ∧ (¬ x11 = 0 → (vp_in x10 6 ∧ (rec 179 x3 x4 x5 x6 0 x8 k0 x10 x11 (-(v_need (x10).toNatClampNeg)) x7 v_need)))
def F_X7_kept_179 (v_hill : Nat → Int32) (v_now : Nat → Int32) (p0 : Int32) (p1 : Int32) (Q : Int32 → (Nat → Int32) → Prop) (rec : Nat → Int32 → Int32 → Int32 → Int32 → Int32 → Int32 → Int32 → Int32 → Int32 → Int32 → Int32 → (Nat → Int32) → Prop) (x3 : Int32) (x4 : Int32) (x5 : Int32) (x6 : Int32) (x7 : Int32) (x8 : Int32) (x9 : Int32) (x10 : Int32) (x11 : Int32) (k0 : Int32) (k1 : Int32) (v_need : Nat → Int32) : Prop :=
  ∀ x7_29 : Int32, x7_29 = (k1 + k0) → ((x11 = 0 → (∀ x8_32 : Int32, x8_32 = (x8 + (0 : Int32)) → (∀ x10_34 : Int32, x10_34 = (x10 + (1 : Int32)) → (rec 97 x3 x4 x5 x6 x7_29 x8_32 x9 x10_34 0 0 0 v_need)))) ∧ (¬ x11 = 0 → (q_X7_worth v_hill x10 (fun (r_36 : Int32) => ∀ x8_37 : Int32, x8_37 = (x8 + r_36) → (∀ x10_39 : Int32, x10_39 = (x10 + (1 : Int32)) → (rec 97 x3 x4 x5 x6 x7_29 x8_37 x9 x10_39 0 0 0 v_need))))))
def F_X7_kept_229 (v_hill : Nat → Int32) (v_now : Nat → Int32) (p0 : Int32) (p1 : Int32) (Q : Int32 → (Nat → Int32) → Prop) (rec : Nat → Int32 → Int32 → Int32 → Int32 → Int32 → Int32 → Int32 → Int32 → Int32 → Int32 → Int32 → (Nat → Int32) → Prop) (x3 : Int32) (x4 : Int32) (x5 : Int32) (x6 : Int32) (x7 : Int32) (x8 : Int32) (x9 : Int32) (x10 : Int32) (x11 : Int32) (k0 : Int32) (k1 : Int32) (v_need : Nat → Int32) : Prop :=
  rec 230 x3 x4 x5 x6 x7 x8 0 0 0 (0 : Int32) 0 v_need
def F_X7_kept_230 (v_hill : Nat → Int32) (v_now : Nat → Int32) (p0 : Int32) (p1 : Int32) (Q : Int32 → (Nat → Int32) → Prop) (rec : Nat → Int32 → Int32 → Int32 → Int32 → Int32 → Int32 → Int32 → Int32 → Int32 → Int32 → Int32 → (Nat → Int32) → Prop) (x3 : Int32) (x4 : Int32) (x5 : Int32) (x6 : Int32) (x7 : Int32) (x8 : Int32) (x9 : Int32) (x10 : Int32) (x11 : Int32) (k0 : Int32) (k1 : Int32) (v_need : Nat → Int32) : Prop :=
  (k0 = 0 → (rec 243 0 x4 x5 x6 x7 x8 0 k0 0 x3 0 v_need)) ∧ (¬ k0 = 0 → (rec 243 0 x4 x5 x6 x7 x8 0 k0 0 x6 0 v_need))
def F_X7_kept_243 (v_hill : Nat → Int32) (v_now : Nat → Int32) (p0 : Int32) (p1 : Int32) (Q : Int32 → (Nat → Int32) → Prop) (rec : Nat → Int32 → Int32 → Int32 → Int32 → Int32 → Int32 → Int32 → Int32 → Int32 → Int32 → Int32 → (Nat → Int32) → Prop) (x3 : Int32) (x4 : Int32) (x5 : Int32) (x6 : Int32) (x7 : Int32) (x8 : Int32) (x9 : Int32) (x10 : Int32) (x11 : Int32) (k0 : Int32) (k1 : Int32) (v_need : Nat → Int32) : Prop :=
  (x10 = 0 → (rec 256 k0 x4 0 x6 0 x8 0 x10 0 x5 0 v_need)) ∧ (¬ x10 = 0 → (rec 256 k0 x4 0 x6 0 x8 0 x10 0 x7 0 v_need))
def F_X7_kept_256 (v_hill : Nat → Int32) (v_now : Nat → Int32) (p0 : Int32) (p1 : Int32) (Q : Int32 → (Nat → Int32) → Prop) (rec : Nat → Int32 → Int32 → Int32 → Int32 → Int32 → Int32 → Int32 → Int32 → Int32 → Int32 → Int32 → (Nat → Int32) → Prop) (x3 : Int32) (x4 : Int32) (x5 : Int32) (x6 : Int32) (x7 : Int32) (x8 : Int32) (x9 : Int32) (x10 : Int32) (x11 : Int32) (k0 : Int32) (k1 : Int32) (v_need : Nat → Int32) : Prop :=
  (x10 = 0 → (∀ x6_44 : Int32, x6_44 = (x6 + (1 : Int32)) → (rec 67 x3 x4 k0 x6_44 0 0 0 0 0 0 0 v_need))) ∧ (¬ x10 = 0 → (∀ x6_46 : Int32, x6_46 = (x6 + (1 : Int32)) → (rec 67 x3 x8 k0 x6_46 0 0 0 0 0 0 0 v_need)))
def wp_X7_kept (v_hill : Nat → Int32) (v_now : Nat → Int32) (p0 : Int32) (p1 : Int32) (Q : Int32 → (Nat → Int32) → Prop) : Nat → Nat → Int32 → Int32 → Int32 → Int32 → Int32 → Int32 → Int32 → Int32 → Int32 → Int32 → Int32 → (Nat → Int32) → Prop
  | 0 => fun _ _ _ _ _ _ _ _ _ _ _ _ _ => False
  | n + 1 => fun t x3 x4 x5 x6 x7 x8 x9 x10 x11 k0 k1 v_need => if t = 28 then F_X7_kept_28 v_hill v_now p0 p1 Q (wp_X7_kept v_hill v_now p0 p1 Q n) x3 x4 x5 x6 x7 x8 x9 x10 x11 k0 k1 v_need else if t = 67 then F_X7_kept_67 v_hill v_now p0 p1 Q (wp_X7_kept v_hill v_now p0 p1 Q n) x3 x4 x5 x6 x7 x8 x9 x10 x11 k0 k1 v_need else if t = 97 then F_X7_kept_97 v_hill v_now p0 p1 Q (wp_X7_kept v_hill v_now p0 p1 Q n) x3 x4 x5 x6 x7 x8 x9 x10 x11 k0 k1 v_need else if t = 124 then F_X7_kept_124 v_hill v_now p0 p1 Q (wp_X7_kept v_hill v_now p0 p1 Q n) x3 x4 x5 x6 x7 x8 x9 x10 x11 k0 k1 v_need else if t = 148 then F_X7_kept_148 v_hill v_now p0 p1 Q (wp_X7_kept v_hill v_now p0 p1 Q n) x3 x4 x5 x6 x7 x8 x9 x10 x11 k0 k1 v_need else if t = 152 then F_X7_kept_152 v_hill v_now p0 p1 Q (wp_X7_kept v_hill v_now p0 p1 Q n) x3 x4 x5 x6 x7 x8 x9 x10 x11 k0 k1 v_need else if t = 153 then F_X7_kept_153 v_hill v_now p0 p1 Q (wp_X7_kept v_hill v_now p0 p1 Q n) x3 x4 x5 x6 x7 x8 x9 x10 x11 k0 k1 v_need else if t = 179 then F_X7_kept_179 v_hill v_now p0 p1 Q (wp_X7_kept v_hill v_now p0 p1 Q n) x3 x4 x5 x6 x7 x8 x9 x10 x11 k0 k1 v_need else if t = 229 then F_X7_kept_229 v_hill v_now p0 p1 Q (wp_X7_kept v_hill v_now p0 p1 Q n) x3 x4 x5 x6 x7 x8 x9 x10 x11 k0 k1 v_need else if t = 230 then F_X7_kept_230 v_hill v_now p0 p1 Q (wp_X7_kept v_hill v_now p0 p1 Q n) x3 x4 x5 x6 x7 x8 x9 x10 x11 k0 k1 v_need else if t = 243 then F_X7_kept_243 v_hill v_now p0 p1 Q (wp_X7_kept v_hill v_now p0 p1 Q n) x3 x4 x5 x6 x7 x8 x9 x10 x11 k0 k1 v_need else if t = 256 then F_X7_kept_256 v_hill v_now p0 p1 Q (wp_X7_kept v_hill v_now p0 p1 Q n) x3 x4 x5 x6 x7 x8 x9 x10 x11 k0 k1 v_need else False
def q_X7_kept (v_hill : Nat → Int32) (v_now : Nat → Int32) (v_need : Nat → Int32) (p0 : Int32) (p1 : Int32) (Q : Int32 → (Nat → Int32) → Prop) : Prop := ∃ n, F_X7_kept_e v_hill v_now p0 p1 Q (wp_X7_kept v_hill v_now p0 p1 Q n) v_need
theorem iwX7_kept_X7 : ∀ w ∈ wsX70, w ∈ wsX7_kept := by decide +kernel
theorem hdV_X7_kept : yX7_kept.cls = RX7 ∧ yX7_kept.cls ≠ "java/lang/invoke/MethodHandle" ∧ yX7_kept.cls ≠ "java/lang/invoke/VarHandle" ∧ (parseMethodDescriptor yX7_kept.desc).map (fun d => d.parameters.length) = some 2 := by decide +kernel
set_option maxHeartbeats 4000000 in
set_option maxRecDepth 100000 in
theorem w_X7_kept {p : Program} {l : Launch} {e : Env} {s : State} {m : MethodId} {args : Array Value} {below : List Frame} {meth : Method} {c : Code} {A : Nat → Prop} (dC : Nat → ClassId) (dI : Nat → Nat → Nat) (cyC cyI cyZ : ClassId) (a a_text a_read a_hill a_now a_undone a_need a_cameOf a_places a_firstRow a_kept : Nat) (v_size : Int32) (v_at : Int32) (v_begin : Int32) (v_token : Int32) (v_told : Int32) (v_undos : Int32) (v_cames : Int32) (v_each : Int32) (v_trace : Int64) (v_hill : Nat → Int32) (v_now : Nat → Int32) (p0 : Int32) (p1 : Int32) (Q : Int32 → (Nat → Int32) → Prop) (C0 : gAt cX7_kept (some .int) 12 RX7 wsX7_kept p s m meth c args) (hK : va_K (dC, dI) vwCl (gTy cyC cyI cyZ) s) (hN : nU s) (hA : ∀ q, s.heap.size ≤ q → A q) : ∀ n : Nat, (∀ (x3 : Int32) (x4 : Int32) (x5 : Int32) (x6 : Int32) (x7 : Int32) (x8 : Int32) (x9 : Int32) (x10 : Int32) (x11 : Int32) (k0 : Int32) (k1 : Int32) (v_need : Nat → Int32) (H : Heap) (locs : List Loc) (ls : Array Slot), wp_X7_kept v_hill v_now p0 p1 Q n 28 x3 x4 x5 x6 x7 x8 x9 x10 x11 k0 k1 v_need → va_P (dC, dI) vwCl [(a, .inr (7, [.ref a_text, .int v_size, .int v_at, .int v_begin, .int v_token, .int v_told, .ref a_read, .ref a_hill, .ref a_now, .ref a_undone, .int v_undos, .ref a_need, .int v_cames, .ref a_cameOf, .ref a_places, .ref a_firstRow, .int v_each, .long v_trace, .ref a_kept])), (a_hill, .inl (cyI, 46, .inl v_hill)), (a_now, .inl (cyI, 15, .inl v_now)), (a_need, .inl (cyI, 6, .inl v_need))] H → va_D A [(a, .inr (7, [.ref a_text, .int v_size, .int v_at, .int v_begin, .int v_token, .int v_told, .ref a_read, .ref a_hill, .ref a_now, .ref a_undone, .int v_undos, .ref a_need, .int v_cames, .ref a_cameOf, .ref a_places, .ref a_firstRow, .int v_each, .long v_trace, .ref a_kept])), (a_hill, .inl (cyI, 46, .inl v_hill)), (a_now, .inl (cyI, 15, .inl v_now)), (a_need, .inl (cyI, 6, .inl v_need))] → va_S A s.heap H locs → lv_has ls 12 [(0, .ref a), (1, .int p0), (2, .int p1), (3, .int x3)] → W p l e { frames := 3, cells := 0, slots := 0, locals := 69 } s m args below meth c H locs 0 0 (MQ below (gQi1 Q (dC, dI) A (fun (u1 : Nat → Int32) => [(a, .inr (7, [.ref a_text, .int v_size, .int v_at, .int v_begin, .int v_token, .int v_told, .ref a_read, .ref a_hill, .ref a_now, .ref a_undone, .int v_undos, .ref a_need, .int v_cames, .ref a_cameOf, .ref a_places, .ref a_firstRow, .int v_each, .long v_trace, .ref a_kept])), (a_hill, .inl (cyI, 46, .inl v_hill)), (a_now, .inl (cyI, 15, .inl v_now)), (a_need, .inl (cyI, 6, .inl u1))])) args s 0 0 A) (F0 m 28 ls [])) ∧ (∀ (x3 : Int32) (x4 : Int32) (x5 : Int32) (x6 : Int32) (x7 : Int32) (x8 : Int32) (x9 : Int32) (x10 : Int32) (x11 : Int32) (k0 : Int32) (k1 : Int32) (v_need : Nat → Int32) (H : Heap) (locs : List Loc) (ls : Array Slot), wp_X7_kept v_hill v_now p0 p1 Q n 67 x3 x4 x5 x6 x7 x8 x9 x10 x11 k0 k1 v_need → va_P (dC, dI) vwCl [(a, .inr (7, [.ref a_text, .int v_size, .int v_at, .int v_begin, .int v_token, .int v_told, .ref a_read, .ref a_hill, .ref a_now, .ref a_undone, .int v_undos, .ref a_need, .int v_cames, .ref a_cameOf, .ref a_places, .ref a_firstRow, .int v_each, .long v_trace, .ref a_kept])), (a_hill, .inl (cyI, 46, .inl v_hill)), (a_now, .inl (cyI, 15, .inl v_now)), (a_need, .inl (cyI, 6, .inl v_need))] H → va_D A [(a, .inr (7, [.ref a_text, .int v_size, .int v_at, .int v_begin, .int v_token, .int v_told, .ref a_read, .ref a_hill, .ref a_now, .ref a_undone, .int v_undos, .ref a_need, .int v_cames, .ref a_cameOf, .ref a_places, .ref a_firstRow, .int v_each, .long v_trace, .ref a_kept])), (a_hill, .inl (cyI, 46, .inl v_hill)), (a_now, .inl (cyI, 15, .inl v_now)), (a_need, .inl (cyI, 6, .inl v_need))] → va_S A s.heap H locs → lv_has ls 12 [(0, .ref a), (2, .int p1), (3, .int x3), (4, .int x4), (5, .int x5), (6, .int x6)] → W p l e { frames := 3, cells := 0, slots := 0, locals := 69 } s m args below meth c H locs 0 0 (MQ below (gQi1 Q (dC, dI) A (fun (u1 : Nat → Int32) => [(a, .inr (7, [.ref a_text, .int v_size, .int v_at, .int v_begin, .int v_token, .int v_told, .ref a_read, .ref a_hill, .ref a_now, .ref a_undone, .int v_undos, .ref a_need, .int v_cames, .ref a_cameOf, .ref a_places, .ref a_firstRow, .int v_each, .long v_trace, .ref a_kept])), (a_hill, .inl (cyI, 46, .inl v_hill)), (a_now, .inl (cyI, 15, .inl v_now)), (a_need, .inl (cyI, 6, .inl u1))])) args s 0 0 A) (F0 m 67 ls [])) ∧ (∀ (x3 : Int32) (x4 : Int32) (x5 : Int32) (x6 : Int32) (x7 : Int32) (x8 : Int32) (x9 : Int32) (x10 : Int32) (x11 : Int32) (k0 : Int32) (k1 : Int32) (v_need : Nat → Int32) (H : Heap) (locs : List Loc) (ls : Array Slot), wp_X7_kept v_hill v_now p0 p1 Q n 97 x3 x4 x5 x6 x7 x8 x9 x10 x11 k0 k1 v_need → va_P (dC, dI) vwCl [(a, .inr (7, [.ref a_text, .int v_size, .int v_at, .int v_begin, .int v_token, .int v_told, .ref a_read, .ref a_hill, .ref a_now, .ref a_undone, .int v_undos, .ref a_need, .int v_cames, .ref a_cameOf, .ref a_places, .ref a_firstRow, .int v_each, .long v_trace, .ref a_kept])), (a_hill, .inl (cyI, 46, .inl v_hill)), (a_now, .inl (cyI, 15, .inl v_now)), (a_need, .inl (cyI, 6, .inl v_need))] H → va_D A [(a, .inr (7, [.ref a_text, .int v_size, .int v_at, .int v_begin, .int v_token, .int v_told, .ref a_read, .ref a_hill, .ref a_now, .ref a_undone, .int v_undos, .ref a_need, .int v_cames, .ref a_cameOf, .ref a_places, .ref a_firstRow, .int v_each, .long v_trace, .ref a_kept])), (a_hill, .inl (cyI, 46, .inl v_hill)), (a_now, .inl (cyI, 15, .inl v_now)), (a_need, .inl (cyI, 6, .inl v_need))] → va_S A s.heap H locs → lv_has ls 12 [(0, .ref a), (2, .int p1), (3, .int x3), (4, .int x4), (5, .int x5), (6, .int x6), (7, .int x7), (8, .int x8), (9, .int x9), (10, .int x10)] → W p l e { frames := 3, cells := 0, slots := 0, locals := 69 } s m args below meth c H locs 0 0 (MQ below (gQi1 Q (dC, dI) A (fun (u1 : Nat → Int32) => [(a, .inr (7, [.ref a_text, .int v_size, .int v_at, .int v_begin, .int v_token, .int v_told, .ref a_read, .ref a_hill, .ref a_now, .ref a_undone, .int v_undos, .ref a_need, .int v_cames, .ref a_cameOf, .ref a_places, .ref a_firstRow, .int v_each, .long v_trace, .ref a_kept])), (a_hill, .inl (cyI, 46, .inl v_hill)), (a_now, .inl (cyI, 15, .inl v_now)), (a_need, .inl (cyI, 6, .inl u1))])) args s 0 0 A) (F0 m 97 ls [])) ∧ (∀ (x3 : Int32) (x4 : Int32) (x5 : Int32) (x6 : Int32) (x7 : Int32) (x8 : Int32) (x9 : Int32) (x10 : Int32) (x11 : Int32) (k0 : Int32) (k1 : Int32) (v_need : Nat → Int32) (H : Heap) (locs : List Loc) (ls : Array Slot), wp_X7_kept v_hill v_now p0 p1 Q n 124 x3 x4 x5 x6 x7 x8 x9 x10 x11 k0 k1 v_need → va_P (dC, dI) vwCl [(a, .inr (7, [.ref a_text, .int v_size, .int v_at, .int v_begin, .int v_token, .int v_told, .ref a_read, .ref a_hill, .ref a_now, .ref a_undone, .int v_undos, .ref a_need, .int v_cames, .ref a_cameOf, .ref a_places, .ref a_firstRow, .int v_each, .long v_trace, .ref a_kept])), (a_hill, .inl (cyI, 46, .inl v_hill)), (a_now, .inl (cyI, 15, .inl v_now)), (a_need, .inl (cyI, 6, .inl v_need))] H → va_D A [(a, .inr (7, [.ref a_text, .int v_size, .int v_at, .int v_begin, .int v_token, .int v_told, .ref a_read, .ref a_hill, .ref a_now, .ref a_undone, .int v_undos, .ref a_need, .int v_cames, .ref a_cameOf, .ref a_places, .ref a_firstRow, .int v_each, .long v_trace, .ref a_kept])), (a_hill, .inl (cyI, 46, .inl v_hill)), (a_now, .inl (cyI, 15, .inl v_now)), (a_need, .inl (cyI, 6, .inl v_need))] → va_S A s.heap H locs → lv_has ls 12 [(0, .ref a), (2, .int p1), (3, .int x3), (4, .int x4), (5, .int x5), (6, .int x6), (7, .int x7), (8, .int x8), (9, .int x9), (10, .int x10)] → W p l e { frames := 3, cells := 0, slots := 0, locals := 69 } s m args below meth c H locs 0 0 (MQ below (gQi1 Q (dC, dI) A (fun (u1 : Nat → Int32) => [(a, .inr (7, [.ref a_text, .int v_size, .int v_at, .int v_begin, .int v_token, .int v_told, .ref a_read, .ref a_hill, .ref a_now, .ref a_undone, .int v_undos, .ref a_need, .int v_cames, .ref a_cameOf, .ref a_places, .ref a_firstRow, .int v_each, .long v_trace, .ref a_kept])), (a_hill, .inl (cyI, 46, .inl v_hill)), (a_now, .inl (cyI, 15, .inl v_now)), (a_need, .inl (cyI, 6, .inl u1))])) args s 0 0 A) (F0 m 124 ls [.int k0])) ∧ (∀ (x3 : Int32) (x4 : Int32) (x5 : Int32) (x6 : Int32) (x7 : Int32) (x8 : Int32) (x9 : Int32) (x10 : Int32) (x11 : Int32) (k0 : Int32) (k1 : Int32) (v_need : Nat → Int32) (H : Heap) (locs : List Loc) (ls : Array Slot), wp_X7_kept v_hill v_now p0 p1 Q n 148 x3 x4 x5 x6 x7 x8 x9 x10 x11 k0 k1 v_need → va_P (dC, dI) vwCl [(a, .inr (7, [.ref a_text, .int v_size, .int v_at, .int v_begin, .int v_token, .int v_told, .ref a_read, .ref a_hill, .ref a_now, .ref a_undone, .int v_undos, .ref a_need, .int v_cames, .ref a_cameOf, .ref a_places, .ref a_firstRow, .int v_each, .long v_trace, .ref a_kept])), (a_hill, .inl (cyI, 46, .inl v_hill)), (a_now, .inl (cyI, 15, .inl v_now)), (a_need, .inl (cyI, 6, .inl v_need))] H → va_D A [(a, .inr (7, [.ref a_text, .int v_size, .int v_at, .int v_begin, .int v_token, .int v_told, .ref a_read, .ref a_hill, .ref a_now, .ref a_undone, .int v_undos, .ref a_need, .int v_cames, .ref a_cameOf, .ref a_places, .ref a_firstRow, .int v_each, .long v_trace, .ref a_kept])), (a_hill, .inl (cyI, 46, .inl v_hill)), (a_now, .inl (cyI, 15, .inl v_now)), (a_need, .inl (cyI, 6, .inl v_need))] → va_S A s.heap H locs → lv_has ls 12 [(0, .ref a), (2, .int p1), (3, .int x3), (4, .int x4), (5, .int x5), (6, .int x6), (7, .int x7), (8, .int x8), (10, .int x10), (11, .int x11)] → W p l e { frames := 3, cells := 0, slots := 0, locals := 69 } s m args below meth c H locs 0 0 (MQ below (gQi1 Q (dC, dI) A (fun (u1 : Nat → Int32) => [(a, .inr (7, [.ref a_text, .int v_size, .int v_at, .int v_begin, .int v_token, .int v_told, .ref a_read, .ref a_hill, .ref a_now, .ref a_undone, .int v_undos, .ref a_need, .int v_cames, .ref a_cameOf, .ref a_places, .ref a_firstRow, .int v_each, .long v_trace, .ref a_kept])), (a_hill, .inl (cyI, 46, .inl v_hill)), (a_now, .inl (cyI, 15, .inl v_now)), (a_need, .inl (cyI, 6, .inl u1))])) args s 0 0 A) (F0 m 148 ls [])) ∧ (∀ (x3 : Int32) (x4 : Int32) (x5 : Int32) (x6 : Int32) (x7 : Int32) (x8 : Int32) (x9 : Int32) (x10 : Int32) (x11 : Int32) (k0 : Int32) (k1 : Int32) (v_need : Nat → Int32) (H : Heap) (locs : List Loc) (ls : Array Slot), wp_X7_kept v_hill v_now p0 p1 Q n 152 x3 x4 x5 x6 x7 x8 x9 x10 x11 k0 k1 v_need → va_P (dC, dI) vwCl [(a, .inr (7, [.ref a_text, .int v_size, .int v_at, .int v_begin, .int v_token, .int v_told, .ref a_read, .ref a_hill, .ref a_now, .ref a_undone, .int v_undos, .ref a_need, .int v_cames, .ref a_cameOf, .ref a_places, .ref a_firstRow, .int v_each, .long v_trace, .ref a_kept])), (a_hill, .inl (cyI, 46, .inl v_hill)), (a_now, .inl (cyI, 15, .inl v_now)), (a_need, .inl (cyI, 6, .inl v_need))] H → va_D A [(a, .inr (7, [.ref a_text, .int v_size, .int v_at, .int v_begin, .int v_token, .int v_told, .ref a_read, .ref a_hill, .ref a_now, .ref a_undone, .int v_undos, .ref a_need, .int v_cames, .ref a_cameOf, .ref a_places, .ref a_firstRow, .int v_each, .long v_trace, .ref a_kept])), (a_hill, .inl (cyI, 46, .inl v_hill)), (a_now, .inl (cyI, 15, .inl v_now)), (a_need, .inl (cyI, 6, .inl v_need))] → va_S A s.heap H locs → lv_has ls 12 [(0, .ref a), (2, .int p1), (3, .int x3), (4, .int x4), (5, .int x5), (6, .int x6), (7, .int x7), (8, .int x8), (10, .int x10), (11, .int x11)] → W p l e { frames := 3, cells := 0, slots := 0, locals := 69 } s m args below meth c H locs 0 0 (MQ below (gQi1 Q (dC, dI) A (fun (u1 : Nat → Int32) => [(a, .inr (7, [.ref a_text, .int v_size, .int v_at, .int v_begin, .int v_token, .int v_told, .ref a_read, .ref a_hill, .ref a_now, .ref a_undone, .int v_undos, .ref a_need, .int v_cames, .ref a_cameOf, .ref a_places, .ref a_firstRow, .int v_each, .long v_trace, .ref a_kept])), (a_hill, .inl (cyI, 46, .inl v_hill)), (a_now, .inl (cyI, 15, .inl v_now)), (a_need, .inl (cyI, 6, .inl u1))])) args s 0 0 A) (F0 m 152 ls [])) ∧ (∀ (x3 : Int32) (x4 : Int32) (x5 : Int32) (x6 : Int32) (x7 : Int32) (x8 : Int32) (x9 : Int32) (x10 : Int32) (x11 : Int32) (k0 : Int32) (k1 : Int32) (v_need : Nat → Int32) (H : Heap) (locs : List Loc) (ls : Array Slot), wp_X7_kept v_hill v_now p0 p1 Q n 153 x3 x4 x5 x6 x7 x8 x9 x10 x11 k0 k1 v_need → va_P (dC, dI) vwCl [(a, .inr (7, [.ref a_text, .int v_size, .int v_at, .int v_begin, .int v_token, .int v_told, .ref a_read, .ref a_hill, .ref a_now, .ref a_undone, .int v_undos, .ref a_need, .int v_cames, .ref a_cameOf, .ref a_places, .ref a_firstRow, .int v_each, .long v_trace, .ref a_kept])), (a_hill, .inl (cyI, 46, .inl v_hill)), (a_now, .inl (cyI, 15, .inl v_now)), (a_need, .inl (cyI, 6, .inl v_need))] H → va_D A [(a, .inr (7, [.ref a_text, .int v_size, .int v_at, .int v_begin, .int v_token, .int v_told, .ref a_read, .ref a_hill, .ref a_now, .ref a_undone, .int v_undos, .ref a_need, .int v_cames, .ref a_cameOf, .ref a_places, .ref a_firstRow, .int v_each, .long v_trace, .ref a_kept])), (a_hill, .inl (cyI, 46, .inl v_hill)), (a_now, .inl (cyI, 15, .inl v_now)), (a_need, .inl (cyI, 6, .inl v_need))] → va_S A s.heap H locs → lv_has ls 12 [(0, .ref a), (2, .int p1), (3, .int x3), (4, .int x4), (5, .int x5), (6, .int x6), (7, .int x7), (8, .int x8), (10, .int x10), (11, .int x11)] → W p l e { frames := 3, cells := 0, slots := 0, locals := 69 } s m args below meth c H locs 0 0 (MQ below (gQi1 Q (dC, dI) A (fun (u1 : Nat → Int32) => [(a, .inr (7, [.ref a_text, .int v_size, .int v_at, .int v_begin, .int v_token, .int v_told, .ref a_read, .ref a_hill, .ref a_now, .ref a_undone, .int v_undos, .ref a_need, .int v_cames, .ref a_cameOf, .ref a_places, .ref a_firstRow, .int v_each, .long v_trace, .ref a_kept])), (a_hill, .inl (cyI, 46, .inl v_hill)), (a_now, .inl (cyI, 15, .inl v_now)), (a_need, .inl (cyI, 6, .inl u1))])) args s 0 0 A) (F0 m 153 ls [.int k0])) ∧ (∀ (x3 : Int32) (x4 : Int32) (x5 : Int32) (x6 : Int32) (x7 : Int32) (x8 : Int32) (x9 : Int32) (x10 : Int32) (x11 : Int32) (k0 : Int32) (k1 : Int32) (v_need : Nat → Int32) (H : Heap) (locs : List Loc) (ls : Array Slot), wp_X7_kept v_hill v_now p0 p1 Q n 179 x3 x4 x5 x6 x7 x8 x9 x10 x11 k0 k1 v_need → va_P (dC, dI) vwCl [(a, .inr (7, [.ref a_text, .int v_size, .int v_at, .int v_begin, .int v_token, .int v_told, .ref a_read, .ref a_hill, .ref a_now, .ref a_undone, .int v_undos, .ref a_need, .int v_cames, .ref a_cameOf, .ref a_places, .ref a_firstRow, .int v_each, .long v_trace, .ref a_kept])), (a_hill, .inl (cyI, 46, .inl v_hill)), (a_now, .inl (cyI, 15, .inl v_now)), (a_need, .inl (cyI, 6, .inl v_need))] H → va_D A [(a, .inr (7, [.ref a_text, .int v_size, .int v_at, .int v_begin, .int v_token, .int v_told, .ref a_read, .ref a_hill, .ref a_now, .ref a_undone, .int v_undos, .ref a_need, .int v_cames, .ref a_cameOf, .ref a_places, .ref a_firstRow, .int v_each, .long v_trace, .ref a_kept])), (a_hill, .inl (cyI, 46, .inl v_hill)), (a_now, .inl (cyI, 15, .inl v_now)), (a_need, .inl (cyI, 6, .inl v_need))] → va_S A s.heap H locs → lv_has ls 12 [(0, .ref a), (2, .int p1), (3, .int x3), (4, .int x4), (5, .int x5), (6, .int x6), (8, .int x8), (9, .int x9), (10, .int x10), (11, .int x11)] → W p l e { frames := 3, cells := 0, slots := 0, locals := 69 } s m args below meth c H locs 0 0 (MQ below (gQi1 Q (dC, dI) A (fun (u1 : Nat → Int32) => [(a, .inr (7, [.ref a_text, .int v_size, .int v_at, .int v_begin, .int v_token, .int v_told, .ref a_read, .ref a_hill, .ref a_now, .ref a_undone, .int v_undos, .ref a_need, .int v_cames, .ref a_cameOf, .ref a_places, .ref a_firstRow, .int v_each, .long v_trace, .ref a_kept])), (a_hill, .inl (cyI, 46, .inl v_hill)), (a_now, .inl (cyI, 15, .inl v_now)), (a_need, .inl (cyI, 6, .inl u1))])) args s 0 0 A) (F0 m 179 ls [.int k0, .int k1])) ∧ (∀ (x3 : Int32) (x4 : Int32) (x5 : Int32) (x6 : Int32) (x7 : Int32) (x8 : Int32) (x9 : Int32) (x10 : Int32) (x11 : Int32) (k0 : Int32) (k1 : Int32) (v_need : Nat → Int32) (H : Heap) (locs : List Loc) (ls : Array Slot), wp_X7_kept v_hill v_now p0 p1 Q n 229 x3 x4 x5 x6 x7 x8 x9 x10 x11 k0 k1 v_need → va_P (dC, dI) vwCl [(a, .inr (7, [.ref a_text, .int v_size, .int v_at, .int v_begin, .int v_token, .int v_told, .ref a_read, .ref a_hill, .ref a_now, .ref a_undone, .int v_undos, .ref a_need, .int v_cames, .ref a_cameOf, .ref a_places, .ref a_firstRow, .int v_each, .long v_trace, .ref a_kept])), (a_hill, .inl (cyI, 46, .inl v_hill)), (a_now, .inl (cyI, 15, .inl v_now)), (a_need, .inl (cyI, 6, .inl v_need))] H → va_D A [(a, .inr (7, [.ref a_text, .int v_size, .int v_at, .int v_begin, .int v_token, .int v_told, .ref a_read, .ref a_hill, .ref a_now, .ref a_undone, .int v_undos, .ref a_need, .int v_cames, .ref a_cameOf, .ref a_places, .ref a_firstRow, .int v_each, .long v_trace, .ref a_kept])), (a_hill, .inl (cyI, 46, .inl v_hill)), (a_now, .inl (cyI, 15, .inl v_now)), (a_need, .inl (cyI, 6, .inl v_need))] → va_S A s.heap H locs → lv_has ls 12 [(0, .ref a), (2, .int p1), (3, .int x3), (4, .int x4), (5, .int x5), (6, .int x6), (7, .int x7), (8, .int x8)] → W p l e { frames := 3, cells := 0, slots := 0, locals := 69 } s m args below meth c H locs 0 0 (MQ below (gQi1 Q (dC, dI) A (fun (u1 : Nat → Int32) => [(a, .inr (7, [.ref a_text, .int v_size, .int v_at, .int v_begin, .int v_token, .int v_told, .ref a_read, .ref a_hill, .ref a_now, .ref a_undone, .int v_undos, .ref a_need, .int v_cames, .ref a_cameOf, .ref a_places, .ref a_firstRow, .int v_each, .long v_trace, .ref a_kept])), (a_hill, .inl (cyI, 46, .inl v_hill)), (a_now, .inl (cyI, 15, .inl v_now)), (a_need, .inl (cyI, 6, .inl u1))])) args s 0 0 A) (F0 m 229 ls [])) ∧ (∀ (x3 : Int32) (x4 : Int32) (x5 : Int32) (x6 : Int32) (x7 : Int32) (x8 : Int32) (x9 : Int32) (x10 : Int32) (x11 : Int32) (k0 : Int32) (k1 : Int32) (v_need : Nat → Int32) (H : Heap) (locs : List Loc) (ls : Array Slot), wp_X7_kept v_hill v_now p0 p1 Q n 230 x3 x4 x5 x6 x7 x8 x9 x10 x11 k0 k1 v_need → va_P (dC, dI) vwCl [(a, .inr (7, [.ref a_text, .int v_size, .int v_at, .int v_begin, .int v_token, .int v_told, .ref a_read, .ref a_hill, .ref a_now, .ref a_undone, .int v_undos, .ref a_need, .int v_cames, .ref a_cameOf, .ref a_places, .ref a_firstRow, .int v_each, .long v_trace, .ref a_kept])), (a_hill, .inl (cyI, 46, .inl v_hill)), (a_now, .inl (cyI, 15, .inl v_now)), (a_need, .inl (cyI, 6, .inl v_need))] H → va_D A [(a, .inr (7, [.ref a_text, .int v_size, .int v_at, .int v_begin, .int v_token, .int v_told, .ref a_read, .ref a_hill, .ref a_now, .ref a_undone, .int v_undos, .ref a_need, .int v_cames, .ref a_cameOf, .ref a_places, .ref a_firstRow, .int v_each, .long v_trace, .ref a_kept])), (a_hill, .inl (cyI, 46, .inl v_hill)), (a_now, .inl (cyI, 15, .inl v_now)), (a_need, .inl (cyI, 6, .inl v_need))] → va_S A s.heap H locs → lv_has ls 12 [(0, .ref a), (2, .int p1), (3, .int x3), (4, .int x4), (5, .int x5), (6, .int x6), (7, .int x7), (8, .int x8)] → W p l e { frames := 3, cells := 0, slots := 0, locals := 69 } s m args below meth c H locs 0 0 (MQ below (gQi1 Q (dC, dI) A (fun (u1 : Nat → Int32) => [(a, .inr (7, [.ref a_text, .int v_size, .int v_at, .int v_begin, .int v_token, .int v_told, .ref a_read, .ref a_hill, .ref a_now, .ref a_undone, .int v_undos, .ref a_need, .int v_cames, .ref a_cameOf, .ref a_places, .ref a_firstRow, .int v_each, .long v_trace, .ref a_kept])), (a_hill, .inl (cyI, 46, .inl v_hill)), (a_now, .inl (cyI, 15, .inl v_now)), (a_need, .inl (cyI, 6, .inl u1))])) args s 0 0 A) (F0 m 230 ls [.int k0])) ∧ (∀ (x3 : Int32) (x4 : Int32) (x5 : Int32) (x6 : Int32) (x7 : Int32) (x8 : Int32) (x9 : Int32) (x10 : Int32) (x11 : Int32) (k0 : Int32) (k1 : Int32) (v_need : Nat → Int32) (H : Heap) (locs : List Loc) (ls : Array Slot), wp_X7_kept v_hill v_now p0 p1 Q n 243 x3 x4 x5 x6 x7 x8 x9 x10 x11 k0 k1 v_need → va_P (dC, dI) vwCl [(a, .inr (7, [.ref a_text, .int v_size, .int v_at, .int v_begin, .int v_token, .int v_told, .ref a_read, .ref a_hill, .ref a_now, .ref a_undone, .int v_undos, .ref a_need, .int v_cames, .ref a_cameOf, .ref a_places, .ref a_firstRow, .int v_each, .long v_trace, .ref a_kept])), (a_hill, .inl (cyI, 46, .inl v_hill)), (a_now, .inl (cyI, 15, .inl v_now)), (a_need, .inl (cyI, 6, .inl v_need))] H → va_D A [(a, .inr (7, [.ref a_text, .int v_size, .int v_at, .int v_begin, .int v_token, .int v_told, .ref a_read, .ref a_hill, .ref a_now, .ref a_undone, .int v_undos, .ref a_need, .int v_cames, .ref a_cameOf, .ref a_places, .ref a_firstRow, .int v_each, .long v_trace, .ref a_kept])), (a_hill, .inl (cyI, 46, .inl v_hill)), (a_now, .inl (cyI, 15, .inl v_now)), (a_need, .inl (cyI, 6, .inl v_need))] → va_S A s.heap H locs → lv_has ls 12 [(0, .ref a), (2, .int p1), (4, .int x4), (5, .int x5), (6, .int x6), (7, .int x7), (8, .int x8), (10, .int x10)] → W p l e { frames := 3, cells := 0, slots := 0, locals := 69 } s m args below meth c H locs 0 0 (MQ below (gQi1 Q (dC, dI) A (fun (u1 : Nat → Int32) => [(a, .inr (7, [.ref a_text, .int v_size, .int v_at, .int v_begin, .int v_token, .int v_told, .ref a_read, .ref a_hill, .ref a_now, .ref a_undone, .int v_undos, .ref a_need, .int v_cames, .ref a_cameOf, .ref a_places, .ref a_firstRow, .int v_each, .long v_trace, .ref a_kept])), (a_hill, .inl (cyI, 46, .inl v_hill)), (a_now, .inl (cyI, 15, .inl v_now)), (a_need, .inl (cyI, 6, .inl u1))])) args s 0 0 A) (F0 m 243 ls [.int k0])) ∧ (∀ (x3 : Int32) (x4 : Int32) (x5 : Int32) (x6 : Int32) (x7 : Int32) (x8 : Int32) (x9 : Int32) (x10 : Int32) (x11 : Int32) (k0 : Int32) (k1 : Int32) (v_need : Nat → Int32) (H : Heap) (locs : List Loc) (ls : Array Slot), wp_X7_kept v_hill v_now p0 p1 Q n 256 x3 x4 x5 x6 x7 x8 x9 x10 x11 k0 k1 v_need → va_P (dC, dI) vwCl [(a, .inr (7, [.ref a_text, .int v_size, .int v_at, .int v_begin, .int v_token, .int v_told, .ref a_read, .ref a_hill, .ref a_now, .ref a_undone, .int v_undos, .ref a_need, .int v_cames, .ref a_cameOf, .ref a_places, .ref a_firstRow, .int v_each, .long v_trace, .ref a_kept])), (a_hill, .inl (cyI, 46, .inl v_hill)), (a_now, .inl (cyI, 15, .inl v_now)), (a_need, .inl (cyI, 6, .inl v_need))] H → va_D A [(a, .inr (7, [.ref a_text, .int v_size, .int v_at, .int v_begin, .int v_token, .int v_told, .ref a_read, .ref a_hill, .ref a_now, .ref a_undone, .int v_undos, .ref a_need, .int v_cames, .ref a_cameOf, .ref a_places, .ref a_firstRow, .int v_each, .long v_trace, .ref a_kept])), (a_hill, .inl (cyI, 46, .inl v_hill)), (a_now, .inl (cyI, 15, .inl v_now)), (a_need, .inl (cyI, 6, .inl v_need))] → va_S A s.heap H locs → lv_has ls 12 [(0, .ref a), (2, .int p1), (3, .int x3), (4, .int x4), (6, .int x6), (8, .int x8), (10, .int x10)] → W p l e { frames := 3, cells := 0, slots := 0, locals := 69 } s m args below meth c H locs 0 0 (MQ below (gQi1 Q (dC, dI) A (fun (u1 : Nat → Int32) => [(a, .inr (7, [.ref a_text, .int v_size, .int v_at, .int v_begin, .int v_token, .int v_told, .ref a_read, .ref a_hill, .ref a_now, .ref a_undone, .int v_undos, .ref a_need, .int v_cames, .ref a_cameOf, .ref a_places, .ref a_firstRow, .int v_each, .long v_trace, .ref a_kept])), (a_hill, .inl (cyI, 46, .inl v_hill)), (a_now, .inl (cyI, 15, .inl v_now)), (a_need, .inl (cyI, 6, .inl u1))])) args s 0 0 A) (F0 m 256 ls [.int k0])) := by
  obtain ⟨hx, hb, hr, hml, hown, hts, hlocks⟩ := id C0
  have f16 := hts (.fieldLink RX7 16 "LastOchreModel" "hill" "[I") (by decide +kernel)
  have f19 := hts (.fieldLink RX7 19 "LastOchreModel" "now" "[I") (by decide +kernel)
  have f25 := hts (.fieldLink RX7 25 "LastOchreModel" "need" "[I") (by decide +kernel)
  intro n
  induction n with
  | zero => exact ⟨fun _ _ _ _ _ _ _ _ _ _ _ _ _ _ _ h => absurd h id, fun _ _ _ _ _ _ _ _ _ _ _ _ _ _ _ h => absurd h id, fun _ _ _ _ _ _ _ _ _ _ _ _ _ _ _ h => absurd h id, fun _ _ _ _ _ _ _ _ _ _ _ _ _ _ _ h => absurd h id, fun _ _ _ _ _ _ _ _ _ _ _ _ _ _ _ h => absurd h id, fun _ _ _ _ _ _ _ _ _ _ _ _ _ _ _ h => absurd h id, fun _ _ _ _ _ _ _ _ _ _ _ _ _ _ _ h => absurd h id, fun _ _ _ _ _ _ _ _ _ _ _ _ _ _ _ h => absurd h id, fun _ _ _ _ _ _ _ _ _ _ _ _ _ _ _ h => absurd h id, fun _ _ _ _ _ _ _ _ _ _ _ _ _ _ _ h => absurd h id, fun _ _ _ _ _ _ _ _ _ _ _ _ _ _ _ h => absurd h id, fun _ _ _ _ _ _ _ _ _ _ _ _ _ _ _ h => absurd h id⟩
  | succ n ih =>
    obtain ⟨ih28, ih67, ih97, ih124, ih148, ih152, ih153, ih179, ih229, ih230, ih243, ih256⟩ := ih
    refine ⟨?_, ?_, ?_, ?_, ?_, ?_, ?_, ?_, ?_, ?_, ?_, ?_⟩
    · intro x3 x4 x5 x6 x7 x8 x9 x10 x11 k0 k1 v_need H locs ls h hP hD hS hl
      replace h : F_X7_kept_28 v_hill v_now p0 p1 Q (wp_X7_kept v_hill v_now p0 p1 Q n) x3 x4 x5 x6 x7 x8 x9 x10 x11 k0 k1 v_need := h
      unfold F_X7_kept_28 at h
      refine lv_iload_n hx hb dX7_kept_28 rfl (lv_at hl 3 rfl) ?_
      refine lv_aload_n hx hb dX7_kept_29 rfl (lv_at hl 0 rfl) ?_
      refine va_get (D := (dC, dI)) (ci := 7) (v := .ref a_hill) (C := RX7) (T := TX7) (N := 19) hx hb hts iwX7_kept_X7 hown hK hP 0 rfl rfl 7 (by decide) f16 (fun _ h9 => h9) rfl dX7_kept_30 ?_
      refine lv_iconst (v := 2) hx hb dX7_kept_33 (by decide) ?_
      refine va_iald hx hb hK hP 1 0 rfl rfl (by unfold vp_in; decide) dX7_kept_34 ?_
      refine lv_icmp_ge (tgt := 56) hx hb dX7_kept_35 (by decide) (fun c_5 => ?_) (fun c_5 => ?_)
      · replace h := h.1 c_5
        refine lv_iconst (v := 0) hx hb dX7_kept_56 (by decide) ?_
        refine lv_istore_n (lv' := [(3, .int (0 : Int32)), (0, .ref a), (1, .int p0), (2, .int p1)]) hx hb dX7_kept_57 rfl hl (by decide) rfl (fun ls hl => ?_)
        refine lv_iconst (v := -1) hx hb dX7_kept_58 (by decide) ?_
        refine lv_istore (lv' := [(4, .int (-1 : Int32)), (3, .int (0 : Int32)), (0, .ref a), (1, .int p0), (2, .int p1)]) hx hb dX7_kept_59 hl (by decide) rfl (fun ls hl => ?_)
        refine lv_iconst (v := 0) hx hb dX7_kept_61 (by decide) ?_
        refine lv_istore (lv' := [(5, .int (0 : Int32)), (4, .int (-1 : Int32)), (3, .int (0 : Int32)), (0, .ref a), (1, .int p0), (2, .int p1)]) hx hb dX7_kept_62 hl (by decide) rfl (fun ls hl => ?_)
        refine lv_iconst (v := 0) hx hb dX7_kept_64 (by decide) ?_
        refine lv_istore (lv' := [(6, .int (0 : Int32)), (5, .int (0 : Int32)), (4, .int (-1 : Int32)), (3, .int (0 : Int32)), (0, .ref a), (1, .int p0), (2, .int p1)]) hx hb dX7_kept_65 hl (by decide) rfl (fun ls hl => ?_)
        exact ih67 (0 : Int32) (-1 : Int32) (0 : Int32) (0 : Int32) 0 0 0 0 0 0 0 v_need _ _ _ h hP hD hS (lv_sub hl [4, 6, 3, 2, 1, 0] rfl)
      · replace h := h.2 c_5
        refine lv_aload_n hx hb dX7_kept_38 rfl (lv_at hl 0 rfl) ?_
        refine va_get (D := (dC, dI)) (ci := 7) (v := .ref a_need) (C := RX7) (T := TX7) (N := 19) hx hb hts iwX7_kept_X7 hown hK hP 0 rfl rfl 11 (by decide) f25 (fun _ h9 => h9) rfl dX7_kept_39 ?_
        refine lv_iload_n hx hb dX7_kept_42 rfl (lv_at hl 3 rfl) ?_
        refine lv_aload_n hx hb dX7_kept_43 rfl (lv_at hl 0 rfl) ?_
        refine lv_iload_n hx hb dX7_kept_44 rfl (lv_at hl 3 rfl) ?_
        refine lv_iload_n hx hb dX7_kept_45 rfl (lv_at hl 1 rfl) ?_
        refine gV_i0 (As := [.int x3, .int p0]) (rest := [.int x3, .ref a_need]) ⟨hx, hb, hml, hown, hts⟩ (c_X7_needsOf l dC dI cyC cyI cyZ _ a a_text a_read a_hill a_now a_undone a_need a_cameOf a_places a_firstRow a_kept v_size v_at v_begin v_token v_told v_undos v_cames v_each v_trace v_now v_hill x3 p0 h) (cwV 2 hts gX7_kept_X7_needsOf rfl rfl rfl hdV_X7_needsOf ⟨Nat.le_of_ble_eq_true rfl, Nat.le_of_ble_eq_true rfl⟩) hK hN hP hD hS hA [0, 2, 1] (by decide) rfl (ci := 7) rfl rfl rfl hl.1 rfl (Nat.le_of_ble_eq_true rfl) dX7_kept_46 ⟨Nat.zero_le _, Nat.zero_le _⟩ (fun r_6 H locs h hP hS => ?_)
        have g_7 := h.1
        replace h := h.2
        refine va_iast hx hb hK hP hD hS 3 0 rfl rfl g_7 dX7_kept_49 (fun H locs hP hD hS => ?_)
        obtain ⟨f_8, e_9⟩ : ∃ y : Nat → Int32, y = upd v_need (x3).toNatClampNeg r_6 := ⟨_, rfl⟩
        replace h := h f_8 e_9
        replace hP : va_P (dC, dI) vwCl [(a, .inr (7, [.ref a_text, .int v_size, .int v_at, .int v_begin, .int v_token, .int v_told, .ref a_read, .ref a_hill, .ref a_now, .ref a_undone, .int v_undos, .ref a_need, .int v_cames, .ref a_cameOf, .ref a_places, .ref a_firstRow, .int v_each, .long v_trace, .ref a_kept])), (a_hill, .inl (cyI, 46, .inl v_hill)), (a_now, .inl (cyI, 15, .inl v_now)), (a_need, .inl (cyI, 6, .inl f_8))] H := by rw [e_9]; exact hP
        replace hD : va_D A [(a, .inr (7, [.ref a_text, .int v_size, .int v_at, .int v_begin, .int v_token, .int v_told, .ref a_read, .ref a_hill, .ref a_now, .ref a_undone, .int v_undos, .ref a_need, .int v_cames, .ref a_cameOf, .ref a_places, .ref a_firstRow, .int v_each, .long v_trace, .ref a_kept])), (a_hill, .inl (cyI, 46, .inl v_hill)), (a_now, .inl (cyI, 15, .inl v_now)), (a_need, .inl (cyI, 6, .inl f_8))] := by rw [e_9]; exact hD
        obtain ⟨x3_10, e_11⟩ : ∃ y : Int32, y = (x3 + (1 : Int32)) := ⟨_, rfl⟩
        replace h := h x3_10 e_11
        refine lv_iinc (v := x3_10) (lv' := [(3, .int x3_10), (0, .ref a), (1, .int p0), (2, .int p1)]) hx hb dX7_kept_50 hl (k := 3) rfl (by rw [e_11]; rfl) (by decide) rfl (fun ls hl => ?_)
        refine lv_goto (tgt := 28) hx hb dX7_kept_53 (by decide) ?_
        exact ih28 x3_10 0 0 0 0 0 0 0 0 0 0 f_8 _ _ _ h hP hD hS (lv_sub hl [1, 2, 3, 0] rfl)
    · intro x3 x4 x5 x6 x7 x8 x9 x10 x11 k0 k1 v_need H locs ls h hP hD hS hl
      replace h : F_X7_kept_67 v_hill v_now p0 p1 Q (wp_X7_kept v_hill v_now p0 p1 Q n) x3 x4 x5 x6 x7 x8 x9 x10 x11 k0 k1 v_need := h
      unfold F_X7_kept_67 at h
      refine lv_iload hx hb dX7_kept_67 (lv_at hl 5 rfl) ?_
      refine lv_iconst (v := 1) hx hb dX7_kept_69 (by decide) ?_
      refine lv_aload_n hx hb dX7_kept_70 rfl (lv_at hl 0 rfl) ?_
      refine va_get (D := (dC, dI)) (ci := 7) (v := .ref a_hill) (C := RX7) (T := TX7) (N := 19) hx hb hts iwX7_kept_X7 hown hK hP 0 rfl rfl 7 (by decide) f16 (fun _ h9 => h9) rfl dX7_kept_71 ?_
      refine lv_iconst (v := 2) hx hb dX7_kept_74 (by decide) ?_
      refine va_iald hx hb hK hP 1 0 rfl rfl (by unfold vp_in; decide) dX7_kept_75 ?_
      refine lv_ishl hx hb dX7_kept_76 ?_
      refine lv_icmp_ge (tgt := 278) hx hb dX7_kept_77 (by decide) (fun c_12 => ?_) (fun c_12 => ?_)
      · replace h := h.1 c_12
        refine lv_iload_n hx hb dX7_kept_278 rfl (lv_at hl 1 rfl) ?_
        refine lv_if_ne (tgt := 286) hx hb dX7_kept_279 (by decide) (fun c_13 => ?_) (fun c_13 => ?_)
        · replace h := h.1 c_13
          refine lv_iload_n hx hb dX7_kept_286 rfl (lv_at hl 1 rfl) ?_
          refine lv_iconst (v := 1) hx hb dX7_kept_287 (by decide) ?_
          refine lv_icmp_ne (tgt := 296) hx hb dX7_kept_288 (by decide) (fun c_14 => ?_) (fun c_14 => ?_)
          · replace h := h.1 c_14
            refine lv_iload hx hb dX7_kept_296 (lv_at hl 4 rfl) ?_
            exact gri1 hx hb hr hlocks h hP hD hS dX7_kept_298
          · replace h := h.2 c_14
            refine lv_iload hx hb dX7_kept_291 (lv_at hl 3 rfl) ?_
            refine lv_goto (tgt := 298) hx hb dX7_kept_293 (by decide) ?_
            exact gri1 hx hb hr hlocks h hP hD hS dX7_kept_298
        · replace h := h.2 c_13
          refine lv_iload_n hx hb dX7_kept_282 rfl (lv_at hl 2 rfl) ?_
          refine lv_goto (tgt := 298) hx hb dX7_kept_283 (by decide) ?_
          exact gri1 hx hb hr hlocks h hP hD hS dX7_kept_298
      · replace h := h.2 c_12
        refine lv_aload_n hx hb dX7_kept_80 rfl (lv_at hl 0 rfl) ?_
        refine va_get (D := (dC, dI)) (ci := 7) (v := .ref a_now) (C := RX7) (T := TX7) (N := 19) hx hb hts iwX7_kept_X7 hown hK hP 0 rfl rfl 8 (by decide) f19 (fun _ h9 => h9) rfl dX7_kept_81 ?_
        refine lv_iconst (v := 1) hx hb dX7_kept_84 (by decide) ?_
        refine va_iald hx hb hK hP 2 0 rfl rfl (by unfold vp_in; decide) dX7_kept_85 ?_
        refine lv_topi (fun x7_15 e_16 => ?_)
        replace h := h x7_15 e_16
        refine lv_istore (lv' := [(7, .int x7_15), (0, .ref a), (2, .int p1), (3, .int x3), (4, .int x4), (5, .int x5), (6, .int x6)]) hx hb dX7_kept_86 hl (by decide) rfl (fun ls hl => ?_)
        refine lv_iconst (v := 0) hx hb dX7_kept_88 (by decide) ?_
        refine lv_istore (lv' := [(8, .int (0 : Int32)), (7, .int x7_15), (0, .ref a), (2, .int p1), (3, .int x3), (4, .int x4), (5, .int x5), (6, .int x6)]) hx hb dX7_kept_89 hl (by decide) rfl (fun ls hl => ?_)
        refine lv_iconst (v := 1) hx hb dX7_kept_91 (by decide) ?_
        refine lv_istore (lv' := [(9, .int (1 : Int32)), (8, .int (0 : Int32)), (7, .int x7_15), (0, .ref a), (2, .int p1), (3, .int x3), (4, .int x4), (5, .int x5), (6, .int x6)]) hx hb dX7_kept_92 hl (by decide) rfl (fun ls hl => ?_)
        refine lv_iconst (v := 0) hx hb dX7_kept_94 (by decide) ?_
        refine lv_istore (lv' := [(10, .int (0 : Int32)), (9, .int (1 : Int32)), (8, .int (0 : Int32)), (7, .int x7_15), (0, .ref a), (2, .int p1), (3, .int x3), (4, .int x4), (5, .int x5), (6, .int x6)]) hx hb dX7_kept_95 hl (by decide) rfl (fun ls hl => ?_)
        exact ih97 x3 x4 x5 x6 x7_15 (0 : Int32) (1 : Int32) (0 : Int32) 0 0 0 v_need _ _ _ h hP hD hS (lv_sub hl [4, 5, 6, 7, 8, 9, 3, 2, 1, 0] rfl)
    · intro x3 x4 x5 x6 x7 x8 x9 x10 x11 k0 k1 v_need H locs ls h hP hD hS hl
      replace h : F_X7_kept_97 v_hill v_now p0 p1 Q (wp_X7_kept v_hill v_now p0 p1 Q n) x3 x4 x5 x6 x7 x8 x9 x10 x11 k0 k1 v_need := h
      unfold F_X7_kept_97 at h
      refine lv_iload hx hb dX7_kept_97 (lv_at hl 9 rfl) ?_
      refine lv_aload_n hx hb dX7_kept_99 rfl (lv_at hl 0 rfl) ?_
      refine va_get (D := (dC, dI)) (ci := 7) (v := .ref a_hill) (C := RX7) (T := TX7) (N := 19) hx hb hts iwX7_kept_X7 hown hK hP 0 rfl rfl 7 (by decide) f16 (fun _ h9 => h9) rfl dX7_kept_100 ?_
      refine lv_iconst (v := 2) hx hb dX7_kept_103 (by decide) ?_
      refine va_iald hx hb hK hP 1 0 rfl rfl (by unfold vp_in; decide) dX7_kept_104 ?_
      refine lv_icmp_ge (tgt := 208) hx hb dX7_kept_105 (by decide) (fun c_17 => ?_) (fun c_17 => ?_)
      · replace h := h.1 c_17
        refine lv_iload hx hb dX7_kept_208 (lv_at hl 8 rfl) ?_
        refine lv_if_eq (tgt := 229) hx hb dX7_kept_210 (by decide) (fun c_18 => ?_) (fun c_18 => ?_)
        · replace h := h.1 c_18
          exact ih229 x3 x4 x5 x6 x7 x8 0 0 0 0 0 v_need _ _ _ h hP hD hS (lv_sub hl [0, 1, 2, 3, 4, 5, 6, 7] rfl)
        · replace h := h.2 c_18
          refine lv_iload hx hb dX7_kept_213 (lv_at hl 6 rfl) ?_
          refine lv_if_lt (tgt := 229) hx hb dX7_kept_215 (by decide) (fun c_19 => ?_) (fun c_19 => ?_)
          · replace h := h.1 c_19
            exact ih229 x3 x4 x5 x6 x7 x8 0 0 0 0 0 v_need _ _ _ h hP hD hS (lv_sub hl [0, 1, 2, 3, 4, 5, 6, 7] rfl)
          · replace h := h.2 c_19
            refine lv_iload hx hb dX7_kept_218 (lv_at hl 7 rfl) ?_
            refine lv_iload hx hb dX7_kept_220 (lv_at hl 3 rfl) ?_
            refine lv_icmp_le (tgt := 229) hx hb dX7_kept_222 (by decide) (fun c_20 => ?_) (fun c_20 => ?_)
            · replace h := h.1 c_20
              exact ih229 x3 x4 x5 x6 x7 x8 0 0 0 0 0 v_need _ _ _ h hP hD hS (lv_sub hl [0, 1, 2, 3, 4, 5, 6, 7] rfl)
            · replace h := h.2 c_20
              refine lv_iconst (v := 1) hx hb dX7_kept_225 (by decide) ?_
              refine lv_goto (tgt := 230) hx hb dX7_kept_226 (by decide) ?_
              exact ih230 x3 x4 x5 x6 x7 x8 0 0 0 (1 : Int32) 0 v_need _ _ _ h hP hD hS (lv_sub hl [0, 1, 2, 3, 4, 5, 6, 7] rfl)
      · replace h := h.2 c_17
        refine lv_iload hx hb dX7_kept_108 (lv_at hl 5 rfl) ?_
        refine lv_iload hx hb dX7_kept_110 (lv_at hl 9 rfl) ?_
        refine lv_ishr hx hb dX7_kept_112 ?_
        refine lv_iconst (v := 1) hx hb dX7_kept_113 (by decide) ?_
        refine lv_iand hx hb dX7_kept_114 ?_
        refine lv_iconst (v := 1) hx hb dX7_kept_115 (by decide) ?_
        refine lv_icmp_ne (tgt := 123) hx hb dX7_kept_116 (by decide) (fun c_21 => ?_) (fun c_21 => ?_)
        · replace h := h.1 c_21
          refine lv_iconst (v := 0) hx hb dX7_kept_123 (by decide) ?_
          exact ih124 x3 x4 x5 x6 x7 x8 x9 x10 0 (0 : Int32) 0 v_need _ _ _ h hP hD hS (lv_sub hl [0, 1, 2, 3, 4, 5, 6, 7, 8, 9] rfl)
        · replace h := h.2 c_21
          refine lv_iconst (v := 1) hx hb dX7_kept_119 (by decide) ?_
          refine lv_goto (tgt := 124) hx hb dX7_kept_120 (by decide) ?_
          exact ih124 x3 x4 x5 x6 x7 x8 x9 x10 0 (1 : Int32) 0 v_need _ _ _ h hP hD hS (lv_sub hl [0, 1, 2, 3, 4, 5, 6, 7, 8, 9] rfl)
    · intro x3 x4 x5 x6 x7 x8 x9 x10 x11 k0 k1 v_need H locs ls h hP hD hS hl
      replace h : F_X7_kept_124 v_hill v_now p0 p1 Q (wp_X7_kept v_hill v_now p0 p1 Q n) x3 x4 x5 x6 x7 x8 x9 x10 x11 k0 k1 v_need := h
      unfold F_X7_kept_124 at h
      refine lv_istore (lv' := [(11, .int k0), (0, .ref a), (2, .int p1), (3, .int x3), (4, .int x4), (5, .int x5), (6, .int x6), (7, .int x7), (8, .int x8), (9, .int x9), (10, .int x10)]) hx hb dX7_kept_124 hl (by decide) rfl (fun ls hl => ?_)
      refine lv_iload hx hb dX7_kept_126 (lv_at hl 9 rfl) ?_
      refine lv_if_eq (tgt := 152) hx hb dX7_kept_128 (by decide) (fun c_22 => ?_) (fun c_22 => ?_)
      · replace h := h.1 c_22
        exact ih152 x3 x4 x5 x6 x7 x8 0 x10 k0 0 0 v_need _ _ _ h hP hD hS (lv_sub hl [1, 2, 3, 4, 5, 6, 7, 8, 10, 0] rfl)
      · replace h := h.2 c_22
        refine lv_iload hx hb dX7_kept_131 (lv_at hl 0 rfl) ?_
        refine lv_if_eq (tgt := 148) hx hb dX7_kept_133 (by decide) (fun c_23 => ?_) (fun c_23 => ?_)
        · replace h := h.1 c_23
          exact ih148 x3 x4 x5 x6 x7 x8 0 x10 k0 0 0 v_need _ _ _ h hP hD hS (lv_sub hl [1, 2, 3, 4, 5, 6, 7, 8, 10, 0] rfl)
        · replace h := h.2 c_23
          refine lv_aload_n hx hb dX7_kept_136 rfl (lv_at hl 1 rfl) ?_
          refine va_get (D := (dC, dI)) (ci := 7) (v := .ref a_need) (C := RX7) (T := TX7) (N := 19) hx hb hts iwX7_kept_X7 hown hK hP 0 rfl rfl 11 (by decide) f25 (fun _ h9 => h9) rfl dX7_kept_137 ?_
          refine lv_iload hx hb dX7_kept_140 (lv_at hl 10 rfl) ?_
          have g_24 := h.1
          replace h := h.2
          refine va_iald hx hb hK hP 3 0 rfl rfl g_24 dX7_kept_142 ?_
          refine lv_bipush (v := -9) hx hb dX7_kept_143 (by decide) ?_
          refine lv_icmp_eq (tgt := 152) hx hb dX7_kept_145 (by decide) (fun c_25 => ?_) (fun c_25 => ?_)
          · replace h := h.1 c_25
            exact ih152 x3 x4 x5 x6 x7 x8 0 x10 k0 0 0 v_need _ _ _ h hP hD hS (lv_sub hl [1, 2, 3, 4, 5, 6, 7, 8, 10, 0] rfl)
          · replace h := h.2 c_25
            exact ih148 x3 x4 x5 x6 x7 x8 0 x10 k0 0 0 v_need _ _ _ h hP hD hS (lv_sub hl [1, 2, 3, 4, 5, 6, 7, 8, 10, 0] rfl)
    · intro x3 x4 x5 x6 x7 x8 x9 x10 x11 k0 k1 v_need H locs ls h hP hD hS hl
      replace h : F_X7_kept_148 v_hill v_now p0 p1 Q (wp_X7_kept v_hill v_now p0 p1 Q n) x3 x4 x5 x6 x7 x8 x9 x10 x11 k0 k1 v_need := h
      unfold F_X7_kept_148 at h
      refine lv_iconst (v := 1) hx hb dX7_kept_148 (by decide) ?_
      refine lv_goto (tgt := 153) hx hb dX7_kept_149 (by decide) ?_
      exact ih153 x3 x4 x5 x6 x7 x8 0 x10 x11 (1 : Int32) 0 v_need _ _ _ h hP hD hS (lv_sub hl [0, 1, 2, 3, 4, 5, 6, 7, 8, 9] rfl)
    · intro x3 x4 x5 x6 x7 x8 x9 x10 x11 k0 k1 v_need H locs ls h hP hD hS hl
      replace h : F_X7_kept_152 v_hill v_now p0 p1 Q (wp_X7_kept v_hill v_now p0 p1 Q n) x3 x4 x5 x6 x7 x8 x9 x10 x11 k0 k1 v_need := h
      unfold F_X7_kept_152 at h
      refine lv_iconst (v := 0) hx hb dX7_kept_152 (by decide) ?_
      exact ih153 x3 x4 x5 x6 x7 x8 0 x10 x11 (0 : Int32) 0 v_need _ _ _ h hP hD hS (lv_sub hl [0, 1, 2, 3, 4, 5, 6, 7, 8, 9] rfl)
    · intro x3 x4 x5 x6 x7 x8 x9 x10 x11 k0 k1 v_need H locs ls h hP hD hS hl
      replace h : F_X7_kept_153 v_hill v_now p0 p1 Q (wp_X7_kept v_hill v_now p0 p1 Q n) x3 x4 x5 x6 x7 x8 x9 x10 x11 k0 k1 v_need := h
      unfold F_X7_kept_153 at h
      refine lv_istore (lv' := [(9, .int k0), (0, .ref a), (2, .int p1), (3, .int x3), (4, .int x4), (5, .int x5), (6, .int x6), (7, .int x7), (8, .int x8), (10, .int x10), (11, .int x11)]) hx hb dX7_kept_153 hl (by decide) rfl (fun ls hl => ?_)
      refine lv_iload hx hb dX7_kept_155 (lv_at hl 7 rfl) ?_
      refine lv_iload hx hb dX7_kept_157 (lv_at hl 10 rfl) ?_
      refine lv_if_eq (tgt := 173) hx hb dX7_kept_159 (by decide) (fun c_26 => ?_) (fun c_26 => ?_)
      · replace h := h.1 c_26
        refine lv_aload_n hx hb dX7_kept_173 rfl (lv_at hl 1 rfl) ?_
        refine lv_iload hx hb dX7_kept_174 (lv_at hl 9 rfl) ?_
        refine gV_i0 (As := [.int x10]) (rest := [.int x7]) ⟨hx, hb, hml, hown, hts⟩ (c_X7_scraped l dC dI cyC cyI cyZ _ a a_text a_read a_hill a_now a_undone a_need a_cameOf a_places a_firstRow a_kept v_size v_at v_begin v_token v_told v_undos v_cames v_each v_trace v_now v_hill x10 h) (cwV 1 hts gX7_kept_X7_scraped rfl rfl rfl hdV_X7_scraped ⟨Nat.le_of_ble_eq_true rfl, Nat.le_of_ble_eq_true rfl⟩) hK hN hP hD hS hA [0, 2, 1] (by decide) rfl (ci := 7) rfl rfl rfl hl.1 rfl (Nat.le_of_ble_eq_true rfl) dX7_kept_176 ⟨Nat.zero_le _, Nat.zero_le _⟩ (fun r_27 H locs h hP hS => ?_)
        exact ih179 x3 x4 x5 x6 0 x8 k0 x10 x11 r_27 x7 v_need _ _ _ h hP hD hS (lv_sub hl [1, 2, 3, 4, 5, 6, 8, 0, 9, 10] rfl)
      · replace h := h.2 c_26
        refine lv_aload_n hx hb dX7_kept_162 rfl (lv_at hl 1 rfl) ?_
        refine va_get (D := (dC, dI)) (ci := 7) (v := .ref a_need) (C := RX7) (T := TX7) (N := 19) hx hb hts iwX7_kept_X7 hown hK hP 0 rfl rfl 11 (by decide) f25 (fun _ h9 => h9) rfl dX7_kept_163 ?_
        refine lv_iload hx hb dX7_kept_166 (lv_at hl 9 rfl) ?_
        have g_28 := h.1
        replace h := h.2
        refine va_iald hx hb hK hP 3 0 rfl rfl g_28 dX7_kept_168 ?_
        refine lv_ineg hx hb dX7_kept_169 ?_
        refine lv_goto (tgt := 179) hx hb dX7_kept_170 (by decide) ?_
        exact ih179 x3 x4 x5 x6 0 x8 k0 x10 x11 (-(v_need (x10).toNatClampNeg)) x7 v_need _ _ _ h hP hD hS (lv_sub hl [1, 2, 3, 4, 5, 6, 8, 0, 9, 10] rfl)
    · intro x3 x4 x5 x6 x7 x8 x9 x10 x11 k0 k1 v_need H locs ls h hP hD hS hl
      replace h : F_X7_kept_179 v_hill v_now p0 p1 Q (wp_X7_kept v_hill v_now p0 p1 Q n) x3 x4 x5 x6 x7 x8 x9 x10 x11 k0 k1 v_need := h
      unfold F_X7_kept_179 at h
      refine lv_iadd hx hb dX7_kept_179 ?_
      refine lv_topi (fun x7_29 e_30 => ?_)
      replace h := h x7_29 e_30
      refine lv_istore (lv' := [(7, .int x7_29), (0, .ref a), (2, .int p1), (3, .int x3), (4, .int x4), (5, .int x5), (6, .int x6), (8, .int x8), (9, .int x9), (10, .int x10), (11, .int x11)]) hx hb dX7_kept_180 hl (by decide) rfl (fun ls hl => ?_)
      refine lv_iload hx hb dX7_kept_182 (lv_at hl 7 rfl) ?_
      refine lv_iload hx hb dX7_kept_184 (lv_at hl 10 rfl) ?_
      refine lv_if_eq (tgt := 198) hx hb dX7_kept_186 (by decide) (fun c_31 => ?_) (fun c_31 => ?_)
      · replace h := h.1 c_31
        refine lv_iconst (v := 0) hx hb dX7_kept_198 (by decide) ?_
        refine lv_iadd hx hb dX7_kept_199 ?_
        refine lv_topi (fun x8_32 e_33 => ?_)
        replace h := h x8_32 e_33
        refine lv_istore (lv' := [(8, .int x8_32), (7, .int x7_29), (0, .ref a), (2, .int p1), (3, .int x3), (4, .int x4), (5, .int x5), (6, .int x6), (9, .int x9), (10, .int x10), (11, .int x11)]) hx hb dX7_kept_200 hl (by decide) rfl (fun ls hl => ?_)
        obtain ⟨x10_34, e_35⟩ : ∃ y : Int32, y = (x10 + (1 : Int32)) := ⟨_, rfl⟩
        replace h := h x10_34 e_35
        refine lv_iinc (v := x10_34) (lv' := [(10, .int x10_34), (8, .int x8_32), (7, .int x7_29), (0, .ref a), (2, .int p1), (3, .int x3), (4, .int x4), (5, .int x5), (6, .int x6), (9, .int x9), (11, .int x11)]) hx hb dX7_kept_202 hl (k := 9) rfl (by rw [e_35]; rfl) (by decide) rfl (fun ls hl => ?_)
        refine lv_goto (tgt := 97) hx hb dX7_kept_205 (by decide) ?_
        exact ih97 x3 x4 x5 x6 x7_29 x8_32 x9 x10_34 0 0 0 v_need _ _ _ h hP hD hS (lv_sub hl [3, 4, 5, 6, 7, 8, 2, 1, 9, 0] rfl)
      · replace h := h.2 c_31
        refine lv_aload_n hx hb dX7_kept_189 rfl (lv_at hl 1 rfl) ?_
        refine lv_iload hx hb dX7_kept_190 (lv_at hl 9 rfl) ?_
        refine gV_i0 (As := [.int x10]) (rest := [.int x8]) ⟨hx, hb, hml, hown, hts⟩ (c_X7_worth l dC dI cyC cyI cyZ _ a a_text a_read a_hill a_now a_undone a_need a_cameOf a_places a_firstRow a_kept v_size v_at v_begin v_token v_told v_undos v_cames v_each v_trace v_hill x10 h) (cwV 1 hts gX7_kept_X7_worth rfl rfl rfl hdV_X7_worth ⟨Nat.le_of_ble_eq_true rfl, Nat.le_of_ble_eq_true rfl⟩) hK hN hP hD hS hA [0, 1] (by decide) rfl (ci := 7) rfl rfl rfl hl.1 rfl (Nat.le_of_ble_eq_true rfl) dX7_kept_192 ⟨Nat.zero_le _, Nat.zero_le _⟩ (fun r_36 H locs h hP hS => ?_)
        refine lv_goto (tgt := 199) hx hb dX7_kept_195 (by decide) ?_
        refine lv_iadd hx hb dX7_kept_199 ?_
        refine lv_topi (fun x8_37 e_38 => ?_)
        replace h := h x8_37 e_38
        refine lv_istore (lv' := [(8, .int x8_37), (7, .int x7_29), (0, .ref a), (2, .int p1), (3, .int x3), (4, .int x4), (5, .int x5), (6, .int x6), (9, .int x9), (10, .int x10), (11, .int x11)]) hx hb dX7_kept_200 hl (by decide) rfl (fun ls hl => ?_)
        obtain ⟨x10_39, e_40⟩ : ∃ y : Int32, y = (x10 + (1 : Int32)) := ⟨_, rfl⟩
        replace h := h x10_39 e_40
        refine lv_iinc (v := x10_39) (lv' := [(10, .int x10_39), (8, .int x8_37), (7, .int x7_29), (0, .ref a), (2, .int p1), (3, .int x3), (4, .int x4), (5, .int x5), (6, .int x6), (9, .int x9), (11, .int x11)]) hx hb dX7_kept_202 hl (k := 9) rfl (by rw [e_40]; rfl) (by decide) rfl (fun ls hl => ?_)
        refine lv_goto (tgt := 97) hx hb dX7_kept_205 (by decide) ?_
        exact ih97 x3 x4 x5 x6 x7_29 x8_37 x9 x10_39 0 0 0 v_need _ _ _ h hP hD hS (lv_sub hl [3, 4, 5, 6, 7, 8, 2, 1, 9, 0] rfl)
    · intro x3 x4 x5 x6 x7 x8 x9 x10 x11 k0 k1 v_need H locs ls h hP hD hS hl
      replace h : F_X7_kept_229 v_hill v_now p0 p1 Q (wp_X7_kept v_hill v_now p0 p1 Q n) x3 x4 x5 x6 x7 x8 x9 x10 x11 k0 k1 v_need := h
      unfold F_X7_kept_229 at h
      refine lv_iconst (v := 0) hx hb dX7_kept_229 (by decide) ?_
      exact ih230 x3 x4 x5 x6 x7 x8 0 0 0 (0 : Int32) 0 v_need _ _ _ h hP hD hS (lv_sub hl [0, 1, 2, 3, 4, 5, 6, 7] rfl)
    · intro x3 x4 x5 x6 x7 x8 x9 x10 x11 k0 k1 v_need H locs ls h hP hD hS hl
      replace h : F_X7_kept_230 v_hill v_now p0 p1 Q (wp_X7_kept v_hill v_now p0 p1 Q n) x3 x4 x5 x6 x7 x8 x9 x10 x11 k0 k1 v_need := h
      unfold F_X7_kept_230 at h
      refine lv_istore (lv' := [(10, .int k0), (0, .ref a), (2, .int p1), (3, .int x3), (4, .int x4), (5, .int x5), (6, .int x6), (7, .int x7), (8, .int x8)]) hx hb dX7_kept_230 hl (by decide) rfl (fun ls hl => ?_)
      refine lv_iload hx hb dX7_kept_232 (lv_at hl 0 rfl) ?_
      refine lv_if_eq (tgt := 242) hx hb dX7_kept_234 (by decide) (fun c_41 => ?_) (fun c_41 => ?_)
      · replace h := h.1 c_41
        refine lv_iload_n hx hb dX7_kept_242 rfl (lv_at hl 3 rfl) ?_
        exact ih243 0 x4 x5 x6 x7 x8 0 k0 0 x3 0 v_need _ _ _ h hP hD hS (lv_sub hl [1, 2, 4, 5, 6, 7, 8, 0] rfl)
      · replace h := h.2 c_41
        refine lv_iload hx hb dX7_kept_237 (lv_at hl 6 rfl) ?_
        refine lv_goto (tgt := 243) hx hb dX7_kept_239 (by decide) ?_
        exact ih243 0 x4 x5 x6 x7 x8 0 k0 0 x6 0 v_need _ _ _ h hP hD hS (lv_sub hl [1, 2, 4, 5, 6, 7, 8, 0] rfl)
    · intro x3 x4 x5 x6 x7 x8 x9 x10 x11 k0 k1 v_need H locs ls h hP hD hS hl
      replace h : F_X7_kept_243 v_hill v_now p0 p1 Q (wp_X7_kept v_hill v_now p0 p1 Q n) x3 x4 x5 x6 x7 x8 x9 x10 x11 k0 k1 v_need := h
      unfold F_X7_kept_243 at h
      refine lv_istore_n (lv' := [(3, .int k0), (0, .ref a), (2, .int p1), (4, .int x4), (5, .int x5), (6, .int x6), (7, .int x7), (8, .int x8), (10, .int x10)]) hx hb dX7_kept_243 rfl hl (by decide) rfl (fun ls hl => ?_)
      refine lv_iload hx hb dX7_kept_244 (lv_at hl 8 rfl) ?_
      refine lv_if_eq (tgt := 254) hx hb dX7_kept_246 (by decide) (fun c_42 => ?_) (fun c_42 => ?_)
      · replace h := h.1 c_42
        refine lv_iload hx hb dX7_kept_254 (lv_at hl 4 rfl) ?_
        exact ih256 k0 x4 0 x6 0 x8 0 x10 0 x5 0 v_need _ _ _ h hP hD hS (lv_sub hl [1, 2, 0, 3, 5, 7, 8] rfl)
      · replace h := h.2 c_42
        refine lv_iload hx hb dX7_kept_249 (lv_at hl 6 rfl) ?_
        refine lv_goto (tgt := 256) hx hb dX7_kept_251 (by decide) ?_
        exact ih256 k0 x4 0 x6 0 x8 0 x10 0 x7 0 v_need _ _ _ h hP hD hS (lv_sub hl [1, 2, 0, 3, 5, 7, 8] rfl)
    · intro x3 x4 x5 x6 x7 x8 x9 x10 x11 k0 k1 v_need H locs ls h hP hD hS hl
      replace h : F_X7_kept_256 v_hill v_now p0 p1 Q (wp_X7_kept v_hill v_now p0 p1 Q n) x3 x4 x5 x6 x7 x8 x9 x10 x11 k0 k1 v_need := h
      unfold F_X7_kept_256 at h
      refine lv_istore (lv' := [(5, .int k0), (0, .ref a), (2, .int p1), (3, .int x3), (4, .int x4), (6, .int x6), (8, .int x8), (10, .int x10)]) hx hb dX7_kept_256 hl (by decide) rfl (fun ls hl => ?_)
      refine lv_iload hx hb dX7_kept_258 (lv_at hl 7 rfl) ?_
      refine lv_if_eq (tgt := 268) hx hb dX7_kept_260 (by decide) (fun c_43 => ?_) (fun c_43 => ?_)
      · replace h := h.1 c_43
        refine lv_iload hx hb dX7_kept_268 (lv_at hl 4 rfl) ?_
        refine lv_istore (lv' := [(4, .int x4), (5, .int k0), (0, .ref a), (2, .int p1), (3, .int x3), (6, .int x6), (8, .int x8), (10, .int x10)]) hx hb dX7_kept_270 hl (by decide) rfl (fun ls hl => ?_)
        obtain ⟨x6_44, e_45⟩ : ∃ y : Int32, y = (x6 + (1 : Int32)) := ⟨_, rfl⟩
        replace h := h x6_44 e_45
        refine lv_iinc (v := x6_44) (lv' := [(6, .int x6_44), (4, .int x4), (5, .int k0), (0, .ref a), (2, .int p1), (3, .int x3), (8, .int x8), (10, .int x10)]) hx hb dX7_kept_272 hl (k := 5) rfl (by rw [e_45]; rfl) (by decide) rfl (fun ls hl => ?_)
        refine lv_goto (tgt := 67) hx hb dX7_kept_275 (by decide) ?_
        exact ih67 x3 x4 k0 x6_44 0 0 0 0 0 0 0 v_need _ _ _ h hP hD hS (lv_sub hl [3, 4, 5, 1, 2, 0] rfl)
      · replace h := h.2 c_43
        refine lv_iload hx hb dX7_kept_263 (lv_at hl 6 rfl) ?_
        refine lv_goto (tgt := 270) hx hb dX7_kept_265 (by decide) ?_
        refine lv_istore (lv' := [(4, .int x8), (5, .int k0), (0, .ref a), (2, .int p1), (3, .int x3), (6, .int x6), (8, .int x8), (10, .int x10)]) hx hb dX7_kept_270 hl (by decide) rfl (fun ls hl => ?_)
        obtain ⟨x6_46, e_47⟩ : ∃ y : Int32, y = (x6 + (1 : Int32)) := ⟨_, rfl⟩
        replace h := h x6_46 e_47
        refine lv_iinc (v := x6_46) (lv' := [(6, .int x6_46), (4, .int x8), (5, .int k0), (0, .ref a), (2, .int p1), (3, .int x3), (8, .int x8), (10, .int x10)]) hx hb dX7_kept_272 hl (k := 5) rfl (by rw [e_47]; rfl) (by decide) rfl (fun ls hl => ?_)
        refine lv_goto (tgt := 67) hx hb dX7_kept_275 (by decide) ?_
        exact ih67 x3 x8 k0 x6_46 0 0 0 0 0 0 0 v_need _ _ _ h hP hD hS (lv_sub hl [3, 4, 5, 1, 2, 0] rfl)
set_option maxHeartbeats 4000000 in
set_option maxRecDepth 100000 in
theorem c_X7_kept (l : Launch) (dC : Nat → ClassId) (dI : Nat → Nat → Nat) (cyC cyI cyZ : ClassId) (sz : Nat) (a a_text a_read a_hill a_now a_undone a_need a_cameOf a_places a_firstRow a_kept : Nat) (v_size : Int32) (v_at : Int32) (v_begin : Int32) (v_token : Int32) (v_told : Int32) (v_undos : Int32) (v_cames : Int32) (v_each : Int32) (v_trace : Int64) (v_hill : Nat → Int32) (v_now : Nat → Int32) (v_need : Nat → Int32) (p0 : Int32) (p1 : Int32) {Q : Int32 → (Nat → Int32) → Prop} (h : q_X7_kept v_hill v_now v_need p0 p1 Q) : Met l yX7_kept wsX7_kept ({ frames := 3, cells := 0, slots := 0, locals := 69 }) (gPc [.ref a, .int p0, .int p1] (dC, dI) (gTy cyC cyI cyZ) sz [(a, .inr (7, [.ref a_text, .int v_size, .int v_at, .int v_begin, .int v_token, .int v_told, .ref a_read, .ref a_hill, .ref a_now, .ref a_undone, .int v_undos, .ref a_need, .int v_cames, .ref a_cameOf, .ref a_places, .ref a_firstRow, .int v_each, .long v_trace, .ref a_kept])), (a_hill, .inl (cyI, 46, .inl v_hill)), (a_now, .inl (cyI, 15, .inl v_now)), (a_need, .inl (cyI, 6, .inl v_need))]) (gQi1 Q (dC, dI) (va_A [(a, .inr (7, [.ref a_text, .int v_size, .int v_at, .int v_begin, .int v_token, .int v_told, .ref a_read, .ref a_hill, .ref a_now, .ref a_undone, .int v_undos, .ref a_need, .int v_cames, .ref a_cameOf, .ref a_places, .ref a_firstRow, .int v_each, .long v_trace, .ref a_kept])), (a_hill, .inl (cyI, 46, .inl v_hill)), (a_now, .inl (cyI, 15, .inl v_now)), (a_need, .inl (cyI, 6, .inl v_need))] sz) (fun (u1 : Nat → Int32) => [(a, .inr (7, [.ref a_text, .int v_size, .int v_at, .int v_begin, .int v_token, .int v_told, .ref a_read, .ref a_hill, .ref a_now, .ref a_undone, .int v_undos, .ref a_need, .int v_cames, .ref a_cameOf, .ref a_places, .ref a_firstRow, .int v_each, .long v_trace, .ref a_kept])), (a_hill, .inl (cyI, 46, .inl v_hill)), (a_now, .inl (cyI, 15, .inl v_now)), (a_need, .inl (cyI, 6, .inl u1))])) 0 0 (va_A [(a, .inr (7, [.ref a_text, .int v_size, .int v_at, .int v_begin, .int v_token, .int v_told, .ref a_read, .ref a_hill, .ref a_now, .ref a_undone, .int v_undos, .ref a_need, .int v_cames, .ref a_cameOf, .ref a_places, .ref a_firstRow, .int v_each, .long v_trace, .ref a_kept])), (a_hill, .inl (cyI, 46, .inl v_hill)), (a_now, .inl (cyI, 15, .inl v_now)), (a_need, .inl (cyI, 6, .inl v_need))] sz) := by
  refine gMet (cc := cX7_kept) (maxL := 12) (ret := (some .int)) (own := RX7) (fun A => gQi1 Q (dC, dI) A (fun (u1 : Nat → Int32) => [(a, .inr (7, [.ref a_text, .int v_size, .int v_at, .int v_begin, .int v_token, .int v_told, .ref a_read, .ref a_hill, .ref a_now, .ref a_undone, .int v_undos, .ref a_need, .int v_cames, .ref a_cameOf, .ref a_places, .ref a_firstRow, .int v_each, .long v_trace, .ref a_kept])), (a_hill, .inl (cyI, 46, .inl v_hill)), (a_now, .inl (cyI, 15, .inl v_now)), (a_need, .inl (cyI, 6, .inl u1))])) (by decide) rfl rfl (Nat.le_of_ble_eq_true rfl) ?_
  intro p e s m below meth c A ls C0 _ hK hN hP hD hA hl
  obtain ⟨hx, hb, hr, hml, hown, hts, hlocks⟩ := id C0
  have f16 := hts (.fieldLink RX7 16 "LastOchreModel" "hill" "[I") (by decide +kernel)
  have f19 := hts (.fieldLink RX7 19 "LastOchreModel" "now" "[I") (by decide +kernel)
  have f25 := hts (.fieldLink RX7 25 "LastOchreModel" "need" "[I") (by decide +kernel)
  have hS : va_S A s.heap s.heap [] := va_S.rf
  replace hl : lv_has ls 12 [(0, .ref a), (1, .int p0), (2, .int p1)] := hl
  unfold q_X7_kept at h
  obtain ⟨n, h⟩ := h
  obtain ⟨ih28, ih67, ih97, ih124, ih148, ih152, ih153, ih179, ih229, ih230, ih243, ih256⟩ := w_X7_kept (l := l) (e := e) (below := below) dC dI cyC cyI cyZ a a_text a_read a_hill a_now a_undone a_need a_cameOf a_places a_firstRow a_kept v_size v_at v_begin v_token v_told v_undos v_cames v_each v_trace v_hill v_now p0 p1 Q C0 hK hN hA n
  unfold F_X7_kept_e at h
  refine lv_iload_n hx hb dX7_kept_0 rfl (lv_at hl 1 rfl) ?_
  refine lv_i2l hx hb dX7_kept_1 rfl ?_
  refine lv_lconst (v := 0) hx hb dX7_kept_2 (by decide) ?_
  refine lv_ldc2 (v := 99) hx hb hown (hts (.constantLong RX7 164 (99)) (by decide +kernel)) dX7_kept_3 ?_
  refine gS_i0 (As := [.long ((p0).toInt64), .long (0 : Int64), .long (99 : Int64)]) (rest := []) ⟨hx, hb, hml, hown, hts⟩ (c_X7_in l dC dI cyC cyI cyZ _ ((p0).toInt64) (0 : Int64) (99 : Int64) h) (va_cwS 3 hts gX7_kept_X7_in rfl rfl rfl hdS_X7_in ⟨Nat.le_of_ble_eq_true rfl, Nat.le_of_ble_eq_true rfl⟩) hK hN hP hD hS hA [] (by decide) rfl rfl hl.1 rfl (Nat.le_of_ble_eq_true rfl) dX7_kept_6 ⟨Nat.zero_le _, Nat.zero_le _⟩ (fun r_1 H locs h hP hS => ?_)
  refine lv_if_eq (tgt := 24) hx hb dX7_kept_9 (by decide) (fun c_2 => ?_) (fun c_2 => ?_)
  · replace h := h.1 c_2
    refine lv_iconst (v := -1) hx hb dX7_kept_24 (by decide) ?_
    exact gri1 hx hb hr hlocks h hP hD hS dX7_kept_25
  · replace h := h.2 c_2
    refine lv_iload_n hx hb dX7_kept_12 rfl (lv_at hl 2 rfl) ?_
    refine lv_i2l hx hb dX7_kept_13 rfl ?_
    refine lv_lconst (v := 0) hx hb dX7_kept_14 (by decide) ?_
    refine lv_ldc2 (v := 2) hx hb hown (hts (.constantLong RX7 142 (2)) (by decide +kernel)) dX7_kept_15 ?_
    refine gS_i0 (As := [.long ((p1).toInt64), .long (0 : Int64), .long (2 : Int64)]) (rest := []) ⟨hx, hb, hml, hown, hts⟩ (c_X7_in l dC dI cyC cyI cyZ _ ((p1).toInt64) (0 : Int64) (2 : Int64) h) (va_cwS 3 hts gX7_kept_X7_in rfl rfl rfl hdS_X7_in ⟨Nat.le_of_ble_eq_true rfl, Nat.le_of_ble_eq_true rfl⟩) hK hN hP hD hS hA [] (by decide) rfl rfl hl.1 rfl (Nat.le_of_ble_eq_true rfl) dX7_kept_18 ⟨Nat.zero_le _, Nat.zero_le _⟩ (fun r_3 H locs h hP hS => ?_)
    refine lv_if_ne (tgt := 26) hx hb dX7_kept_21 (by decide) (fun c_4 => ?_) (fun c_4 => ?_)
    · replace h := h.1 c_4
      refine lv_iconst (v := 0) hx hb dX7_kept_26 (by decide) ?_
      refine lv_istore_n (lv' := [(3, .int (0 : Int32)), (0, .ref a), (1, .int p0), (2, .int p1)]) hx hb dX7_kept_27 rfl hl (by decide) rfl (fun ls hl => ?_)
      exact ih28 (0 : Int32) 0 0 0 0 0 0 0 0 0 0 v_need _ _ _ h hP hD hS (lv_sub hl [1, 2, 3, 0] rfl)
    · replace h := h.2 c_4
      refine lv_iconst (v := -1) hx hb dX7_kept_24 (by decide) ?_
      exact gri1 hx hb hr hlocks h hP hD hS dX7_kept_25

def F_X7_isDigging_e (v_now : Nat → Int32) (v_hill : Nat → Int32) (p0 : Int32) (Q : Int32 → Prop) (rec : Nat → Int32 → Int32 → Int32 → Int32 → Prop)  : Prop :=
  ∀ x2_1 : Int32, x2_1 = (v_now ((2 : Int32)).toNatClampNeg) → (rec 12 x2_1 p0 (0 : Int32) 0)
def F_X7_isDigging_12 (v_now : Nat → Int32) (v_hill : Nat → Int32) (p0 : Int32) (Q : Int32 → Prop) (rec : Nat → Int32 → Int32 → Int32 → Int32 → Prop) (x2 : Int32) (x3 : Int32) (x4 : Int32) (x5 : Int32) : Prop :=
  (x4 = x3 → ((¬ x3 = 0 → (Q (0 : Int32))) ∧ (x3 = 0 → (Q (1 : Int32))))) ∧ (¬ x4 = x3 → (rec 24 x2 x3 x3 (0 : Int32)))
def F_X7_isDigging_24 (v_now : Nat → Int32) (v_hill : Nat → Int32) (p0 : Int32) (Q : Int32 → Prop) (rec : Nat → Int32 → Int32 → Int32 → Int32 → Prop) (x2 : Int32) (x3 : Int32) (x4 : Int32) (x5 : Int32) : Prop :=
  q_X7_cells v_hill (fun (r_5 : Int32) => (r_5 ≤ x5 → (rec 12 x2 x3 x4 0)) ∧ (¬ r_5 ≤ x5 → ((¬ ((x3 >>> (x5 &&& 31)) &&& (1 : Int32)) = (1 : Int32) → (∀ x5_8 : Int32, x5_8 = (x5 + (1 : Int32)) → (rec 24 x2 x3 x4 x5_8))) ∧ (((x3 >>> (x5 &&& 31)) &&& (1 : Int32)) = (1 : Int32) → (q_X7_may v_hill x5 x2 (fun (r_10 : Int32) => (r_10 = 0 → (∀ x5_12 : Int32, x5_12 = (x5 + (1 : Int32)) → (rec 24 x2 x3 x4 x5_12))) ∧ (¬ r_10 = 0 → (∀ x2_14 : Int32, x2_14 = (x2 ||| ((1 : Int32) <<< (x5 &&& 31))) → (∀ x3_16 : Int32, x3_16 = (x3 &&& (((1 : Int32) <<< (x5 &&& 31)) ^^^ (-1 : Int32))) → (∀ x5_18 : Int32, x5_18 = (x5 + (1 : Int32)) → (rec 24 x2_14 x3_16 x4 x5_18)))))))))))
def wp_X7_isDigging (v_now : Nat → Int32) (v_hill : Nat → Int32) (p0 : Int32) (Q : Int32 → Prop) : Nat → Nat → Int32 → Int32 → Int32 → Int32 → Prop
  | 0 => fun _ _ _ _ _ => False
  | n + 1 => fun t x2 x3 x4 x5 => if t = 12 then F_X7_isDigging_12 v_now v_hill p0 Q (wp_X7_isDigging v_now v_hill p0 Q n) x2 x3 x4 x5 else if t = 24 then F_X7_isDigging_24 v_now v_hill p0 Q (wp_X7_isDigging v_now v_hill p0 Q n) x2 x3 x4 x5 else False
def q_X7_isDigging (v_now : Nat → Int32) (v_hill : Nat → Int32) (p0 : Int32) (Q : Int32 → Prop) : Prop := ∃ n, F_X7_isDigging_e v_now v_hill p0 Q (wp_X7_isDigging v_now v_hill p0 Q n) 
theorem iwX7_isDigging_X7 : ∀ w ∈ wsX70, w ∈ wsX7_isDigging := by decide +kernel
theorem hdV_X7_isDigging : yX7_isDigging.cls = RX7 ∧ yX7_isDigging.cls ≠ "java/lang/invoke/MethodHandle" ∧ yX7_isDigging.cls ≠ "java/lang/invoke/VarHandle" ∧ (parseMethodDescriptor yX7_isDigging.desc).map (fun d => d.parameters.length) = some 1 := by decide +kernel
set_option maxHeartbeats 4000000 in
set_option maxRecDepth 100000 in
theorem w_X7_isDigging {p : Program} {l : Launch} {e : Env} {s : State} {m : MethodId} {args : Array Value} {below : List Frame} {meth : Method} {c : Code} {A : Nat → Prop} (dC : Nat → ClassId) (dI : Nat → Nat → Nat) (cyC cyI cyZ : ClassId) (a a_text a_read a_hill a_now a_undone a_need a_cameOf a_places a_firstRow a_kept : Nat) (v_size : Int32) (v_at : Int32) (v_begin : Int32) (v_token : Int32) (v_told : Int32) (v_undos : Int32) (v_cames : Int32) (v_each : Int32) (v_trace : Int64) (v_now : Nat → Int32) (v_hill : Nat → Int32) (p0 : Int32) (Q : Int32 → Prop) (C0 : gAt cX7_isDigging (some .boolean) 6 RX7 wsX7_isDigging p s m meth c args) (hK : va_K (dC, dI) vwCl (gTy cyC cyI cyZ) s) (hN : nU s) (hA : ∀ q, s.heap.size ≤ q → A q) : ∀ n : Nat, (∀ (x2 : Int32) (x3 : Int32) (x4 : Int32) (x5 : Int32) (H : Heap) (locs : List Loc) (ls : Array Slot), wp_X7_isDigging v_now v_hill p0 Q n 12 x2 x3 x4 x5 → va_P (dC, dI) vwCl [(a, .inr (7, [.ref a_text, .int v_size, .int v_at, .int v_begin, .int v_token, .int v_told, .ref a_read, .ref a_hill, .ref a_now, .ref a_undone, .int v_undos, .ref a_need, .int v_cames, .ref a_cameOf, .ref a_places, .ref a_firstRow, .int v_each, .long v_trace, .ref a_kept])), (a_now, .inl (cyI, 15, .inl v_now)), (a_hill, .inl (cyI, 46, .inl v_hill))] H → va_D A [(a, .inr (7, [.ref a_text, .int v_size, .int v_at, .int v_begin, .int v_token, .int v_told, .ref a_read, .ref a_hill, .ref a_now, .ref a_undone, .int v_undos, .ref a_need, .int v_cames, .ref a_cameOf, .ref a_places, .ref a_firstRow, .int v_each, .long v_trace, .ref a_kept])), (a_now, .inl (cyI, 15, .inl v_now)), (a_hill, .inl (cyI, 46, .inl v_hill))] → va_S A s.heap H locs → lv_has ls 6 [(0, .ref a), (2, .int x2), (3, .int x3), (4, .int x4)] → W p l e { frames := 2, cells := 0, slots := 0, locals := 44 } s m args below meth c H locs 0 0 (MQ below (gQi0 Q (dC, dI) A [(a, .inr (7, [.ref a_text, .int v_size, .int v_at, .int v_begin, .int v_token, .int v_told, .ref a_read, .ref a_hill, .ref a_now, .ref a_undone, .int v_undos, .ref a_need, .int v_cames, .ref a_cameOf, .ref a_places, .ref a_firstRow, .int v_each, .long v_trace, .ref a_kept])), (a_now, .inl (cyI, 15, .inl v_now)), (a_hill, .inl (cyI, 46, .inl v_hill))]) args s 0 0 A) (F0 m 12 ls [])) ∧ (∀ (x2 : Int32) (x3 : Int32) (x4 : Int32) (x5 : Int32) (H : Heap) (locs : List Loc) (ls : Array Slot), wp_X7_isDigging v_now v_hill p0 Q n 24 x2 x3 x4 x5 → va_P (dC, dI) vwCl [(a, .inr (7, [.ref a_text, .int v_size, .int v_at, .int v_begin, .int v_token, .int v_told, .ref a_read, .ref a_hill, .ref a_now, .ref a_undone, .int v_undos, .ref a_need, .int v_cames, .ref a_cameOf, .ref a_places, .ref a_firstRow, .int v_each, .long v_trace, .ref a_kept])), (a_now, .inl (cyI, 15, .inl v_now)), (a_hill, .inl (cyI, 46, .inl v_hill))] H → va_D A [(a, .inr (7, [.ref a_text, .int v_size, .int v_at, .int v_begin, .int v_token, .int v_told, .ref a_read, .ref a_hill, .ref a_now, .ref a_undone, .int v_undos, .ref a_need, .int v_cames, .ref a_cameOf, .ref a_places, .ref a_firstRow, .int v_each, .long v_trace, .ref a_kept])), (a_now, .inl (cyI, 15, .inl v_now)), (a_hill, .inl (cyI, 46, .inl v_hill))] → va_S A s.heap H locs → lv_has ls 6 [(0, .ref a), (2, .int x2), (3, .int x3), (4, .int x4), (5, .int x5)] → W p l e { frames := 2, cells := 0, slots := 0, locals := 44 } s m args below meth c H locs 0 0 (MQ below (gQi0 Q (dC, dI) A [(a, .inr (7, [.ref a_text, .int v_size, .int v_at, .int v_begin, .int v_token, .int v_told, .ref a_read, .ref a_hill, .ref a_now, .ref a_undone, .int v_undos, .ref a_need, .int v_cames, .ref a_cameOf, .ref a_places, .ref a_firstRow, .int v_each, .long v_trace, .ref a_kept])), (a_now, .inl (cyI, 15, .inl v_now)), (a_hill, .inl (cyI, 46, .inl v_hill))]) args s 0 0 A) (F0 m 24 ls [])) := by
  obtain ⟨hx, hb, hr, hml, hown, hts, hlocks⟩ := id C0
  have f19 := hts (.fieldLink RX7 19 "LastOchreModel" "now" "[I") (by decide +kernel)
  intro n
  induction n with
  | zero => exact ⟨fun _ _ _ _ _ _ _ h => absurd h id, fun _ _ _ _ _ _ _ h => absurd h id⟩
  | succ n ih =>
    obtain ⟨ih12, ih24⟩ := ih
    refine ⟨?_, ?_⟩
    · intro x2 x3 x4 x5 H locs ls h hP hD hS hl
      replace h : F_X7_isDigging_12 v_now v_hill p0 Q (wp_X7_isDigging v_now v_hill p0 Q n) x2 x3 x4 x5 := h
      unfold F_X7_isDigging_12 at h
      refine lv_iload hx hb dX7_isDigging_12 (lv_at hl 3 rfl) ?_
      refine lv_iload_n hx hb dX7_isDigging_14 rfl (lv_at hl 2 rfl) ?_
      refine lv_icmp_eq (tgt := 78) hx hb dX7_isDigging_15 (by decide) (fun c_3 => ?_) (fun c_3 => ?_)
      · replace h := h.1 c_3
        refine lv_iload_n hx hb dX7_isDigging_78 rfl (lv_at hl 2 rfl) ?_
        refine lv_if_ne (tgt := 86) hx hb dX7_isDigging_79 (by decide) (fun c_4 => ?_) (fun c_4 => ?_)
        · replace h := h.1 c_4
          refine lv_iconst (v := 0) hx hb dX7_isDigging_86 (by decide) ?_
          exact grz0 hx hb hr hlocks rfl h hP hD hS dX7_isDigging_87
        · replace h := h.2 c_4
          refine lv_iconst (v := 1) hx hb dX7_isDigging_82 (by decide) ?_
          refine lv_goto (tgt := 87) hx hb dX7_isDigging_83 (by decide) ?_
          exact grz0 hx hb hr hlocks rfl h hP hD hS dX7_isDigging_87
      · replace h := h.2 c_3
        refine lv_iload_n hx hb dX7_isDigging_18 rfl (lv_at hl 2 rfl) ?_
        refine lv_istore (lv' := [(4, .int x3), (0, .ref a), (2, .int x2), (3, .int x3)]) hx hb dX7_isDigging_19 hl (by decide) rfl (fun ls hl => ?_)
        refine lv_iconst (v := 0) hx hb dX7_isDigging_21 (by decide) ?_
        refine lv_istore (lv' := [(5, .int (0 : Int32)), (4, .int x3), (0, .ref a), (2, .int x2), (3, .int x3)]) hx hb dX7_isDigging_22 hl (by decide) rfl (fun ls hl => ?_)
        exact ih24 x2 x3 x3 (0 : Int32) _ _ _ h hP hD hS (lv_sub hl [2, 3, 4, 1, 0] rfl)
    · intro x2 x3 x4 x5 H locs ls h hP hD hS hl
      replace h : F_X7_isDigging_24 v_now v_hill p0 Q (wp_X7_isDigging v_now v_hill p0 Q n) x2 x3 x4 x5 := h
      unfold F_X7_isDigging_24 at h
      refine lv_iload hx hb dX7_isDigging_24 (lv_at hl 4 rfl) ?_
      refine lv_aload_n hx hb dX7_isDigging_26 rfl (lv_at hl 0 rfl) ?_
      refine gV_i0 (As := []) (rest := [.int x5]) ⟨hx, hb, hml, hown, hts⟩ (c_X7_cells l dC dI cyC cyI cyZ _ a a_text a_read a_hill a_now a_undone a_need a_cameOf a_places a_firstRow a_kept v_size v_at v_begin v_token v_told v_undos v_cames v_each v_trace v_hill h) (cwV 0 hts gX7_isDigging_X7_cells rfl rfl rfl hdV_X7_cells ⟨Nat.le_of_ble_eq_true rfl, Nat.le_of_ble_eq_true rfl⟩) hK hN hP hD hS hA [0, 2] (by decide) rfl (ci := 7) rfl rfl rfl hl.1 rfl (Nat.le_of_ble_eq_true rfl) dX7_isDigging_27 ⟨Nat.zero_le _, Nat.zero_le _⟩ (fun r_5 H locs h hP hS => ?_)
      refine lv_icmp_ge (tgt := 75) hx hb dX7_isDigging_30 (by decide) (fun c_6 => ?_) (fun c_6 => ?_)
      · replace h := h.1 c_6
        refine lv_goto (tgt := 12) hx hb dX7_isDigging_75 (by decide) ?_
        exact ih12 x2 x3 x4 0 _ _ _ h hP hD hS (lv_sub hl [0, 1, 2, 3] rfl)
      · replace h := h.2 c_6
        refine lv_iload_n hx hb dX7_isDigging_33 rfl (lv_at hl 2 rfl) ?_
        refine lv_iload hx hb dX7_isDigging_34 (lv_at hl 4 rfl) ?_
        refine lv_ishr hx hb dX7_isDigging_36 ?_
        refine lv_iconst (v := 1) hx hb dX7_isDigging_37 (by decide) ?_
        refine lv_iand hx hb dX7_isDigging_38 ?_
        refine lv_iconst (v := 1) hx hb dX7_isDigging_39 (by decide) ?_
        refine lv_icmp_ne (tgt := 69) hx hb dX7_isDigging_40 (by decide) (fun c_7 => ?_) (fun c_7 => ?_)
        · replace h := h.1 c_7
          obtain ⟨x5_8, e_9⟩ : ∃ y : Int32, y = (x5 + (1 : Int32)) := ⟨_, rfl⟩
          replace h := h x5_8 e_9
          refine lv_iinc (v := x5_8) (lv' := [(5, .int x5_8), (0, .ref a), (2, .int x2), (3, .int x3), (4, .int x4)]) hx hb dX7_isDigging_69 hl (k := 4) rfl (by rw [e_9]; rfl) (by decide) rfl (fun ls hl => ?_)
          refine lv_goto (tgt := 24) hx hb dX7_isDigging_72 (by decide) ?_
          exact ih24 x2 x3 x4 x5_8 _ _ _ h hP hD hS (lv_sub hl [1, 2, 3, 4, 0] rfl)
        · replace h := h.2 c_7
          refine lv_aload_n hx hb dX7_isDigging_43 rfl (lv_at hl 0 rfl) ?_
          refine lv_iload hx hb dX7_isDigging_44 (lv_at hl 4 rfl) ?_
          refine lv_iload_n hx hb dX7_isDigging_46 rfl (lv_at hl 1 rfl) ?_
          refine gV_i0 (As := [.int x5, .int x2]) (rest := []) ⟨hx, hb, hml, hown, hts⟩ (c_X7_may l dC dI cyC cyI cyZ _ a a_text a_read a_hill a_now a_undone a_need a_cameOf a_places a_firstRow a_kept v_size v_at v_begin v_token v_told v_undos v_cames v_each v_trace v_hill x5 x2 h) (cwV 2 hts gX7_isDigging_X7_may rfl rfl rfl hdV_X7_may ⟨Nat.le_of_ble_eq_true rfl, Nat.le_of_ble_eq_true rfl⟩) hK hN hP hD hS hA [0, 2] (by decide) rfl (ci := 7) rfl rfl rfl hl.1 rfl (Nat.le_of_ble_eq_true rfl) dX7_isDigging_47 ⟨Nat.zero_le _, Nat.zero_le _⟩ (fun r_10 H locs h hP hS => ?_)
          refine lv_if_eq (tgt := 69) hx hb dX7_isDigging_50 (by decide) (fun c_11 => ?_) (fun c_11 => ?_)
          · replace h := h.1 c_11
            obtain ⟨x5_12, e_13⟩ : ∃ y : Int32, y = (x5 + (1 : Int32)) := ⟨_, rfl⟩
            replace h := h x5_12 e_13
            refine lv_iinc (v := x5_12) (lv' := [(5, .int x5_12), (0, .ref a), (2, .int x2), (3, .int x3), (4, .int x4)]) hx hb dX7_isDigging_69 hl (k := 4) rfl (by rw [e_13]; rfl) (by decide) rfl (fun ls hl => ?_)
            refine lv_goto (tgt := 24) hx hb dX7_isDigging_72 (by decide) ?_
            exact ih24 x2 x3 x4 x5_12 _ _ _ h hP hD hS (lv_sub hl [1, 2, 3, 4, 0] rfl)
          · replace h := h.2 c_11
            refine lv_iload_n hx hb dX7_isDigging_53 rfl (lv_at hl 1 rfl) ?_
            refine lv_iconst (v := 1) hx hb dX7_isDigging_54 (by decide) ?_
            refine lv_iload hx hb dX7_isDigging_55 (lv_at hl 4 rfl) ?_
            refine lv_ishl hx hb dX7_isDigging_57 ?_
            refine lv_ior hx hb dX7_isDigging_58 ?_
            refine lv_topi (fun x2_14 e_15 => ?_)
            replace h := h x2_14 e_15
            refine lv_istore_n (lv' := [(2, .int x2_14), (0, .ref a), (3, .int x3), (4, .int x4), (5, .int x5)]) hx hb dX7_isDigging_59 rfl hl (by decide) rfl (fun ls hl => ?_)
            refine lv_iload_n hx hb dX7_isDigging_60 rfl (lv_at hl 2 rfl) ?_
            refine lv_iconst (v := 1) hx hb dX7_isDigging_61 (by decide) ?_
            refine lv_iload hx hb dX7_isDigging_62 (lv_at hl 4 rfl) ?_
            refine lv_ishl hx hb dX7_isDigging_64 ?_
            refine lv_iconst (v := -1) hx hb dX7_isDigging_65 (by decide) ?_
            refine lv_ixor hx hb dX7_isDigging_66 ?_
            refine lv_iand hx hb dX7_isDigging_67 ?_
            refine lv_topi (fun x3_16 e_17 => ?_)
            replace h := h x3_16 e_17
            refine lv_istore_n (lv' := [(3, .int x3_16), (2, .int x2_14), (0, .ref a), (4, .int x4), (5, .int x5)]) hx hb dX7_isDigging_68 rfl hl (by decide) rfl (fun ls hl => ?_)
            obtain ⟨x5_18, e_19⟩ : ∃ y : Int32, y = (x5 + (1 : Int32)) := ⟨_, rfl⟩
            replace h := h x5_18 e_19
            refine lv_iinc (v := x5_18) (lv' := [(5, .int x5_18), (3, .int x3_16), (2, .int x2_14), (0, .ref a), (4, .int x4)]) hx hb dX7_isDigging_69 hl (k := 4) rfl (by rw [e_19]; rfl) (by decide) rfl (fun ls hl => ?_)
            refine lv_goto (tgt := 24) hx hb dX7_isDigging_72 (by decide) ?_
            exact ih24 x2_14 x3_16 x4 x5_18 _ _ _ h hP hD hS (lv_sub hl [3, 2, 1, 4, 0] rfl)
set_option maxHeartbeats 4000000 in
set_option maxRecDepth 100000 in
theorem c_X7_isDigging (l : Launch) (dC : Nat → ClassId) (dI : Nat → Nat → Nat) (cyC cyI cyZ : ClassId) (sz : Nat) (a a_text a_read a_hill a_now a_undone a_need a_cameOf a_places a_firstRow a_kept : Nat) (v_size : Int32) (v_at : Int32) (v_begin : Int32) (v_token : Int32) (v_told : Int32) (v_undos : Int32) (v_cames : Int32) (v_each : Int32) (v_trace : Int64) (v_now : Nat → Int32) (v_hill : Nat → Int32) (p0 : Int32) {Q : Int32 → Prop} (h : q_X7_isDigging v_now v_hill p0 Q) : Met l yX7_isDigging wsX7_isDigging ({ frames := 2, cells := 0, slots := 0, locals := 44 }) (gPc [.ref a, .int p0] (dC, dI) (gTy cyC cyI cyZ) sz [(a, .inr (7, [.ref a_text, .int v_size, .int v_at, .int v_begin, .int v_token, .int v_told, .ref a_read, .ref a_hill, .ref a_now, .ref a_undone, .int v_undos, .ref a_need, .int v_cames, .ref a_cameOf, .ref a_places, .ref a_firstRow, .int v_each, .long v_trace, .ref a_kept])), (a_now, .inl (cyI, 15, .inl v_now)), (a_hill, .inl (cyI, 46, .inl v_hill))]) (gQi0 Q (dC, dI) (va_A [(a, .inr (7, [.ref a_text, .int v_size, .int v_at, .int v_begin, .int v_token, .int v_told, .ref a_read, .ref a_hill, .ref a_now, .ref a_undone, .int v_undos, .ref a_need, .int v_cames, .ref a_cameOf, .ref a_places, .ref a_firstRow, .int v_each, .long v_trace, .ref a_kept])), (a_now, .inl (cyI, 15, .inl v_now)), (a_hill, .inl (cyI, 46, .inl v_hill))] sz) [(a, .inr (7, [.ref a_text, .int v_size, .int v_at, .int v_begin, .int v_token, .int v_told, .ref a_read, .ref a_hill, .ref a_now, .ref a_undone, .int v_undos, .ref a_need, .int v_cames, .ref a_cameOf, .ref a_places, .ref a_firstRow, .int v_each, .long v_trace, .ref a_kept])), (a_now, .inl (cyI, 15, .inl v_now)), (a_hill, .inl (cyI, 46, .inl v_hill))]) 0 0 (va_A [(a, .inr (7, [.ref a_text, .int v_size, .int v_at, .int v_begin, .int v_token, .int v_told, .ref a_read, .ref a_hill, .ref a_now, .ref a_undone, .int v_undos, .ref a_need, .int v_cames, .ref a_cameOf, .ref a_places, .ref a_firstRow, .int v_each, .long v_trace, .ref a_kept])), (a_now, .inl (cyI, 15, .inl v_now)), (a_hill, .inl (cyI, 46, .inl v_hill))] sz) := by
  refine gMet (cc := cX7_isDigging) (maxL := 6) (ret := (some .boolean)) (own := RX7) (fun A => gQi0 Q (dC, dI) A [(a, .inr (7, [.ref a_text, .int v_size, .int v_at, .int v_begin, .int v_token, .int v_told, .ref a_read, .ref a_hill, .ref a_now, .ref a_undone, .int v_undos, .ref a_need, .int v_cames, .ref a_cameOf, .ref a_places, .ref a_firstRow, .int v_each, .long v_trace, .ref a_kept])), (a_now, .inl (cyI, 15, .inl v_now)), (a_hill, .inl (cyI, 46, .inl v_hill))]) (by decide) rfl rfl (Nat.le_of_ble_eq_true rfl) ?_
  intro p e s m below meth c A ls C0 _ hK hN hP hD hA hl
  obtain ⟨hx, hb, hr, hml, hown, hts, hlocks⟩ := id C0
  have f19 := hts (.fieldLink RX7 19 "LastOchreModel" "now" "[I") (by decide +kernel)
  have hS : va_S A s.heap s.heap [] := va_S.rf
  replace hl : lv_has ls 6 [(0, .ref a), (1, .int p0)] := hl
  unfold q_X7_isDigging at h
  obtain ⟨n, h⟩ := h
  obtain ⟨ih12, ih24⟩ := w_X7_isDigging (l := l) (e := e) (below := below) dC dI cyC cyI cyZ a a_text a_read a_hill a_now a_undone a_need a_cameOf a_places a_firstRow a_kept v_size v_at v_begin v_token v_told v_undos v_cames v_each v_trace v_now v_hill p0 Q C0 hK hN hA n
  unfold F_X7_isDigging_e at h
  refine lv_aload_n hx hb dX7_isDigging_0 rfl (lv_at hl 0 rfl) ?_
  refine va_get (D := (dC, dI)) (ci := 7) (v := .ref a_now) (C := RX7) (T := TX7) (N := 19) hx hb hts iwX7_isDigging_X7 hown hK hP 0 rfl rfl 8 (by decide) f19 (fun _ h9 => h9) rfl dX7_isDigging_1 ?_
  refine lv_iconst (v := 2) hx hb dX7_isDigging_4 (by decide) ?_
  refine va_iald hx hb hK hP 1 0 rfl rfl (by unfold vp_in; decide) dX7_isDigging_5 ?_
  refine lv_topi (fun x2_1 e_2 => ?_)
  replace h := h x2_1 e_2
  refine lv_istore_n (lv' := [(2, .int x2_1), (0, .ref a), (1, .int p0)]) hx hb dX7_isDigging_6 rfl hl (by decide) rfl (fun ls hl => ?_)
  refine lv_iload_n hx hb dX7_isDigging_7 rfl (lv_at hl 2 rfl) ?_
  refine lv_istore_n (lv' := [(3, .int p0), (2, .int x2_1), (0, .ref a), (1, .int p0)]) hx hb dX7_isDigging_8 rfl hl (by decide) rfl (fun ls hl => ?_)
  refine lv_iconst (v := 0) hx hb dX7_isDigging_9 (by decide) ?_
  refine lv_istore (lv' := [(4, .int (0 : Int32)), (3, .int p0), (2, .int x2_1), (0, .ref a), (1, .int p0)]) hx hb dX7_isDigging_10 hl (by decide) rfl (fun ls hl => ?_)
  exact ih12 x2_1 p0 (0 : Int32) 0 _ _ _ h hP hD hS (lv_sub hl [3, 2, 1, 0] rfl)

def F_X7_bestDig_e (v_hill : Nat → Int32) (v_now : Nat → Int32) (p0 : Int32) (p1 : Int32) (Q : Int32 → Prop) (rec : Nat → Int32 → Int32 → Int32 → Int32 → Int32 → Int32 → Prop)  : Prop :=
  q_X7_in ((p0).toInt64) (0 : Int64) (16 : Int64) (fun (r_1 : Int32) => (r_1 = 0 → (Q (-1 : Int32))) ∧ (¬ r_1 = 0 → (q_X7_in ((p1).toInt64) (0 : Int64) (1 : Int64) (fun (r_3 : Int32) => (¬ r_3 = 0 → (rec 32 (0 : Int32) (0 : Int32) (1 : Int32) 0 0 0)) ∧ (r_3 = 0 → (Q (-1 : Int32)))))))
def F_X7_bestDig_32 (v_hill : Nat → Int32) (v_now : Nat → Int32) (p0 : Int32) (p1 : Int32) (Q : Int32 → Prop) (rec : Nat → Int32 → Int32 → Int32 → Int32 → Int32 → Int32 → Prop) (x3 : Int32) (x4 : Int32) (x5 : Int32) (x6 : Int32) (x7 : Int32) (k0 : Int32) : Prop :=
  q_X7_cells v_hill (fun (r_5 : Int32) => (((1 : Int32) <<< (r_5 &&& 31)) ≤ x5 → ((¬ p1 = 0 → (Q x4)) ∧ (p1 = 0 → (Q x3)))) ∧ (¬ ((1 : Int32) <<< (r_5 &&& 31)) ≤ x5 → ((¬ (x5 &&& (v_now ((2 : Int32)).toNatClampNeg)) = 0 → (∀ x5_9 : Int32, x5_9 = (x5 + (1 : Int32)) → (rec 32 x3 x4 x5_9 0 0 0))) ∧ ((x5 &&& (v_now ((2 : Int32)).toNatClampNeg)) = 0 → (q_X7_many x5 (fun (r_11 : Int32) => (p0 < r_11 → (∀ x5_13 : Int32, x5_13 = (x5 + (1 : Int32)) → (rec 32 x3 x4 x5_13 0 0 0))) ∧ (¬ p0 < r_11 → (rec 70 x3 x4 x5 (0 : Int32) (0 : Int32) 0))))))))
def F_X7_bestDig_70 (v_hill : Nat → Int32) (v_now : Nat → Int32) (p0 : Int32) (p1 : Int32) (Q : Int32 → Prop) (rec : Nat → Int32 → Int32 → Int32 → Int32 → Int32 → Int32 → Prop) (x3 : Int32) (x4 : Int32) (x5 : Int32) (x6 : Int32) (x7 : Int32) (k0 : Int32) : Prop :=
  q_X7_cells v_hill (fun (r_15 : Int32) => (r_15 ≤ x7 → ((x4 < x6 → (rec 141 x3 x4 x5 x6 0 0)) ∧ (¬ x4 < x6 → ((¬ x6 = x4 → (rec 145 x3 x4 x5 x6 0 0)) ∧ (x6 = x4 → (q_X7_many x5 (fun (r_19 : Int32) => q_X7_many x3 (fun (r_20 : Int32) => (r_20 ≤ r_19 → (rec 145 x3 x4 x5 x6 0 0)) ∧ (¬ r_20 ≤ r_19 → (rec 141 x3 x4 x5 x6 0 0)))))))))) ∧ (¬ r_15 ≤ x7 → ((¬ ((x5 >>> (x7 &&& 31)) &&& (1 : Int32)) = (1 : Int32) → (∀ x6_23 : Int32, x6_23 = (x6 + (0 : Int32)) → (∀ x7_25 : Int32, x7_25 = (x7 + (1 : Int32)) → (rec 70 x3 x4 x5 x6_23 x7_25 0)))) ∧ (((x5 >>> (x7 &&& 31)) &&& (1 : Int32)) = (1 : Int32) → (vp_in ((6 : Int32) + x7) 46 ∧ (∀ x6_28 : Int32, x6_28 = (x6 + (v_hill (((6 : Int32) + x7)).toNatClampNeg)) → (∀ x7_30 : Int32, x7_30 = (x7 + (1 : Int32)) → (rec 70 x3 x4 x5 x6_28 x7_30 0))))))))
def F_X7_bestDig_141 (v_hill : Nat → Int32) (v_now : Nat → Int32) (p0 : Int32) (p1 : Int32) (Q : Int32 → Prop) (rec : Nat → Int32 → Int32 → Int32 → Int32 → Int32 → Int32 → Prop) (x3 : Int32) (x4 : Int32) (x5 : Int32) (x6 : Int32) (x7 : Int32) (k0 : Int32) : Prop :=
  rec 146 x3 x4 x5 x6 0 (1 : Int32)
def F_X7_bestDig_145 (v_hill : Nat → Int32) (v_now : Nat → Int32) (p0 : Int32) (p1 : Int32) (Q : Int32 → Prop) (rec : Nat → Int32 → Int32 → Int32 → Int32 → Int32 → Int32 → Prop) (x3 : Int32) (x4 : Int32) (x5 : Int32) (x6 : Int32) (x7 : Int32) (k0 : Int32) : Prop :=
  rec 146 x3 x4 x5 x6 0 (0 : Int32)
def F_X7_bestDig_146 (v_hill : Nat → Int32) (v_now : Nat → Int32) (p0 : Int32) (p1 : Int32) (Q : Int32 → Prop) (rec : Nat → Int32 → Int32 → Int32 → Int32 → Int32 → Int32 → Prop) (x3 : Int32) (x4 : Int32) (x5 : Int32) (x6 : Int32) (x7 : Int32) (k0 : Int32) : Prop :=
  (k0 = 0 → (∀ x5_33 : Int32, x5_33 = (x5 + (1 : Int32)) → (rec 32 x3 x4 x5_33 0 0 0))) ∧ (¬ k0 = 0 → (q_X7_isDigging v_now v_hill x5 (fun (r_35 : Int32) => (r_35 = 0 → (∀ x5_37 : Int32, x5_37 = (x5 + (1 : Int32)) → (rec 32 x3 x4 x5_37 0 0 0))) ∧ (¬ r_35 = 0 → (∀ x5_39 : Int32, x5_39 = (x5 + (1 : Int32)) → (rec 32 x5 x6 x5_39 0 0 0))))))
def wp_X7_bestDig (v_hill : Nat → Int32) (v_now : Nat → Int32) (p0 : Int32) (p1 : Int32) (Q : Int32 → Prop) : Nat → Nat → Int32 → Int32 → Int32 → Int32 → Int32 → Int32 → Prop
  | 0 => fun _ _ _ _ _ _ _ => False
  | n + 1 => fun t x3 x4 x5 x6 x7 k0 => if t = 32 then F_X7_bestDig_32 v_hill v_now p0 p1 Q (wp_X7_bestDig v_hill v_now p0 p1 Q n) x3 x4 x5 x6 x7 k0 else if t = 70 then F_X7_bestDig_70 v_hill v_now p0 p1 Q (wp_X7_bestDig v_hill v_now p0 p1 Q n) x3 x4 x5 x6 x7 k0 else if t = 141 then F_X7_bestDig_141 v_hill v_now p0 p1 Q (wp_X7_bestDig v_hill v_now p0 p1 Q n) x3 x4 x5 x6 x7 k0 else if t = 145 then F_X7_bestDig_145 v_hill v_now p0 p1 Q (wp_X7_bestDig v_hill v_now p0 p1 Q n) x3 x4 x5 x6 x7 k0 else if t = 146 then F_X7_bestDig_146 v_hill v_now p0 p1 Q (wp_X7_bestDig v_hill v_now p0 p1 Q n) x3 x4 x5 x6 x7 k0 else False
def q_X7_bestDig (v_hill : Nat → Int32) (v_now : Nat → Int32) (p0 : Int32) (p1 : Int32) (Q : Int32 → Prop) : Prop := ∃ n, F_X7_bestDig_e v_hill v_now p0 p1 Q (wp_X7_bestDig v_hill v_now p0 p1 Q n) 
theorem iwX7_bestDig_X7 : ∀ w ∈ wsX70, w ∈ wsX7_bestDig := by decide +kernel
theorem hdV_X7_bestDig : yX7_bestDig.cls = RX7 ∧ yX7_bestDig.cls ≠ "java/lang/invoke/MethodHandle" ∧ yX7_bestDig.cls ≠ "java/lang/invoke/VarHandle" ∧ (parseMethodDescriptor yX7_bestDig.desc).map (fun d => d.parameters.length) = some 2 := by decide +kernel
set_option maxHeartbeats 4000000 in
set_option maxRecDepth 100000 in
theorem w_X7_bestDig {p : Program} {l : Launch} {e : Env} {s : State} {m : MethodId} {args : Array Value} {below : List Frame} {meth : Method} {c : Code} {A : Nat → Prop} (dC : Nat → ClassId) (dI : Nat → Nat → Nat) (cyC cyI cyZ : ClassId) (a a_text a_read a_hill a_now a_undone a_need a_cameOf a_places a_firstRow a_kept : Nat) (v_size : Int32) (v_at : Int32) (v_begin : Int32) (v_token : Int32) (v_told : Int32) (v_undos : Int32) (v_cames : Int32) (v_each : Int32) (v_trace : Int64) (v_hill : Nat → Int32) (v_now : Nat → Int32) (p0 : Int32) (p1 : Int32) (Q : Int32 → Prop) (C0 : gAt cX7_bestDig (some .int) 8 RX7 wsX7_bestDig p s m meth c args) (hK : va_K (dC, dI) vwCl (gTy cyC cyI cyZ) s) (hN : nU s) (hA : ∀ q, s.heap.size ≤ q → A q) : ∀ n : Nat, (∀ (x3 : Int32) (x4 : Int32) (x5 : Int32) (x6 : Int32) (x7 : Int32) (k0 : Int32) (H : Heap) (locs : List Loc) (ls : Array Slot), wp_X7_bestDig v_hill v_now p0 p1 Q n 32 x3 x4 x5 x6 x7 k0 → va_P (dC, dI) vwCl [(a, .inr (7, [.ref a_text, .int v_size, .int v_at, .int v_begin, .int v_token, .int v_told, .ref a_read, .ref a_hill, .ref a_now, .ref a_undone, .int v_undos, .ref a_need, .int v_cames, .ref a_cameOf, .ref a_places, .ref a_firstRow, .int v_each, .long v_trace, .ref a_kept])), (a_hill, .inl (cyI, 46, .inl v_hill)), (a_now, .inl (cyI, 15, .inl v_now))] H → va_D A [(a, .inr (7, [.ref a_text, .int v_size, .int v_at, .int v_begin, .int v_token, .int v_told, .ref a_read, .ref a_hill, .ref a_now, .ref a_undone, .int v_undos, .ref a_need, .int v_cames, .ref a_cameOf, .ref a_places, .ref a_firstRow, .int v_each, .long v_trace, .ref a_kept])), (a_hill, .inl (cyI, 46, .inl v_hill)), (a_now, .inl (cyI, 15, .inl v_now))] → va_S A s.heap H locs → lv_has ls 8 [(0, .ref a), (1, .int p0), (2, .int p1), (3, .int x3), (4, .int x4), (5, .int x5)] → W p l e { frames := 3, cells := 0, slots := 0, locals := 69 } s m args below meth c H locs 0 0 (MQ below (gQi0 Q (dC, dI) A [(a, .inr (7, [.ref a_text, .int v_size, .int v_at, .int v_begin, .int v_token, .int v_told, .ref a_read, .ref a_hill, .ref a_now, .ref a_undone, .int v_undos, .ref a_need, .int v_cames, .ref a_cameOf, .ref a_places, .ref a_firstRow, .int v_each, .long v_trace, .ref a_kept])), (a_hill, .inl (cyI, 46, .inl v_hill)), (a_now, .inl (cyI, 15, .inl v_now))]) args s 0 0 A) (F0 m 32 ls [])) ∧ (∀ (x3 : Int32) (x4 : Int32) (x5 : Int32) (x6 : Int32) (x7 : Int32) (k0 : Int32) (H : Heap) (locs : List Loc) (ls : Array Slot), wp_X7_bestDig v_hill v_now p0 p1 Q n 70 x3 x4 x5 x6 x7 k0 → va_P (dC, dI) vwCl [(a, .inr (7, [.ref a_text, .int v_size, .int v_at, .int v_begin, .int v_token, .int v_told, .ref a_read, .ref a_hill, .ref a_now, .ref a_undone, .int v_undos, .ref a_need, .int v_cames, .ref a_cameOf, .ref a_places, .ref a_firstRow, .int v_each, .long v_trace, .ref a_kept])), (a_hill, .inl (cyI, 46, .inl v_hill)), (a_now, .inl (cyI, 15, .inl v_now))] H → va_D A [(a, .inr (7, [.ref a_text, .int v_size, .int v_at, .int v_begin, .int v_token, .int v_told, .ref a_read, .ref a_hill, .ref a_now, .ref a_undone, .int v_undos, .ref a_need, .int v_cames, .ref a_cameOf, .ref a_places, .ref a_firstRow, .int v_each, .long v_trace, .ref a_kept])), (a_hill, .inl (cyI, 46, .inl v_hill)), (a_now, .inl (cyI, 15, .inl v_now))] → va_S A s.heap H locs → lv_has ls 8 [(0, .ref a), (1, .int p0), (2, .int p1), (3, .int x3), (4, .int x4), (5, .int x5), (6, .int x6), (7, .int x7)] → W p l e { frames := 3, cells := 0, slots := 0, locals := 69 } s m args below meth c H locs 0 0 (MQ below (gQi0 Q (dC, dI) A [(a, .inr (7, [.ref a_text, .int v_size, .int v_at, .int v_begin, .int v_token, .int v_told, .ref a_read, .ref a_hill, .ref a_now, .ref a_undone, .int v_undos, .ref a_need, .int v_cames, .ref a_cameOf, .ref a_places, .ref a_firstRow, .int v_each, .long v_trace, .ref a_kept])), (a_hill, .inl (cyI, 46, .inl v_hill)), (a_now, .inl (cyI, 15, .inl v_now))]) args s 0 0 A) (F0 m 70 ls [])) ∧ (∀ (x3 : Int32) (x4 : Int32) (x5 : Int32) (x6 : Int32) (x7 : Int32) (k0 : Int32) (H : Heap) (locs : List Loc) (ls : Array Slot), wp_X7_bestDig v_hill v_now p0 p1 Q n 141 x3 x4 x5 x6 x7 k0 → va_P (dC, dI) vwCl [(a, .inr (7, [.ref a_text, .int v_size, .int v_at, .int v_begin, .int v_token, .int v_told, .ref a_read, .ref a_hill, .ref a_now, .ref a_undone, .int v_undos, .ref a_need, .int v_cames, .ref a_cameOf, .ref a_places, .ref a_firstRow, .int v_each, .long v_trace, .ref a_kept])), (a_hill, .inl (cyI, 46, .inl v_hill)), (a_now, .inl (cyI, 15, .inl v_now))] H → va_D A [(a, .inr (7, [.ref a_text, .int v_size, .int v_at, .int v_begin, .int v_token, .int v_told, .ref a_read, .ref a_hill, .ref a_now, .ref a_undone, .int v_undos, .ref a_need, .int v_cames, .ref a_cameOf, .ref a_places, .ref a_firstRow, .int v_each, .long v_trace, .ref a_kept])), (a_hill, .inl (cyI, 46, .inl v_hill)), (a_now, .inl (cyI, 15, .inl v_now))] → va_S A s.heap H locs → lv_has ls 8 [(0, .ref a), (1, .int p0), (2, .int p1), (3, .int x3), (4, .int x4), (5, .int x5), (6, .int x6)] → W p l e { frames := 3, cells := 0, slots := 0, locals := 69 } s m args below meth c H locs 0 0 (MQ below (gQi0 Q (dC, dI) A [(a, .inr (7, [.ref a_text, .int v_size, .int v_at, .int v_begin, .int v_token, .int v_told, .ref a_read, .ref a_hill, .ref a_now, .ref a_undone, .int v_undos, .ref a_need, .int v_cames, .ref a_cameOf, .ref a_places, .ref a_firstRow, .int v_each, .long v_trace, .ref a_kept])), (a_hill, .inl (cyI, 46, .inl v_hill)), (a_now, .inl (cyI, 15, .inl v_now))]) args s 0 0 A) (F0 m 141 ls [])) ∧ (∀ (x3 : Int32) (x4 : Int32) (x5 : Int32) (x6 : Int32) (x7 : Int32) (k0 : Int32) (H : Heap) (locs : List Loc) (ls : Array Slot), wp_X7_bestDig v_hill v_now p0 p1 Q n 145 x3 x4 x5 x6 x7 k0 → va_P (dC, dI) vwCl [(a, .inr (7, [.ref a_text, .int v_size, .int v_at, .int v_begin, .int v_token, .int v_told, .ref a_read, .ref a_hill, .ref a_now, .ref a_undone, .int v_undos, .ref a_need, .int v_cames, .ref a_cameOf, .ref a_places, .ref a_firstRow, .int v_each, .long v_trace, .ref a_kept])), (a_hill, .inl (cyI, 46, .inl v_hill)), (a_now, .inl (cyI, 15, .inl v_now))] H → va_D A [(a, .inr (7, [.ref a_text, .int v_size, .int v_at, .int v_begin, .int v_token, .int v_told, .ref a_read, .ref a_hill, .ref a_now, .ref a_undone, .int v_undos, .ref a_need, .int v_cames, .ref a_cameOf, .ref a_places, .ref a_firstRow, .int v_each, .long v_trace, .ref a_kept])), (a_hill, .inl (cyI, 46, .inl v_hill)), (a_now, .inl (cyI, 15, .inl v_now))] → va_S A s.heap H locs → lv_has ls 8 [(0, .ref a), (1, .int p0), (2, .int p1), (3, .int x3), (4, .int x4), (5, .int x5), (6, .int x6)] → W p l e { frames := 3, cells := 0, slots := 0, locals := 69 } s m args below meth c H locs 0 0 (MQ below (gQi0 Q (dC, dI) A [(a, .inr (7, [.ref a_text, .int v_size, .int v_at, .int v_begin, .int v_token, .int v_told, .ref a_read, .ref a_hill, .ref a_now, .ref a_undone, .int v_undos, .ref a_need, .int v_cames, .ref a_cameOf, .ref a_places, .ref a_firstRow, .int v_each, .long v_trace, .ref a_kept])), (a_hill, .inl (cyI, 46, .inl v_hill)), (a_now, .inl (cyI, 15, .inl v_now))]) args s 0 0 A) (F0 m 145 ls [])) ∧ (∀ (x3 : Int32) (x4 : Int32) (x5 : Int32) (x6 : Int32) (x7 : Int32) (k0 : Int32) (H : Heap) (locs : List Loc) (ls : Array Slot), wp_X7_bestDig v_hill v_now p0 p1 Q n 146 x3 x4 x5 x6 x7 k0 → va_P (dC, dI) vwCl [(a, .inr (7, [.ref a_text, .int v_size, .int v_at, .int v_begin, .int v_token, .int v_told, .ref a_read, .ref a_hill, .ref a_now, .ref a_undone, .int v_undos, .ref a_need, .int v_cames, .ref a_cameOf, .ref a_places, .ref a_firstRow, .int v_each, .long v_trace, .ref a_kept])), (a_hill, .inl (cyI, 46, .inl v_hill)), (a_now, .inl (cyI, 15, .inl v_now))] H → va_D A [(a, .inr (7, [.ref a_text, .int v_size, .int v_at, .int v_begin, .int v_token, .int v_told, .ref a_read, .ref a_hill, .ref a_now, .ref a_undone, .int v_undos, .ref a_need, .int v_cames, .ref a_cameOf, .ref a_places, .ref a_firstRow, .int v_each, .long v_trace, .ref a_kept])), (a_hill, .inl (cyI, 46, .inl v_hill)), (a_now, .inl (cyI, 15, .inl v_now))] → va_S A s.heap H locs → lv_has ls 8 [(0, .ref a), (1, .int p0), (2, .int p1), (3, .int x3), (4, .int x4), (5, .int x5), (6, .int x6)] → W p l e { frames := 3, cells := 0, slots := 0, locals := 69 } s m args below meth c H locs 0 0 (MQ below (gQi0 Q (dC, dI) A [(a, .inr (7, [.ref a_text, .int v_size, .int v_at, .int v_begin, .int v_token, .int v_told, .ref a_read, .ref a_hill, .ref a_now, .ref a_undone, .int v_undos, .ref a_need, .int v_cames, .ref a_cameOf, .ref a_places, .ref a_firstRow, .int v_each, .long v_trace, .ref a_kept])), (a_hill, .inl (cyI, 46, .inl v_hill)), (a_now, .inl (cyI, 15, .inl v_now))]) args s 0 0 A) (F0 m 146 ls [.int k0])) := by
  obtain ⟨hx, hb, hr, hml, hown, hts, hlocks⟩ := id C0
  have f16 := hts (.fieldLink RX7 16 "LastOchreModel" "hill" "[I") (by decide +kernel)
  have f19 := hts (.fieldLink RX7 19 "LastOchreModel" "now" "[I") (by decide +kernel)
  intro n
  induction n with
  | zero => exact ⟨fun _ _ _ _ _ _ _ _ _ h => absurd h id, fun _ _ _ _ _ _ _ _ _ h => absurd h id, fun _ _ _ _ _ _ _ _ _ h => absurd h id, fun _ _ _ _ _ _ _ _ _ h => absurd h id, fun _ _ _ _ _ _ _ _ _ h => absurd h id⟩
  | succ n ih =>
    obtain ⟨ih32, ih70, ih141, ih145, ih146⟩ := ih
    refine ⟨?_, ?_, ?_, ?_, ?_⟩
    · intro x3 x4 x5 x6 x7 k0 H locs ls h hP hD hS hl
      replace h : F_X7_bestDig_32 v_hill v_now p0 p1 Q (wp_X7_bestDig v_hill v_now p0 p1 Q n) x3 x4 x5 x6 x7 k0 := h
      unfold F_X7_bestDig_32 at h
      refine lv_iload hx hb dX7_bestDig_32 (lv_at hl 5 rfl) ?_
      refine lv_iconst (v := 1) hx hb dX7_bestDig_34 (by decide) ?_
      refine lv_aload_n hx hb dX7_bestDig_35 rfl (lv_at hl 0 rfl) ?_
      refine gV_i0 (As := []) (rest := [.int (1 : Int32), .int x5]) ⟨hx, hb, hml, hown, hts⟩ (c_X7_cells l dC dI cyC cyI cyZ _ a a_text a_read a_hill a_now a_undone a_need a_cameOf a_places a_firstRow a_kept v_size v_at v_begin v_token v_told v_undos v_cames v_each v_trace v_hill h) (cwV 0 hts gX7_bestDig_X7_cells rfl rfl rfl hdV_X7_cells ⟨Nat.le_of_ble_eq_true rfl, Nat.le_of_ble_eq_true rfl⟩) hK hN hP hD hS hA [0, 1] (by decide) rfl (ci := 7) rfl rfl rfl hl.1 rfl (Nat.le_of_ble_eq_true rfl) dX7_bestDig_36 ⟨Nat.zero_le _, Nat.zero_le _⟩ (fun r_5 H locs h hP hS => ?_)
      refine lv_ishl hx hb dX7_bestDig_39 ?_
      refine lv_icmp_ge (tgt := 175) hx hb dX7_bestDig_40 (by decide) (fun c_6 => ?_) (fun c_6 => ?_)
      · replace h := h.1 c_6
        refine lv_iload_n hx hb dX7_bestDig_175 rfl (lv_at hl 2 rfl) ?_
        refine lv_if_ne (tgt := 183) hx hb dX7_bestDig_176 (by decide) (fun c_7 => ?_) (fun c_7 => ?_)
        · replace h := h.1 c_7
          refine lv_iload hx hb dX7_bestDig_183 (lv_at hl 4 rfl) ?_
          exact gri0 hx hb hr hlocks h hP hD hS dX7_bestDig_185
        · replace h := h.2 c_7
          refine lv_iload_n hx hb dX7_bestDig_179 rfl (lv_at hl 3 rfl) ?_
          refine lv_goto (tgt := 185) hx hb dX7_bestDig_180 (by decide) ?_
          exact gri0 hx hb hr hlocks h hP hD hS dX7_bestDig_185
      · replace h := h.2 c_6
        refine lv_iload hx hb dX7_bestDig_43 (lv_at hl 5 rfl) ?_
        refine lv_aload_n hx hb dX7_bestDig_45 rfl (lv_at hl 0 rfl) ?_
        refine va_get (D := (dC, dI)) (ci := 7) (v := .ref a_now) (C := RX7) (T := TX7) (N := 19) hx hb hts iwX7_bestDig_X7 hown hK hP 0 rfl rfl 8 (by decide) f19 (fun _ h9 => h9) rfl dX7_bestDig_46 ?_
        refine lv_iconst (v := 2) hx hb dX7_bestDig_49 (by decide) ?_
        refine va_iald hx hb hK hP 2 0 rfl rfl (by unfold vp_in; decide) dX7_bestDig_50 ?_
        refine lv_iand hx hb dX7_bestDig_51 ?_
        refine lv_if_ne (tgt := 169) hx hb dX7_bestDig_52 (by decide) (fun c_8 => ?_) (fun c_8 => ?_)
        · replace h := h.1 c_8
          obtain ⟨x5_9, e_10⟩ : ∃ y : Int32, y = (x5 + (1 : Int32)) := ⟨_, rfl⟩
          replace h := h x5_9 e_10
          refine lv_iinc (v := x5_9) (lv' := [(5, .int x5_9), (0, .ref a), (1, .int p0), (2, .int p1), (3, .int x3), (4, .int x4)]) hx hb dX7_bestDig_169 hl (k := 5) rfl (by rw [e_10]; rfl) (by decide) rfl (fun ls hl => ?_)
          refine lv_goto (tgt := 32) hx hb dX7_bestDig_172 (by decide) ?_
          exact ih32 x3 x4 x5_9 0 0 0 _ _ _ h hP hD hS (lv_sub hl [1, 2, 3, 4, 5, 0] rfl)
        · replace h := h.2 c_8
          refine lv_iload hx hb dX7_bestDig_55 (lv_at hl 5 rfl) ?_
          refine gS_i0 (As := [.int x5]) (rest := []) ⟨hx, hb, hml, hown, hts⟩ (c_X7_many l dC dI cyC cyI cyZ _ x5 h) (va_cwS 1 hts gX7_bestDig_X7_many rfl rfl rfl hdS_X7_many ⟨Nat.le_of_ble_eq_true rfl, Nat.le_of_ble_eq_true rfl⟩) hK hN hP hD hS hA [] (by decide) rfl rfl hl.1 rfl (Nat.le_of_ble_eq_true rfl) dX7_bestDig_57 ⟨Nat.zero_le _, Nat.zero_le _⟩ (fun r_11 H locs h hP hS => ?_)
          refine lv_iload_n hx hb dX7_bestDig_60 rfl (lv_at hl 1 rfl) ?_
          refine lv_icmp_gt (tgt := 169) hx hb dX7_bestDig_61 (by decide) (fun c_12 => ?_) (fun c_12 => ?_)
          · replace h := h.1 c_12
            obtain ⟨x5_13, e_14⟩ : ∃ y : Int32, y = (x5 + (1 : Int32)) := ⟨_, rfl⟩
            replace h := h x5_13 e_14
            refine lv_iinc (v := x5_13) (lv' := [(5, .int x5_13), (0, .ref a), (1, .int p0), (2, .int p1), (3, .int x3), (4, .int x4)]) hx hb dX7_bestDig_169 hl (k := 5) rfl (by rw [e_14]; rfl) (by decide) rfl (fun ls hl => ?_)
            refine lv_goto (tgt := 32) hx hb dX7_bestDig_172 (by decide) ?_
            exact ih32 x3 x4 x5_13 0 0 0 _ _ _ h hP hD hS (lv_sub hl [1, 2, 3, 4, 5, 0] rfl)
          · replace h := h.2 c_12
            refine lv_iconst (v := 0) hx hb dX7_bestDig_64 (by decide) ?_
            refine lv_istore (lv' := [(6, .int (0 : Int32)), (0, .ref a), (1, .int p0), (2, .int p1), (3, .int x3), (4, .int x4), (5, .int x5)]) hx hb dX7_bestDig_65 hl (by decide) rfl (fun ls hl => ?_)
            refine lv_iconst (v := 0) hx hb dX7_bestDig_67 (by decide) ?_
            refine lv_istore (lv' := [(7, .int (0 : Int32)), (6, .int (0 : Int32)), (0, .ref a), (1, .int p0), (2, .int p1), (3, .int x3), (4, .int x4), (5, .int x5)]) hx hb dX7_bestDig_68 hl (by decide) rfl (fun ls hl => ?_)
            exact ih70 x3 x4 x5 (0 : Int32) (0 : Int32) 0 _ _ _ h hP hD hS (lv_sub hl [2, 3, 4, 5, 6, 7, 1, 0] rfl)
    · intro x3 x4 x5 x6 x7 k0 H locs ls h hP hD hS hl
      replace h : F_X7_bestDig_70 v_hill v_now p0 p1 Q (wp_X7_bestDig v_hill v_now p0 p1 Q n) x3 x4 x5 x6 x7 k0 := h
      unfold F_X7_bestDig_70 at h
      refine lv_iload hx hb dX7_bestDig_70 (lv_at hl 7 rfl) ?_
      refine lv_aload_n hx hb dX7_bestDig_72 rfl (lv_at hl 0 rfl) ?_
      refine gV_i0 (As := []) (rest := [.int x7]) ⟨hx, hb, hml, hown, hts⟩ (c_X7_cells l dC dI cyC cyI cyZ _ a a_text a_read a_hill a_now a_undone a_need a_cameOf a_places a_firstRow a_kept v_size v_at v_begin v_token v_told v_undos v_cames v_each v_trace v_hill h) (cwV 0 hts gX7_bestDig_X7_cells rfl rfl rfl hdV_X7_cells ⟨Nat.le_of_ble_eq_true rfl, Nat.le_of_ble_eq_true rfl⟩) hK hN hP hD hS hA [0, 1] (by decide) rfl (ci := 7) rfl rfl rfl hl.1 rfl (Nat.le_of_ble_eq_true rfl) dX7_bestDig_73 ⟨Nat.zero_le _, Nat.zero_le _⟩ (fun r_15 H locs h hP hS => ?_)
      refine lv_icmp_ge (tgt := 115) hx hb dX7_bestDig_76 (by decide) (fun c_16 => ?_) (fun c_16 => ?_)
      · replace h := h.1 c_16
        refine lv_iload hx hb dX7_bestDig_115 (lv_at hl 6 rfl) ?_
        refine lv_iload hx hb dX7_bestDig_117 (lv_at hl 4 rfl) ?_
        refine lv_icmp_gt (tgt := 141) hx hb dX7_bestDig_119 (by decide) (fun c_17 => ?_) (fun c_17 => ?_)
        · replace h := h.1 c_17
          exact ih141 x3 x4 x5 x6 0 0 _ _ _ h hP hD hS (lv_sub hl [0, 1, 2, 3, 4, 5, 6] rfl)
        · replace h := h.2 c_17
          refine lv_iload hx hb dX7_bestDig_122 (lv_at hl 6 rfl) ?_
          refine lv_iload hx hb dX7_bestDig_124 (lv_at hl 4 rfl) ?_
          refine lv_icmp_ne (tgt := 145) hx hb dX7_bestDig_126 (by decide) (fun c_18 => ?_) (fun c_18 => ?_)
          · replace h := h.1 c_18
            exact ih145 x3 x4 x5 x6 0 0 _ _ _ h hP hD hS (lv_sub hl [0, 1, 2, 3, 4, 5, 6] rfl)
          · replace h := h.2 c_18
            refine lv_iload hx hb dX7_bestDig_129 (lv_at hl 5 rfl) ?_
            refine gS_i0 (As := [.int x5]) (rest := []) ⟨hx, hb, hml, hown, hts⟩ (c_X7_many l dC dI cyC cyI cyZ _ x5 h) (va_cwS 1 hts gX7_bestDig_X7_many rfl rfl rfl hdS_X7_many ⟨Nat.le_of_ble_eq_true rfl, Nat.le_of_ble_eq_true rfl⟩) hK hN hP hD hS hA [] (by decide) rfl rfl hl.1 rfl (Nat.le_of_ble_eq_true rfl) dX7_bestDig_131 ⟨Nat.zero_le _, Nat.zero_le _⟩ (fun r_19 H locs h hP hS => ?_)
            refine lv_iload_n hx hb dX7_bestDig_134 rfl (lv_at hl 3 rfl) ?_
            refine gS_i0 (As := [.int x3]) (rest := [.int r_19]) ⟨hx, hb, hml, hown, hts⟩ (c_X7_many l dC dI cyC cyI cyZ _ x3 h) (va_cwS 1 hts gX7_bestDig_X7_many rfl rfl rfl hdS_X7_many ⟨Nat.le_of_ble_eq_true rfl, Nat.le_of_ble_eq_true rfl⟩) hK hN hP hD hS hA [] (by decide) rfl rfl hl.1 rfl (Nat.le_of_ble_eq_true rfl) dX7_bestDig_135 ⟨Nat.zero_le _, Nat.zero_le _⟩ (fun r_20 H locs h hP hS => ?_)
            refine lv_icmp_ge (tgt := 145) hx hb dX7_bestDig_138 (by decide) (fun c_21 => ?_) (fun c_21 => ?_)
            · replace h := h.1 c_21
              exact ih145 x3 x4 x5 x6 0 0 _ _ _ h hP hD hS (lv_sub hl [0, 1, 2, 3, 4, 5, 6] rfl)
            · replace h := h.2 c_21
              exact ih141 x3 x4 x5 x6 0 0 _ _ _ h hP hD hS (lv_sub hl [0, 1, 2, 3, 4, 5, 6] rfl)
      · replace h := h.2 c_16
        refine lv_iload hx hb dX7_bestDig_79 (lv_at hl 6 rfl) ?_
        refine lv_iload hx hb dX7_bestDig_81 (lv_at hl 5 rfl) ?_
        refine lv_iload hx hb dX7_bestDig_83 (lv_at hl 7 rfl) ?_
        refine lv_ishr hx hb dX7_bestDig_85 ?_
        refine lv_iconst (v := 1) hx hb dX7_bestDig_86 (by decide) ?_
        refine lv_iand hx hb dX7_bestDig_87 ?_
        refine lv_iconst (v := 1) hx hb dX7_bestDig_88 (by decide) ?_
        refine lv_icmp_ne (tgt := 105) hx hb dX7_bestDig_89 (by decide) (fun c_22 => ?_) (fun c_22 => ?_)
        · replace h := h.1 c_22
          refine lv_iconst (v := 0) hx hb dX7_bestDig_105 (by decide) ?_
          refine lv_iadd hx hb dX7_bestDig_106 ?_
          refine lv_topi (fun x6_23 e_24 => ?_)
          replace h := h x6_23 e_24
          refine lv_istore (lv' := [(6, .int x6_23), (0, .ref a), (1, .int p0), (2, .int p1), (3, .int x3), (4, .int x4), (5, .int x5), (7, .int x7)]) hx hb dX7_bestDig_107 hl (by decide) rfl (fun ls hl => ?_)
          obtain ⟨x7_25, e_26⟩ : ∃ y : Int32, y = (x7 + (1 : Int32)) := ⟨_, rfl⟩
          replace h := h x7_25 e_26
          refine lv_iinc (v := x7_25) (lv' := [(7, .int x7_25), (6, .int x6_23), (0, .ref a), (1, .int p0), (2, .int p1), (3, .int x3), (4, .int x4), (5, .int x5)]) hx hb dX7_bestDig_109 hl (k := 7) rfl (by rw [e_26]; rfl) (by decide) rfl (fun ls hl => ?_)
          refine lv_goto (tgt := 70) hx hb dX7_bestDig_112 (by decide) ?_
          exact ih70 x3 x4 x5 x6_23 x7_25 0 _ _ _ h hP hD hS (lv_sub hl [2, 3, 4, 5, 6, 7, 1, 0] rfl)
        · replace h := h.2 c_22
          refine lv_aload_n hx hb dX7_bestDig_92 rfl (lv_at hl 0 rfl) ?_
          refine va_get (D := (dC, dI)) (ci := 7) (v := .ref a_hill) (C := RX7) (T := TX7) (N := 19) hx hb hts iwX7_bestDig_X7 hown hK hP 0 rfl rfl 7 (by decide) f16 (fun _ h9 => h9) rfl dX7_bestDig_93 ?_
          refine lv_bipush (v := 6) hx hb dX7_bestDig_96 (by decide) ?_
          refine lv_iload hx hb dX7_bestDig_98 (lv_at hl 7 rfl) ?_
          refine lv_iadd hx hb dX7_bestDig_100 ?_
          have g_27 := h.1
          replace h := h.2
          refine va_iald hx hb hK hP 1 0 rfl rfl g_27 dX7_bestDig_101 ?_
          refine lv_goto (tgt := 106) hx hb dX7_bestDig_102 (by decide) ?_
          refine lv_iadd hx hb dX7_bestDig_106 ?_
          refine lv_topi (fun x6_28 e_29 => ?_)
          replace h := h x6_28 e_29
          refine lv_istore (lv' := [(6, .int x6_28), (0, .ref a), (1, .int p0), (2, .int p1), (3, .int x3), (4, .int x4), (5, .int x5), (7, .int x7)]) hx hb dX7_bestDig_107 hl (by decide) rfl (fun ls hl => ?_)
          obtain ⟨x7_30, e_31⟩ : ∃ y : Int32, y = (x7 + (1 : Int32)) := ⟨_, rfl⟩
          replace h := h x7_30 e_31
          refine lv_iinc (v := x7_30) (lv' := [(7, .int x7_30), (6, .int x6_28), (0, .ref a), (1, .int p0), (2, .int p1), (3, .int x3), (4, .int x4), (5, .int x5)]) hx hb dX7_bestDig_109 hl (k := 7) rfl (by rw [e_31]; rfl) (by decide) rfl (fun ls hl => ?_)
          refine lv_goto (tgt := 70) hx hb dX7_bestDig_112 (by decide) ?_
          exact ih70 x3 x4 x5 x6_28 x7_30 0 _ _ _ h hP hD hS (lv_sub hl [2, 3, 4, 5, 6, 7, 1, 0] rfl)
    · intro x3 x4 x5 x6 x7 k0 H locs ls h hP hD hS hl
      replace h : F_X7_bestDig_141 v_hill v_now p0 p1 Q (wp_X7_bestDig v_hill v_now p0 p1 Q n) x3 x4 x5 x6 x7 k0 := h
      unfold F_X7_bestDig_141 at h
      refine lv_iconst (v := 1) hx hb dX7_bestDig_141 (by decide) ?_
      refine lv_goto (tgt := 146) hx hb dX7_bestDig_142 (by decide) ?_
      exact ih146 x3 x4 x5 x6 0 (1 : Int32) _ _ _ h hP hD hS (lv_sub hl [0, 1, 2, 3, 4, 5, 6] rfl)
    · intro x3 x4 x5 x6 x7 k0 H locs ls h hP hD hS hl
      replace h : F_X7_bestDig_145 v_hill v_now p0 p1 Q (wp_X7_bestDig v_hill v_now p0 p1 Q n) x3 x4 x5 x6 x7 k0 := h
      unfold F_X7_bestDig_145 at h
      refine lv_iconst (v := 0) hx hb dX7_bestDig_145 (by decide) ?_
      exact ih146 x3 x4 x5 x6 0 (0 : Int32) _ _ _ h hP hD hS (lv_sub hl [0, 1, 2, 3, 4, 5, 6] rfl)
    · intro x3 x4 x5 x6 x7 k0 H locs ls h hP hD hS hl
      replace h : F_X7_bestDig_146 v_hill v_now p0 p1 Q (wp_X7_bestDig v_hill v_now p0 p1 Q n) x3 x4 x5 x6 x7 k0 := h
      unfold F_X7_bestDig_146 at h
      refine lv_istore (lv' := [(7, .int k0), (0, .ref a), (1, .int p0), (2, .int p1), (3, .int x3), (4, .int x4), (5, .int x5), (6, .int x6)]) hx hb dX7_bestDig_146 hl (by decide) rfl (fun ls hl => ?_)
      refine lv_iload hx hb dX7_bestDig_148 (lv_at hl 0 rfl) ?_
      refine lv_if_eq (tgt := 169) hx hb dX7_bestDig_150 (by decide) (fun c_32 => ?_) (fun c_32 => ?_)
      · replace h := h.1 c_32
        obtain ⟨x5_33, e_34⟩ : ∃ y : Int32, y = (x5 + (1 : Int32)) := ⟨_, rfl⟩
        replace h := h x5_33 e_34
        refine lv_iinc (v := x5_33) (lv' := [(5, .int x5_33), (7, .int k0), (0, .ref a), (1, .int p0), (2, .int p1), (3, .int x3), (4, .int x4), (6, .int x6)]) hx hb dX7_bestDig_169 hl (k := 6) rfl (by rw [e_34]; rfl) (by decide) rfl (fun ls hl => ?_)
        refine lv_goto (tgt := 32) hx hb dX7_bestDig_172 (by decide) ?_
        exact ih32 x3 x4 x5_33 0 0 0 _ _ _ h hP hD hS (lv_sub hl [2, 3, 4, 5, 6, 0] rfl)
      · replace h := h.2 c_32
        refine lv_aload_n hx hb dX7_bestDig_153 rfl (lv_at hl 1 rfl) ?_
        refine lv_iload hx hb dX7_bestDig_154 (lv_at hl 6 rfl) ?_
        refine gV_i0 (As := [.int x5]) (rest := []) ⟨hx, hb, hml, hown, hts⟩ (c_X7_isDigging l dC dI cyC cyI cyZ _ a a_text a_read a_hill a_now a_undone a_need a_cameOf a_places a_firstRow a_kept v_size v_at v_begin v_token v_told v_undos v_cames v_each v_trace v_now v_hill x5 h) (cwV 1 hts gX7_bestDig_X7_isDigging rfl rfl rfl hdV_X7_isDigging ⟨Nat.le_of_ble_eq_true rfl, Nat.le_of_ble_eq_true rfl⟩) hK hN hP hD hS hA [0, 2, 1] (by decide) rfl (ci := 7) rfl rfl rfl hl.1 rfl (Nat.le_of_ble_eq_true rfl) dX7_bestDig_156 ⟨Nat.zero_le _, Nat.zero_le _⟩ (fun r_35 H locs h hP hS => ?_)
        refine lv_if_eq (tgt := 169) hx hb dX7_bestDig_159 (by decide) (fun c_36 => ?_) (fun c_36 => ?_)
        · replace h := h.1 c_36
          obtain ⟨x5_37, e_38⟩ : ∃ y : Int32, y = (x5 + (1 : Int32)) := ⟨_, rfl⟩
          replace h := h x5_37 e_38
          refine lv_iinc (v := x5_37) (lv' := [(5, .int x5_37), (7, .int k0), (0, .ref a), (1, .int p0), (2, .int p1), (3, .int x3), (4, .int x4), (6, .int x6)]) hx hb dX7_bestDig_169 hl (k := 6) rfl (by rw [e_38]; rfl) (by decide) rfl (fun ls hl => ?_)
          refine lv_goto (tgt := 32) hx hb dX7_bestDig_172 (by decide) ?_
          exact ih32 x3 x4 x5_37 0 0 0 _ _ _ h hP hD hS (lv_sub hl [2, 3, 4, 5, 6, 0] rfl)
        · replace h := h.2 c_36
          refine lv_iload hx hb dX7_bestDig_162 (lv_at hl 6 rfl) ?_
          refine lv_istore_n (lv' := [(3, .int x5), (7, .int k0), (0, .ref a), (1, .int p0), (2, .int p1), (4, .int x4), (5, .int x5), (6, .int x6)]) hx hb dX7_bestDig_164 rfl hl (by decide) rfl (fun ls hl => ?_)
          refine lv_iload hx hb dX7_bestDig_165 (lv_at hl 7 rfl) ?_
          refine lv_istore (lv' := [(4, .int x6), (3, .int x5), (7, .int k0), (0, .ref a), (1, .int p0), (2, .int p1), (5, .int x5), (6, .int x6)]) hx hb dX7_bestDig_167 hl (by decide) rfl (fun ls hl => ?_)
          obtain ⟨x5_39, e_40⟩ : ∃ y : Int32, y = (x5 + (1 : Int32)) := ⟨_, rfl⟩
          replace h := h x5_39 e_40
          refine lv_iinc (v := x5_39) (lv' := [(5, .int x5_39), (4, .int x6), (3, .int x5), (7, .int k0), (0, .ref a), (1, .int p0), (2, .int p1), (6, .int x6)]) hx hb dX7_bestDig_169 hl (k := 6) rfl (by rw [e_40]; rfl) (by decide) rfl (fun ls hl => ?_)
          refine lv_goto (tgt := 32) hx hb dX7_bestDig_172 (by decide) ?_
          exact ih32 x5 x6 x5_39 0 0 0 _ _ _ h hP hD hS (lv_sub hl [4, 5, 6, 2, 1, 0] rfl)
set_option maxHeartbeats 4000000 in
set_option maxRecDepth 100000 in
theorem c_X7_bestDig (l : Launch) (dC : Nat → ClassId) (dI : Nat → Nat → Nat) (cyC cyI cyZ : ClassId) (sz : Nat) (a a_text a_read a_hill a_now a_undone a_need a_cameOf a_places a_firstRow a_kept : Nat) (v_size : Int32) (v_at : Int32) (v_begin : Int32) (v_token : Int32) (v_told : Int32) (v_undos : Int32) (v_cames : Int32) (v_each : Int32) (v_trace : Int64) (v_hill : Nat → Int32) (v_now : Nat → Int32) (p0 : Int32) (p1 : Int32) {Q : Int32 → Prop} (h : q_X7_bestDig v_hill v_now p0 p1 Q) : Met l yX7_bestDig wsX7_bestDig ({ frames := 3, cells := 0, slots := 0, locals := 69 }) (gPc [.ref a, .int p0, .int p1] (dC, dI) (gTy cyC cyI cyZ) sz [(a, .inr (7, [.ref a_text, .int v_size, .int v_at, .int v_begin, .int v_token, .int v_told, .ref a_read, .ref a_hill, .ref a_now, .ref a_undone, .int v_undos, .ref a_need, .int v_cames, .ref a_cameOf, .ref a_places, .ref a_firstRow, .int v_each, .long v_trace, .ref a_kept])), (a_hill, .inl (cyI, 46, .inl v_hill)), (a_now, .inl (cyI, 15, .inl v_now))]) (gQi0 Q (dC, dI) (va_A [(a, .inr (7, [.ref a_text, .int v_size, .int v_at, .int v_begin, .int v_token, .int v_told, .ref a_read, .ref a_hill, .ref a_now, .ref a_undone, .int v_undos, .ref a_need, .int v_cames, .ref a_cameOf, .ref a_places, .ref a_firstRow, .int v_each, .long v_trace, .ref a_kept])), (a_hill, .inl (cyI, 46, .inl v_hill)), (a_now, .inl (cyI, 15, .inl v_now))] sz) [(a, .inr (7, [.ref a_text, .int v_size, .int v_at, .int v_begin, .int v_token, .int v_told, .ref a_read, .ref a_hill, .ref a_now, .ref a_undone, .int v_undos, .ref a_need, .int v_cames, .ref a_cameOf, .ref a_places, .ref a_firstRow, .int v_each, .long v_trace, .ref a_kept])), (a_hill, .inl (cyI, 46, .inl v_hill)), (a_now, .inl (cyI, 15, .inl v_now))]) 0 0 (va_A [(a, .inr (7, [.ref a_text, .int v_size, .int v_at, .int v_begin, .int v_token, .int v_told, .ref a_read, .ref a_hill, .ref a_now, .ref a_undone, .int v_undos, .ref a_need, .int v_cames, .ref a_cameOf, .ref a_places, .ref a_firstRow, .int v_each, .long v_trace, .ref a_kept])), (a_hill, .inl (cyI, 46, .inl v_hill)), (a_now, .inl (cyI, 15, .inl v_now))] sz) := by
  refine gMet (cc := cX7_bestDig) (maxL := 8) (ret := (some .int)) (own := RX7) (fun A => gQi0 Q (dC, dI) A [(a, .inr (7, [.ref a_text, .int v_size, .int v_at, .int v_begin, .int v_token, .int v_told, .ref a_read, .ref a_hill, .ref a_now, .ref a_undone, .int v_undos, .ref a_need, .int v_cames, .ref a_cameOf, .ref a_places, .ref a_firstRow, .int v_each, .long v_trace, .ref a_kept])), (a_hill, .inl (cyI, 46, .inl v_hill)), (a_now, .inl (cyI, 15, .inl v_now))]) (by decide) rfl rfl (Nat.le_of_ble_eq_true rfl) ?_
  intro p e s m below meth c A ls C0 _ hK hN hP hD hA hl
  obtain ⟨hx, hb, hr, hml, hown, hts, hlocks⟩ := id C0
  have f16 := hts (.fieldLink RX7 16 "LastOchreModel" "hill" "[I") (by decide +kernel)
  have f19 := hts (.fieldLink RX7 19 "LastOchreModel" "now" "[I") (by decide +kernel)
  have hS : va_S A s.heap s.heap [] := va_S.rf
  replace hl : lv_has ls 8 [(0, .ref a), (1, .int p0), (2, .int p1)] := hl
  unfold q_X7_bestDig at h
  obtain ⟨n, h⟩ := h
  obtain ⟨ih32, ih70, ih141, ih145, ih146⟩ := w_X7_bestDig (l := l) (e := e) (below := below) dC dI cyC cyI cyZ a a_text a_read a_hill a_now a_undone a_need a_cameOf a_places a_firstRow a_kept v_size v_at v_begin v_token v_told v_undos v_cames v_each v_trace v_hill v_now p0 p1 Q C0 hK hN hA n
  unfold F_X7_bestDig_e at h
  refine lv_iload_n hx hb dX7_bestDig_0 rfl (lv_at hl 1 rfl) ?_
  refine lv_i2l hx hb dX7_bestDig_1 rfl ?_
  refine lv_lconst (v := 0) hx hb dX7_bestDig_2 (by decide) ?_
  refine lv_ldc2 (v := 16) hx hb hown (hts (.constantLong RX7 179 (16)) (by decide +kernel)) dX7_bestDig_3 ?_
  refine gS_i0 (As := [.long ((p0).toInt64), .long (0 : Int64), .long (16 : Int64)]) (rest := []) ⟨hx, hb, hml, hown, hts⟩ (c_X7_in l dC dI cyC cyI cyZ _ ((p0).toInt64) (0 : Int64) (16 : Int64) h) (va_cwS 3 hts gX7_bestDig_X7_in rfl rfl rfl hdS_X7_in ⟨Nat.le_of_ble_eq_true rfl, Nat.le_of_ble_eq_true rfl⟩) hK hN hP hD hS hA [] (by decide) rfl rfl hl.1 rfl (Nat.le_of_ble_eq_true rfl) dX7_bestDig_6 ⟨Nat.zero_le _, Nat.zero_le _⟩ (fun r_1 H locs h hP hS => ?_)
  refine lv_if_eq (tgt := 22) hx hb dX7_bestDig_9 (by decide) (fun c_2 => ?_) (fun c_2 => ?_)
  · replace h := h.1 c_2
    refine lv_iconst (v := -1) hx hb dX7_bestDig_22 (by decide) ?_
    exact gri0 hx hb hr hlocks h hP hD hS dX7_bestDig_23
  · replace h := h.2 c_2
    refine lv_iload_n hx hb dX7_bestDig_12 rfl (lv_at hl 2 rfl) ?_
    refine lv_i2l hx hb dX7_bestDig_13 rfl ?_
    refine lv_lconst (v := 0) hx hb dX7_bestDig_14 (by decide) ?_
    refine lv_lconst (v := 1) hx hb dX7_bestDig_15 (by decide) ?_
    refine gS_i0 (As := [.long ((p1).toInt64), .long (0 : Int64), .long (1 : Int64)]) (rest := []) ⟨hx, hb, hml, hown, hts⟩ (c_X7_in l dC dI cyC cyI cyZ _ ((p1).toInt64) (0 : Int64) (1 : Int64) h) (va_cwS 3 hts gX7_bestDig_X7_in rfl rfl rfl hdS_X7_in ⟨Nat.le_of_ble_eq_true rfl, Nat.le_of_ble_eq_true rfl⟩) hK hN hP hD hS hA [] (by decide) rfl rfl hl.1 rfl (Nat.le_of_ble_eq_true rfl) dX7_bestDig_16 ⟨Nat.zero_le _, Nat.zero_le _⟩ (fun r_3 H locs h hP hS => ?_)
    refine lv_if_ne (tgt := 24) hx hb dX7_bestDig_19 (by decide) (fun c_4 => ?_) (fun c_4 => ?_)
    · replace h := h.1 c_4
      refine lv_iconst (v := 0) hx hb dX7_bestDig_24 (by decide) ?_
      refine lv_istore_n (lv' := [(3, .int (0 : Int32)), (0, .ref a), (1, .int p0), (2, .int p1)]) hx hb dX7_bestDig_25 rfl hl (by decide) rfl (fun ls hl => ?_)
      refine lv_iconst (v := 0) hx hb dX7_bestDig_26 (by decide) ?_
      refine lv_istore (lv' := [(4, .int (0 : Int32)), (3, .int (0 : Int32)), (0, .ref a), (1, .int p0), (2, .int p1)]) hx hb dX7_bestDig_27 hl (by decide) rfl (fun ls hl => ?_)
      refine lv_iconst (v := 1) hx hb dX7_bestDig_29 (by decide) ?_
      refine lv_istore (lv' := [(5, .int (1 : Int32)), (4, .int (0 : Int32)), (3, .int (0 : Int32)), (0, .ref a), (1, .int p0), (2, .int p1)]) hx hb dX7_bestDig_30 hl (by decide) rfl (fun ls hl => ?_)
      exact ih32 (0 : Int32) (0 : Int32) (1 : Int32) 0 0 0 _ _ _ h hP hD hS (lv_sub hl [3, 4, 5, 2, 1, 0] rfl)
    · replace h := h.2 c_4
      refine lv_iconst (v := -1) hx hb dX7_bestDig_22 (by decide) ?_
      exact gri0 hx hb hr hlocks h hP hD hS dX7_bestDig_23

def F_X7_far_e (v_hill : Nat → Int32) (v_now : Nat → Int32) (p0 : Int32) (Q : Int32 → Prop) (rec : Nat → Int32 → Prop)  : Prop :=
  q_X7_isThing v_hill p0 (fun (r_1 : Int32) => (¬ r_1 = 0 → (q_X7_isThen v_now v_hill p0 (0 : Int32) (0 : Int32) (fun (r_3 : Int32) => (¬ r_3 = 0 → (rec 25 (0 : Int32))) ∧ (r_3 = 0 → (Q (-5 : Int32)))))) ∧ (r_1 = 0 → (Q (-1 : Int32))))
def F_X7_far_25 (v_hill : Nat → Int32) (v_now : Nat → Int32) (p0 : Int32) (Q : Int32 → Prop) (rec : Nat → Int32 → Prop) (x2 : Int32) : Prop :=
  q_X7_white v_now p0 (fun (r_5 : Int32) => ((999 : Int32) ≤ (r_5 + x2) → (Q x2)) ∧ (¬ (999 : Int32) ≤ (r_5 + x2) → (q_X7_yellow v_now p0 (fun (r_7 : Int32) => q_X7_white v_now p0 (fun (r_8 : Int32) => q_X7_isCalled v_hill r_7 ((r_8 + x2) + (1 : Int32)) (fun (r_9 : Int32) => (r_9 = 0 → (Q x2)) ∧ (¬ r_9 = 0 → (∀ x2_11 : Int32, x2_11 = (x2 + (1 : Int32)) → (rec 25 x2_11)))))))))
def wp_X7_far (v_hill : Nat → Int32) (v_now : Nat → Int32) (p0 : Int32) (Q : Int32 → Prop) : Nat → Nat → Int32 → Prop
  | 0 => fun _ _ => False
  | n + 1 => fun t x2 => if t = 25 then F_X7_far_25 v_hill v_now p0 Q (wp_X7_far v_hill v_now p0 Q n) x2 else False
def q_X7_far (v_hill : Nat → Int32) (v_now : Nat → Int32) (p0 : Int32) (Q : Int32 → Prop) : Prop := ∃ n, F_X7_far_e v_hill v_now p0 Q (wp_X7_far v_hill v_now p0 Q n) 
theorem hdV_X7_far : yX7_far.cls = RX7 ∧ yX7_far.cls ≠ "java/lang/invoke/MethodHandle" ∧ yX7_far.cls ≠ "java/lang/invoke/VarHandle" ∧ (parseMethodDescriptor yX7_far.desc).map (fun d => d.parameters.length) = some 1 := by decide +kernel
set_option maxHeartbeats 4000000 in
set_option maxRecDepth 100000 in
theorem w_X7_far {p : Program} {l : Launch} {e : Env} {s : State} {m : MethodId} {args : Array Value} {below : List Frame} {meth : Method} {c : Code} {A : Nat → Prop} (dC : Nat → ClassId) (dI : Nat → Nat → Nat) (cyC cyI cyZ : ClassId) (a a_text a_read a_hill a_now a_undone a_need a_cameOf a_places a_firstRow a_kept : Nat) (v_size : Int32) (v_at : Int32) (v_begin : Int32) (v_token : Int32) (v_told : Int32) (v_undos : Int32) (v_cames : Int32) (v_each : Int32) (v_trace : Int64) (v_hill : Nat → Int32) (v_now : Nat → Int32) (p0 : Int32) (Q : Int32 → Prop) (C0 : gAt cX7_far (some .int) 3 RX7 wsX7_far p s m meth c args) (hK : va_K (dC, dI) vwCl (gTy cyC cyI cyZ) s) (hN : nU s) (hA : ∀ q, s.heap.size ≤ q → A q) : ∀ n : Nat, (∀ (x2 : Int32) (H : Heap) (locs : List Loc) (ls : Array Slot), wp_X7_far v_hill v_now p0 Q n 25 x2 → va_P (dC, dI) vwCl [(a, .inr (7, [.ref a_text, .int v_size, .int v_at, .int v_begin, .int v_token, .int v_told, .ref a_read, .ref a_hill, .ref a_now, .ref a_undone, .int v_undos, .ref a_need, .int v_cames, .ref a_cameOf, .ref a_places, .ref a_firstRow, .int v_each, .long v_trace, .ref a_kept])), (a_hill, .inl (cyI, 46, .inl v_hill)), (a_now, .inl (cyI, 15, .inl v_now))] H → va_D A [(a, .inr (7, [.ref a_text, .int v_size, .int v_at, .int v_begin, .int v_token, .int v_told, .ref a_read, .ref a_hill, .ref a_now, .ref a_undone, .int v_undos, .ref a_need, .int v_cames, .ref a_cameOf, .ref a_places, .ref a_firstRow, .int v_each, .long v_trace, .ref a_kept])), (a_hill, .inl (cyI, 46, .inl v_hill)), (a_now, .inl (cyI, 15, .inl v_now))] → va_S A s.heap H locs → lv_has ls 3 [(0, .ref a), (1, .int p0), (2, .int x2)] → W p l e { frames := 2, cells := 0, slots := 0, locals := 46 } s m args below meth c H locs 0 0 (MQ below (gQi0 Q (dC, dI) A [(a, .inr (7, [.ref a_text, .int v_size, .int v_at, .int v_begin, .int v_token, .int v_told, .ref a_read, .ref a_hill, .ref a_now, .ref a_undone, .int v_undos, .ref a_need, .int v_cames, .ref a_cameOf, .ref a_places, .ref a_firstRow, .int v_each, .long v_trace, .ref a_kept])), (a_hill, .inl (cyI, 46, .inl v_hill)), (a_now, .inl (cyI, 15, .inl v_now))]) args s 0 0 A) (F0 m 25 ls [])) := by
  obtain ⟨hx, hb, hr, hml, hown, hts, hlocks⟩ := id C0
  intro n
  induction n with
  | zero => exact fun _ _ _ _ h => absurd h id
  | succ n ih =>
    have ih25 := ih
    · intro x2 H locs ls h hP hD hS hl
      replace h : F_X7_far_25 v_hill v_now p0 Q (wp_X7_far v_hill v_now p0 Q n) x2 := h
      unfold F_X7_far_25 at h
      refine lv_aload_n hx hb dX7_far_25 rfl (lv_at hl 0 rfl) ?_
      refine lv_iload_n hx hb dX7_far_26 rfl (lv_at hl 1 rfl) ?_
      refine gV_i0 (As := [.int p0]) (rest := []) ⟨hx, hb, hml, hown, hts⟩ (c_X7_white l dC dI cyC cyI cyZ _ a a_text a_read a_hill a_now a_undone a_need a_cameOf a_places a_firstRow a_kept v_size v_at v_begin v_token v_told v_undos v_cames v_each v_trace v_now p0 h) (cwV 1 hts gX7_far_X7_white rfl rfl rfl hdV_X7_white ⟨Nat.le_of_ble_eq_true rfl, Nat.le_of_ble_eq_true rfl⟩) hK hN hP hD hS hA [0, 2] (by decide) rfl (ci := 7) rfl rfl rfl hl.1 rfl (Nat.le_of_ble_eq_true rfl) dX7_far_27 ⟨Nat.zero_le _, Nat.zero_le _⟩ (fun r_5 H locs h hP hS => ?_)
      refine lv_iload_n hx hb dX7_far_30 rfl (lv_at hl 2 rfl) ?_
      refine lv_iadd hx hb dX7_far_31 ?_
      refine lv_sipush (v := 999) hx hb dX7_far_32 (by decide) ?_
      refine lv_icmp_ge (tgt := 65) hx hb dX7_far_35 (by decide) (fun c_6 => ?_) (fun c_6 => ?_)
      · replace h := h.1 c_6
        refine lv_iload_n hx hb dX7_far_65 rfl (lv_at hl 2 rfl) ?_
        exact gri0 hx hb hr hlocks h hP hD hS dX7_far_66
      · replace h := h.2 c_6
        refine lv_aload_n hx hb dX7_far_38 rfl (lv_at hl 0 rfl) ?_
        refine lv_aload_n hx hb dX7_far_39 rfl (lv_at hl 0 rfl) ?_
        refine lv_iload_n hx hb dX7_far_40 rfl (lv_at hl 1 rfl) ?_
        refine gV_i0 (As := [.int p0]) (rest := [.ref a]) ⟨hx, hb, hml, hown, hts⟩ (c_X7_yellow l dC dI cyC cyI cyZ _ a a_text a_read a_hill a_now a_undone a_need a_cameOf a_places a_firstRow a_kept v_size v_at v_begin v_token v_told v_undos v_cames v_each v_trace v_now p0 h) (cwV 1 hts gX7_far_X7_yellow rfl rfl rfl hdV_X7_yellow ⟨Nat.le_of_ble_eq_true rfl, Nat.le_of_ble_eq_true rfl⟩) hK hN hP hD hS hA [0, 2] (by decide) rfl (ci := 7) rfl rfl rfl hl.1 rfl (Nat.le_of_ble_eq_true rfl) dX7_far_41 ⟨Nat.zero_le _, Nat.zero_le _⟩ (fun r_7 H locs h hP hS => ?_)
        refine lv_aload_n hx hb dX7_far_44 rfl (lv_at hl 0 rfl) ?_
        refine lv_iload_n hx hb dX7_far_45 rfl (lv_at hl 1 rfl) ?_
        refine gV_i0 (As := [.int p0]) (rest := [.int r_7, .ref a]) ⟨hx, hb, hml, hown, hts⟩ (c_X7_white l dC dI cyC cyI cyZ _ a a_text a_read a_hill a_now a_undone a_need a_cameOf a_places a_firstRow a_kept v_size v_at v_begin v_token v_told v_undos v_cames v_each v_trace v_now p0 h) (cwV 1 hts gX7_far_X7_white rfl rfl rfl hdV_X7_white ⟨Nat.le_of_ble_eq_true rfl, Nat.le_of_ble_eq_true rfl⟩) hK hN hP hD hS hA [0, 2] (by decide) rfl (ci := 7) rfl rfl rfl hl.1 rfl (Nat.le_of_ble_eq_true rfl) dX7_far_46 ⟨Nat.zero_le _, Nat.zero_le _⟩ (fun r_8 H locs h hP hS => ?_)
        refine lv_iload_n hx hb dX7_far_49 rfl (lv_at hl 2 rfl) ?_
        refine lv_iadd hx hb dX7_far_50 ?_
        refine lv_iconst (v := 1) hx hb dX7_far_51 (by decide) ?_
        refine lv_iadd hx hb dX7_far_52 ?_
        refine gV_i0 (As := [.int r_7, .int ((r_8 + x2) + (1 : Int32))]) (rest := []) ⟨hx, hb, hml, hown, hts⟩ (c_X7_isCalled l dC dI cyC cyI cyZ _ a a_text a_read a_hill a_now a_undone a_need a_cameOf a_places a_firstRow a_kept v_size v_at v_begin v_token v_told v_undos v_cames v_each v_trace v_hill r_7 ((r_8 + x2) + (1 : Int32)) h) (cwV 2 hts gX7_far_X7_isCalled rfl rfl rfl hdV_X7_isCalled ⟨Nat.le_of_ble_eq_true rfl, Nat.le_of_ble_eq_true rfl⟩) hK hN hP hD hS hA [0, 1] (by decide) rfl (ci := 7) rfl rfl rfl hl.1 rfl (Nat.le_of_ble_eq_true rfl) dX7_far_53 ⟨Nat.zero_le _, Nat.zero_le _⟩ (fun r_9 H locs h hP hS => ?_)
        refine lv_if_eq (tgt := 65) hx hb dX7_far_56 (by decide) (fun c_10 => ?_) (fun c_10 => ?_)
        · replace h := h.1 c_10
          refine lv_iload_n hx hb dX7_far_65 rfl (lv_at hl 2 rfl) ?_
          exact gri0 hx hb hr hlocks h hP hD hS dX7_far_66
        · replace h := h.2 c_10
          obtain ⟨x2_11, e_12⟩ : ∃ y : Int32, y = (x2 + (1 : Int32)) := ⟨_, rfl⟩
          replace h := h x2_11 e_12
          refine lv_iinc (v := x2_11) (lv' := [(2, .int x2_11), (0, .ref a), (1, .int p0)]) hx hb dX7_far_59 hl (k := 2) rfl (by rw [e_12]; rfl) (by decide) rfl (fun ls hl => ?_)
          refine lv_goto (tgt := 25) hx hb dX7_far_62 (by decide) ?_
          exact ih25 x2_11 _ _ _ h hP hD hS (lv_sub hl [1, 2, 0] rfl)
set_option maxHeartbeats 4000000 in
set_option maxRecDepth 100000 in
theorem c_X7_far (l : Launch) (dC : Nat → ClassId) (dI : Nat → Nat → Nat) (cyC cyI cyZ : ClassId) (sz : Nat) (a a_text a_read a_hill a_now a_undone a_need a_cameOf a_places a_firstRow a_kept : Nat) (v_size : Int32) (v_at : Int32) (v_begin : Int32) (v_token : Int32) (v_told : Int32) (v_undos : Int32) (v_cames : Int32) (v_each : Int32) (v_trace : Int64) (v_hill : Nat → Int32) (v_now : Nat → Int32) (p0 : Int32) {Q : Int32 → Prop} (h : q_X7_far v_hill v_now p0 Q) : Met l yX7_far wsX7_far ({ frames := 2, cells := 0, slots := 0, locals := 46 }) (gPc [.ref a, .int p0] (dC, dI) (gTy cyC cyI cyZ) sz [(a, .inr (7, [.ref a_text, .int v_size, .int v_at, .int v_begin, .int v_token, .int v_told, .ref a_read, .ref a_hill, .ref a_now, .ref a_undone, .int v_undos, .ref a_need, .int v_cames, .ref a_cameOf, .ref a_places, .ref a_firstRow, .int v_each, .long v_trace, .ref a_kept])), (a_hill, .inl (cyI, 46, .inl v_hill)), (a_now, .inl (cyI, 15, .inl v_now))]) (gQi0 Q (dC, dI) (va_A [(a, .inr (7, [.ref a_text, .int v_size, .int v_at, .int v_begin, .int v_token, .int v_told, .ref a_read, .ref a_hill, .ref a_now, .ref a_undone, .int v_undos, .ref a_need, .int v_cames, .ref a_cameOf, .ref a_places, .ref a_firstRow, .int v_each, .long v_trace, .ref a_kept])), (a_hill, .inl (cyI, 46, .inl v_hill)), (a_now, .inl (cyI, 15, .inl v_now))] sz) [(a, .inr (7, [.ref a_text, .int v_size, .int v_at, .int v_begin, .int v_token, .int v_told, .ref a_read, .ref a_hill, .ref a_now, .ref a_undone, .int v_undos, .ref a_need, .int v_cames, .ref a_cameOf, .ref a_places, .ref a_firstRow, .int v_each, .long v_trace, .ref a_kept])), (a_hill, .inl (cyI, 46, .inl v_hill)), (a_now, .inl (cyI, 15, .inl v_now))]) 0 0 (va_A [(a, .inr (7, [.ref a_text, .int v_size, .int v_at, .int v_begin, .int v_token, .int v_told, .ref a_read, .ref a_hill, .ref a_now, .ref a_undone, .int v_undos, .ref a_need, .int v_cames, .ref a_cameOf, .ref a_places, .ref a_firstRow, .int v_each, .long v_trace, .ref a_kept])), (a_hill, .inl (cyI, 46, .inl v_hill)), (a_now, .inl (cyI, 15, .inl v_now))] sz) := by
  refine gMet (cc := cX7_far) (maxL := 3) (ret := (some .int)) (own := RX7) (fun A => gQi0 Q (dC, dI) A [(a, .inr (7, [.ref a_text, .int v_size, .int v_at, .int v_begin, .int v_token, .int v_told, .ref a_read, .ref a_hill, .ref a_now, .ref a_undone, .int v_undos, .ref a_need, .int v_cames, .ref a_cameOf, .ref a_places, .ref a_firstRow, .int v_each, .long v_trace, .ref a_kept])), (a_hill, .inl (cyI, 46, .inl v_hill)), (a_now, .inl (cyI, 15, .inl v_now))]) (by decide) rfl rfl (Nat.le_of_ble_eq_true rfl) ?_
  intro p e s m below meth c A ls C0 _ hK hN hP hD hA hl
  obtain ⟨hx, hb, hr, hml, hown, hts, hlocks⟩ := id C0
  have hS : va_S A s.heap s.heap [] := va_S.rf
  replace hl : lv_has ls 3 [(0, .ref a), (1, .int p0)] := hl
  unfold q_X7_far at h
  obtain ⟨n, h⟩ := h
  have ih25 := w_X7_far (l := l) (e := e) (below := below) dC dI cyC cyI cyZ a a_text a_read a_hill a_now a_undone a_need a_cameOf a_places a_firstRow a_kept v_size v_at v_begin v_token v_told v_undos v_cames v_each v_trace v_hill v_now p0 Q C0 hK hN hA n
  unfold F_X7_far_e at h
  refine lv_aload_n hx hb dX7_far_0 rfl (lv_at hl 0 rfl) ?_
  refine lv_iload_n hx hb dX7_far_1 rfl (lv_at hl 1 rfl) ?_
  refine gV_i0 (As := [.int p0]) (rest := []) ⟨hx, hb, hml, hown, hts⟩ (c_X7_isThing l dC dI cyC cyI cyZ _ a a_text a_read a_hill a_now a_undone a_need a_cameOf a_places a_firstRow a_kept v_size v_at v_begin v_token v_told v_undos v_cames v_each v_trace v_hill p0 h) (cwV 1 hts gX7_far_X7_isThing rfl rfl rfl hdV_X7_isThing ⟨Nat.le_of_ble_eq_true rfl, Nat.le_of_ble_eq_true rfl⟩) hK hN hP hD hS hA [0, 1] (by decide) rfl (ci := 7) rfl rfl rfl hl.1 rfl (Nat.le_of_ble_eq_true rfl) dX7_far_2 ⟨Nat.zero_le _, Nat.zero_le _⟩ (fun r_1 H locs h hP hS => ?_)
  refine lv_if_ne (tgt := 10) hx hb dX7_far_5 (by decide) (fun c_2 => ?_) (fun c_2 => ?_)
  · replace h := h.1 c_2
    refine lv_aload_n hx hb dX7_far_10 rfl (lv_at hl 0 rfl) ?_
    refine lv_iload_n hx hb dX7_far_11 rfl (lv_at hl 1 rfl) ?_
    refine lv_iconst (v := 0) hx hb dX7_far_12 (by decide) ?_
    refine lv_iconst (v := 0) hx hb dX7_far_13 (by decide) ?_
    refine gV_i0 (As := [.int p0, .int (0 : Int32), .int (0 : Int32)]) (rest := []) ⟨hx, hb, hml, hown, hts⟩ (c_X7_isThen l dC dI cyC cyI cyZ _ a a_text a_read a_hill a_now a_undone a_need a_cameOf a_places a_firstRow a_kept v_size v_at v_begin v_token v_told v_undos v_cames v_each v_trace v_now v_hill p0 (0 : Int32) (0 : Int32) h) (cwV 3 hts gX7_far_X7_isThen rfl rfl rfl hdV_X7_isThen ⟨Nat.le_of_ble_eq_true rfl, Nat.le_of_ble_eq_true rfl⟩) hK hN hP hD hS hA [0, 2, 1] (by decide) rfl (ci := 7) rfl rfl rfl hl.1 rfl (Nat.le_of_ble_eq_true rfl) dX7_far_14 ⟨Nat.zero_le _, Nat.zero_le _⟩ (fun r_3 H locs h hP hS => ?_)
    refine lv_if_ne (tgt := 23) hx hb dX7_far_17 (by decide) (fun c_4 => ?_) (fun c_4 => ?_)
    · replace h := h.1 c_4
      refine lv_iconst (v := 0) hx hb dX7_far_23 (by decide) ?_
      refine lv_istore_n (lv' := [(2, .int (0 : Int32)), (0, .ref a), (1, .int p0)]) hx hb dX7_far_24 rfl hl (by decide) rfl (fun ls hl => ?_)
      exact ih25 (0 : Int32) _ _ _ h hP hD hS (lv_sub hl [1, 2, 0] rfl)
    · replace h := h.2 c_4
      refine lv_bipush (v := -5) hx hb dX7_far_20 (by decide) ?_
      exact gri0 hx hb hr hlocks h hP hD hS dX7_far_22
  · replace h := h.2 c_2
    refine lv_iconst (v := -1) hx hb dX7_far_8 (by decide) ?_
    exact gri0 hx hb hr hlocks h hP hD hS dX7_far_9

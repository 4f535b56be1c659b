def F_X1_follow_e (rc : Int32 → Int32 → Int32 → Int32 → Int32 → Int32 → Int32 → Int32 → Int32 → Int32 → (Nat → Int32) → (Nat → Int32) → (Nat → Int32) → (Nat → Int32) → Int32 → Int32 → Int32 → (Int32 → Int32 → (Nat → Int32) → (Nat → Int32) → Prop) → Prop) (v_length : Int32) (v_lookedFrom : Int32) (w0_w : Int32) (w0_h : Int32) (w0_all : Int32) (w0_top : Int32) (w0_left : Int32) (w0_right : Int32) (w0_parts : Nat → Int32) (v_parts : Nat → Int32) (p1 : Int32) (p2 : Int32) (p3 : Int32) (Q : Int32 → Int32 → (Nat → Int32) → (Nat → Int32) → Prop) (rec : Nat → Int32 → Int32 → Int32 → Int32 → (Nat → Int32) → (Nat → Int32) → Prop) (v_found : Int32) (v_inEach : Int32) (v_path : Nat → Int32) (v_firstRow : Nat → Int32) : Prop :=
  (v_length ≤ p1 → (rec 13 0 0 v_found v_inEach v_path v_firstRow)) ∧ (¬ v_length ≤ p1 → ((p1 < (5 : Int32) → (q_X4_openFrom w0_w w0_all w0_top w0_left w0_right p2 (fun (r_3 : Int32) => rec 30 r_3 (0 : Int32) v_found v_inEach v_path v_firstRow))) ∧ (¬ p1 < (5 : Int32) → (rec 13 0 0 v_found v_inEach v_path v_firstRow))))
def F_X1_follow_13 (rc : Int32 → Int32 → Int32 → Int32 → Int32 → Int32 → Int32 → Int32 → Int32 → Int32 → (Nat → Int32) → (Nat → Int32) → (Nat → Int32) → (Nat → Int32) → Int32 → Int32 → Int32 → (Int32 → Int32 → (Nat → Int32) → (Nat → Int32) → Prop) → Prop) (v_length : Int32) (v_lookedFrom : Int32) (w0_w : Int32) (w0_h : Int32) (w0_all : Int32) (w0_top : Int32) (w0_left : Int32) (w0_right : Int32) (w0_parts : Nat → Int32) (v_parts : Nat → Int32) (p1 : Int32) (p2 : Int32) (p3 : Int32) (Q : Int32 → Int32 → (Nat → Int32) → (Nat → Int32) → Prop) (rec : Nat → Int32 → Int32 → Int32 → Int32 → (Nat → Int32) → (Nat → Int32) → Prop) (x5 : Int32) (x6 : Int32) (v_found : Int32) (v_inEach : Int32) (v_path : Nat → Int32) (v_firstRow : Nat → Int32) : Prop :=
  q_X1_take v_found v_inEach v_path v_firstRow p3 (fun (u_4 : Int32) (u_5 : Int32) (u_6 : Nat → Int32) => Q u_4 u_5 v_path u_6)
def F_X1_follow_30 (rc : Int32 → Int32 → Int32 → Int32 → Int32 → Int32 → Int32 → Int32 → Int32 → Int32 → (Nat → Int32) → (Nat → Int32) → (Nat → Int32) → (Nat → Int32) → Int32 → Int32 → Int32 → (Int32 → Int32 → (Nat → Int32) → (Nat → Int32) → Prop) → Prop) (v_length : Int32) (v_lookedFrom : Int32) (w0_w : Int32) (w0_h : Int32) (w0_all : Int32) (w0_top : Int32) (w0_left : Int32) (w0_right : Int32) (w0_parts : Nat → Int32) (v_parts : Nat → Int32) (p1 : Int32) (p2 : Int32) (p3 : Int32) (Q : Int32 → Int32 → (Nat → Int32) → (Nat → Int32) → Prop) (rec : Nat → Int32 → Int32 → Int32 → Int32 → (Nat → Int32) → (Nat → Int32) → Prop) (x5 : Int32) (x6 : Int32) (v_found : Int32) (v_inEach : Int32) (v_path : Nat → Int32) (v_firstRow : Nat → Int32) : Prop :=
  q_X4_cells w0_w w0_h (fun (r_7 : Int32) => (r_7 ≤ x6 → (Q v_found v_inEach v_path v_firstRow)) ∧ (¬ r_7 ≤ x6 → (((16 : Int32) ≤ x6 → (Q v_found v_inEach v_path v_firstRow)) ∧ (¬ (16 : Int32) ≤ x6 → (∀ x7_10 : Int32, x7_10 = ((1 : Int32) <<< (x6 &&& 31)) → (((x5 &&& x7_10) = 0 → (∀ x6_13 : Int32, x6_13 = (x6 + (1 : Int32)) → (rec 30 x5 x6_13 v_found v_inEach v_path v_firstRow))) ∧ (¬ (x5 &&& x7_10) = 0 → (vp_in x6 16 ∧ (vp_in p1 5 ∧ ((¬ (w0_parts (x6).toNatClampNeg) = (v_parts (p1).toNatClampNeg) → (∀ x6_18 : Int32, x6_18 = (x6 + (1 : Int32)) → (rec 30 x5 x6_18 v_found v_inEach v_path v_firstRow))) ∧ ((w0_parts (x6).toNatClampNeg) = (v_parts (p1).toNatClampNeg) → (vp_in p1 5 ∧ (∀ f_21 : Nat → Int32, f_21 = upd v_path (p1).toNatClampNeg x6 → (rc v_length v_found v_inEach v_lookedFrom w0_w w0_h w0_all w0_top w0_left w0_right f_21 v_firstRow w0_parts v_parts (p1 + (1 : Int32)) (p2 ||| x7_10) (p3 ||| x7_10) (fun (u_23 : Int32) (u_24 : Int32) (u_25 : Nat → Int32) (u_26 : Nat → Int32) => ∀ x6_27 : Int32, x6_27 = (x6 + (1 : Int32)) → (rec 30 x5 x6_27 u_23 u_24 u_25 u_26))))))))))))))))
def wp_X1_follow (rc : Int32 → Int32 → Int32 → Int32 → Int32 → Int32 → Int32 → Int32 → Int32 → Int32 → (Nat → Int32) → (Nat → Int32) → (Nat → Int32) → (Nat → Int32) → Int32 → Int32 → Int32 → (Int32 → Int32 → (Nat → Int32) → (Nat → Int32) → Prop) → Prop) (v_length : Int32) (v_lookedFrom : Int32) (w0_w : Int32) (w0_h : Int32) (w0_all : Int32) (w0_top : Int32) (w0_left : Int32) (w0_right : Int32) (w0_parts : Nat → Int32) (v_parts : Nat → Int32) (p1 : Int32) (p2 : Int32) (p3 : Int32) (Q : Int32 → Int32 → (Nat → Int32) → (Nat → Int32) → Prop) : Nat → Nat → Int32 → Int32 → Int32 → Int32 → (Nat → Int32) → (Nat → Int32) → Prop
  | 0 => fun _ _ _ _ _ _ _ => False
  | n + 1 => fun t x5 x6 v_found v_inEach v_path v_firstRow => if t = 13 then F_X1_follow_13 rc v_length v_lookedFrom w0_w w0_h w0_all w0_top w0_left w0_right w0_parts v_parts p1 p2 p3 Q (wp_X1_follow rc v_length v_lookedFrom w0_w w0_h w0_all w0_top w0_left w0_right w0_parts v_parts p1 p2 p3 Q n) x5 x6 v_found v_inEach v_path v_firstRow else if t = 30 then F_X1_follow_30 rc v_length v_lookedFrom w0_w w0_h w0_all w0_top w0_left w0_right w0_parts v_parts p1 p2 p3 Q (wp_X1_follow rc v_length v_lookedFrom w0_w w0_h w0_all w0_top w0_left w0_right w0_parts v_parts p1 p2 p3 Q n) x5 x6 v_found v_inEach v_path v_firstRow else False
def q_X1_follow : Nat → Int32 → Int32 → Int32 → Int32 → Int32 → Int32 → Int32 → Int32 → Int32 → Int32 → (Nat → Int32) → (Nat → Int32) → (Nat → Int32) → (Nat → Int32) → Int32 → Int32 → Int32 → (Int32 → Int32 → (Nat → Int32) → (Nat → Int32) → Prop) → Prop
  | 0 => fun _ _ _ _ _ _ _ _ _ _ _ _ _ _ _ _ _ _ => False
  | d + 1 => fun v_length v_found v_inEach v_lookedFrom w0_w w0_h w0_all w0_top w0_left w0_right v_path v_firstRow w0_parts v_parts p1 p2 p3 Q => ∃ n, F_X1_follow_e (q_X1_follow d) v_length v_lookedFrom w0_w w0_h w0_all w0_top w0_left w0_right w0_parts v_parts p1 p2 p3 Q (wp_X1_follow (q_X1_follow d) v_length v_lookedFrom w0_w w0_h w0_all w0_top w0_left w0_right w0_parts v_parts p1 p2 p3 Q n) v_found v_inEach v_path v_firstRow
theorem iwX1_follow_X1 : ∀ w ∈ wsX10, w ∈ wsX1_follow := by decide +kernel
theorem iwX1_follow_X4 : ∀ w ∈ wsX40, w ∈ wsX1_follow := by decide +kernel
theorem hdV_X1_follow : yX1_follow.cls = RX1 ∧ yX1_follow.cls ≠ "java/lang/invoke/MethodHandle" ∧ yX1_follow.cls ≠ "java/lang/invoke/VarHandle" ∧ (parseMethodDescriptor yX1_follow.desc).map (fun d => d.parameters.length) = some 4 := by decide +kernel
set_option maxHeartbeats 4000000 in
set_option maxRecDepth 100000 in
theorem w_X1_follow {p : Program} {l : Launch} {e : Env} {s : State} {m : MethodId} {args : Array Value} {below : List Frame} {meth : Method} {c : Code} {A : Nat → Prop} (dC : Nat → ClassId) (dI : Nat → Nat → Nat) (cyC cyI cyZ : ClassId) (a a_parts a_path a_firstRow b0 b0_parts : Nat) (v_length : Int32) (v_lookedFrom : Int32) (w0_w : Int32) (w0_h : Int32) (w0_all : Int32) (w0_top : Int32) (w0_left : Int32) (w0_right : Int32) (w0_parts : Nat → Int32) (v_parts : Nat → Int32) (p1 : Int32) (p2 : Int32) (p3 : Int32) (Q : Int32 → Int32 → (Nat → Int32) → (Nat → Int32) → Prop) (d : Nat) (hrec : ∀ (sz : Nat) (a a_parts a_path a_firstRow b0 b0_parts : Nat) (v_length : Int32) (v_found : Int32) (v_inEach : Int32) (v_lookedFrom : Int32) (w0_w : Int32) (w0_h : Int32) (w0_all : Int32) (w0_top : Int32) (w0_left : Int32) (w0_right : Int32) (v_path : Nat → Int32) (v_firstRow : Nat → Int32) (w0_parts : Nat → Int32) (v_parts : Nat → Int32) (p1 : Int32) (p2 : Int32) (p3 : Int32) (Q : Int32 → Int32 → (Nat → Int32) → (Nat → Int32) → Prop), q_X1_follow d v_length v_found v_inEach v_lookedFrom w0_w w0_h w0_all w0_top w0_left w0_right v_path v_firstRow w0_parts v_parts p1 p2 p3 Q → Met l yX1_follow wsX1_follow ({ frames := 2 + d, cells := 0, slots := 0, locals := 61 + d * 27 }) (gPc [.ref a, .ref b0, .int p1, .int p2, .int p3] (dC, dI) (gTy cyC cyI cyZ) sz [(a, .inr (1, [.ref a_parts, .int v_length, .ref a_path, .ref a_firstRow, .int v_found, .int v_inEach, .int v_lookedFrom])), (b0, .inr (4, [.int w0_w, .int w0_h, .ref b0_parts, .int w0_all, .int w0_top, .int w0_left, .int w0_right])), (a_path, .inl (cyI, 5, .inl v_path)), (a_firstRow, .inl (cyI, 5, .inl v_firstRow)), (b0_parts, .inl (cyI, 16, .inl w0_parts)), (a_parts, .inl (cyI, 5, .inl v_parts))]) (gQv4 Q (dC, dI) (va_A [(a, .inr (1, [.ref a_parts, .int v_length, .ref a_path, .ref a_firstRow, .int v_found, .int v_inEach, .int v_lookedFrom])), (b0, .inr (4, [.int w0_w, .int w0_h, .ref b0_parts, .int w0_all, .int w0_top, .int w0_left, .int w0_right])), (a_path, .inl (cyI, 5, .inl v_path)), (a_firstRow, .inl (cyI, 5, .inl v_firstRow)), (b0_parts, .inl (cyI, 16, .inl w0_parts)), (a_parts, .inl (cyI, 5, .inl v_parts))] sz) (fun (u1 : Int32) (u2 : Int32) (u3 : Nat → Int32) (u4 : Nat → Int32) => [(a, .inr (1, [.ref a_parts, .int v_length, .ref a_path, .ref a_firstRow, .int u1, .int u2, .int v_lookedFrom])), (b0, .inr (4, [.int w0_w, .int w0_h, .ref b0_parts, .int w0_all, .int w0_top, .int w0_left, .int w0_right])), (a_path, .inl (cyI, 5, .inl u3)), (a_firstRow, .inl (cyI, 5, .inl u4)), (b0_parts, .inl (cyI, 16, .inl w0_parts)), (a_parts, .inl (cyI, 5, .inl v_parts))])) 0 0 (va_A [(a, .inr (1, [.ref a_parts, .int v_length, .ref a_path, .ref a_firstRow, .int v_found, .int v_inEach, .int v_lookedFrom])), (b0, .inr (4, [.int w0_w, .int w0_h, .ref b0_parts, .int w0_all, .int w0_top, .int w0_left, .int w0_right])), (a_path, .inl (cyI, 5, .inl v_path)), (a_firstRow, .inl (cyI, 5, .inl v_firstRow)), (b0_parts, .inl (cyI, 16, .inl w0_parts)), (a_parts, .inl (cyI, 5, .inl v_parts))] sz)) (C0 : gAt cX1_follow none 8 RX1 wsX1_follow p s m meth c args) (hK : va_K (dC, dI) vwCl (gTy cyC cyI cyZ) s) (hN : nU s) (hA : ∀ q, s.heap.size ≤ q → A q) : ∀ n : Nat, (∀ (x5 : Int32) (x6 : Int32) (v_found : Int32) (v_inEach : Int32) (v_path : Nat → Int32) (v_firstRow : Nat → Int32) (H : Heap) (locs : List Loc) (ls : Array Slot), wp_X1_follow (q_X1_follow d) v_length v_lookedFrom w0_w w0_h w0_all w0_top w0_left w0_right w0_parts v_parts p1 p2 p3 Q n 13 x5 x6 v_found v_inEach v_path v_firstRow → va_P (dC, dI) vwCl [(a, .inr (1, [.ref a_parts, .int v_length, .ref a_path, .ref a_firstRow, .int v_found, .int v_inEach, .int v_lookedFrom])), (b0, .inr (4, [.int w0_w, .int w0_h, .ref b0_parts, .int w0_all, .int w0_top, .int w0_left, .int w0_right])), (a_path, .inl (cyI, 5, .inl v_path)), (a_firstRow, .inl (cyI, 5, .inl v_firstRow)), (b0_parts, .inl (cyI, 16, .inl w0_parts)), (a_parts, .inl (cyI, 5, .inl v_parts))] H → va_D A [(a, .inr (1, [.ref a_parts, .int v_length, .ref a_path, .ref a_firstRow, .int v_found, .int v_inEach, .int v_lookedFrom])), (b0, .inr (4, [.int w0_w, .int w0_h, .ref b0_parts, .int w0_all, .int w0_top, .int w0_left, .int w0_right])), (a_path, .inl (cyI, 5, .inl v_path)), (a_firstRow, .inl (cyI, 5, .inl v_firstRow)), (b0_parts, .inl (cyI, 16, .inl w0_parts)), (a_parts, .inl (cyI, 5, .inl v_parts))] → va_S A s.heap H locs → lv_has ls 8 [(0, .ref a), (4, .int p3)] → W p l e { frames := 2 + (d + 1), cells := 0, slots := 0, locals := 61 + (d + 1) * 27 } s m args below meth c H locs 0 0 (MQ below (gQv4 Q (dC, dI) A (fun (u1 : Int32) (u2 : Int32) (u3 : Nat → Int32) (u4 : Nat → Int32) => [(a, .inr (1, [.ref a_parts, .int v_length, .ref a_path, .ref a_firstRow, .int u1, .int u2, .int v_lookedFrom])), (b0, .inr (4, [.int w0_w, .int w0_h, .ref b0_parts, .int w0_all, .int w0_top, .int w0_left, .int w0_right])), (a_path, .inl (cyI, 5, .inl u3)), (a_firstRow, .inl (cyI, 5, .inl u4)), (b0_parts, .inl (cyI, 16, .inl w0_parts)), (a_parts, .inl (cyI, 5, .inl v_parts))])) args s 0 0 A) (F0 m 13 ls [])) ∧ (∀ (x5 : Int32) (x6 : Int32) (v_found : Int32) (v_inEach : Int32) (v_path : Nat → Int32) (v_firstRow : Nat → Int32) (H : Heap) (locs : List Loc) (ls : Array Slot), wp_X1_follow (q_X1_follow d) v_length v_lookedFrom w0_w w0_h w0_all w0_top w0_left w0_right w0_parts v_parts p1 p2 p3 Q n 30 x5 x6 v_found v_inEach v_path v_firstRow → va_P (dC, dI) vwCl [(a, .inr (1, [.ref a_parts, .int v_length, .ref a_path, .ref a_firstRow, .int v_found, .int v_inEach, .int v_lookedFrom])), (b0, .inr (4, [.int w0_w, .int w0_h, .ref b0_parts, .int w0_all, .int w0_top, .int w0_left, .int w0_right])), (a_path, .inl (cyI, 5, .inl v_path)), (a_firstRow, .inl (cyI, 5, .inl v_firstRow)), (b0_parts, .inl (cyI, 16, .inl w0_parts)), (a_parts, .inl (cyI, 5, .inl v_parts))] H → va_D A [(a, .inr (1, [.ref a_parts, .int v_length, .ref a_path, .ref a_firstRow, .int v_found, .int v_inEach, .int v_lookedFrom])), (b0, .inr (4, [.int w0_w, .int w0_h, .ref b0_parts, .int w0_all, .int w0_top, .int w0_left, .int w0_right])), (a_path, .inl (cyI, 5, .inl v_path)), (a_firstRow, .inl (cyI, 5, .inl v_firstRow)), (b0_parts, .inl (cyI, 16, .inl w0_parts)), (a_parts, .inl (cyI, 5, .inl v_parts))] → va_S A s.heap H locs → lv_has ls 8 [(0, .ref a), (1, .ref b0), (2, .int p1), (3, .int p2), (4, .int p3), (5, .int x5), (6, .int x6)] → W p l e { frames := 2 + (d + 1), cells := 0, slots := 0, locals := 61 + (d + 1) * 27 } s m args below meth c H locs 0 0 (MQ below (gQv4 Q (dC, dI) A (fun (u1 : Int32) (u2 : Int32) (u3 : Nat → Int32) (u4 : Nat → Int32) => [(a, .inr (1, [.ref a_parts, .int v_length, .ref a_path, .ref a_firstRow, .int u1, .int u2, .int v_lookedFrom])), (b0, .inr (4, [.int w0_w, .int w0_h, .ref b0_parts, .int w0_all, .int w0_top, .int w0_left, .int w0_right])), (a_path, .inl (cyI, 5, .inl u3)), (a_firstRow, .inl (cyI, 5, .inl u4)), (b0_parts, .inl (cyI, 16, .inl w0_parts)), (a_parts, .inl (cyI, 5, .inl v_parts))])) args s 0 0 A) (F0 m 30 ls [])) := by
  obtain ⟨hx, hb, hr, hml, hown, hts, hlocks⟩ := id C0
  have f15 := hts (.fieldLink RX1 15 "LastOchre$Came" "path" "[I") (by decide +kernel)
  have f25 := hts (.fieldLink RX1 25 "LastOchre$Came" "length" "I") (by decide +kernel)
  have f52 := hN.link (args := (args)) (w := .fieldLinkNest RX1 52 "LastOchre$Seam" "parts" "[I" "LastOchre") 4 rfl
  have f9 := hts (.fieldLink RX1 9 "LastOchre$Came" "parts" "[I") (by decide +kernel)
  intro n
  induction n with
  | zero => exact ⟨fun _ _ _ _ _ _ _ _ _ h => absurd h id, fun _ _ _ _ _ _ _ _ _ h => absurd h id⟩
  | succ n ih =>
    obtain ⟨ih13, ih30⟩ := ih
    refine ⟨?_, ?_⟩
    · intro x5 x6 v_found v_inEach v_path v_firstRow H locs ls h hP hD hS hl
      replace h : F_X1_follow_13 (q_X1_follow d) v_length v_lookedFrom w0_w w0_h w0_all w0_top w0_left w0_right w0_parts v_parts p1 p2 p3 Q (wp_X1_follow (q_X1_follow d) v_length v_lookedFrom w0_w w0_h w0_all w0_top w0_left w0_right w0_parts v_parts p1 p2 p3 Q n) x5 x6 v_found v_inEach v_path v_firstRow := h
      unfold F_X1_follow_13 at h
      refine lv_aload_n hx hb dX1_follow_13 rfl (lv_at hl 0 rfl) ?_
      refine lv_iload hx hb dX1_follow_14 (lv_at hl 1 rfl) ?_
      refine gV_v3 (As := [.int p3]) (rest := []) ⟨hx, hb, hml, hown, hts⟩ (c_X1_take l dC dI cyC cyI cyZ _ a a_parts a_path a_firstRow v_length v_found v_inEach v_lookedFrom v_path v_firstRow p3 h) (cwV 1 hts gX1_follow_X1_take rfl rfl rfl hdV_X1_take ⟨by show 1 + 1 ≤ 2 + (d + 1); omega, by show 8 + (2 + 11) + 40 ≤ 61 + (d + 1) * 27; omega⟩) hK hN hP hD hS hA [0, 2, 3] (by decide) rfl (ci := 1) rfl rfl rfl hl.1 rfl (Nat.le_of_ble_eq_true rfl) dX1_follow_16 ⟨Nat.zero_le _, Nat.zero_le _⟩ (wr := [(b0, .inr (4, [.int w0_w, .int w0_h, .ref b0_parts, .int w0_all, .int w0_top, .int w0_left, .int w0_right])), (b0_parts, .inl (cyI, 16, .inl w0_parts)), (a_parts, .inl (cyI, 5, .inl v_parts))]) [1, 4, 5] rfl (by decide) (by decide) (fun u_4 u_5 u_6 H locs h hP hD hS => ?_)
      replace hP : va_P (dC, dI) vwCl [(b0, .inr (4, [.int w0_w, .int w0_h, .ref b0_parts, .int w0_all, .int w0_top, .int w0_left, .int w0_right])), (b0_parts, .inl (cyI, 16, .inl w0_parts)), (a_parts, .inl (cyI, 5, .inl v_parts)), (a, .inr (1, [.ref a_parts, .int v_length, .ref a_path, .ref a_firstRow, .int u_4, .int u_5, .int v_lookedFrom])), (a_path, .inl (cyI, 5, .inl v_path)), (a_firstRow, .inl (cyI, 5, .inl u_6))] H := hP
      replace hD : va_D A [(b0, .inr (4, [.int w0_w, .int w0_h, .ref b0_parts, .int w0_all, .int w0_top, .int w0_left, .int w0_right])), (b0_parts, .inl (cyI, 16, .inl w0_parts)), (a_parts, .inl (cyI, 5, .inl v_parts)), (a, .inr (1, [.ref a_parts, .int v_length, .ref a_path, .ref a_firstRow, .int u_4, .int u_5, .int v_lookedFrom])), (a_path, .inl (cyI, 5, .inl v_path)), (a_firstRow, .inl (cyI, 5, .inl u_6))] := hD
      exact grv4 hx hb hr hlocks h (hP.sub (ws' := [(a, .inr (1, [.ref a_parts, .int v_length, .ref a_path, .ref a_firstRow, .int u_4, .int u_5, .int v_lookedFrom])), (b0, .inr (4, [.int w0_w, .int w0_h, .ref b0_parts, .int w0_all, .int w0_top, .int w0_left, .int w0_right])), (a_path, .inl (cyI, 5, .inl v_path)), (a_firstRow, .inl (cyI, 5, .inl u_6)), (b0_parts, .inl (cyI, 16, .inl w0_parts)), (a_parts, .inl (cyI, 5, .inl v_parts))]) [3, 0, 4, 5, 1, 2] rfl) (hD.sub (ws' := [(a, .inr (1, [.ref a_parts, .int v_length, .ref a_path, .ref a_firstRow, .int u_4, .int u_5, .int v_lookedFrom])), (b0, .inr (4, [.int w0_w, .int w0_h, .ref b0_parts, .int w0_all, .int w0_top, .int w0_left, .int w0_right])), (a_path, .inl (cyI, 5, .inl v_path)), (a_firstRow, .inl (cyI, 5, .inl u_6)), (b0_parts, .inl (cyI, 16, .inl w0_parts)), (a_parts, .inl (cyI, 5, .inl v_parts))]) [3, 0, 4, 5, 1, 2] (by decide) rfl) hS dX1_follow_19
    · intro x5 x6 v_found v_inEach v_path v_firstRow H locs ls h hP hD hS hl
      replace h : F_X1_follow_30 (q_X1_follow d) v_length v_lookedFrom w0_w w0_h w0_all w0_top w0_left w0_right w0_parts v_parts p1 p2 p3 Q (wp_X1_follow (q_X1_follow d) v_length v_lookedFrom w0_w w0_h w0_all w0_top w0_left w0_right w0_parts v_parts p1 p2 p3 Q n) x5 x6 v_found v_inEach v_path v_firstRow := h
      unfold F_X1_follow_30 at h
      refine lv_iload hx hb dX1_follow_30 (lv_at hl 6 rfl) ?_
      refine lv_aload_n hx hb dX1_follow_32 rfl (lv_at hl 1 rfl) ?_
      refine gV_i0 (As := []) (rest := [.int x6]) ⟨hx, hb, hml, hown, hts⟩ (c_X4_cells l dC dI cyC cyI cyZ _ b0 b0_parts w0_w w0_h w0_all w0_top w0_left w0_right h) (cwV 0 hts gX1_follow_X4_cells rfl rfl rfl hdV_X4_cells ⟨by show 0 + 1 ≤ 2 + (d + 1); omega, by show 8 + (1 + 11) + 0 ≤ 61 + (d + 1) * 27; omega⟩) hK hN hP hD hS hA [1] (by decide) rfl (ci := 4) rfl rfl rfl hl.1 rfl (Nat.le_of_ble_eq_true rfl) dX1_follow_33 ⟨Nat.zero_le _, Nat.zero_le _⟩ (fun r_7 H locs h hP hS => ?_)
      refine lv_icmp_ge (tgt := 107) hx hb dX1_follow_36 (by decide) (fun c_8 => ?_) (fun c_8 => ?_)
      · replace h := h.1 c_8
        exact grv4 hx hb hr hlocks h hP hD hS dX1_follow_107
      · replace h := h.2 c_8
        refine lv_iload hx hb dX1_follow_39 (lv_at hl 6 rfl) ?_
        refine lv_bipush (v := 16) hx hb dX1_follow_41 (by decide) ?_
        refine lv_icmp_ge (tgt := 107) hx hb dX1_follow_43 (by decide) (fun c_9 => ?_) (fun c_9 => ?_)
        · replace h := h.1 c_9
          exact grv4 hx hb hr hlocks h hP hD hS dX1_follow_107
        · replace h := h.2 c_9
          refine lv_iconst (v := 1) hx hb dX1_follow_46 (by decide) ?_
          refine lv_iload hx hb dX1_follow_47 (lv_at hl 6 rfl) ?_
          refine lv_ishl hx hb dX1_follow_49 ?_
          refine lv_topi (fun x7_10 e_11 => ?_)
          replace h := h x7_10 e_11
          refine lv_istore (lv' := [(7, .int x7_10), (0, .ref a), (1, .ref b0), (2, .int p1), (3, .int p2), (4, .int p3), (5, .int x5), (6, .int x6)]) hx hb dX1_follow_50 hl (by decide) rfl (fun ls hl => ?_)
          refine lv_iload hx hb dX1_follow_52 (lv_at hl 6 rfl) ?_
          refine lv_iload hx hb dX1_follow_54 (lv_at hl 0 rfl) ?_
          refine lv_iand hx hb dX1_follow_56 ?_
          refine lv_if_eq (tgt := 101) hx hb dX1_follow_57 (by decide) (fun c_12 => ?_) (fun c_12 => ?_)
          · replace h := h.1 c_12
            obtain ⟨x6_13, e_14⟩ : ∃ y : Int32, y = (x6 + (1 : Int32)) := ⟨_, rfl⟩
            replace h := h x6_13 e_14
            refine lv_iinc (v := x6_13) (lv' := [(6, .int x6_13), (7, .int x7_10), (0, .ref a), (1, .ref b0), (2, .int p1), (3, .int p2), (4, .int p3), (5, .int x5)]) hx hb dX1_follow_101 hl (k := 7) rfl (by rw [e_14]; rfl) (by decide) rfl (fun ls hl => ?_)
            refine lv_goto (tgt := 30) hx hb dX1_follow_104 (by decide) ?_
            exact ih30 x5 x6_13 v_found v_inEach v_path v_firstRow _ _ _ h hP hD hS (lv_sub hl [2, 3, 4, 5, 6, 7, 0] rfl)
          · replace h := h.2 c_12
            refine lv_aload_n hx hb dX1_follow_60 rfl (lv_at hl 2 rfl) ?_
            refine va_getN (host := "LastOchre") (D := (dC, dI)) (ci := 4) (v := .ref b0_parts) (C := RX4) (T := TX4) (N := 7) hx hb hts iwX1_follow_X4 hown hK hP 1 rfl rfl 2 (by decide) f52 (fun _ h9 => h9) rfl dX1_follow_61 ?_
            refine lv_iload hx hb dX1_follow_64 (lv_at hl 7 rfl) ?_
            have g_15 := h.1
            replace h := h.2
            refine va_iald hx hb hK hP 4 0 rfl rfl g_15 dX1_follow_66 ?_
            refine lv_aload_n hx hb dX1_follow_67 rfl (lv_at hl 1 rfl) ?_
            refine va_get (D := (dC, dI)) (ci := 1) (v := .ref a_parts) (C := RX1) (T := TX1) (N := 7) hx hb hts iwX1_follow_X1 hown hK hP 0 rfl rfl 0 (by decide) f9 (fun _ h9 => h9) rfl dX1_follow_68 ?_
            refine lv_iload_n hx hb dX1_follow_71 rfl (lv_at hl 3 rfl) ?_
            have g_16 := h.1
            replace h := h.2
            refine va_iald hx hb hK hP 5 0 rfl rfl g_16 dX1_follow_72 ?_
            refine lv_icmp_ne (tgt := 101) hx hb dX1_follow_73 (by decide) (fun c_17 => ?_) (fun c_17 => ?_)
            · replace h := h.1 c_17
              obtain ⟨x6_18, e_19⟩ : ∃ y : Int32, y = (x6 + (1 : Int32)) := ⟨_, rfl⟩
              replace h := h x6_18 e_19
              refine lv_iinc (v := x6_18) (lv' := [(6, .int x6_18), (7, .int x7_10), (0, .ref a), (1, .ref b0), (2, .int p1), (3, .int p2), (4, .int p3), (5, .int x5)]) hx hb dX1_follow_101 hl (k := 7) rfl (by rw [e_19]; rfl) (by decide) rfl (fun ls hl => ?_)
              refine lv_goto (tgt := 30) hx hb dX1_follow_104 (by decide) ?_
              exact ih30 x5 x6_18 v_found v_inEach v_path v_firstRow _ _ _ h hP hD hS (lv_sub hl [2, 3, 4, 5, 6, 7, 0] rfl)
            · replace h := h.2 c_17
              refine lv_aload_n hx hb dX1_follow_76 rfl (lv_at hl 1 rfl) ?_
              refine va_get (D := (dC, dI)) (ci := 1) (v := .ref a_path) (C := RX1) (T := TX1) (N := 7) hx hb hts iwX1_follow_X1 hown hK hP 0 rfl rfl 2 (by decide) f15 (fun _ h9 => h9) rfl dX1_follow_77 ?_
              refine lv_iload_n hx hb dX1_follow_80 rfl (lv_at hl 3 rfl) ?_
              refine lv_iload hx hb dX1_follow_81 (lv_at hl 7 rfl) ?_
              have g_20 := h.1
              replace h := h.2
              refine va_iast hx hb hK hP hD hS 2 0 rfl rfl g_20 dX1_follow_83 (fun H locs hP hD hS => ?_)
              obtain ⟨f_21, e_22⟩ : ∃ y : Nat → Int32, y = upd v_path (p1).toNatClampNeg x6 := ⟨_, rfl⟩
              replace h := h f_21 e_22
              replace hP : va_P (dC, dI) vwCl [(a, .inr (1, [.ref a_parts, .int v_length, .ref a_path, .ref a_firstRow, .int v_found, .int v_inEach, .int v_lookedFrom])), (b0, .inr (4, [.int w0_w, .int w0_h, .ref b0_parts, .int w0_all, .int w0_top, .int w0_left, .int w0_right])), (a_path, .inl (cyI, 5, .inl f_21)), (a_firstRow, .inl (cyI, 5, .inl v_firstRow)), (b0_parts, .inl (cyI, 16, .inl w0_parts)), (a_parts, .inl (cyI, 5, .inl v_parts))] H := by rw [e_22]; exact hP
              replace hD : va_D A [(a, .inr (1, [.ref a_parts, .int v_length, .ref a_path, .ref a_firstRow, .int v_found, .int v_inEach, .int v_lookedFrom])), (b0, .inr (4, [.int w0_w, .int w0_h, .ref b0_parts, .int w0_all, .int w0_top, .int w0_left, .int w0_right])), (a_path, .inl (cyI, 5, .inl f_21)), (a_firstRow, .inl (cyI, 5, .inl v_firstRow)), (b0_parts, .inl (cyI, 16, .inl w0_parts)), (a_parts, .inl (cyI, 5, .inl v_parts))] := by rw [e_22]; exact hD
              refine lv_aload_n hx hb dX1_follow_84 rfl (lv_at hl 1 rfl) ?_
              refine lv_aload_n hx hb dX1_follow_85 rfl (lv_at hl 2 rfl) ?_
              refine lv_iload_n hx hb dX1_follow_86 rfl (lv_at hl 3 rfl) ?_
              refine lv_iconst (v := 1) hx hb dX1_follow_87 (by decide) ?_
              refine lv_iadd hx hb dX1_follow_88 ?_
              refine lv_iload_n hx hb dX1_follow_89 rfl (lv_at hl 4 rfl) ?_
              refine lv_iload hx hb dX1_follow_90 (lv_at hl 0 rfl) ?_
              refine lv_ior hx hb dX1_follow_92 ?_
              refine lv_iload hx hb dX1_follow_93 (lv_at hl 5 rfl) ?_
              refine lv_iload hx hb dX1_follow_95 (lv_at hl 0 rfl) ?_
              refine lv_ior hx hb dX1_follow_97 ?_
              refine gV_v4 (As := [.ref b0, .int (p1 + (1 : Int32)), .int (p2 ||| x7_10), .int (p3 ||| x7_10)]) (rest := []) ⟨hx, hb, hml, hown, hts⟩ (hrec _ a a_parts a_path a_firstRow b0 b0_parts v_length v_found v_inEach v_lookedFrom w0_w w0_h w0_all w0_top w0_left w0_right f_21 v_firstRow w0_parts v_parts (p1 + (1 : Int32)) (p2 ||| x7_10) (p3 ||| x7_10) _ h) (cwV 4 hts gX1_follow_X1_follow rfl rfl rfl hdV_X1_follow ⟨by show 2 + d + 1 ≤ 2 + (d + 1); omega, by show 8 + (8 + 11) + (61 + d * 27) ≤ 61 + (d + 1) * 27; omega⟩) hK hN hP hD hS hA [0, 1, 2, 3, 4, 5] (by decide) rfl (ci := 1) rfl rfl rfl hl.1 rfl (Nat.le_of_ble_eq_true rfl) dX1_follow_98 ⟨Nat.zero_le _, Nat.zero_le _⟩ (wr := []) [] rfl (by decide) (by decide) (fun u_23 u_24 u_25 u_26 H locs h hP hD hS => ?_)
              replace hP : va_P (dC, dI) vwCl [(a, .inr (1, [.ref a_parts, .int v_length, .ref a_path, .ref a_firstRow, .int u_23, .int u_24, .int v_lookedFrom])), (b0, .inr (4, [.int w0_w, .int w0_h, .ref b0_parts, .int w0_all, .int w0_top, .int w0_left, .int w0_right])), (a_path, .inl (cyI, 5, .inl u_25)), (a_firstRow, .inl (cyI, 5, .inl u_26)), (b0_parts, .inl (cyI, 16, .inl w0_parts)), (a_parts, .inl (cyI, 5, .inl v_parts))] H := hP
              replace hD : va_D A [(a, .inr (1, [.ref a_parts, .int v_length, .ref a_path, .ref a_firstRow, .int u_23, .int u_24, .int v_lookedFrom])), (b0, .inr (4, [.int w0_w, .int w0_h, .ref b0_parts, .int w0_all, .int w0_top, .int w0_left, .int w0_right])), (a_path, .inl (cyI, 5, .inl u_25)), (a_firstRow, .inl (cyI, 5, .inl u_26)), (b0_parts, .inl (cyI, 16, .inl w0_parts)), (a_parts, .inl (cyI, 5, .inl v_parts))] := hD
              obtain ⟨x6_27, e_28⟩ : ∃ y : Int32, y = (x6 + (1 : Int32)) := ⟨_, rfl⟩
              replace h := h x6_27 e_28
              refine lv_iinc (v := x6_27) (lv' := [(6, .int x6_27), (7, .int x7_10), (0, .ref a), (1, .ref b0), (2, .int p1), (3, .int p2), (4, .int p3), (5, .int x5)]) hx hb dX1_follow_101 hl (k := 7) rfl (by rw [e_28]; rfl) (by decide) rfl (fun ls hl => ?_)
              refine lv_goto (tgt := 30) hx hb dX1_follow_104 (by decide) ?_
              exact ih30 x5 x6_27 u_23 u_24 u_25 u_26 _ _ _ h hP hD hS (lv_sub hl [2, 3, 4, 5, 6, 7, 0] rfl)
set_option maxHeartbeats 4000000 in
set_option maxRecDepth 100000 in
theorem c_X1_follow (l : Launch) (dC : Nat → ClassId) (dI : Nat → Nat → Nat) (cyC cyI cyZ : ClassId) : ∀ (d : Nat) (sz : Nat) (a a_parts a_path a_firstRow b0 b0_parts : Nat) (v_length : Int32) (v_found : Int32) (v_inEach : Int32) (v_lookedFrom : Int32) (w0_w : Int32) (w0_h : Int32) (w0_all : Int32) (w0_top : Int32) (w0_left : Int32) (w0_right : Int32) (v_path : Nat → Int32) (v_firstRow : Nat → Int32) (w0_parts : Nat → Int32) (v_parts : Nat → Int32) (p1 : Int32) (p2 : Int32) (p3 : Int32) (Q : Int32 → Int32 → (Nat → Int32) → (Nat → Int32) → Prop), q_X1_follow d v_length v_found v_inEach v_lookedFrom w0_w w0_h w0_all w0_top w0_left w0_right v_path v_firstRow w0_parts v_parts p1 p2 p3 Q → Met l yX1_follow wsX1_follow ({ frames := 2 + d, cells := 0, slots := 0, locals := 61 + d * 27 }) (gPc [.ref a, .ref b0, .int p1, .int p2, .int p3] (dC, dI) (gTy cyC cyI cyZ) sz [(a, .inr (1, [.ref a_parts, .int v_length, .ref a_path, .ref a_firstRow, .int v_found, .int v_inEach, .int v_lookedFrom])), (b0, .inr (4, [.int w0_w, .int w0_h, .ref b0_parts, .int w0_all, .int w0_top, .int w0_left, .int w0_right])), (a_path, .inl (cyI, 5, .inl v_path)), (a_firstRow, .inl (cyI, 5, .inl v_firstRow)), (b0_parts, .inl (cyI, 16, .inl w0_parts)), (a_parts, .inl (cyI, 5, .inl v_parts))]) (gQv4 Q (dC, dI) (va_A [(a, .inr (1, [.ref a_parts, .int v_length, .ref a_path, .ref a_firstRow, .int v_found, .int v_inEach, .int v_lookedFrom])), (b0, .inr (4, [.int w0_w, .int w0_h, .ref b0_parts, .int w0_all, .int w0_top, .int w0_left, .int w0_right])), (a_path, .inl (cyI, 5, .inl v_path)), (a_firstRow, .inl (cyI, 5, .inl v_firstRow)), (b0_parts, .inl (cyI, 16, .inl w0_parts)), (a_parts, .inl (cyI, 5, .inl v_parts))] sz) (fun (u1 : Int32) (u2 : Int32) (u3 : Nat → Int32) (u4 : Nat → Int32) => [(a, .inr (1, [.ref a_parts, .int v_length, .ref a_path, .ref a_firstRow, .int u1, .int u2, .int v_lookedFrom])), (b0, .inr (4, [.int w0_w, .int w0_h, .ref b0_parts, .int w0_all, .int w0_top, .int w0_left, .int w0_right])), (a_path, .inl (cyI, 5, .inl u3)), (a_firstRow, .inl (cyI, 5, .inl u4)), (b0_parts, .inl (cyI, 16, .inl w0_parts)), (a_parts, .inl (cyI, 5, .inl v_parts))])) 0 0 (va_A [(a, .inr (1, [.ref a_parts, .int v_length, .ref a_path, .ref a_firstRow, .int v_found, .int v_inEach, .int v_lookedFrom])), (b0, .inr (4, [.int w0_w, .int w0_h, .ref b0_parts, .int w0_all, .int w0_top, .int w0_left, .int w0_right])), (a_path, .inl (cyI, 5, .inl v_path)), (a_firstRow, .inl (cyI, 5, .inl v_firstRow)), (b0_parts, .inl (cyI, 16, .inl w0_parts)), (a_parts, .inl (cyI, 5, .inl v_parts))] sz) := by
  intro d
  induction d with
  | zero => intro _ _ _ _ _ _ _ _ _ _ _ _ _ _ _ _ _ _ _ _ _ _ _ _ _ h; exact absurd h id
  | succ d hrec =>
  intro sz a a_parts a_path a_firstRow b0 b0_parts v_length v_found v_inEach v_lookedFrom w0_w w0_h w0_all w0_top w0_left w0_right v_path v_firstRow w0_parts v_parts p1 p2 p3 Q h
  refine gMet (cc := cX1_follow) (maxL := 8) (ret := none) (own := RX1) (fun A => gQv4 Q (dC, dI) A (fun (u1 : Int32) (u2 : Int32) (u3 : Nat → Int32) (u4 : Nat → Int32) => [(a, .inr (1, [.ref a_parts, .int v_length, .ref a_path, .ref a_firstRow, .int u1, .int u2, .int v_lookedFrom])), (b0, .inr (4, [.int w0_w, .int w0_h, .ref b0_parts, .int w0_all, .int w0_top, .int w0_left, .int w0_right])), (a_path, .inl (cyI, 5, .inl u3)), (a_firstRow, .inl (cyI, 5, .inl u4)), (b0_parts, .inl (cyI, 16, .inl w0_parts)), (a_parts, .inl (cyI, 5, .inl v_parts))])) (by decide) rfl rfl (Nat.le_of_ble_eq_true rfl) ?_
  intro p e s m below meth c A ls C0 _ hK hN hP hD hA hl
  obtain ⟨hx, hb, hr, hml, hown, hts, hlocks⟩ := id C0
  have f15 := hts (.fieldLink RX1 15 "LastOchre$Came" "path" "[I") (by decide +kernel)
  have f25 := hts (.fieldLink RX1 25 "LastOchre$Came" "length" "I") (by decide +kernel)
  have f52 := hN.link (args := ([.ref a, .ref b0, .int p1, .int p2, .int p3].toArray)) (w := .fieldLinkNest RX1 52 "LastOchre$Seam" "parts" "[I" "LastOchre") 4 rfl
  have f9 := hts (.fieldLink RX1 9 "LastOchre$Came" "parts" "[I") (by decide +kernel)
  have hS : va_S A s.heap s.heap [] := va_S.rf
  replace hl : lv_has ls 8 [(0, .ref a), (1, .ref b0), (2, .int p1), (3, .int p2), (4, .int p3)] := hl
  replace h : ∃ n, F_X1_follow_e (q_X1_follow d) v_length v_lookedFrom w0_w w0_h w0_all w0_top w0_left w0_right w0_parts v_parts p1 p2 p3 Q (wp_X1_follow (q_X1_follow d) v_length v_lookedFrom w0_w w0_h w0_all w0_top w0_left w0_right w0_parts v_parts p1 p2 p3 Q n) v_found v_inEach v_path v_firstRow := h
  obtain ⟨n, h⟩ := h
  obtain ⟨ih13, ih30⟩ := w_X1_follow (l := l) (e := e) (below := below) dC dI cyC cyI cyZ a a_parts a_path a_firstRow b0 b0_parts v_length v_lookedFrom w0_w w0_h w0_all w0_top w0_left w0_right w0_parts v_parts p1 p2 p3 Q d hrec C0 hK hN hA n
  unfold F_X1_follow_e at h
  refine lv_iload_n hx hb dX1_follow_0 rfl (lv_at hl 2 rfl) ?_
  refine lv_aload_n hx hb dX1_follow_1 rfl (lv_at hl 0 rfl) ?_
  refine va_get (D := (dC, dI)) (ci := 1) (v := .int v_length) (C := RX1) (T := TX1) (N := 7) hx hb hts iwX1_follow_X1 hown hK hP 0 rfl rfl 1 (by decide) f25 (fun _ h9 => h9) rfl dX1_follow_2 ?_
  refine lv_icmp_ge (tgt := 13) hx hb dX1_follow_5 (by decide) (fun c_1 => ?_) (fun c_1 => ?_)
  · replace h := h.1 c_1
    exact ih13 0 0 v_found v_inEach v_path v_firstRow _ _ _ h hP hD hS (lv_sub hl [0, 4] rfl)
  · replace h := h.2 c_1
    refine lv_iload_n hx hb dX1_follow_8 rfl (lv_at hl 2 rfl) ?_
    refine lv_iconst (v := 5) hx hb dX1_follow_9 (by decide) ?_
    refine lv_icmp_lt (tgt := 20) hx hb dX1_follow_10 (by decide) (fun c_2 => ?_) (fun c_2 => ?_)
    · replace h := h.1 c_2
      refine lv_aload_n hx hb dX1_follow_20 rfl (lv_at hl 1 rfl) ?_
      refine lv_iload_n hx hb dX1_follow_21 rfl (lv_at hl 3 rfl) ?_
      refine gV_i0 (As := [.int p2]) (rest := []) ⟨hx, hb, hml, hown, hts⟩ (c_X4_openFrom l dC dI cyC cyI cyZ _ b0 b0_parts w0_w w0_h w0_all w0_top w0_left w0_right p2 h) (cwV 1 hts gX1_follow_X4_openFrom rfl rfl rfl hdV_X4_openFrom ⟨by show 1 + 1 ≤ 2 + (d + 1); omega, by show 8 + (2 + 11) + 22 ≤ 61 + (d + 1) * 27; omega⟩) hK hN hP hD hS hA [1] (by decide) rfl (ci := 4) rfl rfl rfl hl.1 rfl (Nat.le_of_ble_eq_true rfl) dX1_follow_22 ⟨Nat.zero_le _, Nat.zero_le _⟩ (fun r_3 H locs h hP hS => ?_)
      refine lv_istore (lv' := [(5, .int r_3), (0, .ref a), (1, .ref b0), (2, .int p1), (3, .int p2), (4, .int p3)]) hx hb dX1_follow_25 hl (by decide) rfl (fun ls hl => ?_)
      refine lv_iconst (v := 0) hx hb dX1_follow_27 (by decide) ?_
      refine lv_istore (lv' := [(6, .int (0 : Int32)), (5, .int r_3), (0, .ref a), (1, .ref b0), (2, .int p1), (3, .int p2), (4, .int p3)]) hx hb dX1_follow_28 hl (by decide) rfl (fun ls hl => ?_)
      exact ih30 r_3 (0 : Int32) v_found v_inEach v_path v_firstRow _ _ _ h hP hD hS (lv_sub hl [2, 3, 4, 5, 6, 1, 0] rfl)
    · replace h := h.2 c_2
      exact ih13 0 0 v_found v_inEach v_path v_firstRow _ _ _ h hP hD hS (lv_sub hl [0, 4] rfl)

def F_X1_lookFrom_e (v_length : Int32) (w0_w : Int32) (w0_h : Int32) (w0_all : Int32) (w0_top : Int32) (w0_left : Int32) (w0_right : Int32) (w0_parts : Nat → Int32) (v_parts : Nat → Int32) (p1 : Int32) (Q : Int32 → Int32 → Int32 → (Nat → Int32) → (Nat → Int32) → Prop) (v_found : Int32) (v_inEach : Int32) (v_lookedFrom : Int32) (v_path : Nat → Int32) (v_firstRow : Nat → Int32) : Prop :=
  (¬ v_lookedFrom = p1 → (q_X1_follow 7 v_length (0 : Int32) (0 : Int32) p1 w0_w w0_h w0_all w0_top w0_left w0_right v_path v_firstRow w0_parts v_parts (0 : Int32) p1 (0 : Int32) (fun (u_2 : Int32) (u_3 : Int32) (u_4 : Nat → Int32) (u_5 : Nat → Int32) => Q u_2 u_3 p1 u_4 u_5))) ∧ (v_lookedFrom = p1 → (Q v_found v_inEach v_lookedFrom v_path v_firstRow))
def q_X1_lookFrom (v_length : Int32) (v_found : Int32) (v_inEach : Int32) (v_lookedFrom : Int32) (w0_w : Int32) (w0_h : Int32) (w0_all : Int32) (w0_top : Int32) (w0_left : Int32) (w0_right : Int32) (v_path : Nat → Int32) (v_firstRow : Nat → Int32) (w0_parts : Nat → Int32) (v_parts : Nat → Int32) (p1 : Int32) (Q : Int32 → Int32 → Int32 → (Nat → Int32) → (Nat → Int32) → Prop) : Prop := F_X1_lookFrom_e v_length w0_w w0_h w0_all w0_top w0_left w0_right w0_parts v_parts p1 Q v_found v_inEach v_lookedFrom v_path v_firstRow
theorem iwX1_lookFrom_X1 : ∀ w ∈ wsX10, w ∈ wsX1_lookFrom := by decide +kernel
theorem hdV_X1_lookFrom : yX1_lookFrom.cls = RX1 ∧ yX1_lookFrom.cls ≠ "java/lang/invoke/MethodHandle" ∧ yX1_lookFrom.cls ≠ "java/lang/invoke/VarHandle" ∧ (parseMethodDescriptor yX1_lookFrom.desc).map (fun d => d.parameters.length) = some 2 := by decide +kernel
set_option maxHeartbeats 4000000 in
set_option maxRecDepth 100000 in
theorem c_X1_lookFrom (l : Launch) (dC : Nat → ClassId) (dI : Nat → Nat → Nat) (cyC cyI cyZ : ClassId) (sz : Nat) (a a_parts a_path a_firstRow b0 b0_parts : Nat) (v_length : Int32) (v_found : Int32) (v_inEach : Int32) (v_lookedFrom : Int32) (w0_w : Int32) (w0_h : Int32) (w0_all : Int32) (w0_top : Int32) (w0_left : Int32) (w0_right : Int32) (v_path : Nat → Int32) (v_firstRow : Nat → Int32) (w0_parts : Nat → Int32) (v_parts : Nat → Int32) (p1 : Int32) {Q : Int32 → Int32 → Int32 → (Nat → Int32) → (Nat → Int32) → Prop} (h : q_X1_lookFrom v_length v_found v_inEach v_lookedFrom w0_w w0_h w0_all w0_top w0_left w0_right v_path v_firstRow w0_parts v_parts p1 Q) : Met l yX1_lookFrom wsX1_lookFrom ({ frames := 10, cells := 0, slots := 0, locals := 277 }) (gPc [.ref a, .ref b0, .int p1] (dC, dI) (gTy cyC cyI cyZ) sz [(a, .inr (1, [.ref a_parts, .int v_length, .ref a_path, .ref a_firstRow, .int v_found, .int v_inEach, .int v_lookedFrom])), (b0, .inr (4, [.int w0_w, .int w0_h, .ref b0_parts, .int w0_all, .int w0_top, .int w0_left, .int w0_right])), (a_path, .inl (cyI, 5, .inl v_path)), (a_firstRow, .inl (cyI, 5, .inl v_firstRow)), (b0_parts, .inl (cyI, 16, .inl w0_parts)), (a_parts, .inl (cyI, 5, .inl v_parts))]) (gQv5 Q (dC, dI) (va_A [(a, .inr (1, [.ref a_parts, .int v_length, .ref a_path, .ref a_firstRow, .int v_found, .int v_inEach, .int v_lookedFrom])), (b0, .inr (4, [.int w0_w, .int w0_h, .ref b0_parts, .int w0_all, .int w0_top, .int w0_left, .int w0_right])), (a_path, .inl (cyI, 5, .inl v_path)), (a_firstRow, .inl (cyI, 5, .inl v_firstRow)), (b0_parts, .inl (cyI, 16, .inl w0_parts)), (a_parts, .inl (cyI, 5, .inl v_parts))] sz) (fun (u1 : Int32) (u2 : Int32) (u3 : Int32) (u4 : Nat → Int32) (u5 : Nat → Int32) => [(a, .inr (1, [.ref a_parts, .int v_length, .ref a_path, .ref a_firstRow, .int u1, .int u2, .int u3])), (b0, .inr (4, [.int w0_w, .int w0_h, .ref b0_parts, .int w0_all, .int w0_top, .int w0_left, .int w0_right])), (a_path, .inl (cyI, 5, .inl u4)), (a_firstRow, .inl (cyI, 5, .inl u5)), (b0_parts, .inl (cyI, 16, .inl w0_parts)), (a_parts, .inl (cyI, 5, .inl v_parts))])) 0 0 (va_A [(a, .inr (1, [.ref a_parts, .int v_length, .ref a_path, .ref a_firstRow, .int v_found, .int v_inEach, .int v_lookedFrom])), (b0, .inr (4, [.int w0_w, .int w0_h, .ref b0_parts, .int w0_all, .int w0_top, .int w0_left, .int w0_right])), (a_path, .inl (cyI, 5, .inl v_path)), (a_firstRow, .inl (cyI, 5, .inl v_firstRow)), (b0_parts, .inl (cyI, 16, .inl w0_parts)), (a_parts, .inl (cyI, 5, .inl v_parts))] sz) := by
  refine gMet (cc := cX1_lookFrom) (maxL := 3) (ret := none) (own := RX1) (fun A => gQv5 Q (dC, dI) A (fun (u1 : Int32) (u2 : Int32) (u3 : Int32) (u4 : Nat → Int32) (u5 : Nat → Int32) => [(a, .inr (1, [.ref a_parts, .int v_length, .ref a_path, .ref a_firstRow, .int u1, .int u2, .int u3])), (b0, .inr (4, [.int w0_w, .int w0_h, .ref b0_parts, .int w0_all, .int w0_top, .int w0_left, .int w0_right])), (a_path, .inl (cyI, 5, .inl u4)), (a_firstRow, .inl (cyI, 5, .inl u5)), (b0_parts, .inl (cyI, 16, .inl w0_parts)), (a_parts, .inl (cyI, 5, .inl v_parts))])) (by decide) rfl rfl (Nat.le_of_ble_eq_true rfl) ?_
  intro p e s m below meth c A ls C0 _ hK hN hP hD hA hl
  obtain ⟨hx, hb, hr, hml, hown, hts, hlocks⟩ := id C0
  have f21 := hts (.fieldLink RX1 21 "LastOchre$Came" "lookedFrom" "I") (by decide +kernel)
  have f28 := hts (.fieldLink RX1 28 "LastOchre$Came" "found" "I") (by decide +kernel)
  have f31 := hts (.fieldLink RX1 31 "LastOchre$Came" "inEach" "I") (by decide +kernel)
  have hS : va_S A s.heap s.heap [] := va_S.rf
  replace hl : lv_has ls 3 [(0, .ref a), (1, .ref b0), (2, .int p1)] := hl
  unfold q_X1_lookFrom at h
  unfold F_X1_lookFrom_e at h
  refine lv_aload_n hx hb dX1_lookFrom_0 rfl (lv_at hl 0 rfl) ?_
  refine va_get (D := (dC, dI)) (ci := 1) (v := .int v_lookedFrom) (C := RX1) (T := TX1) (N := 7) hx hb hts iwX1_lookFrom_X1 hown hK hP 0 rfl rfl 6 (by decide) f21 (fun _ h9 => h9) rfl dX1_lookFrom_1 ?_
  refine lv_iload_n hx hb dX1_lookFrom_4 rfl (lv_at hl 2 rfl) ?_
  refine lv_icmp_ne (tgt := 9) hx hb dX1_lookFrom_5 (by decide) (fun c_1 => ?_) (fun c_1 => ?_)
  · replace h := h.1 c_1
    refine lv_aload_n hx hb dX1_lookFrom_9 rfl (lv_at hl 0 rfl) ?_
    refine lv_iload_n hx hb dX1_lookFrom_10 rfl (lv_at hl 2 rfl) ?_
    refine va_put (D := (dC, dI)) (ci := 1) (v := .int p1) (ty := .int) (C := RX1) (T := TX1) (N := 7) hx hb hts iwX1_lookFrom_X1 tyX1 tyX1_ok nmX1 hown hK hP hD hS 0 rfl rfl 6 (by decide) f21 (fun _ h9 => h9) rfl (by decide +kernel) rfl rfl (Nat.le_of_ble_eq_true rfl) dX1_lookFrom_11 (fun H locs hP hD hS => ?_)
    replace hP : va_P (dC, dI) vwCl [(a, .inr (1, [.ref a_parts, .int v_length, .ref a_path, .ref a_firstRow, .int v_found, .int v_inEach, .int p1])), (b0, .inr (4, [.int w0_w, .int w0_h, .ref b0_parts, .int w0_all, .int w0_top, .int w0_left, .int w0_right])), (a_path, .inl (cyI, 5, .inl v_path)), (a_firstRow, .inl (cyI, 5, .inl v_firstRow)), (b0_parts, .inl (cyI, 16, .inl w0_parts)), (a_parts, .inl (cyI, 5, .inl v_parts))] H := hP
    replace hD : va_D A [(a, .inr (1, [.ref a_parts, .int v_length, .ref a_path, .ref a_firstRow, .int v_found, .int v_inEach, .int p1])), (b0, .inr (4, [.int w0_w, .int w0_h, .ref b0_parts, .int w0_all, .int w0_top, .int w0_left, .int w0_right])), (a_path, .inl (cyI, 5, .inl v_path)), (a_firstRow, .inl (cyI, 5, .inl v_firstRow)), (b0_parts, .inl (cyI, 16, .inl w0_parts)), (a_parts, .inl (cyI, 5, .inl v_parts))] := hD
    refine lv_aload_n hx hb dX1_lookFrom_14 rfl (lv_at hl 0 rfl) ?_
    refine lv_iconst (v := 0) hx hb dX1_lookFrom_15 (by decide) ?_
    refine va_put (D := (dC, dI)) (ci := 1) (v := .int (0 : Int32)) (ty := .int) (C := RX1) (T := TX1) (N := 7) hx hb hts iwX1_lookFrom_X1 tyX1 tyX1_ok nmX1 hown hK hP hD hS 0 rfl rfl 4 (by decide) f28 (fun _ h9 => h9) rfl (by decide +kernel) rfl rfl (Nat.le_of_ble_eq_true rfl) dX1_lookFrom_16 (fun H locs hP hD hS => ?_)
    replace hP : va_P (dC, dI) vwCl [(a, .inr (1, [.ref a_parts, .int v_length, .ref a_path, .ref a_firstRow, .int (0 : Int32), .int v_inEach, .int p1])), (b0, .inr (4, [.int w0_w, .int w0_h, .ref b0_parts, .int w0_all, .int w0_top, .int w0_left, .int w0_right])), (a_path, .inl (cyI, 5, .inl v_path)), (a_firstRow, .inl (cyI, 5, .inl v_firstRow)), (b0_parts, .inl (cyI, 16, .inl w0_parts)), (a_parts, .inl (cyI, 5, .inl v_parts))] H := hP
    replace hD : va_D A [(a, .inr (1, [.ref a_parts, .int v_length, .ref a_path, .ref a_firstRow, .int (0 : Int32), .int v_inEach, .int p1])), (b0, .inr (4, [.int w0_w, .int w0_h, .ref b0_parts, .int w0_all, .int w0_top, .int w0_left, .int w0_right])), (a_path, .inl (cyI, 5, .inl v_path)), (a_firstRow, .inl (cyI, 5, .inl v_firstRow)), (b0_parts, .inl (cyI, 16, .inl w0_parts)), (a_parts, .inl (cyI, 5, .inl v_parts))] := hD
    refine lv_aload_n hx hb dX1_lookFrom_19 rfl (lv_at hl 0 rfl) ?_
    refine lv_iconst (v := 0) hx hb dX1_lookFrom_20 (by decide) ?_
    refine va_put (D := (dC, dI)) (ci := 1) (v := .int (0 : Int32)) (ty := .int) (C := RX1) (T := TX1) (N := 7) hx hb hts iwX1_lookFrom_X1 tyX1 tyX1_ok nmX1 hown hK hP hD hS 0 rfl rfl 5 (by decide) f31 (fun _ h9 => h9) rfl (by decide +kernel) rfl rfl (Nat.le_of_ble_eq_true rfl) dX1_lookFrom_21 (fun H locs hP hD hS => ?_)
    replace hP : va_P (dC, dI) vwCl [(a, .inr (1, [.ref a_parts, .int v_length, .ref a_path, .ref a_firstRow, .int (0 : Int32), .int (0 : Int32), .int p1])), (b0, .inr (4, [.int w0_w, .int w0_h, .ref b0_parts, .int w0_all, .int w0_top, .int w0_left, .int w0_right])), (a_path, .inl (cyI, 5, .inl v_path)), (a_firstRow, .inl (cyI, 5, .inl v_firstRow)), (b0_parts, .inl (cyI, 16, .inl w0_parts)), (a_parts, .inl (cyI, 5, .inl v_parts))] H := hP
    replace hD : va_D A [(a, .inr (1, [.ref a_parts, .int v_length, .ref a_path, .ref a_firstRow, .int (0 : Int32), .int (0 : Int32), .int p1])), (b0, .inr (4, [.int w0_w, .int w0_h, .ref b0_parts, .int w0_all, .int w0_top, .int w0_left, .int w0_right])), (a_path, .inl (cyI, 5, .inl v_path)), (a_firstRow, .inl (cyI, 5, .inl v_firstRow)), (b0_parts, .inl (cyI, 16, .inl w0_parts)), (a_parts, .inl (cyI, 5, .inl v_parts))] := hD
    refine lv_aload_n hx hb dX1_lookFrom_24 rfl (lv_at hl 0 rfl) ?_
    refine lv_aload_n hx hb dX1_lookFrom_25 rfl (lv_at hl 1 rfl) ?_
    refine lv_iconst (v := 0) hx hb dX1_lookFrom_26 (by decide) ?_
    refine lv_iload_n hx hb dX1_lookFrom_27 rfl (lv_at hl 2 rfl) ?_
    refine lv_iconst (v := 0) hx hb dX1_lookFrom_28 (by decide) ?_
    refine gV_v4 (As := [.ref b0, .int (0 : Int32), .int p1, .int (0 : Int32)]) (rest := []) ⟨hx, hb, hml, hown, hts⟩ (c_X1_follow l dC dI cyC cyI cyZ 7 _ a a_parts a_path a_firstRow b0 b0_parts v_length (0 : Int32) (0 : Int32) p1 w0_w w0_h w0_all w0_top w0_left w0_right v_path v_firstRow w0_parts v_parts (0 : Int32) p1 (0 : Int32) _ h) (cwV 4 hts gX1_lookFrom_X1_follow rfl rfl rfl hdV_X1_follow ⟨Nat.le_of_ble_eq_true rfl, Nat.le_of_ble_eq_true rfl⟩) hK hN hP hD hS hA [0, 1, 2, 3, 4, 5] (by decide) rfl (ci := 1) rfl rfl rfl hl.1 rfl (Nat.le_of_ble_eq_true rfl) dX1_lookFrom_29 ⟨Nat.zero_le _, Nat.zero_le _⟩ (wr := []) [] rfl (by decide) (by decide) (fun u_2 u_3 u_4 u_5 H locs h hP hD hS => ?_)
    replace hP : va_P (dC, dI) vwCl [(a, .inr (1, [.ref a_parts, .int v_length, .ref a_path, .ref a_firstRow, .int u_2, .int u_3, .int p1])), (b0, .inr (4, [.int w0_w, .int w0_h, .ref b0_parts, .int w0_all, .int w0_top, .int w0_left, .int w0_right])), (a_path, .inl (cyI, 5, .inl u_4)), (a_firstRow, .inl (cyI, 5, .inl u_5)), (b0_parts, .inl (cyI, 16, .inl w0_parts)), (a_parts, .inl (cyI, 5, .inl v_parts))] H := hP
    replace hD : va_D A [(a, .inr (1, [.ref a_parts, .int v_length, .ref a_path, .ref a_firstRow, .int u_2, .int u_3, .int p1])), (b0, .inr (4, [.int w0_w, .int w0_h, .ref b0_parts, .int w0_all, .int w0_top, .int w0_left, .int w0_right])), (a_path, .inl (cyI, 5, .inl u_4)), (a_firstRow, .inl (cyI, 5, .inl u_5)), (b0_parts, .inl (cyI, 16, .inl w0_parts)), (a_parts, .inl (cyI, 5, .inl v_parts))] := hD
    exact grv5 hx hb hr hlocks h hP hD hS dX1_lookFrom_32
  · replace h := h.2 c_1
    exact grv5 hx hb hr hlocks h hP hD hS dX1_lookFrom_8

def F_X2_setYellow_e (p0 : Int32) (p1 : Int32) (Q : (Nat → Int32) → Prop) (v_rows : Nat → Int32) : Prop :=
  vp_in ((3 : Int32) + p0) 165 ∧ (∀ f_2 : Nat → Int32, f_2 = upd v_rows (((3 : Int32) + p0)).toNatClampNeg p1 → (Q f_2))
def q_X2_setYellow (v_rows : Nat → Int32) (p0 : Int32) (p1 : Int32) (Q : (Nat → Int32) → Prop) : Prop := F_X2_setYellow_e p0 p1 Q v_rows
theorem iwX2_setYellow_X2 : ∀ w ∈ wsX20, w ∈ wsX2_setYellow := by decide +kernel
theorem hdV_X2_setYellow : yX2_setYellow.cls = RX2 ∧ yX2_setYellow.cls ≠ "java/lang/invoke/MethodHandle" ∧ yX2_setYellow.cls ≠ "java/lang/invoke/VarHandle" ∧ (parseMethodDescriptor yX2_setYellow.desc).map (fun d => d.parameters.length) = some 2 := by decide +kernel
set_option maxHeartbeats 4000000 in
set_option maxRecDepth 100000 in
theorem c_X2_setYellow (l : Launch) (dC : Nat → ClassId) (dI : Nat → Nat → Nat) (cyC cyI cyZ : ClassId) (sz : Nat) (a a_rows : Nat) (v_known : Int32) (v_rows : Nat → Int32) (p0 : Int32) (p1 : Int32) {Q : (Nat → Int32) → Prop} (h : q_X2_setYellow v_rows p0 p1 Q) : Met l yX2_setYellow wsX2_setYellow ({ frames := 0, cells := 0, slots := 0, locals := 0 }) (gPc [.ref a, .int p0, .int p1] (dC, dI) (gTy cyC cyI cyZ) sz [(a, .inr (2, [.ref a_rows, .int v_known])), (a_rows, .inl (cyI, 165, .inl v_rows))]) (gQv1 Q (dC, dI) (va_A [(a, .inr (2, [.ref a_rows, .int v_known])), (a_rows, .inl (cyI, 165, .inl v_rows))] sz) (fun (u1 : Nat → Int32) => [(a, .inr (2, [.ref a_rows, .int v_known])), (a_rows, .inl (cyI, 165, .inl u1))])) 0 0 (va_A [(a, .inr (2, [.ref a_rows, .int v_known])), (a_rows, .inl (cyI, 165, .inl v_rows))] sz) := by
  refine gMet (cc := cX2_setYellow) (maxL := 3) (ret := none) (own := RX2) (fun A => gQv1 Q (dC, dI) A (fun (u1 : Nat → Int32) => [(a, .inr (2, [.ref a_rows, .int v_known])), (a_rows, .inl (cyI, 165, .inl u1))])) (by decide) rfl rfl (Nat.le_of_ble_eq_true rfl) ?_
  intro p e s m below meth c A ls C0 _ hK hN hP hD hA hl
  obtain ⟨hx, hb, hr, hml, hown, hts, hlocks⟩ := id C0
  have f11 := hts (.fieldLink RX2 11 "LastOchre$Course" "rows" "[I") (by decide +kernel)
  have hS : va_S A s.heap s.heap [] := va_S.rf
  replace hl : lv_has ls 3 [(0, .ref a), (1, .int p0), (2, .int p1)] := hl
  unfold q_X2_setYellow at h
  unfold F_X2_setYellow_e at h
  refine lv_aload_n hx hb dX2_setYellow_0 rfl (lv_at hl 0 rfl) ?_
  refine va_get (D := (dC, dI)) (ci := 2) (v := .ref a_rows) (C := RX2) (T := TX2) (N := 2) hx hb hts iwX2_setYellow_X2 hown hK hP 0 rfl rfl 0 (by decide) f11 (fun _ h9 => h9) rfl dX2_setYellow_1 ?_
  refine lv_iconst (v := 3) hx hb dX2_setYellow_4 (by decide) ?_
  refine lv_iload_n hx hb dX2_setYellow_5 rfl (lv_at hl 1 rfl) ?_
  refine lv_iadd hx hb dX2_setYellow_6 ?_
  refine lv_iload_n hx hb dX2_setYellow_7 rfl (lv_at hl 2 rfl) ?_
  have g_1 := h.1
  replace h := h.2
  refine va_iast hx hb hK hP hD hS 1 0 rfl rfl g_1 dX2_setYellow_8 (fun H locs hP hD hS => ?_)
  obtain ⟨f_2, e_3⟩ : ∃ y : Nat → Int32, y = upd v_rows (((3 : Int32) + p0)).toNatClampNeg p1 := ⟨_, rfl⟩
  replace h := h f_2 e_3
  replace hP : va_P (dC, dI) vwCl [(a, .inr (2, [.ref a_rows, .int v_known])), (a_rows, .inl (cyI, 165, .inl f_2))] H := by rw [e_3]; exact hP
  replace hD : va_D A [(a, .inr (2, [.ref a_rows, .int v_known])), (a_rows, .inl (cyI, 165, .inl f_2))] := by rw [e_3]; exact hD
  exact grv1 hx hb hr hlocks h hP hD hS dX2_setYellow_9

def F_X2_setWhite_e (p0 : Int32) (p1 : Int32) (Q : (Nat → Int32) → Prop) (v_rows : Nat → Int32) : Prop :=
  vp_in ((9 : Int32) + p0) 165 ∧ (∀ f_2 : Nat → Int32, f_2 = upd v_rows (((9 : Int32) + p0)).toNatClampNeg p1 → (Q f_2))
def q_X2_setWhite (v_rows : Nat → Int32) (p0 : Int32) (p1 : Int32) (Q : (Nat → Int32) → Prop) : Prop := F_X2_setWhite_e p0 p1 Q v_rows
theorem iwX2_setWhite_X2 : ∀ w ∈ wsX20, w ∈ wsX2_setWhite := by decide +kernel
theorem hdV_X2_setWhite : yX2_setWhite.cls = RX2 ∧ yX2_setWhite.cls ≠ "java/lang/invoke/MethodHandle" ∧ yX2_setWhite.cls ≠ "java/lang/invoke/VarHandle" ∧ (parseMethodDescriptor yX2_setWhite.desc).map (fun d => d.parameters.length) = some 2 := by decide +kernel
set_option maxHeartbeats 4000000 in
set_option maxRecDepth 100000 in
theorem c_X2_setWhite (l : Launch) (dC : Nat → ClassId) (dI : Nat → Nat → Nat) (cyC cyI cyZ : ClassId) (sz : Nat) (a a_rows : Nat) (v_known : Int32) (v_rows : Nat → Int32) (p0 : Int32) (p1 : Int32) {Q : (Nat → Int32) → Prop} (h : q_X2_setWhite v_rows p0 p1 Q) : Met l yX2_setWhite wsX2_setWhite ({ frames := 0, cells := 0, slots := 0, locals := 0 }) (gPc [.ref a, .int p0, .int p1] (dC, dI) (gTy cyC cyI cyZ) sz [(a, .inr (2, [.ref a_rows, .int v_known])), (a_rows, .inl (cyI, 165, .inl v_rows))]) (gQv1 Q (dC, dI) (va_A [(a, .inr (2, [.ref a_rows, .int v_known])), (a_rows, .inl (cyI, 165, .inl v_rows))] sz) (fun (u1 : Nat → Int32) => [(a, .inr (2, [.ref a_rows, .int v_known])), (a_rows, .inl (cyI, 165, .inl u1))])) 0 0 (va_A [(a, .inr (2, [.ref a_rows, .int v_known])), (a_rows, .inl (cyI, 165, .inl v_rows))] sz) := by
  refine gMet (cc := cX2_setWhite) (maxL := 3) (ret := none) (own := RX2) (fun A => gQv1 Q (dC, dI) A (fun (u1 : Nat → Int32) => [(a, .inr (2, [.ref a_rows, .int v_known])), (a_rows, .inl (cyI, 165, .inl u1))])) (by decide) rfl rfl (Nat.le_of_ble_eq_true rfl) ?_
  intro p e s m below meth c A ls C0 _ hK hN hP hD hA hl
  obtain ⟨hx, hb, hr, hml, hown, hts, hlocks⟩ := id C0
  have f11 := hts (.fieldLink RX2 11 "LastOchre$Course" "rows" "[I") (by decide +kernel)
  have hS : va_S A s.heap s.heap [] := va_S.rf
  replace hl : lv_has ls 3 [(0, .ref a), (1, .int p0), (2, .int p1)] := hl
  unfold q_X2_setWhite at h
  unfold F_X2_setWhite_e at h
  refine lv_aload_n hx hb dX2_setWhite_0 rfl (lv_at hl 0 rfl) ?_
  refine va_get (D := (dC, dI)) (ci := 2) (v := .ref a_rows) (C := RX2) (T := TX2) (N := 2) hx hb hts iwX2_setWhite_X2 hown hK hP 0 rfl rfl 0 (by decide) f11 (fun _ h9 => h9) rfl dX2_setWhite_1 ?_
  refine lv_bipush (v := 9) hx hb dX2_setWhite_4 (by decide) ?_
  refine lv_iload_n hx hb dX2_setWhite_6 rfl (lv_at hl 1 rfl) ?_
  refine lv_iadd hx hb dX2_setWhite_7 ?_
  refine lv_iload_n hx hb dX2_setWhite_8 rfl (lv_at hl 2 rfl) ?_
  have g_1 := h.1
  replace h := h.2
  refine va_iast hx hb hK hP hD hS 1 0 rfl rfl g_1 dX2_setWhite_9 (fun H locs hP hD hS => ?_)
  obtain ⟨f_2, e_3⟩ : ∃ y : Nat → Int32, y = upd v_rows (((9 : Int32) + p0)).toNatClampNeg p1 := ⟨_, rfl⟩
  replace h := h f_2 e_3
  replace hP : va_P (dC, dI) vwCl [(a, .inr (2, [.ref a_rows, .int v_known])), (a_rows, .inl (cyI, 165, .inl f_2))] H := by rw [e_3]; exact hP
  replace hD : va_D A [(a, .inr (2, [.ref a_rows, .int v_known])), (a_rows, .inl (cyI, 165, .inl f_2))] := by rw [e_3]; exact hD
  exact grv1 hx hb hr hlocks h hP hD hS dX2_setWhite_10

def F_X2_begin_e (w0_things : Int32) (w0_yellow : Nat → Int32) (w0_white : Nat → Int32) (Q : Int32 → (Nat → Int32) → Prop) (rec : Nat → Int32 → Int32 → (Nat → Int32) → Prop) (v_known : Int32) (v_rows : Nat → Int32) : Prop :=
  ∀ f_1 : Nat → Int32, f_1 = upd v_rows ((0 : Int32)).toNatClampNeg (0 : Int32) → (∀ f_3 : Nat → Int32, f_3 = upd f_1 ((1 : Int32)).toNatClampNeg (0 : Int32) → (∀ f_5 : Nat → Int32, f_5 = upd f_3 ((2 : Int32)).toNatClampNeg (0 : Int32) → (rec 23 (0 : Int32) v_known f_5)))
def F_X2_begin_23 (w0_things : Int32) (w0_yellow : Nat → Int32) (w0_white : Nat → Int32) (Q : Int32 → (Nat → Int32) → Prop) (rec : Nat → Int32 → Int32 → (Nat → Int32) → Prop) (x2 : Int32) (v_known : Int32) (v_rows : Nat → Int32) : Prop :=
  (w0_things ≤ x2 → (Q (0 : Int32) v_rows)) ∧ (¬ w0_things ≤ x2 → (vp_in x2 6 ∧ (q_X2_setYellow v_rows x2 (w0_yellow (x2).toNatClampNeg) (fun (u_9 : Nat → Int32) => vp_in x2 6 ∧ (q_X2_setWhite u_9 x2 (w0_white (x2).toNatClampNeg) (fun (u_11 : Nat → Int32) => ∀ x2_12 : Int32, x2_12 = (x2 + (1 : Int32)) → (rec 23 x2_12 v_known u_11)))))))
def wp_X2_begin (w0_things : Int32) (w0_yellow : Nat → Int32) (w0_white : Nat → Int32) (Q : Int32 → (Nat → Int32) → Prop) : Nat → Nat → Int32 → Int32 → (Nat → Int32) → Prop
  | 0 => fun _ _ _ _ => False
  | n + 1 => fun t x2 v_known v_rows => if t = 23 then F_X2_begin_23 w0_things w0_yellow w0_white Q (wp_X2_begin w0_things w0_yellow w0_white Q n) x2 v_known v_rows else False
def q_X2_begin (v_known : Int32) (v_rows : Nat → Int32) (w0_things : Int32) (w0_yellow : Nat → Int32) (w0_white : Nat → Int32) (Q : Int32 → (Nat → Int32) → Prop) : Prop := ∃ n, F_X2_begin_e w0_things w0_yellow w0_white Q (wp_X2_begin w0_things w0_yellow w0_white Q n) v_known v_rows
theorem iwX2_begin_X2 : ∀ w ∈ wsX20, w ∈ wsX2_begin := by decide +kernel
theorem iwX2_begin_X5 : ∀ w ∈ wsX50, w ∈ wsX2_begin := by decide +kernel
theorem hdV_X2_begin : yX2_begin.cls = RX2 ∧ yX2_begin.cls ≠ "java/lang/invoke/MethodHandle" ∧ yX2_begin.cls ≠ "java/lang/invoke/VarHandle" ∧ (parseMethodDescriptor yX2_begin.desc).map (fun d => d.parameters.length) = some 1 := by decide +kernel
set_option maxHeartbeats 4000000 in
set_option maxRecDepth 100000 in
theorem w_X2_begin {p : Program} {l : Launch} {e : Env} {s : State} {m : MethodId} {args : Array Value} {below : List Frame} {meth : Method} {c : Code} {A : Nat → Prop} (dC : Nat → ClassId) (dI : Nat → Nat → Nat) (cyC cyI cyZ : ClassId) (a a_rows b0 b0_seam b0_yellow b0_white b0_fades b0_worth : Nat) (w0_seamTold : Int32) (w0_boundTold : Int32) (w0_lossTold : Int32) (w0_bound : Int32) (w0_loss : Int32) (w0_things : Int32) (w0_yellow : Nat → Int32) (w0_white : Nat → Int32) (Q : Int32 → (Nat → Int32) → Prop) (C0 : gAt cX2_begin none 3 RX2 wsX2_begin p s m meth c args) (hK : va_K (dC, dI) vwCl (gTy cyC cyI cyZ) s) (hN : nU s) (hA : ∀ q, s.heap.size ≤ q → A q) : ∀ n : Nat, (∀ (x2 : Int32) (v_known : Int32) (v_rows : Nat → Int32) (H : Heap) (locs : List Loc) (ls : Array Slot), wp_X2_begin w0_things w0_yellow w0_white Q n 23 x2 v_known v_rows → va_P (dC, dI) vwCl [(a, .inr (2, [.ref a_rows, .int v_known])), (a_rows, .inl (cyI, 165, .inl v_rows)), (b0, .inr (5, [.ref b0_seam, .int w0_seamTold, .int w0_boundTold, .int w0_lossTold, .int w0_bound, .int w0_loss, .int w0_things, .ref b0_yellow, .ref b0_white, .ref b0_fades, .ref b0_worth])), (b0_yellow, .inl (cyI, 6, .inl w0_yellow)), (b0_white, .inl (cyI, 6, .inl w0_white))] H → va_D A [(a, .inr (2, [.ref a_rows, .int v_known])), (a_rows, .inl (cyI, 165, .inl v_rows)), (b0, .inr (5, [.ref b0_seam, .int w0_seamTold, .int w0_boundTold, .int w0_lossTold, .int w0_bound, .int w0_loss, .int w0_things, .ref b0_yellow, .ref b0_white, .ref b0_fades, .ref b0_worth])), (b0_yellow, .inl (cyI, 6, .inl w0_yellow)), (b0_white, .inl (cyI, 6, .inl w0_white))] → va_S A s.heap H locs → lv_has ls 3 [(0, .ref a), (1, .ref b0), (2, .int x2)] → W p l e { frames := 1, cells := 0, slots := 0, locals := 22 } s m args below meth c H locs 0 0 (MQ below (gQv2 Q (dC, dI) A (fun (u1 : Int32) (u2 : Nat → Int32) => [(a, .inr (2, [.ref a_rows, .int u1])), (a_rows, .inl (cyI, 165, .inl u2)), (b0, .inr (5, [.ref b0_seam, .int w0_seamTold, .int w0_boundTold, .int w0_lossTold, .int w0_bound, .int w0_loss, .int w0_things, .ref b0_yellow, .ref b0_white, .ref b0_fades, .ref b0_worth])), (b0_yellow, .inl (cyI, 6, .inl w0_yellow)), (b0_white, .inl (cyI, 6, .inl w0_white))])) args s 0 0 A) (F0 m 23 ls [])) := by
  obtain ⟨hx, hb, hr, hml, hown, hts, hlocks⟩ := id C0
  have f11 := hts (.fieldLink RX2 11 "LastOchre$Course" "rows" "[I") (by decide +kernel)
  have f15 := hN.link (args := (args)) (w := .fieldLinkNest RX2 15 "LastOchre$Told" "things" "I" "LastOchre") 17 rfl
  have f21 := hN.link (args := (args)) (w := .fieldLinkNest RX2 21 "LastOchre$Told" "yellow" "[I" "LastOchre") 20 rfl
  have f28 := hN.link (args := (args)) (w := .fieldLinkNest RX2 28 "LastOchre$Told" "white" "[I" "LastOchre") 22 rfl
  have f34 := hts (.fieldLink RX2 34 "LastOchre$Course" "known" "I") (by decide +kernel)
  intro n
  induction n with
  | zero => exact fun _ _ _ _ _ _ h => absurd h id
  | succ n ih =>
    have ih23 := ih
    · intro x2 v_known v_rows H locs ls h hP hD hS hl
      replace h : F_X2_begin_23 w0_things w0_yellow w0_white Q (wp_X2_begin w0_things w0_yellow w0_white Q n) x2 v_known v_rows := h
      unfold F_X2_begin_23 at h
      refine lv_iload_n hx hb dX2_begin_23 rfl (lv_at hl 2 rfl) ?_
      refine lv_aload_n hx hb dX2_begin_24 rfl (lv_at hl 1 rfl) ?_
      refine va_getN (host := "LastOchre") (D := (dC, dI)) (ci := 5) (v := .int w0_things) (C := RX5) (T := TX5) (N := 11) hx hb hts iwX2_begin_X5 hown hK hP 2 rfl rfl 6 (by decide) f15 (fun _ h9 => h9) rfl dX2_begin_25 ?_
      refine lv_icmp_ge (tgt := 59) hx hb dX2_begin_28 (by decide) (fun c_7 => ?_) (fun c_7 => ?_)
      · replace h := h.1 c_7
        refine lv_aload_n hx hb dX2_begin_59 rfl (lv_at hl 0 rfl) ?_
        refine lv_iconst (v := 0) hx hb dX2_begin_60 (by decide) ?_
        refine va_put (D := (dC, dI)) (ci := 2) (v := .int (0 : Int32)) (ty := .int) (C := RX2) (T := TX2) (N := 2) hx hb hts iwX2_begin_X2 tyX2 tyX2_ok nmX2 hown hK hP hD hS 0 rfl rfl 1 (by decide) f34 (fun _ h9 => h9) rfl (by decide +kernel) rfl rfl (Nat.le_of_ble_eq_true rfl) dX2_begin_61 (fun H locs hP hD hS => ?_)
        replace hP : va_P (dC, dI) vwCl [(a, .inr (2, [.ref a_rows, .int (0 : Int32)])), (a_rows, .inl (cyI, 165, .inl v_rows)), (b0, .inr (5, [.ref b0_seam, .int w0_seamTold, .int w0_boundTold, .int w0_lossTold, .int w0_bound, .int w0_loss, .int w0_things, .ref b0_yellow, .ref b0_white, .ref b0_fades, .ref b0_worth])), (b0_yellow, .inl (cyI, 6, .inl w0_yellow)), (b0_white, .inl (cyI, 6, .inl w0_white))] H := hP
        replace hD : va_D A [(a, .inr (2, [.ref a_rows, .int (0 : Int32)])), (a_rows, .inl (cyI, 165, .inl v_rows)), (b0, .inr (5, [.ref b0_seam, .int w0_seamTold, .int w0_boundTold, .int w0_lossTold, .int w0_bound, .int w0_loss, .int w0_things, .ref b0_yellow, .ref b0_white, .ref b0_fades, .ref b0_worth])), (b0_yellow, .inl (cyI, 6, .inl w0_yellow)), (b0_white, .inl (cyI, 6, .inl w0_white))] := hD
        exact grv2 hx hb hr hlocks h hP hD hS dX2_begin_64
      · replace h := h.2 c_7
        refine lv_aload_n hx hb dX2_begin_31 rfl (lv_at hl 0 rfl) ?_
        refine lv_iload_n hx hb dX2_begin_32 rfl (lv_at hl 2 rfl) ?_
        refine lv_aload_n hx hb dX2_begin_33 rfl (lv_at hl 1 rfl) ?_
        refine va_getN (host := "LastOchre") (D := (dC, dI)) (ci := 5) (v := .ref b0_yellow) (C := RX5) (T := TX5) (N := 11) hx hb hts iwX2_begin_X5 hown hK hP 2 rfl rfl 7 (by decide) f21 (fun _ h9 => h9) rfl dX2_begin_34 ?_
        refine lv_iload_n hx hb dX2_begin_37 rfl (lv_at hl 2 rfl) ?_
        have g_8 := h.1
        replace h := h.2
        refine va_iald hx hb hK hP 3 0 rfl rfl g_8 dX2_begin_38 ?_
        refine gV_v1 (As := [.int x2, .int (w0_yellow (x2).toNatClampNeg)]) (rest := []) ⟨hx, hb, hml, hown, hts⟩ (c_X2_setYellow l dC dI cyC cyI cyZ _ a a_rows v_known v_rows x2 (w0_yellow (x2).toNatClampNeg) h) (cwV 2 hts gX2_begin_X2_setYellow rfl rfl rfl hdV_X2_setYellow ⟨Nat.le_of_ble_eq_true rfl, Nat.le_of_ble_eq_true rfl⟩) hK hN hP hD hS hA [0, 1] (by decide) rfl (ci := 2) rfl rfl rfl hl.1 rfl (Nat.le_of_ble_eq_true rfl) dX2_begin_39 ⟨Nat.zero_le _, Nat.zero_le _⟩ (wr := [(b0, .inr (5, [.ref b0_seam, .int w0_seamTold, .int w0_boundTold, .int w0_lossTold, .int w0_bound, .int w0_loss, .int w0_things, .ref b0_yellow, .ref b0_white, .ref b0_fades, .ref b0_worth])), (b0_yellow, .inl (cyI, 6, .inl w0_yellow)), (b0_white, .inl (cyI, 6, .inl w0_white))]) [2, 3, 4] rfl (by decide) (by decide) (fun u_9 H locs h hP hD hS => ?_)
        replace hP : va_P (dC, dI) vwCl [(b0, .inr (5, [.ref b0_seam, .int w0_seamTold, .int w0_boundTold, .int w0_lossTold, .int w0_bound, .int w0_loss, .int w0_things, .ref b0_yellow, .ref b0_white, .ref b0_fades, .ref b0_worth])), (b0_yellow, .inl (cyI, 6, .inl w0_yellow)), (b0_white, .inl (cyI, 6, .inl w0_white)), (a, .inr (2, [.ref a_rows, .int v_known])), (a_rows, .inl (cyI, 165, .inl u_9))] H := hP
        replace hD : va_D A [(b0, .inr (5, [.ref b0_seam, .int w0_seamTold, .int w0_boundTold, .int w0_lossTold, .int w0_bound, .int w0_loss, .int w0_things, .ref b0_yellow, .ref b0_white, .ref b0_fades, .ref b0_worth])), (b0_yellow, .inl (cyI, 6, .inl w0_yellow)), (b0_white, .inl (cyI, 6, .inl w0_white)), (a, .inr (2, [.ref a_rows, .int v_known])), (a_rows, .inl (cyI, 165, .inl u_9))] := hD
        refine lv_aload_n hx hb dX2_begin_42 rfl (lv_at hl 0 rfl) ?_
        refine lv_iload_n hx hb dX2_begin_43 rfl (lv_at hl 2 rfl) ?_
        refine lv_aload_n hx hb dX2_begin_44 rfl (lv_at hl 1 rfl) ?_
        refine va_getN (host := "LastOchre") (D := (dC, dI)) (ci := 5) (v := .ref b0_white) (C := RX5) (T := TX5) (N := 11) hx hb hts iwX2_begin_X5 hown hK hP 0 rfl rfl 8 (by decide) f28 (fun _ h9 => h9) rfl dX2_begin_45 ?_
        refine lv_iload_n hx hb dX2_begin_48 rfl (lv_at hl 2 rfl) ?_
        have g_10 := h.1
        replace h := h.2
        refine va_iald hx hb hK hP 2 0 rfl rfl g_10 dX2_begin_49 ?_
        refine gV_v1 (As := [.int x2, .int (w0_white (x2).toNatClampNeg)]) (rest := []) ⟨hx, hb, hml, hown, hts⟩ (c_X2_setWhite l dC dI cyC cyI cyZ _ a a_rows v_known u_9 x2 (w0_white (x2).toNatClampNeg) h) (cwV 2 hts gX2_begin_X2_setWhite rfl rfl rfl hdV_X2_setWhite ⟨Nat.le_of_ble_eq_true rfl, Nat.le_of_ble_eq_true rfl⟩) hK hN hP hD hS hA [3, 4] (by decide) rfl (ci := 2) rfl rfl rfl hl.1 rfl (Nat.le_of_ble_eq_true rfl) dX2_begin_50 ⟨Nat.zero_le _, Nat.zero_le _⟩ (wr := [(b0, .inr (5, [.ref b0_seam, .int w0_seamTold, .int w0_boundTold, .int w0_lossTold, .int w0_bound, .int w0_loss, .int w0_things, .ref b0_yellow, .ref b0_white, .ref b0_fades, .ref b0_worth])), (b0_yellow, .inl (cyI, 6, .inl w0_yellow)), (b0_white, .inl (cyI, 6, .inl w0_white))]) [0, 1, 2] rfl (by decide) (by decide) (fun u_11 H locs h hP hD hS => ?_)
        replace hP : va_P (dC, dI) vwCl [(b0, .inr (5, [.ref b0_seam, .int w0_seamTold, .int w0_boundTold, .int w0_lossTold, .int w0_bound, .int w0_loss, .int w0_things, .ref b0_yellow, .ref b0_white, .ref b0_fades, .ref b0_worth])), (b0_yellow, .inl (cyI, 6, .inl w0_yellow)), (b0_white, .inl (cyI, 6, .inl w0_white)), (a, .inr (2, [.ref a_rows, .int v_known])), (a_rows, .inl (cyI, 165, .inl u_11))] H := hP
        replace hD : va_D A [(b0, .inr (5, [.ref b0_seam, .int w0_seamTold, .int w0_boundTold, .int w0_lossTold, .int w0_bound, .int w0_loss, .int w0_things, .ref b0_yellow, .ref b0_white, .ref b0_fades, .ref b0_worth])), (b0_yellow, .inl (cyI, 6, .inl w0_yellow)), (b0_white, .inl (cyI, 6, .inl w0_white)), (a, .inr (2, [.ref a_rows, .int v_known])), (a_rows, .inl (cyI, 165, .inl u_11))] := hD
        obtain ⟨x2_12, e_13⟩ : ∃ y : Int32, y = (x2 + (1 : Int32)) := ⟨_, rfl⟩
        replace h := h x2_12 e_13
        refine lv_iinc (v := x2_12) (lv' := [(2, .int x2_12), (0, .ref a), (1, .ref b0)]) hx hb dX2_begin_53 hl (k := 2) rfl (by rw [e_13]; rfl) (by decide) rfl (fun ls hl => ?_)
        refine lv_goto (tgt := 23) hx hb dX2_begin_56 (by decide) ?_
        exact ih23 x2_12 v_known u_11 _ _ _ h (hP.sub (ws' := [(a, .inr (2, [.ref a_rows, .int v_known])), (a_rows, .inl (cyI, 165, .inl u_11)), (b0, .inr (5, [.ref b0_seam, .int w0_seamTold, .int w0_boundTold, .int w0_lossTold, .int w0_bound, .int w0_loss, .int w0_things, .ref b0_yellow, .ref b0_white, .ref b0_fades, .ref b0_worth])), (b0_yellow, .inl (cyI, 6, .inl w0_yellow)), (b0_white, .inl (cyI, 6, .inl w0_white))]) [3, 4, 0, 1, 2] rfl) (hD.sub (ws' := [(a, .inr (2, [.ref a_rows, .int v_known])), (a_rows, .inl (cyI, 165, .inl u_11)), (b0, .inr (5, [.ref b0_seam, .int w0_seamTold, .int w0_boundTold, .int w0_lossTold, .int w0_bound, .int w0_loss, .int w0_things, .ref b0_yellow, .ref b0_white, .ref b0_fades, .ref b0_worth])), (b0_yellow, .inl (cyI, 6, .inl w0_yellow)), (b0_white, .inl (cyI, 6, .inl w0_white))]) [3, 4, 0, 1, 2] (by decide) rfl) hS (lv_sub hl [1, 2, 0] rfl)
set_option maxHeartbeats 4000000 in
set_option maxRecDepth 100000 in
theorem c_X2_begin (l : Launch) (dC : Nat → ClassId) (dI : Nat → Nat → Nat) (cyC cyI cyZ : ClassId) (sz : Nat) (a a_rows b0 b0_seam b0_yellow b0_white b0_fades b0_worth : Nat) (v_known : Int32) (v_rows : Nat → Int32) (w0_seamTold : Int32) (w0_boundTold : Int32) (w0_lossTold : Int32) (w0_bound : Int32) (w0_loss : Int32) (w0_things : Int32) (w0_yellow : Nat → Int32) (w0_white : Nat → Int32) {Q : Int32 → (Nat → Int32) → Prop} (h : q_X2_begin v_known v_rows w0_things w0_yellow w0_white Q) : Met l yX2_begin wsX2_begin ({ frames := 1, cells := 0, slots := 0, locals := 22 }) (gPc [.ref a, .ref b0] (dC, dI) (gTy cyC cyI cyZ) sz [(a, .inr (2, [.ref a_rows, .int v_known])), (a_rows, .inl (cyI, 165, .inl v_rows)), (b0, .inr (5, [.ref b0_seam, .int w0_seamTold, .int w0_boundTold, .int w0_lossTold, .int w0_bound, .int w0_loss, .int w0_things, .ref b0_yellow, .ref b0_white, .ref b0_fades, .ref b0_worth])), (b0_yellow, .inl (cyI, 6, .inl w0_yellow)), (b0_white, .inl (cyI, 6, .inl w0_white))]) (gQv2 Q (dC, dI) (va_A [(a, .inr (2, [.ref a_rows, .int v_known])), (a_rows, .inl (cyI, 165, .inl v_rows)), (b0, .inr (5, [.ref b0_seam, .int w0_seamTold, .int w0_boundTold, .int w0_lossTold, .int w0_bound, .int w0_loss, .int w0_things, .ref b0_yellow, .ref b0_white, .ref b0_fades, .ref b0_worth])), (b0_yellow, .inl (cyI, 6, .inl w0_yellow)), (b0_white, .inl (cyI, 6, .inl w0_white))] sz) (fun (u1 : Int32) (u2 : Nat → Int32) => [(a, .inr (2, [.ref a_rows, .int u1])), (a_rows, .inl (cyI, 165, .inl u2)), (b0, .inr (5, [.ref b0_seam, .int w0_seamTold, .int w0_boundTold, .int w0_lossTold, .int w0_bound, .int w0_loss, .int w0_things, .ref b0_yellow, .ref b0_white, .ref b0_fades, .ref b0_worth])), (b0_yellow, .inl (cyI, 6, .inl w0_yellow)), (b0_white, .inl (cyI, 6, .inl w0_white))])) 0 0 (va_A [(a, .inr (2, [.ref a_rows, .int v_known])), (a_rows, .inl (cyI, 165, .inl v_rows)), (b0, .inr (5, [.ref b0_seam, .int w0_seamTold, .int w0_boundTold, .int w0_lossTold, .int w0_bound, .int w0_loss, .int w0_things, .ref b0_yellow, .ref b0_white, .ref b0_fades, .ref b0_worth])), (b0_yellow, .inl (cyI, 6, .inl w0_yellow)), (b0_white, .inl (cyI, 6, .inl w0_white))] sz) := by
  refine gMet (cc := cX2_begin) (maxL := 3) (ret := none) (own := RX2) (fun A => gQv2 Q (dC, dI) A (fun (u1 : Int32) (u2 : Nat → Int32) => [(a, .inr (2, [.ref a_rows, .int u1])), (a_rows, .inl (cyI, 165, .inl u2)), (b0, .inr (5, [.ref b0_seam, .int w0_seamTold, .int w0_boundTold, .int w0_lossTold, .int w0_bound, .int w0_loss, .int w0_things, .ref b0_yellow, .ref b0_white, .ref b0_fades, .ref b0_worth])), (b0_yellow, .inl (cyI, 6, .inl w0_yellow)), (b0_white, .inl (cyI, 6, .inl w0_white))])) (by decide) rfl rfl (Nat.le_of_ble_eq_true rfl) ?_
  intro p e s m below meth c A ls C0 _ hK hN hP hD hA hl
  obtain ⟨hx, hb, hr, hml, hown, hts, hlocks⟩ := id C0
  have f11 := hts (.fieldLink RX2 11 "LastOchre$Course" "rows" "[I") (by decide +kernel)
  have f15 := hN.link (args := ([.ref a, .ref b0].toArray)) (w := .fieldLinkNest RX2 15 "LastOchre$Told" "things" "I" "LastOchre") 17 rfl
  have f21 := hN.link (args := ([.ref a, .ref b0].toArray)) (w := .fieldLinkNest RX2 21 "LastOchre$Told" "yellow" "[I" "LastOchre") 20 rfl
  have f28 := hN.link (args := ([.ref a, .ref b0].toArray)) (w := .fieldLinkNest RX2 28 "LastOchre$Told" "white" "[I" "LastOchre") 22 rfl
  have f34 := hts (.fieldLink RX2 34 "LastOchre$Course" "known" "I") (by decide +kernel)
  have hS : va_S A s.heap s.heap [] := va_S.rf
  replace hl : lv_has ls 3 [(0, .ref a), (1, .ref b0)] := hl
  unfold q_X2_begin at h
  obtain ⟨n, h⟩ := h
  have ih23 := w_X2_begin (l := l) (e := e) (below := below) dC dI cyC cyI cyZ a a_rows b0 b0_seam b0_yellow b0_white b0_fades b0_worth w0_seamTold w0_boundTold w0_lossTold w0_bound w0_loss w0_things w0_yellow w0_white Q C0 hK hN hA n
  unfold F_X2_begin_e at h
  refine lv_aload_n hx hb dX2_begin_0 rfl (lv_at hl 0 rfl) ?_
  refine va_get (D := (dC, dI)) (ci := 2) (v := .ref a_rows) (C := RX2) (T := TX2) (N := 2) hx hb hts iwX2_begin_X2 hown hK hP 0 rfl rfl 0 (by decide) f11 (fun _ h9 => h9) rfl dX2_begin_1 ?_
  refine lv_iconst (v := 0) hx hb dX2_begin_4 (by decide) ?_
  refine lv_iconst (v := 0) hx hb dX2_begin_5 (by decide) ?_
  refine va_iast hx hb hK hP hD hS 1 0 rfl rfl (by unfold vp_in; decide) dX2_begin_6 (fun H locs hP hD hS => ?_)
  obtain ⟨f_1, e_2⟩ : ∃ y : Nat → Int32, y = upd v_rows ((0 : Int32)).toNatClampNeg (0 : Int32) := ⟨_, rfl⟩
  replace h := h f_1 e_2
  replace hP : va_P (dC, dI) vwCl [(a, .inr (2, [.ref a_rows, .int v_known])), (a_rows, .inl (cyI, 165, .inl f_1)), (b0, .inr (5, [.ref b0_seam, .int w0_seamTold, .int w0_boundTold, .int w0_lossTold, .int w0_bound, .int w0_loss, .int w0_things, .ref b0_yellow, .ref b0_white, .ref b0_fades, .ref b0_worth])), (b0_yellow, .inl (cyI, 6, .inl w0_yellow)), (b0_white, .inl (cyI, 6, .inl w0_white))] H := by rw [e_2]; exact hP
  replace hD : va_D A [(a, .inr (2, [.ref a_rows, .int v_known])), (a_rows, .inl (cyI, 165, .inl f_1)), (b0, .inr (5, [.ref b0_seam, .int w0_seamTold, .int w0_boundTold, .int w0_lossTold, .int w0_bound, .int w0_loss, .int w0_things, .ref b0_yellow, .ref b0_white, .ref b0_fades, .ref b0_worth])), (b0_yellow, .inl (cyI, 6, .inl w0_yellow)), (b0_white, .inl (cyI, 6, .inl w0_white))] := by rw [e_2]; exact hD
  refine lv_aload_n hx hb dX2_begin_7 rfl (lv_at hl 0 rfl) ?_
  refine va_get (D := (dC, dI)) (ci := 2) (v := .ref a_rows) (C := RX2) (T := TX2) (N := 2) hx hb hts iwX2_begin_X2 hown hK hP 0 rfl rfl 0 (by decide) f11 (fun _ h9 => h9) rfl dX2_begin_8 ?_
  refine lv_iconst (v := 1) hx hb dX2_begin_11 (by decide) ?_
  refine lv_iconst (v := 0) hx hb dX2_begin_12 (by decide) ?_
  refine va_iast hx hb hK hP hD hS 1 0 rfl rfl (by unfold vp_in; decide) dX2_begin_13 (fun H locs hP hD hS => ?_)
  obtain ⟨f_3, e_4⟩ : ∃ y : Nat → Int32, y = upd f_1 ((1 : Int32)).toNatClampNeg (0 : Int32) := ⟨_, rfl⟩
  replace h := h f_3 e_4
  replace hP : va_P (dC, dI) vwCl [(a, .inr (2, [.ref a_rows, .int v_known])), (a_rows, .inl (cyI, 165, .inl f_3)), (b0, .inr (5, [.ref b0_seam, .int w0_seamTold, .int w0_boundTold, .int w0_lossTold, .int w0_bound, .int w0_loss, .int w0_things, .ref b0_yellow, .ref b0_white, .ref b0_fades, .ref b0_worth])), (b0_yellow, .inl (cyI, 6, .inl w0_yellow)), (b0_white, .inl (cyI, 6, .inl w0_white))] H := by rw [e_4]; exact hP
  replace hD : va_D A [(a, .inr (2, [.ref a_rows, .int v_known])), (a_rows, .inl (cyI, 165, .inl f_3)), (b0, .inr (5, [.ref b0_seam, .int w0_seamTold, .int w0_boundTold, .int w0_lossTold, .int w0_bound, .int w0_loss, .int w0_things, .ref b0_yellow, .ref b0_white, .ref b0_fades, .ref b0_worth])), (b0_yellow, .inl (cyI, 6, .inl w0_yellow)), (b0_white, .inl (cyI, 6, .inl w0_white))] := by rw [e_4]; exact hD
  refine lv_aload_n hx hb dX2_begin_14 rfl (lv_at hl 0 rfl) ?_
  refine va_get (D := (dC, dI)) (ci := 2) (v := .ref a_rows) (C := RX2) (T := TX2) (N := 2) hx hb hts iwX2_begin_X2 hown hK hP 0 rfl rfl 0 (by decide) f11 (fun _ h9 => h9) rfl dX2_begin_15 ?_
  refine lv_iconst (v := 2) hx hb dX2_begin_18 (by decide) ?_
  refine lv_iconst (v := 0) hx hb dX2_begin_19 (by decide) ?_
  refine va_iast hx hb hK hP hD hS 1 0 rfl rfl (by unfold vp_in; decide) dX2_begin_20 (fun H locs hP hD hS => ?_)
  obtain ⟨f_5, e_6⟩ : ∃ y : Nat → Int32, y = upd f_3 ((2 : Int32)).toNatClampNeg (0 : Int32) := ⟨_, rfl⟩
  replace h := h f_5 e_6
  replace hP : va_P (dC, dI) vwCl [(a, .inr (2, [.ref a_rows, .int v_known])), (a_rows, .inl (cyI, 165, .inl f_5)), (b0, .inr (5, [.ref b0_seam, .int w0_seamTold, .int w0_boundTold, .int w0_lossTold, .int w0_bound, .int w0_loss, .int w0_things, .ref b0_yellow, .ref b0_white, .ref b0_fades, .ref b0_worth])), (b0_yellow, .inl (cyI, 6, .inl w0_yellow)), (b0_white, .inl (cyI, 6, .inl w0_white))] H := by rw [e_6]; exact hP
  replace hD : va_D A [(a, .inr (2, [.ref a_rows, .int v_known])), (a_rows, .inl (cyI, 165, .inl f_5)), (b0, .inr (5, [.ref b0_seam, .int w0_seamTold, .int w0_boundTold, .int w0_lossTold, .int w0_bound, .int w0_loss, .int w0_things, .ref b0_yellow, .ref b0_white, .ref b0_fades, .ref b0_worth])), (b0_yellow, .inl (cyI, 6, .inl w0_yellow)), (b0_white, .inl (cyI, 6, .inl w0_white))] := by rw [e_6]; exact hD
  refine lv_iconst (v := 0) hx hb dX2_begin_21 (by decide) ?_
  refine lv_istore_n (lv' := [(2, .int (0 : Int32)), (0, .ref a), (1, .ref b0)]) hx hb dX2_begin_22 rfl hl (by decide) rfl (fun ls hl => ?_)
  exact ih23 (0 : Int32) v_known f_5 _ _ _ h hP hD hS (lv_sub hl [1, 2, 0] rfl)

def F_X2_remember_e  (Q : Int32 → (Nat → Int32) → Prop) (v_known : Int32) (v_rows : Nat → Int32) : Prop :=
  ∀ f_1 : Nat → Int32, f_1 = va_cpy v_rows v_rows ((0 : Int32)).toNatClampNeg ((15 : Int32)).toNatClampNeg ((150 : Int32)).toNatClampNeg → (∀ n_3 : Int32, n_3 = (if (10 : Int32) < (v_known + (1 : Int32)) then (10 : Int32) else (v_known + (1 : Int32))) → (Q n_3 f_1))
def q_X2_remember (v_known : Int32) (v_rows : Nat → Int32) (Q : Int32 → (Nat → Int32) → Prop) : Prop := F_X2_remember_e  Q v_known v_rows
theorem iwX2_remember_X2 : ∀ w ∈ wsX20, w ∈ wsX2_remember := by decide +kernel
theorem hdV_X2_remember : yX2_remember.cls = RX2 ∧ yX2_remember.cls ≠ "java/lang/invoke/MethodHandle" ∧ yX2_remember.cls ≠ "java/lang/invoke/VarHandle" ∧ (parseMethodDescriptor yX2_remember.desc).map (fun d => d.parameters.length) = some 0 := by decide +kernel
set_option maxHeartbeats 4000000 in
set_option maxRecDepth 100000 in
theorem c_X2_remember (l : Launch) (dC : Nat → ClassId) (dI : Nat → Nat → Nat) (cyC cyI cyZ : ClassId) (sz : Nat) (a a_rows : Nat) (v_known : Int32) (v_rows : Nat → Int32) {Q : Int32 → (Nat → Int32) → Prop} (h : q_X2_remember v_known v_rows Q) : Met l yX2_remember wsX2_remember ({ frames := 1, cells := 0, slots := 0, locals := 40 }) (gPc [.ref a] (dC, dI) (gTy cyC cyI cyZ) sz [(a, .inr (2, [.ref a_rows, .int v_known])), (a_rows, .inl (cyI, 165, .inl v_rows))]) (gQv2 Q (dC, dI) (va_A [(a, .inr (2, [.ref a_rows, .int v_known])), (a_rows, .inl (cyI, 165, .inl v_rows))] sz) (fun (u1 : Int32) (u2 : Nat → Int32) => [(a, .inr (2, [.ref a_rows, .int u1])), (a_rows, .inl (cyI, 165, .inl u2))])) 0 0 (va_A [(a, .inr (2, [.ref a_rows, .int v_known])), (a_rows, .inl (cyI, 165, .inl v_rows))] sz) := by
  refine gMet (cc := cX2_remember) (maxL := 1) (ret := none) (own := RX2) (fun A => gQv2 Q (dC, dI) A (fun (u1 : Int32) (u2 : Nat → Int32) => [(a, .inr (2, [.ref a_rows, .int u1])), (a_rows, .inl (cyI, 165, .inl u2))])) (by decide) rfl rfl (Nat.le_of_ble_eq_true rfl) ?_
  intro p e s m below meth c A ls C0 _ hK hN hP hD hA hl
  obtain ⟨hx, hb, hr, hml, hown, hts, hlocks⟩ := id C0
  have f11 := hts (.fieldLink RX2 11 "LastOchre$Course" "rows" "[I") (by decide +kernel)
  have f34 := hts (.fieldLink RX2 34 "LastOchre$Course" "known" "I") (by decide +kernel)
  have hS : va_S A s.heap s.heap [] := va_S.rf
  replace hl : lv_has ls 1 [(0, .ref a)] := hl
  unfold q_X2_remember at h
  unfold F_X2_remember_e at h
  refine lv_aload_n hx hb dX2_remember_0 rfl (lv_at hl 0 rfl) ?_
  refine va_get (D := (dC, dI)) (ci := 2) (v := .ref a_rows) (C := RX2) (T := TX2) (N := 2) hx hb hts iwX2_remember_X2 hown hK hP 0 rfl rfl 0 (by decide) f11 (fun _ h9 => h9) rfl dX2_remember_1 ?_
  refine lv_iconst (v := 0) hx hb dX2_remember_4 (by decide) ?_
  refine lv_aload_n hx hb dX2_remember_5 rfl (lv_at hl 0 rfl) ?_
  refine va_get (D := (dC, dI)) (ci := 2) (v := .ref a_rows) (C := RX2) (T := TX2) (N := 2) hx hb hts iwX2_remember_X2 hown hK hP 0 rfl rfl 0 (by decide) f11 (fun _ h9 => h9) rfl dX2_remember_6 ?_
  refine lv_bipush (v := 15) hx hb dX2_remember_9 (by decide) ?_
  refine lv_sipush (v := 150) hx hb dX2_remember_11 (by decide) ?_
  refine va_copyi hx hb (by rw [hml]; exact hl.1.symm) hown (hts (.methodLink RX2 37 arraycopyName) (by decide +kernel)) (hts (.native arraycopyName) (by decide +kernel)) (hts (.static arraycopyName) (by decide +kernel)) (hts (.initialized "java/lang/System") (by decide +kernel)) hK hP hD hS 1 1 0 0 (ty := .int) rfl rfl rfl rfl rfl (by decide) (by decide) (by decide) (by decide) (by decide) (fun _ _ => rfl) (Nat.le_of_ble_eq_true rfl) (by decide) dX2_remember_14 (fun H locs hP hD hS => ?_)
  obtain ⟨f_1, e_2⟩ : ∃ y : Nat → Int32, y = va_cpy v_rows v_rows ((0 : Int32)).toNatClampNeg ((15 : Int32)).toNatClampNeg ((150 : Int32)).toNatClampNeg := ⟨_, rfl⟩
  replace h := h f_1 e_2
  replace hP : va_P (dC, dI) vwCl [(a, .inr (2, [.ref a_rows, .int v_known])), (a_rows, .inl (cyI, 165, .inl f_1))] H := by rw [e_2]; exact hP
  replace hD : va_D A [(a, .inr (2, [.ref a_rows, .int v_known])), (a_rows, .inl (cyI, 165, .inl f_1))] := by rw [e_2]; exact hD
  refine lv_aload_n hx hb dX2_remember_17 rfl (lv_at hl 0 rfl) ?_
  refine lv_aload_n hx hb dX2_remember_18 rfl (lv_at hl 0 rfl) ?_
  refine va_get (D := (dC, dI)) (ci := 2) (v := .int v_known) (C := RX2) (T := TX2) (N := 2) hx hb hts iwX2_remember_X2 hown hK hP 0 rfl rfl 1 (by decide) f34 (fun _ h9 => h9) rfl dX2_remember_19 ?_
  refine lv_iconst (v := 1) hx hb dX2_remember_22 (by decide) ?_
  refine lv_iadd hx hb dX2_remember_23 ?_
  refine lv_bipush (v := 10) hx hb dX2_remember_24 (by decide) ?_
  refine va_mmin hx hb (by rw [hml]; exact hl.1.symm) hown (hts (.methodLink RX2 43 Lib.Math.min.name) (by decide +kernel)) (hts (.static Lib.Math.min.name) (by decide +kernel)) (hts (.initialized "java/lang/Math") (by decide +kernel)) (hts (.code Lib.Math.min.name Lib.Math.min.code 2 (some .int)) (by decide +kernel)) (Nat.le_of_ble_eq_true rfl) (Nat.le_of_ble_eq_true rfl) (Nat.zero_le _) (Nat.zero_le _) dX2_remember_26 ?_
  refine lv_topi (fun n_3 e_4 => ?_)
  replace h := h n_3 e_4
  refine va_put (D := (dC, dI)) (ci := 2) (v := .int n_3) (ty := .int) (C := RX2) (T := TX2) (N := 2) hx hb hts iwX2_remember_X2 tyX2 tyX2_ok nmX2 hown hK hP hD hS 0 rfl rfl 1 (by decide) f34 (fun _ h9 => h9) rfl (by decide +kernel) rfl rfl (Nat.le_of_ble_eq_true rfl) dX2_remember_29 (fun H locs hP hD hS => ?_)
  replace hP : va_P (dC, dI) vwCl [(a, .inr (2, [.ref a_rows, .int n_3])), (a_rows, .inl (cyI, 165, .inl f_1))] H := hP
  replace hD : va_D A [(a, .inr (2, [.ref a_rows, .int n_3])), (a_rows, .inl (cyI, 165, .inl f_1))] := hD
  exact grv2 hx hb hr hlocks h hP hD hS dX2_remember_32

def F_X2_stepBack_e  (Q : Int32 → (Nat → Int32) → Prop) (v_known : Int32) (v_rows : Nat → Int32) : Prop :=
  ∀ f_1 : Nat → Int32, f_1 = va_cpy v_rows v_rows ((15 : Int32)).toNatClampNeg ((0 : Int32)).toNatClampNeg ((150 : Int32)).toNatClampNeg → (∀ n_3 : Int32, n_3 = (if (v_known - (1 : Int32)) < (0 : Int32) then (0 : Int32) else (v_known - (1 : Int32))) → (Q n_3 f_1))
def q_X2_stepBack (v_known : Int32) (v_rows : Nat → Int32) (Q : Int32 → (Nat → Int32) → Prop) : Prop := F_X2_stepBack_e  Q v_known v_rows
theorem iwX2_stepBack_X2 : ∀ w ∈ wsX20, w ∈ wsX2_stepBack := by decide +kernel
theorem hdV_X2_stepBack : yX2_stepBack.cls = RX2 ∧ yX2_stepBack.cls ≠ "java/lang/invoke/MethodHandle" ∧ yX2_stepBack.cls ≠ "java/lang/invoke/VarHandle" ∧ (parseMethodDescriptor yX2_stepBack.desc).map (fun d => d.parameters.length) = some 0 := by decide +kernel
set_option maxHeartbeats 4000000 in
set_option maxRecDepth 100000 in
theorem c_X2_stepBack (l : Launch) (dC : Nat → ClassId) (dI : Nat → Nat → Nat) (cyC cyI cyZ : ClassId) (sz : Nat) (a a_rows : Nat) (v_known : Int32) (v_rows : Nat → Int32) {Q : Int32 → (Nat → Int32) → Prop} (h : q_X2_stepBack v_known v_rows Q) : Met l yX2_stepBack wsX2_stepBack ({ frames := 1, cells := 0, slots := 0, locals := 40 }) (gPc [.ref a] (dC, dI) (gTy cyC cyI cyZ) sz [(a, .inr (2, [.ref a_rows, .int v_known])), (a_rows, .inl (cyI, 165, .inl v_rows))]) (gQv2 Q (dC, dI) (va_A [(a, .inr (2, [.ref a_rows, .int v_known])), (a_rows, .inl (cyI, 165, .inl v_rows))] sz) (fun (u1 : Int32) (u2 : Nat → Int32) => [(a, .inr (2, [.ref a_rows, .int u1])), (a_rows, .inl (cyI, 165, .inl u2))])) 0 0 (va_A [(a, .inr (2, [.ref a_rows, .int v_known])), (a_rows, .inl (cyI, 165, .inl v_rows))] sz) := by
  refine gMet (cc := cX2_stepBack) (maxL := 1) (ret := none) (own := RX2) (fun A => gQv2 Q (dC, dI) A (fun (u1 : Int32) (u2 : Nat → Int32) => [(a, .inr (2, [.ref a_rows, .int u1])), (a_rows, .inl (cyI, 165, .inl u2))])) (by decide) rfl rfl (Nat.le_of_ble_eq_true rfl) ?_
  intro p e s m below meth c A ls C0 _ hK hN hP hD hA hl
  obtain ⟨hx, hb, hr, hml, hown, hts, hlocks⟩ := id C0
  have f11 := hts (.fieldLink RX2 11 "LastOchre$Course" "rows" "[I") (by decide +kernel)
  have f34 := hts (.fieldLink RX2 34 "LastOchre$Course" "known" "I") (by decide +kernel)
  have hS : va_S A s.heap s.heap [] := va_S.rf
  replace hl : lv_has ls 1 [(0, .ref a)] := hl
  unfold q_X2_stepBack at h
  unfold F_X2_stepBack_e at h
  refine lv_aload_n hx hb dX2_stepBack_0 rfl (lv_at hl 0 rfl) ?_
  refine va_get (D := (dC, dI)) (ci := 2) (v := .ref a_rows) (C := RX2) (T := TX2) (N := 2) hx hb hts iwX2_stepBack_X2 hown hK hP 0 rfl rfl 0 (by decide) f11 (fun _ h9 => h9) rfl dX2_stepBack_1 ?_
  refine lv_bipush (v := 15) hx hb dX2_stepBack_4 (by decide) ?_
  refine lv_aload_n hx hb dX2_stepBack_6 rfl (lv_at hl 0 rfl) ?_
  refine va_get (D := (dC, dI)) (ci := 2) (v := .ref a_rows) (C := RX2) (T := TX2) (N := 2) hx hb hts iwX2_stepBack_X2 hown hK hP 0 rfl rfl 0 (by decide) f11 (fun _ h9 => h9) rfl dX2_stepBack_7 ?_
  refine lv_iconst (v := 0) hx hb dX2_stepBack_10 (by decide) ?_
  refine lv_sipush (v := 150) hx hb dX2_stepBack_11 (by decide) ?_
  refine va_copyi hx hb (by rw [hml]; exact hl.1.symm) hown (hts (.methodLink RX2 37 arraycopyName) (by decide +kernel)) (hts (.native arraycopyName) (by decide +kernel)) (hts (.static arraycopyName) (by decide +kernel)) (hts (.initialized "java/lang/System") (by decide +kernel)) hK hP hD hS 1 1 0 0 (ty := .int) rfl rfl rfl rfl rfl (by decide) (by decide) (by decide) (by decide) (by decide) (fun _ _ => rfl) (Nat.le_of_ble_eq_true rfl) (by decide) dX2_stepBack_14 (fun H locs hP hD hS => ?_)
  obtain ⟨f_1, e_2⟩ : ∃ y : Nat → Int32, y = va_cpy v_rows v_rows ((15 : Int32)).toNatClampNeg ((0 : Int32)).toNatClampNeg ((150 : Int32)).toNatClampNeg := ⟨_, rfl⟩
  replace h := h f_1 e_2
  replace hP : va_P (dC, dI) vwCl [(a, .inr (2, [.ref a_rows, .int v_known])), (a_rows, .inl (cyI, 165, .inl f_1))] H := by rw [e_2]; exact hP
  replace hD : va_D A [(a, .inr (2, [.ref a_rows, .int v_known])), (a_rows, .inl (cyI, 165, .inl f_1))] := by rw [e_2]; exact hD
  refine lv_aload_n hx hb dX2_stepBack_17 rfl (lv_at hl 0 rfl) ?_
  refine lv_aload_n hx hb dX2_stepBack_18 rfl (lv_at hl 0 rfl) ?_
  refine va_get (D := (dC, dI)) (ci := 2) (v := .int v_known) (C := RX2) (T := TX2) (N := 2) hx hb hts iwX2_stepBack_X2 hown hK hP 0 rfl rfl 1 (by decide) f34 (fun _ h9 => h9) rfl dX2_stepBack_19 ?_
  refine lv_iconst (v := 1) hx hb dX2_stepBack_22 (by decide) ?_
  refine lv_isub hx hb dX2_stepBack_23 ?_
  refine lv_iconst (v := 0) hx hb dX2_stepBack_24 (by decide) ?_
  refine va_mmax hx hb (by rw [hml]; exact hl.1.symm) hown (hts (.methodLink RX2 49 Lib.Math.max.name) (by decide +kernel)) (hts (.static Lib.Math.max.name) (by decide +kernel)) (hts (.initialized "java/lang/Math") (by decide +kernel)) (hts (.code Lib.Math.max.name Lib.Math.max.code 2 (some .int)) (by decide +kernel)) (Nat.le_of_ble_eq_true rfl) (Nat.le_of_ble_eq_true rfl) (Nat.zero_le _) (Nat.zero_le _) dX2_stepBack_25 ?_
  refine lv_topi (fun n_3 e_4 => ?_)
  replace h := h n_3 e_4
  refine va_put (D := (dC, dI)) (ci := 2) (v := .int n_3) (ty := .int) (C := RX2) (T := TX2) (N := 2) hx hb hts iwX2_stepBack_X2 tyX2 tyX2_ok nmX2 hown hK hP hD hS 0 rfl rfl 1 (by decide) f34 (fun _ h9 => h9) rfl (by decide +kernel) rfl rfl (Nat.le_of_ble_eq_true rfl) dX2_stepBack_28 (fun H locs hP hD hS => ?_)
  replace hP : va_P (dC, dI) vwCl [(a, .inr (2, [.ref a_rows, .int n_3])), (a_rows, .inl (cyI, 165, .inl f_1))] H := hP
  replace hD : va_D A [(a, .inr (2, [.ref a_rows, .int n_3])), (a_rows, .inl (cyI, 165, .inl f_1))] := hD
  exact grv2 hx hb hr hlocks h hP hD hS dX2_stepBack_31

def F_X2_copyFrom_e (w0_known : Int32) (w0_rows : Nat → Int32) (Q : Int32 → (Nat → Int32) → Prop) (v_known : Int32) (v_rows : Nat → Int32) : Prop :=
  ∀ f_1 : Nat → Int32, f_1 = va_cpy w0_rows v_rows ((0 : Int32)).toNatClampNeg ((0 : Int32)).toNatClampNeg ((165 : Int32)).toNatClampNeg → (Q w0_known f_1)
def q_X2_copyFrom (v_known : Int32) (w0_known : Int32) (w0_rows : Nat → Int32) (v_rows : Nat → Int32) (Q : Int32 → (Nat → Int32) → Prop) : Prop := F_X2_copyFrom_e w0_known w0_rows Q v_known v_rows
theorem iwX2_copyFrom_X2 : ∀ w ∈ wsX20, w ∈ wsX2_copyFrom := by decide +kernel
theorem hdV_X2_copyFrom : yX2_copyFrom.cls = RX2 ∧ yX2_copyFrom.cls ≠ "java/lang/invoke/MethodHandle" ∧ yX2_copyFrom.cls ≠ "java/lang/invoke/VarHandle" ∧ (parseMethodDescriptor yX2_copyFrom.desc).map (fun d => d.parameters.length) = some 1 := by decide +kernel
set_option maxHeartbeats 4000000 in
set_option maxRecDepth 100000 in
theorem c_X2_copyFrom (l : Launch) (dC : Nat → ClassId) (dI : Nat → Nat → Nat) (cyC cyI cyZ : ClassId) (sz : Nat) (a a_rows b0 b0_rows : Nat) (v_known : Int32) (w0_known : Int32) (w0_rows : Nat → Int32) (v_rows : Nat → Int32) {Q : Int32 → (Nat → Int32) → Prop} (h : q_X2_copyFrom v_known w0_known w0_rows v_rows Q) : Met l yX2_copyFrom wsX2_copyFrom ({ frames := 1, cells := 0, slots := 0, locals := 40 }) (gPc [.ref a, .ref b0] (dC, dI) (gTy cyC cyI cyZ) sz [(a, .inr (2, [.ref a_rows, .int v_known])), (b0, .inr (2, [.ref b0_rows, .int w0_known])), (b0_rows, .inl (cyI, 165, .inl w0_rows)), (a_rows, .inl (cyI, 165, .inl v_rows))]) (gQv2 Q (dC, dI) (va_A [(a, .inr (2, [.ref a_rows, .int v_known])), (b0, .inr (2, [.ref b0_rows, .int w0_known])), (b0_rows, .inl (cyI, 165, .inl w0_rows)), (a_rows, .inl (cyI, 165, .inl v_rows))] sz) (fun (u1 : Int32) (u2 : Nat → Int32) => [(a, .inr (2, [.ref a_rows, .int u1])), (b0, .inr (2, [.ref b0_rows, .int w0_known])), (b0_rows, .inl (cyI, 165, .inl w0_rows)), (a_rows, .inl (cyI, 165, .inl u2))])) 0 0 (va_A [(a, .inr (2, [.ref a_rows, .int v_known])), (b0, .inr (2, [.ref b0_rows, .int w0_known])), (b0_rows, .inl (cyI, 165, .inl w0_rows)), (a_rows, .inl (cyI, 165, .inl v_rows))] sz) := by
  refine gMet (cc := cX2_copyFrom) (maxL := 2) (ret := none) (own := RX2) (fun A => gQv2 Q (dC, dI) A (fun (u1 : Int32) (u2 : Nat → Int32) => [(a, .inr (2, [.ref a_rows, .int u1])), (b0, .inr (2, [.ref b0_rows, .int w0_known])), (b0_rows, .inl (cyI, 165, .inl w0_rows)), (a_rows, .inl (cyI, 165, .inl u2))])) (by decide) rfl rfl (Nat.le_of_ble_eq_true rfl) ?_
  intro p e s m below meth c A ls C0 _ hK hN hP hD hA hl
  obtain ⟨hx, hb, hr, hml, hown, hts, hlocks⟩ := id C0
  have f11 := hts (.fieldLink RX2 11 "LastOchre$Course" "rows" "[I") (by decide +kernel)
  have f34 := hts (.fieldLink RX2 34 "LastOchre$Course" "known" "I") (by decide +kernel)
  have hS : va_S A s.heap s.heap [] := va_S.rf
  replace hl : lv_has ls 2 [(0, .ref a), (1, .ref b0)] := hl
  unfold q_X2_copyFrom at h
  unfold F_X2_copyFrom_e at h
  refine lv_aload_n hx hb dX2_copyFrom_0 rfl (lv_at hl 1 rfl) ?_
  refine va_get (D := (dC, dI)) (ci := 2) (v := .ref b0_rows) (C := RX2) (T := TX2) (N := 2) hx hb hts iwX2_copyFrom_X2 hown hK hP 1 rfl rfl 0 (by decide) f11 (fun _ h9 => h9) rfl dX2_copyFrom_1 ?_
  refine lv_iconst (v := 0) hx hb dX2_copyFrom_4 (by decide) ?_
  refine lv_aload_n hx hb dX2_copyFrom_5 rfl (lv_at hl 0 rfl) ?_
  refine va_get (D := (dC, dI)) (ci := 2) (v := .ref a_rows) (C := RX2) (T := TX2) (N := 2) hx hb hts iwX2_copyFrom_X2 hown hK hP 0 rfl rfl 0 (by decide) f11 (fun _ h9 => h9) rfl dX2_copyFrom_6 ?_
  refine lv_iconst (v := 0) hx hb dX2_copyFrom_9 (by decide) ?_
  refine lv_sipush (v := 165) hx hb dX2_copyFrom_10 (by decide) ?_
  refine va_copyi hx hb (by rw [hml]; exact hl.1.symm) hown (hts (.methodLink RX2 37 arraycopyName) (by decide +kernel)) (hts (.native arraycopyName) (by decide +kernel)) (hts (.static arraycopyName) (by decide +kernel)) (hts (.initialized "java/lang/System") (by decide +kernel)) hK hP hD hS 2 3 0 0 (ty := .int) rfl rfl rfl rfl rfl (by decide) (by decide) (by decide) (by decide) (by decide) (fun _ _ => rfl) (Nat.le_of_ble_eq_true rfl) (by decide) dX2_copyFrom_13 (fun H locs hP hD hS => ?_)
  obtain ⟨f_1, e_2⟩ : ∃ y : Nat → Int32, y = va_cpy w0_rows v_rows ((0 : Int32)).toNatClampNeg ((0 : Int32)).toNatClampNeg ((165 : Int32)).toNatClampNeg := ⟨_, rfl⟩
  replace h := h f_1 e_2
  replace hP : va_P (dC, dI) vwCl [(a, .inr (2, [.ref a_rows, .int v_known])), (b0, .inr (2, [.ref b0_rows, .int w0_known])), (b0_rows, .inl (cyI, 165, .inl w0_rows)), (a_rows, .inl (cyI, 165, .inl f_1))] H := by rw [e_2]; exact hP
  replace hD : va_D A [(a, .inr (2, [.ref a_rows, .int v_known])), (b0, .inr (2, [.ref b0_rows, .int w0_known])), (b0_rows, .inl (cyI, 165, .inl w0_rows)), (a_rows, .inl (cyI, 165, .inl f_1))] := by rw [e_2]; exact hD
  refine lv_aload_n hx hb dX2_copyFrom_16 rfl (lv_at hl 0 rfl) ?_
  refine lv_aload_n hx hb dX2_copyFrom_17 rfl (lv_at hl 1 rfl) ?_
  refine va_get (D := (dC, dI)) (ci := 2) (v := .int w0_known) (C := RX2) (T := TX2) (N := 2) hx hb hts iwX2_copyFrom_X2 hown hK hP 1 rfl rfl 1 (by decide) f34 (fun _ h9 => h9) rfl dX2_copyFrom_18 ?_
  refine va_put (D := (dC, dI)) (ci := 2) (v := .int w0_known) (ty := .int) (C := RX2) (T := TX2) (N := 2) hx hb hts iwX2_copyFrom_X2 tyX2 tyX2_ok nmX2 hown hK hP hD hS 0 rfl rfl 1 (by decide) f34 (fun _ h9 => h9) rfl (by decide +kernel) rfl rfl (Nat.le_of_ble_eq_true rfl) dX2_copyFrom_21 (fun H locs hP hD hS => ?_)
  replace hP : va_P (dC, dI) vwCl [(a, .inr (2, [.ref a_rows, .int w0_known])), (b0, .inr (2, [.ref b0_rows, .int w0_known])), (b0_rows, .inl (cyI, 165, .inl w0_rows)), (a_rows, .inl (cyI, 165, .inl f_1))] H := hP
  replace hD : va_D A [(a, .inr (2, [.ref a_rows, .int w0_known])), (b0, .inr (2, [.ref b0_rows, .int w0_known])), (b0_rows, .inl (cyI, 165, .inl w0_rows)), (a_rows, .inl (cyI, 165, .inl f_1))] := hD
  exact grv2 hx hb hr hlocks h hP hD hS dX2_copyFrom_24

def F_X2_dug_e (v_rows : Nat → Int32) (Q : Int32 → Prop)  : Prop :=
  Q (v_rows ((0 : Int32)).toNatClampNeg)
def q_X2_dug (v_rows : Nat → Int32) (Q : Int32 → Prop) : Prop := F_X2_dug_e v_rows Q 
theorem iwX2_dug_X2 : ∀ w ∈ wsX20, w ∈ wsX2_dug := by decide +kernel
theorem hdV_X2_dug : yX2_dug.cls = RX2 ∧ yX2_dug.cls ≠ "java/lang/invoke/MethodHandle" ∧ yX2_dug.cls ≠ "java/lang/invoke/VarHandle" ∧ (parseMethodDescriptor yX2_dug.desc).map (fun d => d.parameters.length) = some 0 := by decide +kernel
set_option maxHeartbeats 4000000 in
set_option maxRecDepth 100000 in
theorem c_X2_dug (l : Launch) (dC : Nat → ClassId) (dI : Nat → Nat → Nat) (cyC cyI cyZ : ClassId) (sz : Nat) (a a_rows : Nat) (v_known : Int32) (v_rows : Nat → Int32) {Q : Int32 → Prop} (h : q_X2_dug v_rows Q) : Met l yX2_dug wsX2_dug ({ frames := 0, cells := 0, slots := 0, locals := 0 }) (gPc [.ref a] (dC, dI) (gTy cyC cyI cyZ) sz [(a, .inr (2, [.ref a_rows, .int v_known])), (a_rows, .inl (cyI, 165, .inl v_rows))]) (gQi0 Q (dC, dI) (va_A [(a, .inr (2, [.ref a_rows, .int v_known])), (a_rows, .inl (cyI, 165, .inl v_rows))] sz) [(a, .inr (2, [.ref a_rows, .int v_known])), (a_rows, .inl (cyI, 165, .inl v_rows))]) 0 0 (va_A [(a, .inr (2, [.ref a_rows, .int v_known])), (a_rows, .inl (cyI, 165, .inl v_rows))] sz) := by
  refine gMet (cc := cX2_dug) (maxL := 1) (ret := (some .int)) (own := RX2) (fun A => gQi0 Q (dC, dI) A [(a, .inr (2, [.ref a_rows, .int v_known])), (a_rows, .inl (cyI, 165, .inl v_rows))]) (by decide) rfl rfl (Nat.le_of_ble_eq_true rfl) ?_
  intro p e s m below meth c A ls C0 _ hK hN hP hD hA hl
  obtain ⟨hx, hb, hr, hml, hown, hts, hlocks⟩ := id C0
  have f11 := hts (.fieldLink RX2 11 "LastOchre$Course" "rows" "[I") (by decide +kernel)
  have hS : va_S A s.heap s.heap [] := va_S.rf
  replace hl : lv_has ls 1 [(0, .ref a)] := hl
  unfold q_X2_dug at h
  unfold F_X2_dug_e at h
  refine lv_aload_n hx hb dX2_dug_0 rfl (lv_at hl 0 rfl) ?_
  refine va_get (D := (dC, dI)) (ci := 2) (v := .ref a_rows) (C := RX2) (T := TX2) (N := 2) hx hb hts iwX2_dug_X2 hown hK hP 0 rfl rfl 0 (by decide) f11 (fun _ h9 => h9) rfl dX2_dug_1 ?_
  refine lv_iconst (v := 0) hx hb dX2_dug_4 (by decide) ?_
  refine va_iald hx hb hK hP 1 0 rfl rfl (by unfold vp_in; decide) dX2_dug_5 ?_
  exact gri0 hx hb hr hlocks h hP hD hS dX2_dug_6

def F_X2_store_e (v_rows : Nat → Int32) (Q : Int32 → Prop)  : Prop :=
  Q (v_rows ((1 : Int32)).toNatClampNeg)
def q_X2_store (v_rows : Nat → Int32) (Q : Int32 → Prop) : Prop := F_X2_store_e v_rows Q 
theorem iwX2_store_X2 : ∀ w ∈ wsX20, w ∈ wsX2_store := by decide +kernel
theorem hdV_X2_store : yX2_store.cls = RX2 ∧ yX2_store.cls ≠ "java/lang/invoke/MethodHandle" ∧ yX2_store.cls ≠ "java/lang/invoke/VarHandle" ∧ (parseMethodDescriptor yX2_store.desc).map (fun d => d.parameters.length) = some 0 := by decide +kernel
set_option maxHeartbeats 4000000 in
set_option maxRecDepth 100000 in
theorem c_X2_store (l : Launch) (dC : Nat → ClassId) (dI : Nat → Nat → Nat) (cyC cyI cyZ : ClassId) (sz : Nat) (a a_rows : Nat) (v_known : Int32) (v_rows : Nat → Int32) {Q : Int32 → Prop} (h : q_X2_store v_rows Q) : Met l yX2_store wsX2_store ({ frames := 0, cells := 0, slots := 0, locals := 0 }) (gPc [.ref a] (dC, dI) (gTy cyC cyI cyZ) sz [(a, .inr (2, [.ref a_rows, .int v_known])), (a_rows, .inl (cyI, 165, .inl v_rows))]) (gQi0 Q (dC, dI) (va_A [(a, .inr (2, [.ref a_rows, .int v_known])), (a_rows, .inl (cyI, 165, .inl v_rows))] sz) [(a, .inr (2, [.ref a_rows, .int v_known])), (a_rows, .inl (cyI, 165, .inl v_rows))]) 0 0 (va_A [(a, .inr (2, [.ref a_rows, .int v_known])), (a_rows, .inl (cyI, 165, .inl v_rows))] sz) := by
  refine gMet (cc := cX2_store) (maxL := 1) (ret := (some .int)) (own := RX2) (fun A => gQi0 Q (dC, dI) A [(a, .inr (2, [.ref a_rows, .int v_known])), (a_rows, .inl (cyI, 165, .inl v_rows))]) (by decide) rfl rfl (Nat.le_of_ble_eq_true rfl) ?_
  intro p e s m below meth c A ls C0 _ hK hN hP hD hA hl
  obtain ⟨hx, hb, hr, hml, hown, hts, hlocks⟩ := id C0
  have f11 := hts (.fieldLink RX2 11 "LastOchre$Course" "rows" "[I") (by decide +kernel)
  have hS : va_S A s.heap s.heap [] := va_S.rf
  replace hl : lv_has ls 1 [(0, .ref a)] := hl
  unfold q_X2_store at h
  unfold F_X2_store_e at h
  refine lv_aload_n hx hb dX2_store_0 rfl (lv_at hl 0 rfl) ?_
  refine va_get (D := (dC, dI)) (ci := 2) (v := .ref a_rows) (C := RX2) (T := TX2) (N := 2) hx hb hts iwX2_store_X2 hown hK hP 0 rfl rfl 0 (by decide) f11 (fun _ h9 => h9) rfl dX2_store_1 ?_
  refine lv_iconst (v := 1) hx hb dX2_store_4 (by decide) ?_
  refine va_iald hx hb hK hP 1 0 rfl rfl (by unfold vp_in; decide) dX2_store_5 ?_
  exact gri0 hx hb hr hlocks h hP hD hS dX2_store_6

def F_X2_year_e (v_rows : Nat → Int32) (Q : Int32 → Prop)  : Prop :=
  Q (v_rows ((2 : Int32)).toNatClampNeg)
def q_X2_year (v_rows : Nat → Int32) (Q : Int32 → Prop) : Prop := F_X2_year_e v_rows Q 
theorem iwX2_year_X2 : ∀ w ∈ wsX20, w ∈ wsX2_year := by decide +kernel
theorem hdV_X2_year : yX2_year.cls = RX2 ∧ yX2_year.cls ≠ "java/lang/invoke/MethodHandle" ∧ yX2_year.cls ≠ "java/lang/invoke/VarHandle" ∧ (parseMethodDescriptor yX2_year.desc).map (fun d => d.parameters.length) = some 0 := by decide +kernel
set_option maxHeartbeats 4000000 in
set_option maxRecDepth 100000 in
theorem c_X2_year (l : Launch) (dC : Nat → ClassId) (dI : Nat → Nat → Nat) (cyC cyI cyZ : ClassId) (sz : Nat) (a a_rows : Nat) (v_known : Int32) (v_rows : Nat → Int32) {Q : Int32 → Prop} (h : q_X2_year v_rows Q) : Met l yX2_year wsX2_year ({ frames := 0, cells := 0, slots := 0, locals := 0 }) (gPc [.ref a] (dC, dI) (gTy cyC cyI cyZ) sz [(a, .inr (2, [.ref a_rows, .int v_known])), (a_rows, .inl (cyI, 165, .inl v_rows))]) (gQi0 Q (dC, dI) (va_A [(a, .inr (2, [.ref a_rows, .int v_known])), (a_rows, .inl (cyI, 165, .inl v_rows))] sz) [(a, .inr (2, [.ref a_rows, .int v_known])), (a_rows, .inl (cyI, 165, .inl v_rows))]) 0 0 (va_A [(a, .inr (2, [.ref a_rows, .int v_known])), (a_rows, .inl (cyI, 165, .inl v_rows))] sz) := by
  refine gMet (cc := cX2_year) (maxL := 1) (ret := (some .int)) (own := RX2) (fun A => gQi0 Q (dC, dI) A [(a, .inr (2, [.ref a_rows, .int v_known])), (a_rows, .inl (cyI, 165, .inl v_rows))]) (by decide) rfl rfl (Nat.le_of_ble_eq_true rfl) ?_
  intro p e s m below meth c A ls C0 _ hK hN hP hD hA hl
  obtain ⟨hx, hb, hr, hml, hown, hts, hlocks⟩ := id C0
  have f11 := hts (.fieldLink RX2 11 "LastOchre$Course" "rows" "[I") (by decide +kernel)
  have hS : va_S A s.heap s.heap [] := va_S.rf
  replace hl : lv_has ls 1 [(0, .ref a)] := hl
  unfold q_X2_year at h
  unfold F_X2_year_e at h
  refine lv_aload_n hx hb dX2_year_0 rfl (lv_at hl 0 rfl) ?_
  refine va_get (D := (dC, dI)) (ci := 2) (v := .ref a_rows) (C := RX2) (T := TX2) (N := 2) hx hb hts iwX2_year_X2 hown hK hP 0 rfl rfl 0 (by decide) f11 (fun _ h9 => h9) rfl dX2_year_1 ?_
  refine lv_iconst (v := 2) hx hb dX2_year_4 (by decide) ?_
  refine va_iald hx hb hK hP 1 0 rfl rfl (by unfold vp_in; decide) dX2_year_5 ?_
  exact gri0 hx hb hr hlocks h hP hD hS dX2_year_6

def F_X2_yellow_e (v_rows : Nat → Int32) (p0 : Int32) (Q : Int32 → Prop)  : Prop :=
  vp_in ((3 : Int32) + p0) 165 ∧ (Q (v_rows (((3 : Int32) + p0)).toNatClampNeg))
def q_X2_yellow (v_rows : Nat → Int32) (p0 : Int32) (Q : Int32 → Prop) : Prop := F_X2_yellow_e v_rows p0 Q 
theorem iwX2_yellow_X2 : ∀ w ∈ wsX20, w ∈ wsX2_yellow := by decide +kernel
theorem hdV_X2_yellow : yX2_yellow.cls = RX2 ∧ yX2_yellow.cls ≠ "java/lang/invoke/MethodHandle" ∧ yX2_yellow.cls ≠ "java/lang/invoke/VarHandle" ∧ (parseMethodDescriptor yX2_yellow.desc).map (fun d => d.parameters.length) = some 1 := by decide +kernel
set_option maxHeartbeats 4000000 in
set_option maxRecDepth 100000 in
theorem c_X2_yellow (l : Launch) (dC : Nat → ClassId) (dI : Nat → Nat → Nat) (cyC cyI cyZ : ClassId) (sz : Nat) (a a_rows : Nat) (v_known : Int32) (v_rows : Nat → Int32) (p0 : Int32) {Q : Int32 → Prop} (h : q_X2_yellow v_rows p0 Q) : Met l yX2_yellow wsX2_yellow ({ frames := 0, cells := 0, slots := 0, locals := 0 }) (gPc [.ref a, .int p0] (dC, dI) (gTy cyC cyI cyZ) sz [(a, .inr (2, [.ref a_rows, .int v_known])), (a_rows, .inl (cyI, 165, .inl v_rows))]) (gQi0 Q (dC, dI) (va_A [(a, .inr (2, [.ref a_rows, .int v_known])), (a_rows, .inl (cyI, 165, .inl v_rows))] sz) [(a, .inr (2, [.ref a_rows, .int v_known])), (a_rows, .inl (cyI, 165, .inl v_rows))]) 0 0 (va_A [(a, .inr (2, [.ref a_rows, .int v_known])), (a_rows, .inl (cyI, 165, .inl v_rows))] sz) := by
  refine gMet (cc := cX2_yellow) (maxL := 2) (ret := (some .int)) (own := RX2) (fun A => gQi0 Q (dC, dI) A [(a, .inr (2, [.ref a_rows, .int v_known])), (a_rows, .inl (cyI, 165, .inl v_rows))]) (by decide) rfl rfl (Nat.le_of_ble_eq_true rfl) ?_
  intro p e s m below meth c A ls C0 _ hK hN hP hD hA hl
  obtain ⟨hx, hb, hr, hml, hown, hts, hlocks⟩ := id C0
  have f11 := hts (.fieldLink RX2 11 "LastOchre$Course" "rows" "[I") (by decide +kernel)
  have hS : va_S A s.heap s.heap [] := va_S.rf
  replace hl : lv_has ls 2 [(0, .ref a), (1, .int p0)] := hl
  unfold q_X2_yellow at h
  unfold F_X2_yellow_e at h
  refine lv_aload_n hx hb dX2_yellow_0 rfl (lv_at hl 0 rfl) ?_
  refine va_get (D := (dC, dI)) (ci := 2) (v := .ref a_rows) (C := RX2) (T := TX2) (N := 2) hx hb hts iwX2_yellow_X2 hown hK hP 0 rfl rfl 0 (by decide) f11 (fun _ h9 => h9) rfl dX2_yellow_1 ?_
  refine lv_iconst (v := 3) hx hb dX2_yellow_4 (by decide) ?_
  refine lv_iload_n hx hb dX2_yellow_5 rfl (lv_at hl 1 rfl) ?_
  refine lv_iadd hx hb dX2_yellow_6 ?_
  have g_1 := h.1
  replace h := h.2
  refine va_iald hx hb hK hP 1 0 rfl rfl g_1 dX2_yellow_7 ?_
  exact gri0 hx hb hr hlocks h hP hD hS dX2_yellow_8

def F_X2_white_e (v_rows : Nat → Int32) (p0 : Int32) (Q : Int32 → Prop)  : Prop :=
  vp_in ((9 : Int32) + p0) 165 ∧ (Q (v_rows (((9 : Int32) + p0)).toNatClampNeg))
def q_X2_white (v_rows : Nat → Int32) (p0 : Int32) (Q : Int32 → Prop) : Prop := F_X2_white_e v_rows p0 Q 
theorem iwX2_white_X2 : ∀ w ∈ wsX20, w ∈ wsX2_white := by decide +kernel
theorem hdV_X2_white : yX2_white.cls = RX2 ∧ yX2_white.cls ≠ "java/lang/invoke/MethodHandle" ∧ yX2_white.cls ≠ "java/lang/invoke/VarHandle" ∧ (parseMethodDescriptor yX2_white.desc).map (fun d => d.parameters.length) = some 1 := by decide +kernel
set_option maxHeartbeats 4000000 in
set_option maxRecDepth 100000 in
theorem c_X2_white (l : Launch) (dC : Nat → ClassId) (dI : Nat → Nat → Nat) (cyC cyI cyZ : ClassId) (sz : Nat) (a a_rows : Nat) (v_known : Int32) (v_rows : Nat → Int32) (p0 : Int32) {Q : Int32 → Prop} (h : q_X2_white v_rows p0 Q) : Met l yX2_white wsX2_white ({ frames := 0, cells := 0, slots := 0, locals := 0 }) (gPc [.ref a, .int p0] (dC, dI) (gTy cyC cyI cyZ) sz [(a, .inr (2, [.ref a_rows, .int v_known])), (a_rows, .inl (cyI, 165, .inl v_rows))]) (gQi0 Q (dC, dI) (va_A [(a, .inr (2, [.ref a_rows, .int v_known])), (a_rows, .inl (cyI, 165, .inl v_rows))] sz) [(a, .inr (2, [.ref a_rows, .int v_known])), (a_rows, .inl (cyI, 165, .inl v_rows))]) 0 0 (va_A [(a, .inr (2, [.ref a_rows, .int v_known])), (a_rows, .inl (cyI, 165, .inl v_rows))] sz) := by
  refine gMet (cc := cX2_white) (maxL := 2) (ret := (some .int)) (own := RX2) (fun A => gQi0 Q (dC, dI) A [(a, .inr (2, [.ref a_rows, .int v_known])), (a_rows, .inl (cyI, 165, .inl v_rows))]) (by decide) rfl rfl (Nat.le_of_ble_eq_true rfl) ?_
  intro p e s m below meth c A ls C0 _ hK hN hP hD hA hl
  obtain ⟨hx, hb, hr, hml, hown, hts, hlocks⟩ := id C0
  have f11 := hts (.fieldLink RX2 11 "LastOchre$Course" "rows" "[I") (by decide +kernel)
  have hS : va_S A s.heap s.heap [] := va_S.rf
  replace hl : lv_has ls 2 [(0, .ref a), (1, .int p0)] := hl
  unfold q_X2_white at h
  unfold F_X2_white_e at h
  refine lv_aload_n hx hb dX2_white_0 rfl (lv_at hl 0 rfl) ?_
  refine va_get (D := (dC, dI)) (ci := 2) (v := .ref a_rows) (C := RX2) (T := TX2) (N := 2) hx hb hts iwX2_white_X2 hown hK hP 0 rfl rfl 0 (by decide) f11 (fun _ h9 => h9) rfl dX2_white_1 ?_
  refine lv_bipush (v := 9) hx hb dX2_white_4 (by decide) ?_
  refine lv_iload_n hx hb dX2_white_6 rfl (lv_at hl 1 rfl) ?_
  refine lv_iadd hx hb dX2_white_7 ?_
  have g_1 := h.1
  replace h := h.2
  refine va_iald hx hb hK hP 1 0 rfl rfl g_1 dX2_white_8 ?_
  exact gri0 hx hb hr hlocks h hP hD hS dX2_white_9

def F_X2_setDug_e (p0 : Int32) (Q : (Nat → Int32) → Prop) (v_rows : Nat → Int32) : Prop :=
  ∀ f_1 : Nat → Int32, f_1 = upd v_rows ((0 : Int32)).toNatClampNeg p0 → (Q f_1)
def q_X2_setDug (v_rows : Nat → Int32) (p0 : Int32) (Q : (Nat → Int32) → Prop) : Prop := F_X2_setDug_e p0 Q v_rows
theorem iwX2_setDug_X2 : ∀ w ∈ wsX20, w ∈ wsX2_setDug := by decide +kernel
theorem hdV_X2_setDug : yX2_setDug.cls = RX2 ∧ yX2_setDug.cls ≠ "java/lang/invoke/MethodHandle" ∧ yX2_setDug.cls ≠ "java/lang/invoke/VarHandle" ∧ (parseMethodDescriptor yX2_setDug.desc).map (fun d => d.parameters.length) = some 1 := by decide +kernel
set_option maxHeartbeats 4000000 in
set_option maxRecDepth 100000 in
theorem c_X2_setDug (l : Launch) (dC : Nat → ClassId) (dI : Nat → Nat → Nat) (cyC cyI cyZ : ClassId) (sz : Nat) (a a_rows : Nat) (v_known : Int32) (v_rows : Nat → Int32) (p0 : Int32) {Q : (Nat → Int32) → Prop} (h : q_X2_setDug v_rows p0 Q) : Met l yX2_setDug wsX2_setDug ({ frames := 0, cells := 0, slots := 0, locals := 0 }) (gPc [.ref a, .int p0] (dC, dI) (gTy cyC cyI cyZ) sz [(a, .inr (2, [.ref a_rows, .int v_known])), (a_rows, .inl (cyI, 165, .inl v_rows))]) (gQv1 Q (dC, dI) (va_A [(a, .inr (2, [.ref a_rows, .int v_known])), (a_rows, .inl (cyI, 165, .inl v_rows))] sz) (fun (u1 : Nat → Int32) => [(a, .inr (2, [.ref a_rows, .int v_known])), (a_rows, .inl (cyI, 165, .inl u1))])) 0 0 (va_A [(a, .inr (2, [.ref a_rows, .int v_known])), (a_rows, .inl (cyI, 165, .inl v_rows))] sz) := by
  refine gMet (cc := cX2_setDug) (maxL := 2) (ret := none) (own := RX2) (fun A => gQv1 Q (dC, dI) A (fun (u1 : Nat → Int32) => [(a, .inr (2, [.ref a_rows, .int v_known])), (a_rows, .inl (cyI, 165, .inl u1))])) (by decide) rfl rfl (Nat.le_of_ble_eq_true rfl) ?_
  intro p e s m below meth c A ls C0 _ hK hN hP hD hA hl
  obtain ⟨hx, hb, hr, hml, hown, hts, hlocks⟩ := id C0
  have f11 := hts (.fieldLink RX2 11 "LastOchre$Course" "rows" "[I") (by decide +kernel)
  have hS : va_S A s.heap s.heap [] := va_S.rf
  replace hl : lv_has ls 2 [(0, .ref a), (1, .int p0)] := hl
  unfold q_X2_setDug at h
  unfold F_X2_setDug_e at h
  refine lv_aload_n hx hb dX2_setDug_0 rfl (lv_at hl 0 rfl) ?_
  refine va_get (D := (dC, dI)) (ci := 2) (v := .ref a_rows) (C := RX2) (T := TX2) (N := 2) hx hb hts iwX2_setDug_X2 hown hK hP 0 rfl rfl 0 (by decide) f11 (fun _ h9 => h9) rfl dX2_setDug_1 ?_
  refine lv_iconst (v := 0) hx hb dX2_setDug_4 (by decide) ?_
  refine lv_iload_n hx hb dX2_setDug_5 rfl (lv_at hl 1 rfl) ?_
  refine va_iast hx hb hK hP hD hS 1 0 rfl rfl (by unfold vp_in; decide) dX2_setDug_6 (fun H locs hP hD hS => ?_)
  obtain ⟨f_1, e_2⟩ : ∃ y : Nat → Int32, y = upd v_rows ((0 : Int32)).toNatClampNeg p0 := ⟨_, rfl⟩
  replace h := h f_1 e_2
  replace hP : va_P (dC, dI) vwCl [(a, .inr (2, [.ref a_rows, .int v_known])), (a_rows, .inl (cyI, 165, .inl f_1))] H := by rw [e_2]; exact hP
  replace hD : va_D A [(a, .inr (2, [.ref a_rows, .int v_known])), (a_rows, .inl (cyI, 165, .inl f_1))] := by rw [e_2]; exact hD
  exact grv1 hx hb hr hlocks h hP hD hS dX2_setDug_7

def F_X2_addStore_e (p0 : Int32) (Q : (Nat → Int32) → Prop) (v_rows : Nat → Int32) : Prop :=
  ∀ f_1 : Nat → Int32, f_1 = upd v_rows ((1 : Int32)).toNatClampNeg ((v_rows ((1 : Int32)).toNatClampNeg) + p0) → (Q f_1)
def q_X2_addStore (v_rows : Nat → Int32) (p0 : Int32) (Q : (Nat → Int32) → Prop) : Prop := F_X2_addStore_e p0 Q v_rows
theorem iwX2_addStore_X2 : ∀ w ∈ wsX20, w ∈ wsX2_addStore := by decide +kernel
theorem hdV_X2_addStore : yX2_addStore.cls = RX2 ∧ yX2_addStore.cls ≠ "java/lang/invoke/MethodHandle" ∧ yX2_addStore.cls ≠ "java/lang/invoke/VarHandle" ∧ (parseMethodDescriptor yX2_addStore.desc).map (fun d => d.parameters.length) = some 1 := by decide +kernel
set_option maxHeartbeats 4000000 in
set_option maxRecDepth 100000 in
theorem c_X2_addStore (l : Launch) (dC : Nat → ClassId) (dI : Nat → Nat → Nat) (cyC cyI cyZ : ClassId) (sz : Nat) (a a_rows : Nat) (v_known : Int32) (v_rows : Nat → Int32) (p0 : Int32) {Q : (Nat → Int32) → Prop} (h : q_X2_addStore v_rows p0 Q) : Met l yX2_addStore wsX2_addStore ({ frames := 0, cells := 0, slots := 0, locals := 0 }) (gPc [.ref a, .int p0] (dC, dI) (gTy cyC cyI cyZ) sz [(a, .inr (2, [.ref a_rows, .int v_known])), (a_rows, .inl (cyI, 165, .inl v_rows))]) (gQv1 Q (dC, dI) (va_A [(a, .inr (2, [.ref a_rows, .int v_known])), (a_rows, .inl (cyI, 165, .inl v_rows))] sz) (fun (u1 : Nat → Int32) => [(a, .inr (2, [.ref a_rows, .int v_known])), (a_rows, .inl (cyI, 165, .inl u1))])) 0 0 (va_A [(a, .inr (2, [.ref a_rows, .int v_known])), (a_rows, .inl (cyI, 165, .inl v_rows))] sz) := by
  refine gMet (cc := cX2_addStore) (maxL := 2) (ret := none) (own := RX2) (fun A => gQv1 Q (dC, dI) A (fun (u1 : Nat → Int32) => [(a, .inr (2, [.ref a_rows, .int v_known])), (a_rows, .inl (cyI, 165, .inl u1))])) (by decide) rfl rfl (Nat.le_of_ble_eq_true rfl) ?_
  intro p e s m below meth c A ls C0 _ hK hN hP hD hA hl
  obtain ⟨hx, hb, hr, hml, hown, hts, hlocks⟩ := id C0
  have f11 := hts (.fieldLink RX2 11 "LastOchre$Course" "rows" "[I") (by decide +kernel)
  have hS : va_S A s.heap s.heap [] := va_S.rf
  replace hl : lv_has ls 2 [(0, .ref a), (1, .int p0)] := hl
  unfold q_X2_addStore at h
  unfold F_X2_addStore_e at h
  refine lv_aload_n hx hb dX2_addStore_0 rfl (lv_at hl 0 rfl) ?_
  refine va_get (D := (dC, dI)) (ci := 2) (v := .ref a_rows) (C := RX2) (T := TX2) (N := 2) hx hb hts iwX2_addStore_X2 hown hK hP 0 rfl rfl 0 (by decide) f11 (fun _ h9 => h9) rfl dX2_addStore_1 ?_
  refine lv_iconst (v := 1) hx hb dX2_addStore_4 (by decide) ?_
  refine lv_dup2_11 hx hb dX2_addStore_5 rfl rfl ?_
  refine va_iald hx hb hK hP 1 0 rfl rfl (by unfold vp_in; decide) dX2_addStore_6 ?_
  refine lv_iload_n hx hb dX2_addStore_7 rfl (lv_at hl 1 rfl) ?_
  refine lv_iadd hx hb dX2_addStore_8 ?_
  refine va_iast hx hb hK hP hD hS 1 0 rfl rfl (by unfold vp_in; decide) dX2_addStore_9 (fun H locs hP hD hS => ?_)
  obtain ⟨f_1, e_2⟩ : ∃ y : Nat → Int32, y = upd v_rows ((1 : Int32)).toNatClampNeg ((v_rows ((1 : Int32)).toNatClampNeg) + p0) := ⟨_, rfl⟩
  replace h := h f_1 e_2
  replace hP : va_P (dC, dI) vwCl [(a, .inr (2, [.ref a_rows, .int v_known])), (a_rows, .inl (cyI, 165, .inl f_1))] H := by rw [e_2]; exact hP
  replace hD : va_D A [(a, .inr (2, [.ref a_rows, .int v_known])), (a_rows, .inl (cyI, 165, .inl f_1))] := by rw [e_2]; exact hD
  exact grv1 hx hb hr hlocks h hP hD hS dX2_addStore_10

def F_X2_setYear_e (p0 : Int32) (Q : (Nat → Int32) → Prop) (v_rows : Nat → Int32) : Prop :=
  ∀ f_1 : Nat → Int32, f_1 = upd v_rows ((2 : Int32)).toNatClampNeg p0 → (Q f_1)
def q_X2_setYear (v_rows : Nat → Int32) (p0 : Int32) (Q : (Nat → Int32) → Prop) : Prop := F_X2_setYear_e p0 Q v_rows
theorem iwX2_setYear_X2 : ∀ w ∈ wsX20, w ∈ wsX2_setYear := by decide +kernel
theorem hdV_X2_setYear : yX2_setYear.cls = RX2 ∧ yX2_setYear.cls ≠ "java/lang/invoke/MethodHandle" ∧ yX2_setYear.cls ≠ "java/lang/invoke/VarHandle" ∧ (parseMethodDescriptor yX2_setYear.desc).map (fun d => d.parameters.length) = some 1 := by decide +kernel
set_option maxHeartbeats 4000000 in
set_option maxRecDepth 100000 in
theorem c_X2_setYear (l : Launch) (dC : Nat → ClassId) (dI : Nat → Nat → Nat) (cyC cyI cyZ : ClassId) (sz : Nat) (a a_rows : Nat) (v_known : Int32) (v_rows : Nat → Int32) (p0 : Int32) {Q : (Nat → Int32) → Prop} (h : q_X2_setYear v_rows p0 Q) : Met l yX2_setYear wsX2_setYear ({ frames := 0, cells := 0, slots := 0, locals := 0 }) (gPc [.ref a, .int p0] (dC, dI) (gTy cyC cyI cyZ) sz [(a, .inr (2, [.ref a_rows, .int v_known])), (a_rows, .inl (cyI, 165, .inl v_rows))]) (gQv1 Q (dC, dI) (va_A [(a, .inr (2, [.ref a_rows, .int v_known])), (a_rows, .inl (cyI, 165, .inl v_rows))] sz) (fun (u1 : Nat → Int32) => [(a, .inr (2, [.ref a_rows, .int v_known])), (a_rows, .inl (cyI, 165, .inl u1))])) 0 0 (va_A [(a, .inr (2, [.ref a_rows, .int v_known])), (a_rows, .inl (cyI, 165, .inl v_rows))] sz) := by
  refine gMet (cc := cX2_setYear) (maxL := 2) (ret := none) (own := RX2) (fun A => gQv1 Q (dC, dI) A (fun (u1 : Nat → Int32) => [(a, .inr (2, [.ref a_rows, .int v_known])), (a_rows, .inl (cyI, 165, .inl u1))])) (by decide) rfl rfl (Nat.le_of_ble_eq_true rfl) ?_
  intro p e s m below meth c A ls C0 _ hK hN hP hD hA hl
  obtain ⟨hx, hb, hr, hml, hown, hts, hlocks⟩ := id C0
  have f11 := hts (.fieldLink RX2 11 "LastOchre$Course" "rows" "[I") (by decide +kernel)
  have hS : va_S A s.heap s.heap [] := va_S.rf
  replace hl : lv_has ls 2 [(0, .ref a), (1, .int p0)] := hl
  unfold q_X2_setYear at h
  unfold F_X2_setYear_e at h
  refine lv_aload_n hx hb dX2_setYear_0 rfl (lv_at hl 0 rfl) ?_
  refine va_get (D := (dC, dI)) (ci := 2) (v := .ref a_rows) (C := RX2) (T := TX2) (N := 2) hx hb hts iwX2_setYear_X2 hown hK hP 0 rfl rfl 0 (by decide) f11 (fun _ h9 => h9) rfl dX2_setYear_1 ?_
  refine lv_iconst (v := 2) hx hb dX2_setYear_4 (by decide) ?_
  refine lv_iload_n hx hb dX2_setYear_5 rfl (lv_at hl 1 rfl) ?_
  refine va_iast hx hb hK hP hD hS 1 0 rfl rfl (by unfold vp_in; decide) dX2_setYear_6 (fun H locs hP hD hS => ?_)
  obtain ⟨f_1, e_2⟩ : ∃ y : Nat → Int32, y = upd v_rows ((2 : Int32)).toNatClampNeg p0 := ⟨_, rfl⟩
  replace h := h f_1 e_2
  replace hP : va_P (dC, dI) vwCl [(a, .inr (2, [.ref a_rows, .int v_known])), (a_rows, .inl (cyI, 165, .inl f_1))] H := by rw [e_2]; exact hP
  replace hD : va_D A [(a, .inr (2, [.ref a_rows, .int v_known])), (a_rows, .inl (cyI, 165, .inl f_1))] := by rw [e_2]; exact hD
  exact grv1 hx hb hr hlocks h hP hD hS dX2_setYear_7

def F_X3_add_e (p0 : Int32) (Q : Int32 → Int32 → (Nat → Int32) → Prop) (v_length : Int32) (v_bytes : Nat → Int32) : Prop :=
  (v_length < (150 : Int32) → (vp_in v_length 150 ∧ (∀ f_3 : Nat → Int32, f_3 = upd v_bytes (v_length).toNatClampNeg (vp_nar .char (((p0).toUInt32 % 65536).toInt32)) → (∀ n_5 : Int32, n_5 = (v_length + (1 : Int32)) → (Q (1 : Int32) n_5 f_3))))) ∧ (¬ v_length < (150 : Int32) → (Q (0 : Int32) v_length v_bytes))
def q_X3_add (v_length : Int32) (v_bytes : Nat → Int32) (p0 : Int32) (Q : Int32 → Int32 → (Nat → Int32) → Prop) : Prop := F_X3_add_e p0 Q v_length v_bytes
theorem iwX3_add_X3 : ∀ w ∈ wsX30, w ∈ wsX3_add := by decide +kernel
theorem hdV_X3_add : yX3_add.cls = RX3 ∧ yX3_add.cls ≠ "java/lang/invoke/MethodHandle" ∧ yX3_add.cls ≠ "java/lang/invoke/VarHandle" ∧ (parseMethodDescriptor yX3_add.desc).map (fun d => d.parameters.length) = some 1 := by decide +kernel
set_option maxHeartbeats 4000000 in
set_option maxRecDepth 100000 in
theorem c_X3_add (l : Launch) (dC : Nat → ClassId) (dI : Nat → Nat → Nat) (cyC cyI cyZ : ClassId) (sz : Nat) (a a_bytes : Nat) (v_length : Int32) (v_place : Int32) (v_tokenStart : Int32) (v_bytes : Nat → Int32) (p0 : Int32) {Q : Int32 → Int32 → (Nat → Int32) → Prop} (h : q_X3_add v_length v_bytes p0 Q) : Met l yX3_add wsX3_add ({ frames := 0, cells := 0, slots := 0, locals := 0 }) (gPc [.ref a, .int p0] (dC, dI) (gTy cyC cyI cyZ) sz [(a, .inr (3, [.ref a_bytes, .int v_length, .int v_place, .int v_tokenStart])), (a_bytes, .inl (cyC, 150, .inl v_bytes))]) (gQi2 Q (dC, dI) (va_A [(a, .inr (3, [.ref a_bytes, .int v_length, .int v_place, .int v_tokenStart])), (a_bytes, .inl (cyC, 150, .inl v_bytes))] sz) (fun (u1 : Int32) (u2 : Nat → Int32) => [(a, .inr (3, [.ref a_bytes, .int u1, .int v_place, .int v_tokenStart])), (a_bytes, .inl (cyC, 150, .inl u2))])) 0 0 (va_A [(a, .inr (3, [.ref a_bytes, .int v_length, .int v_place, .int v_tokenStart])), (a_bytes, .inl (cyC, 150, .inl v_bytes))] sz) := by
  refine gMet (cc := cX3_add) (maxL := 2) (ret := (some .boolean)) (own := RX3) (fun A => gQi2 Q (dC, dI) A (fun (u1 : Int32) (u2 : Nat → Int32) => [(a, .inr (3, [.ref a_bytes, .int u1, .int v_place, .int v_tokenStart])), (a_bytes, .inl (cyC, 150, .inl u2))])) (by decide) rfl rfl (Nat.le_of_ble_eq_true rfl) ?_
  intro p e s m below meth c A ls C0 _ hK hN hP hD hA hl
  obtain ⟨hx, hb, hr, hml, hown, hts, hlocks⟩ := id C0
  have f15 := hts (.fieldLink RX3 15 "LastOchre$Reader" "length" "I") (by decide +kernel)
  have f9 := hts (.fieldLink RX3 9 "LastOchre$Reader" "bytes" "[C") (by decide +kernel)
  have hS : va_S A s.heap s.heap [] := va_S.rf
  replace hl : lv_has ls 2 [(0, .ref a), (1, .int p0)] := hl
  unfold q_X3_add at h
  unfold F_X3_add_e at h
  refine lv_aload_n hx hb dX3_add_0 rfl (lv_at hl 0 rfl) ?_
  refine va_get (D := (dC, dI)) (ci := 3) (v := .int v_length) (C := RX3) (T := TX3) (N := 4) hx hb hts iwX3_add_X3 hown hK hP 0 rfl rfl 1 (by decide) f15 (fun _ h9 => h9) rfl dX3_add_1 ?_
  refine lv_sipush (v := 150) hx hb dX3_add_4 (by decide) ?_
  refine lv_icmp_lt (tgt := 12) hx hb dX3_add_7 (by decide) (fun c_1 => ?_) (fun c_1 => ?_)
  · replace h := h.1 c_1
    refine lv_aload_n hx hb dX3_add_12 rfl (lv_at hl 0 rfl) ?_
    refine va_get (D := (dC, dI)) (ci := 3) (v := .ref a_bytes) (C := RX3) (T := TX3) (N := 4) hx hb hts iwX3_add_X3 hown hK hP 0 rfl rfl 0 (by decide) f9 (fun _ h9 => h9) rfl dX3_add_13 ?_
    refine lv_aload_n hx hb dX3_add_16 rfl (lv_at hl 0 rfl) ?_
    refine va_get (D := (dC, dI)) (ci := 3) (v := .int v_length) (C := RX3) (T := TX3) (N := 4) hx hb hts iwX3_add_X3 hown hK hP 0 rfl rfl 1 (by decide) f15 (fun _ h9 => h9) rfl dX3_add_17 ?_
    refine lv_iload_n hx hb dX3_add_20 rfl (lv_at hl 1 rfl) ?_
    refine lv_i2c hx hb dX3_add_21 rfl ?_
    have g_2 := h.1
    replace h := h.2
    refine va_cast hx hb hK hP hD hS 1 1 rfl rfl g_2 dX3_add_22 (fun H locs hP hD hS => ?_)
    obtain ⟨f_3, e_4⟩ : ∃ y : Nat → Int32, y = upd v_bytes (v_length).toNatClampNeg (vp_nar .char (((p0).toUInt32 % 65536).toInt32)) := ⟨_, rfl⟩
    replace h := h f_3 e_4
    replace hP : va_P (dC, dI) vwCl [(a, .inr (3, [.ref a_bytes, .int v_length, .int v_place, .int v_tokenStart])), (a_bytes, .inl (cyC, 150, .inl f_3))] H := by rw [e_4]; exact hP
    replace hD : va_D A [(a, .inr (3, [.ref a_bytes, .int v_length, .int v_place, .int v_tokenStart])), (a_bytes, .inl (cyC, 150, .inl f_3))] := by rw [e_4]; exact hD
    refine lv_aload_n hx hb dX3_add_23 rfl (lv_at hl 0 rfl) ?_
    refine lv_dup hx hb dX3_add_24 rfl ?_
    refine va_get (D := (dC, dI)) (ci := 3) (v := .int v_length) (C := RX3) (T := TX3) (N := 4) hx hb hts iwX3_add_X3 hown hK hP 0 rfl rfl 1 (by decide) f15 (fun _ h9 => h9) rfl dX3_add_25 ?_
    refine lv_iconst (v := 1) hx hb dX3_add_28 (by decide) ?_
    refine lv_iadd hx hb dX3_add_29 ?_
    refine lv_topi (fun n_5 e_6 => ?_)
    replace h := h n_5 e_6
    refine va_put (D := (dC, dI)) (ci := 3) (v := .int n_5) (ty := .int) (C := RX3) (T := TX3) (N := 4) hx hb hts iwX3_add_X3 tyX3 tyX3_ok nmX3 hown hK hP hD hS 0 rfl rfl 1 (by decide) f15 (fun _ h9 => h9) rfl (by decide +kernel) rfl rfl (Nat.le_of_ble_eq_true rfl) dX3_add_30 (fun H locs hP hD hS => ?_)
    replace hP : va_P (dC, dI) vwCl [(a, .inr (3, [.ref a_bytes, .int n_5, .int v_place, .int v_tokenStart])), (a_bytes, .inl (cyC, 150, .inl f_3))] H := hP
    replace hD : va_D A [(a, .inr (3, [.ref a_bytes, .int n_5, .int v_place, .int v_tokenStart])), (a_bytes, .inl (cyC, 150, .inl f_3))] := hD
    refine lv_iconst (v := 1) hx hb dX3_add_33 (by decide) ?_
    exact grz2 hx hb hr hlocks rfl h hP hD hS dX3_add_34
  · replace h := h.2 c_1
    refine lv_iconst (v := 0) hx hb dX3_add_10 (by decide) ?_
    exact grz2 hx hb hr hlocks rfl h hP hD hS dX3_add_11

def F_X4_bitOf_e (v_w : Int32) (p0 : Int32) (p1 : Int32) (Q : Int32 → Prop)  : Prop :=
  Q ((1 : Int32) <<< (((v_w * p1) + p0) &&& 31))
def q_X4_bitOf (v_w : Int32) (p0 : Int32) (p1 : Int32) (Q : Int32 → Prop) : Prop := F_X4_bitOf_e v_w p0 p1 Q 
theorem iwX4_bitOf_X4 : ∀ w ∈ wsX40, w ∈ wsX4_bitOf := by decide +kernel
theorem hdV_X4_bitOf : yX4_bitOf.cls = RX4 ∧ yX4_bitOf.cls ≠ "java/lang/invoke/MethodHandle" ∧ yX4_bitOf.cls ≠ "java/lang/invoke/VarHandle" ∧ (parseMethodDescriptor yX4_bitOf.desc).map (fun d => d.parameters.length) = some 2 := by decide +kernel
set_option maxHeartbeats 4000000 in
set_option maxRecDepth 100000 in
theorem c_X4_bitOf (l : Launch) (dC : Nat → ClassId) (dI : Nat → Nat → Nat) (cyC cyI cyZ : ClassId) (sz : Nat) (a a_parts : Nat) (v_w : Int32) (v_h : Int32) (v_all : Int32) (v_top : Int32) (v_left : Int32) (v_right : Int32) (p0 : Int32) (p1 : Int32) {Q : Int32 → Prop} (h : q_X4_bitOf v_w p0 p1 Q) : Met l yX4_bitOf wsX4_bitOf ({ frames := 0, cells := 0, slots := 0, locals := 0 }) (gPc [.ref a, .int p0, .int p1] (dC, dI) (gTy cyC cyI cyZ) sz [(a, .inr (4, [.int v_w, .int v_h, .ref a_parts, .int v_all, .int v_top, .int v_left, .int v_right]))]) (gQi0 Q (dC, dI) (va_A [(a, .inr (4, [.int v_w, .int v_h, .ref a_parts, .int v_all, .int v_top, .int v_left, .int v_right]))] sz) [(a, .inr (4, [.int v_w, .int v_h, .ref a_parts, .int v_all, .int v_top, .int v_left, .int v_right]))]) 0 0 (va_A [(a, .inr (4, [.int v_w, .int v_h, .ref a_parts, .int v_all, .int v_top, .int v_left, .int v_right]))] sz) := by
  refine gMet (cc := cX4_bitOf) (maxL := 3) (ret := (some .int)) (own := RX4) (fun A => gQi0 Q (dC, dI) A [(a, .inr (4, [.int v_w, .int v_h, .ref a_parts, .int v_all, .int v_top, .int v_left, .int v_right]))]) (by decide) rfl rfl (Nat.le_of_ble_eq_true rfl) ?_
  intro p e s m below meth c A ls C0 _ hK hN hP hD hA hl
  obtain ⟨hx, hb, hr, hml, hown, hts, hlocks⟩ := id C0
  have f15 := hts (.fieldLink RX4 15 "LastOchre$Seam" "w" "I") (by decide +kernel)
  have hS : va_S A s.heap s.heap [] := va_S.rf
  replace hl : lv_has ls 3 [(0, .ref a), (1, .int p0), (2, .int p1)] := hl
  unfold q_X4_bitOf at h
  unfold F_X4_bitOf_e at h
  refine lv_iconst (v := 1) hx hb dX4_bitOf_0 (by decide) ?_
  refine lv_aload_n hx hb dX4_bitOf_1 rfl (lv_at hl 0 rfl) ?_
  refine va_get (D := (dC, dI)) (ci := 4) (v := .int v_w) (C := RX4) (T := TX4) (N := 7) hx hb hts iwX4_bitOf_X4 hown hK hP 0 rfl rfl 0 (by decide) f15 (fun _ h9 => h9) rfl dX4_bitOf_2 ?_
  refine lv_iload_n hx hb dX4_bitOf_5 rfl (lv_at hl 2 rfl) ?_
  refine lv_imul hx hb dX4_bitOf_6 ?_
  refine lv_iload_n hx hb dX4_bitOf_7 rfl (lv_at hl 1 rfl) ?_
  refine lv_iadd hx hb dX4_bitOf_8 ?_
  refine lv_ishl hx hb dX4_bitOf_9 ?_
  exact gri0 hx hb hr hlocks h hP hD hS dX4_bitOf_10

def F_X4_shape_e (p0 : Int32) (p1 : Int32) (Q : Int32 → Int32 → Int32 → Int32 → Int32 → Int32 → (Nat → Int32) → Prop) (rec : Nat → Int32 → Int32 → Int32 → Int32 → Int32 → Int32 → Int32 → (Nat → Int32) → Prop) (v_w : Int32) (v_h : Int32) (v_all : Int32) (v_top : Int32) (v_left : Int32) (v_right : Int32) (v_parts : Nat → Int32) : Prop :=
  rec 12 (0 : Int32) p0 p1 v_all v_top v_left v_right v_parts
def F_X4_shape_12 (p0 : Int32) (p1 : Int32) (Q : Int32 → Int32 → Int32 → Int32 → Int32 → Int32 → (Nat → Int32) → Prop) (rec : Nat → Int32 → Int32 → Int32 → Int32 → Int32 → Int32 → Int32 → (Nat → Int32) → Prop) (x3 : Int32) (v_w : Int32) (v_h : Int32) (v_all : Int32) (v_top : Int32) (v_left : Int32) (v_right : Int32) (v_parts : Nat → Int32) : Prop :=
  ((16 : Int32) ≤ x3 → (∀ n_2 : Int32, n_2 = (((1 : Int32) <<< ((v_w * v_h) &&& 31)) - (1 : Int32)) → (∀ n_4 : Int32, n_4 = (((1 : Int32) <<< (v_w &&& 31)) - (1 : Int32)) → (rec 72 (0 : Int32) v_w v_h n_2 n_4 (0 : Int32) (0 : Int32) v_parts)))) ∧ (¬ (16 : Int32) ≤ x3 → (vp_in x3 16 ∧ (∀ f_7 : Nat → Int32, f_7 = upd v_parts (x3).toNatClampNeg (0 : Int32) → (∀ x3_9 : Int32, x3_9 = (x3 + (1 : Int32)) → (rec 12 x3_9 v_w v_h v_all v_top v_left v_right f_7)))))
def F_X4_shape_72 (p0 : Int32) (p1 : Int32) (Q : Int32 → Int32 → Int32 → Int32 → Int32 → Int32 → (Nat → Int32) → Prop) (rec : Nat → Int32 → Int32 → Int32 → Int32 → Int32 → Int32 → Int32 → (Nat → Int32) → Prop) (x3 : Int32) (v_w : Int32) (v_h : Int32) (v_all : Int32) (v_top : Int32) (v_left : Int32) (v_right : Int32) (v_parts : Nat → Int32) : Prop :=
  (v_h ≤ x3 → (Q v_w v_h v_all v_top v_left v_right v_parts)) ∧ (¬ v_h ≤ x3 → (q_X4_bitOf v_w (0 : Int32) x3 (fun (r_12 : Int32) => ∀ n_13 : Int32, n_13 = (v_left ||| r_12) → (q_X4_bitOf v_w (v_w - (1 : Int32)) x3 (fun (r_15 : Int32) => ∀ n_16 : Int32, n_16 = (v_right ||| r_15) → (∀ x3_18 : Int32, x3_18 = (x3 + (1 : Int32)) → (rec 72 x3_18 v_w v_h v_all v_top n_13 n_16 v_parts)))))))
def wp_X4_shape (p0 : Int32) (p1 : Int32) (Q : Int32 → Int32 → Int32 → Int32 → Int32 → Int32 → (Nat → Int32) → Prop) : Nat → Nat → Int32 → Int32 → Int32 → Int32 → Int32 → Int32 → Int32 → (Nat → Int32) → Prop
  | 0 => fun _ _ _ _ _ _ _ _ _ => False
  | n + 1 => fun t x3 v_w v_h v_all v_top v_left v_right v_parts => if t = 12 then F_X4_shape_12 p0 p1 Q (wp_X4_shape p0 p1 Q n) x3 v_w v_h v_all v_top v_left v_right v_parts else if t = 72 then F_X4_shape_72 p0 p1 Q (wp_X4_shape p0 p1 Q n) x3 v_w v_h v_all v_top v_left v_right v_parts else False
def q_X4_shape (v_w : Int32) (v_h : Int32) (v_all : Int32) (v_top : Int32) (v_left : Int32) (v_right : Int32) (v_parts : Nat → Int32) (p0 : Int32) (p1 : Int32) (Q : Int32 → Int32 → Int32 → Int32 → Int32 → Int32 → (Nat → Int32) → Prop) : Prop := ∃ n, F_X4_shape_e p0 p1 Q (wp_X4_shape p0 p1 Q n) v_w v_h v_all v_top v_left v_right v_parts
theorem iwX4_shape_X4 : ∀ w ∈ wsX40, w ∈ wsX4_shape := by decide +kernel
theorem hdV_X4_shape : yX4_shape.cls = RX4 ∧ yX4_shape.cls ≠ "java/lang/invoke/MethodHandle" ∧ yX4_shape.cls ≠ "java/lang/invoke/VarHandle" ∧ (parseMethodDescriptor yX4_shape.desc).map (fun d => d.parameters.length) = some 2 := by decide +kernel
set_option maxHeartbeats 4000000 in
set_option maxRecDepth 100000 in
theorem w_X4_shape {p : Program} {l : Launch} {e : Env} {s : State} {m : MethodId} {args : Array Value} {below : List Frame} {meth : Method} {c : Code} {A : Nat → Prop} (dC : Nat → ClassId) (dI : Nat → Nat → Nat) (cyC cyI cyZ : ClassId) (a a_parts : Nat) (p0 : Int32) (p1 : Int32) (Q : Int32 → Int32 → Int32 → Int32 → Int32 → Int32 → (Nat → Int32) → Prop) (C0 : gAt cX4_shape none 4 RX4 wsX4_shape p s m meth c args) (hK : va_K (dC, dI) vwCl (gTy cyC cyI cyZ) s) (hN : nU s) (hA : ∀ q, s.heap.size ≤ q → A q) : ∀ n : Nat, (∀ (x3 : Int32) (v_w : Int32) (v_h : Int32) (v_all : Int32) (v_top : Int32) (v_left : Int32) (v_right : Int32) (v_parts : Nat → Int32) (H : Heap) (locs : List Loc) (ls : Array Slot), wp_X4_shape p0 p1 Q n 12 x3 v_w v_h v_all v_top v_left v_right v_parts → va_P (dC, dI) vwCl [(a, .inr (4, [.int v_w, .int v_h, .ref a_parts, .int v_all, .int v_top, .int v_left, .int v_right])), (a_parts, .inl (cyI, 16, .inl v_parts))] H → va_D A [(a, .inr (4, [.int v_w, .int v_h, .ref a_parts, .int v_all, .int v_top, .int v_left, .int v_right])), (a_parts, .inl (cyI, 16, .inl v_parts))] → va_S A s.heap H locs → lv_has ls 4 [(0, .ref a), (3, .int x3)] → W p l e { frames := 1, cells := 0, slots := 0, locals := 22 } s m args below meth c H locs 0 0 (MQ below (gQv7 Q (dC, dI) A (fun (u1 : Int32) (u2 : Int32) (u3 : Int32) (u4 : Int32) (u5 : Int32) (u6 : Int32) (u7 : Nat → Int32) => [(a, .inr (4, [.int u1, .int u2, .ref a_parts, .int u3, .int u4, .int u5, .int u6])), (a_parts, .inl (cyI, 16, .inl u7))])) args s 0 0 A) (F0 m 12 ls [])) ∧ (∀ (x3 : Int32) (v_w : Int32) (v_h : Int32) (v_all : Int32) (v_top : Int32) (v_left : Int32) (v_right : Int32) (v_parts : Nat → Int32) (H : Heap) (locs : List Loc) (ls : Array Slot), wp_X4_shape p0 p1 Q n 72 x3 v_w v_h v_all v_top v_left v_right v_parts → va_P (dC, dI) vwCl [(a, .inr (4, [.int v_w, .int v_h, .ref a_parts, .int v_all, .int v_top, .int v_left, .int v_right])), (a_parts, .inl (cyI, 16, .inl v_parts))] H → va_D A [(a, .inr (4, [.int v_w, .int v_h, .ref a_parts, .int v_all, .int v_top, .int v_left, .int v_right])), (a_parts, .inl (cyI, 16, .inl v_parts))] → va_S A s.heap H locs → lv_has ls 4 [(0, .ref a), (3, .int x3)] → W p l e { frames := 1, cells := 0, slots := 0, locals := 22 } s m args below meth c H locs 0 0 (MQ below (gQv7 Q (dC, dI) A (fun (u1 : Int32) (u2 : Int32) (u3 : Int32) (u4 : Int32) (u5 : Int32) (u6 : Int32) (u7 : Nat → Int32) => [(a, .inr (4, [.int u1, .int u2, .ref a_parts, .int u3, .int u4, .int u5, .int u6])), (a_parts, .inl (cyI, 16, .inl u7))])) args s 0 0 A) (F0 m 72 ls [])) := by
  obtain ⟨hx, hb, hr, hml, hown, hts, hlocks⟩ := id C0
  have f15 := hts (.fieldLink RX4 15 "LastOchre$Seam" "w" "I") (by decide +kernel)
  have f19 := hts (.fieldLink RX4 19 "LastOchre$Seam" "h" "I") (by decide +kernel)
  have f22 := hts (.fieldLink RX4 22 "LastOchre$Seam" "all" "I") (by decide +kernel)
  have f25 := hts (.fieldLink RX4 25 "LastOchre$Seam" "top" "I") (by decide +kernel)
  have f28 := hts (.fieldLink RX4 28 "LastOchre$Seam" "left" "I") (by decide +kernel)
  have f31 := hts (.fieldLink RX4 31 "LastOchre$Seam" "right" "I") (by decide +kernel)
  have f9 := hts (.fieldLink RX4 9 "LastOchre$Seam" "parts" "[I") (by decide +kernel)
  intro n
  induction n with
  | zero => exact ⟨fun _ _ _ _ _ _ _ _ _ _ _ h => absurd h id, fun _ _ _ _ _ _ _ _ _ _ _ h => absurd h id⟩
  | succ n ih =>
    obtain ⟨ih12, ih72⟩ := ih
    refine ⟨?_, ?_⟩
    · intro x3 v_w v_h v_all v_top v_left v_right v_parts H locs ls h hP hD hS hl
      replace h : F_X4_shape_12 p0 p1 Q (wp_X4_shape p0 p1 Q n) x3 v_w v_h v_all v_top v_left v_right v_parts := h
      unfold F_X4_shape_12 at h
      refine lv_iload_n hx hb dX4_shape_12 rfl (lv_at hl 1 rfl) ?_
      refine lv_bipush (v := 16) hx hb dX4_shape_13 (by decide) ?_
      refine lv_icmp_ge (tgt := 31) hx hb dX4_shape_15 (by decide) (fun c_1 => ?_) (fun c_1 => ?_)
      · replace h := h.1 c_1
        refine lv_aload_n hx hb dX4_shape_31 rfl (lv_at hl 0 rfl) ?_
        refine lv_iconst (v := 1) hx hb dX4_shape_32 (by decide) ?_
        refine lv_aload_n hx hb dX4_shape_33 rfl (lv_at hl 0 rfl) ?_
        refine va_get (D := (dC, dI)) (ci := 4) (v := .int v_w) (C := RX4) (T := TX4) (N := 7) hx hb hts iwX4_shape_X4 hown hK hP 0 rfl rfl 0 (by decide) f15 (fun _ h9 => h9) rfl dX4_shape_34 ?_
        refine lv_aload_n hx hb dX4_shape_37 rfl (lv_at hl 0 rfl) ?_
        refine va_get (D := (dC, dI)) (ci := 4) (v := .int v_h) (C := RX4) (T := TX4) (N := 7) hx hb hts iwX4_shape_X4 hown hK hP 0 rfl rfl 1 (by decide) f19 (fun _ h9 => h9) rfl dX4_shape_38 ?_
        refine lv_imul hx hb dX4_shape_41 ?_
        refine lv_ishl hx hb dX4_shape_42 ?_
        refine lv_iconst (v := 1) hx hb dX4_shape_43 (by decide) ?_
        refine lv_isub hx hb dX4_shape_44 ?_
        refine lv_topi (fun n_2 e_3 => ?_)
        replace h := h n_2 e_3
        refine va_put (D := (dC, dI)) (ci := 4) (v := .int n_2) (ty := .int) (C := RX4) (T := TX4) (N := 7) hx hb hts iwX4_shape_X4 tyX4 tyX4_ok nmX4 hown hK hP hD hS 0 rfl rfl 3 (by decide) f22 (fun _ h9 => h9) rfl (by decide +kernel) rfl rfl (Nat.le_of_ble_eq_true rfl) dX4_shape_45 (fun H locs hP hD hS => ?_)
        replace hP : va_P (dC, dI) vwCl [(a, .inr (4, [.int v_w, .int v_h, .ref a_parts, .int n_2, .int v_top, .int v_left, .int v_right])), (a_parts, .inl (cyI, 16, .inl v_parts))] H := hP
        replace hD : va_D A [(a, .inr (4, [.int v_w, .int v_h, .ref a_parts, .int n_2, .int v_top, .int v_left, .int v_right])), (a_parts, .inl (cyI, 16, .inl v_parts))] := hD
        refine lv_aload_n hx hb dX4_shape_48 rfl (lv_at hl 0 rfl) ?_
        refine lv_iconst (v := 1) hx hb dX4_shape_49 (by decide) ?_
        refine lv_aload_n hx hb dX4_shape_50 rfl (lv_at hl 0 rfl) ?_
        refine va_get (D := (dC, dI)) (ci := 4) (v := .int v_w) (C := RX4) (T := TX4) (N := 7) hx hb hts iwX4_shape_X4 hown hK hP 0 rfl rfl 0 (by decide) f15 (fun _ h9 => h9) rfl dX4_shape_51 ?_
        refine lv_ishl hx hb dX4_shape_54 ?_
        refine lv_iconst (v := 1) hx hb dX4_shape_55 (by decide) ?_
        refine lv_isub hx hb dX4_shape_56 ?_
        refine lv_topi (fun n_4 e_5 => ?_)
        replace h := h n_4 e_5
        refine va_put (D := (dC, dI)) (ci := 4) (v := .int n_4) (ty := .int) (C := RX4) (T := TX4) (N := 7) hx hb hts iwX4_shape_X4 tyX4 tyX4_ok nmX4 hown hK hP hD hS 0 rfl rfl 4 (by decide) f25 (fun _ h9 => h9) rfl (by decide +kernel) rfl rfl (Nat.le_of_ble_eq_true rfl) dX4_shape_57 (fun H locs hP hD hS => ?_)
        replace hP : va_P (dC, dI) vwCl [(a, .inr (4, [.int v_w, .int v_h, .ref a_parts, .int n_2, .int n_4, .int v_left, .int v_right])), (a_parts, .inl (cyI, 16, .inl v_parts))] H := hP
        replace hD : va_D A [(a, .inr (4, [.int v_w, .int v_h, .ref a_parts, .int n_2, .int n_4, .int v_left, .int v_right])), (a_parts, .inl (cyI, 16, .inl v_parts))] := hD
        refine lv_aload_n hx hb dX4_shape_60 rfl (lv_at hl 0 rfl) ?_
        refine lv_iconst (v := 0) hx hb dX4_shape_61 (by decide) ?_
        refine va_put (D := (dC, dI)) (ci := 4) (v := .int (0 : Int32)) (ty := .int) (C := RX4) (T := TX4) (N := 7) hx hb hts iwX4_shape_X4 tyX4 tyX4_ok nmX4 hown hK hP hD hS 0 rfl rfl 5 (by decide) f28 (fun _ h9 => h9) rfl (by decide +kernel) rfl rfl (Nat.le_of_ble_eq_true rfl) dX4_shape_62 (fun H locs hP hD hS => ?_)
        replace hP : va_P (dC, dI) vwCl [(a, .inr (4, [.int v_w, .int v_h, .ref a_parts, .int n_2, .int n_4, .int (0 : Int32), .int v_right])), (a_parts, .inl (cyI, 16, .inl v_parts))] H := hP
        replace hD : va_D A [(a, .inr (4, [.int v_w, .int v_h, .ref a_parts, .int n_2, .int n_4, .int (0 : Int32), .int v_right])), (a_parts, .inl (cyI, 16, .inl v_parts))] := hD
        refine lv_aload_n hx hb dX4_shape_65 rfl (lv_at hl 0 rfl) ?_
        refine lv_iconst (v := 0) hx hb dX4_shape_66 (by decide) ?_
        refine va_put (D := (dC, dI)) (ci := 4) (v := .int (0 : Int32)) (ty := .int) (C := RX4) (T := TX4) (N := 7) hx hb hts iwX4_shape_X4 tyX4 tyX4_ok nmX4 hown hK hP hD hS 0 rfl rfl 6 (by decide) f31 (fun _ h9 => h9) rfl (by decide +kernel) rfl rfl (Nat.le_of_ble_eq_true rfl) dX4_shape_67 (fun H locs hP hD hS => ?_)
        replace hP : va_P (dC, dI) vwCl [(a, .inr (4, [.int v_w, .int v_h, .ref a_parts, .int n_2, .int n_4, .int (0 : Int32), .int (0 : Int32)])), (a_parts, .inl (cyI, 16, .inl v_parts))] H := hP
        replace hD : va_D A [(a, .inr (4, [.int v_w, .int v_h, .ref a_parts, .int n_2, .int n_4, .int (0 : Int32), .int (0 : Int32)])), (a_parts, .inl (cyI, 16, .inl v_parts))] := hD
        refine lv_iconst (v := 0) hx hb dX4_shape_70 (by decide) ?_
        refine lv_istore_n (lv' := [(3, .int (0 : Int32)), (0, .ref a)]) hx hb dX4_shape_71 rfl hl (by decide) rfl (fun ls hl => ?_)
        exact ih72 (0 : Int32) v_w v_h n_2 n_4 (0 : Int32) (0 : Int32) v_parts _ _ _ h hP hD hS (lv_sub hl [1, 0] rfl)
      · replace h := h.2 c_1
        refine lv_aload_n hx hb dX4_shape_18 rfl (lv_at hl 0 rfl) ?_
        refine va_get (D := (dC, dI)) (ci := 4) (v := .ref a_parts) (C := RX4) (T := TX4) (N := 7) hx hb hts iwX4_shape_X4 hown hK hP 0 rfl rfl 2 (by decide) f9 (fun _ h9 => h9) rfl dX4_shape_19 ?_
        refine lv_iload_n hx hb dX4_shape_22 rfl (lv_at hl 1 rfl) ?_
        refine lv_iconst (v := 0) hx hb dX4_shape_23 (by decide) ?_
        have g_6 := h.1
        replace h := h.2
        refine va_iast hx hb hK hP hD hS 1 0 rfl rfl g_6 dX4_shape_24 (fun H locs hP hD hS => ?_)
        obtain ⟨f_7, e_8⟩ : ∃ y : Nat → Int32, y = upd v_parts (x3).toNatClampNeg (0 : Int32) := ⟨_, rfl⟩
        replace h := h f_7 e_8
        replace hP : va_P (dC, dI) vwCl [(a, .inr (4, [.int v_w, .int v_h, .ref a_parts, .int v_all, .int v_top, .int v_left, .int v_right])), (a_parts, .inl (cyI, 16, .inl f_7))] H := by rw [e_8]; exact hP
        replace hD : va_D A [(a, .inr (4, [.int v_w, .int v_h, .ref a_parts, .int v_all, .int v_top, .int v_left, .int v_right])), (a_parts, .inl (cyI, 16, .inl f_7))] := by rw [e_8]; exact hD
        obtain ⟨x3_9, e_10⟩ : ∃ y : Int32, y = (x3 + (1 : Int32)) := ⟨_, rfl⟩
        replace h := h x3_9 e_10
        refine lv_iinc (v := x3_9) (lv' := [(3, .int x3_9), (0, .ref a)]) hx hb dX4_shape_25 hl (k := 1) rfl (by rw [e_10]; rfl) (by decide) rfl (fun ls hl => ?_)
        refine lv_goto (tgt := 12) hx hb dX4_shape_28 (by decide) ?_
        exact ih12 x3_9 v_w v_h v_all v_top v_left v_right f_7 _ _ _ h hP hD hS (lv_sub hl [1, 0] rfl)
    · intro x3 v_w v_h v_all v_top v_left v_right v_parts H locs ls h hP hD hS hl
      replace h : F_X4_shape_72 p0 p1 Q (wp_X4_shape p0 p1 Q n) x3 v_w v_h v_all v_top v_left v_right v_parts := h
      unfold F_X4_shape_72 at h
      refine lv_iload_n hx hb dX4_shape_72 rfl (lv_at hl 1 rfl) ?_
      refine lv_aload_n hx hb dX4_shape_73 rfl (lv_at hl 0 rfl) ?_
      refine va_get (D := (dC, dI)) (ci := 4) (v := .int v_h) (C := RX4) (T := TX4) (N := 7) hx hb hts iwX4_shape_X4 hown hK hP 0 rfl rfl 1 (by decide) f19 (fun _ h9 => h9) rfl dX4_shape_74 ?_
      refine lv_icmp_ge (tgt := 121) hx hb dX4_shape_77 (by decide) (fun c_11 => ?_) (fun c_11 => ?_)
      · replace h := h.1 c_11
        exact grv7 hx hb hr hlocks h hP hD hS dX4_shape_121
      · replace h := h.2 c_11
        refine lv_aload_n hx hb dX4_shape_80 rfl (lv_at hl 0 rfl) ?_
        refine lv_dup hx hb dX4_shape_81 rfl ?_
        refine va_get (D := (dC, dI)) (ci := 4) (v := .int v_left) (C := RX4) (T := TX4) (N := 7) hx hb hts iwX4_shape_X4 hown hK hP 0 rfl rfl 5 (by decide) f28 (fun _ h9 => h9) rfl dX4_shape_82 ?_
        refine lv_aload_n hx hb dX4_shape_85 rfl (lv_at hl 0 rfl) ?_
        refine lv_iconst (v := 0) hx hb dX4_shape_86 (by decide) ?_
        refine lv_iload_n hx hb dX4_shape_87 rfl (lv_at hl 1 rfl) ?_
        refine gV_i0 (As := [.int (0 : Int32), .int x3]) (rest := [.int v_left, .ref a]) ⟨hx, hb, hml, hown, hts⟩ (c_X4_bitOf l dC dI cyC cyI cyZ _ a a_parts v_w v_h v_all v_top v_left v_right (0 : Int32) x3 h) (cwV 2 hts gX4_shape_X4_bitOf rfl rfl rfl hdV_X4_bitOf ⟨Nat.le_of_ble_eq_true rfl, Nat.le_of_ble_eq_true rfl⟩) hK hN hP hD hS hA [0] (by decide) rfl (ci := 4) rfl rfl rfl hl.1 rfl (Nat.le_of_ble_eq_true rfl) dX4_shape_88 ⟨Nat.zero_le _, Nat.zero_le _⟩ (fun r_12 H locs h hP hS => ?_)
        refine lv_ior hx hb dX4_shape_91 ?_
        refine lv_topi (fun n_13 e_14 => ?_)
        replace h := h n_13 e_14
        refine va_put (D := (dC, dI)) (ci := 4) (v := .int n_13) (ty := .int) (C := RX4) (T := TX4) (N := 7) hx hb hts iwX4_shape_X4 tyX4 tyX4_ok nmX4 hown hK hP hD hS 0 rfl rfl 5 (by decide) f28 (fun _ h9 => h9) rfl (by decide +kernel) rfl rfl (Nat.le_of_ble_eq_true rfl) dX4_shape_92 (fun H locs hP hD hS => ?_)
        replace hP : va_P (dC, dI) vwCl [(a, .inr (4, [.int v_w, .int v_h, .ref a_parts, .int v_all, .int v_top, .int n_13, .int v_right])), (a_parts, .inl (cyI, 16, .inl v_parts))] H := hP
        replace hD : va_D A [(a, .inr (4, [.int v_w, .int v_h, .ref a_parts, .int v_all, .int v_top, .int n_13, .int v_right])), (a_parts, .inl (cyI, 16, .inl v_parts))] := hD
        refine lv_aload_n hx hb dX4_shape_95 rfl (lv_at hl 0 rfl) ?_
        refine lv_dup hx hb dX4_shape_96 rfl ?_
        refine va_get (D := (dC, dI)) (ci := 4) (v := .int v_right) (C := RX4) (T := TX4) (N := 7) hx hb hts iwX4_shape_X4 hown hK hP 0 rfl rfl 6 (by decide) f31 (fun _ h9 => h9) rfl dX4_shape_97 ?_
        refine lv_aload_n hx hb dX4_shape_100 rfl (lv_at hl 0 rfl) ?_
        refine lv_aload_n hx hb dX4_shape_101 rfl (lv_at hl 0 rfl) ?_
        refine va_get (D := (dC, dI)) (ci := 4) (v := .int v_w) (C := RX4) (T := TX4) (N := 7) hx hb hts iwX4_shape_X4 hown hK hP 0 rfl rfl 0 (by decide) f15 (fun _ h9 => h9) rfl dX4_shape_102 ?_
        refine lv_iconst (v := 1) hx hb dX4_shape_105 (by decide) ?_
        refine lv_isub hx hb dX4_shape_106 ?_
        refine lv_iload_n hx hb dX4_shape_107 rfl (lv_at hl 1 rfl) ?_
        refine gV_i0 (As := [.int (v_w - (1 : Int32)), .int x3]) (rest := [.int v_right, .ref a]) ⟨hx, hb, hml, hown, hts⟩ (c_X4_bitOf l dC dI cyC cyI cyZ _ a a_parts v_w v_h v_all v_top n_13 v_right (v_w - (1 : Int32)) x3 h) (cwV 2 hts gX4_shape_X4_bitOf rfl rfl rfl hdV_X4_bitOf ⟨Nat.le_of_ble_eq_true rfl, Nat.le_of_ble_eq_true rfl⟩) hK hN hP hD hS hA [0] (by decide) rfl (ci := 4) rfl rfl rfl hl.1 rfl (Nat.le_of_ble_eq_true rfl) dX4_shape_108 ⟨Nat.zero_le _, Nat.zero_le _⟩ (fun r_15 H locs h hP hS => ?_)
        refine lv_ior hx hb dX4_shape_111 ?_
        refine lv_topi (fun n_16 e_17 => ?_)
        replace h := h n_16 e_17
        refine va_put (D := (dC, dI)) (ci := 4) (v := .int n_16) (ty := .int) (C := RX4) (T := TX4) (N := 7) hx hb hts iwX4_shape_X4 tyX4 tyX4_ok nmX4 hown hK hP hD hS 0 rfl rfl 6 (by decide) f31 (fun _ h9 => h9) rfl (by decide +kernel) rfl rfl (Nat.le_of_ble_eq_true rfl) dX4_shape_112 (fun H locs hP hD hS => ?_)
        replace hP : va_P (dC, dI) vwCl [(a, .inr (4, [.int v_w, .int v_h, .ref a_parts, .int v_all, .int v_top, .int n_13, .int n_16])), (a_parts, .inl (cyI, 16, .inl v_parts))] H := hP
        replace hD : va_D A [(a, .inr (4, [.int v_w, .int v_h, .ref a_parts, .int v_all, .int v_top, .int n_13, .int n_16])), (a_parts, .inl (cyI, 16, .inl v_parts))] := hD
        obtain ⟨x3_18, e_19⟩ : ∃ y : Int32, y = (x3 + (1 : Int32)) := ⟨_, rfl⟩
        replace h := h x3_18 e_19
        refine lv_iinc (v := x3_18) (lv' := [(3, .int x3_18), (0, .ref a)]) hx hb dX4_shape_115 hl (k := 1) rfl (by rw [e_19]; rfl) (by decide) rfl (fun ls hl => ?_)
        refine lv_goto (tgt := 72) hx hb dX4_shape_118 (by decide) ?_
        exact ih72 x3_18 v_w v_h v_all v_top n_13 n_16 v_parts _ _ _ h hP hD hS (lv_sub hl [1, 0] rfl)
set_option maxHeartbeats 4000000 in
set_option maxRecDepth 100000 in
theorem c_X4_shape (l : Launch) (dC : Nat → ClassId) (dI : Nat → Nat → Nat) (cyC cyI cyZ : ClassId) (sz : Nat) (a a_parts : Nat) (v_w : Int32) (v_h : Int32) (v_all : Int32) (v_top : Int32) (v_left : Int32) (v_right : Int32) (v_parts : Nat → Int32) (p0 : Int32) (p1 : Int32) {Q : Int32 → Int32 → Int32 → Int32 → Int32 → Int32 → (Nat → Int32) → Prop} (h : q_X4_shape v_w v_h v_all v_top v_left v_right v_parts p0 p1 Q) : Met l yX4_shape wsX4_shape ({ frames := 1, cells := 0, slots := 0, locals := 22 }) (gPc [.ref a, .int p0, .int p1] (dC, dI) (gTy cyC cyI cyZ) sz [(a, .inr (4, [.int v_w, .int v_h, .ref a_parts, .int v_all, .int v_top, .int v_left, .int v_right])), (a_parts, .inl (cyI, 16, .inl v_parts))]) (gQv7 Q (dC, dI) (va_A [(a, .inr (4, [.int v_w, .int v_h, .ref a_parts, .int v_all, .int v_top, .int v_left, .int v_right])), (a_parts, .inl (cyI, 16, .inl v_parts))] sz) (fun (u1 : Int32) (u2 : Int32) (u3 : Int32) (u4 : Int32) (u5 : Int32) (u6 : Int32) (u7 : Nat → Int32) => [(a, .inr (4, [.int u1, .int u2, .ref a_parts, .int u3, .int u4, .int u5, .int u6])), (a_parts, .inl (cyI, 16, .inl u7))])) 0 0 (va_A [(a, .inr (4, [.int v_w, .int v_h, .ref a_parts, .int v_all, .int v_top, .int v_left, .int v_right])), (a_parts, .inl (cyI, 16, .inl v_parts))] sz) := by
  refine gMet (cc := cX4_shape) (maxL := 4) (ret := none) (own := RX4) (fun A => gQv7 Q (dC, dI) A (fun (u1 : Int32) (u2 : Int32) (u3 : Int32) (u4 : Int32) (u5 : Int32) (u6 : Int32) (u7 : Nat → Int32) => [(a, .inr (4, [.int u1, .int u2, .ref a_parts, .int u3, .int u4, .int u5, .int u6])), (a_parts, .inl (cyI, 16, .inl u7))])) (by decide) rfl rfl (Nat.le_of_ble_eq_true rfl) ?_
  intro p e s m below meth c A ls C0 _ hK hN hP hD hA hl
  obtain ⟨hx, hb, hr, hml, hown, hts, hlocks⟩ := id C0
  have f15 := hts (.fieldLink RX4 15 "LastOchre$Seam" "w" "I") (by decide +kernel)
  have f19 := hts (.fieldLink RX4 19 "LastOchre$Seam" "h" "I") (by decide +kernel)
  have f22 := hts (.fieldLink RX4 22 "LastOchre$Seam" "all" "I") (by decide +kernel)
  have f25 := hts (.fieldLink RX4 25 "LastOchre$Seam" "top" "I") (by decide +kernel)
  have f28 := hts (.fieldLink RX4 28 "LastOchre$Seam" "left" "I") (by decide +kernel)
  have f31 := hts (.fieldLink RX4 31 "LastOchre$Seam" "right" "I") (by decide +kernel)
  have f9 := hts (.fieldLink RX4 9 "LastOchre$Seam" "parts" "[I") (by decide +kernel)
  have hS : va_S A s.heap s.heap [] := va_S.rf
  replace hl : lv_has ls 4 [(0, .ref a), (1, .int p0), (2, .int p1)] := hl
  unfold q_X4_shape at h
  obtain ⟨n, h⟩ := h
  obtain ⟨ih12, ih72⟩ := w_X4_shape (l := l) (e := e) (below := below) dC dI cyC cyI cyZ a a_parts p0 p1 Q C0 hK hN hA n
  unfold F_X4_shape_e at h
  refine lv_aload_n hx hb dX4_shape_0 rfl (lv_at hl 0 rfl) ?_
  refine lv_iload_n hx hb dX4_shape_1 rfl (lv_at hl 1 rfl) ?_
  refine va_put (D := (dC, dI)) (ci := 4) (v := .int p0) (ty := .int) (C := RX4) (T := TX4) (N := 7) hx hb hts iwX4_shape_X4 tyX4 tyX4_ok nmX4 hown hK hP hD hS 0 rfl rfl 0 (by decide) f15 (fun _ h9 => h9) rfl (by decide +kernel) rfl rfl (Nat.le_of_ble_eq_true rfl) dX4_shape_2 (fun H locs hP hD hS => ?_)
  replace hP : va_P (dC, dI) vwCl [(a, .inr (4, [.int p0, .int v_h, .ref a_parts, .int v_all, .int v_top, .int v_left, .int v_right])), (a_parts, .inl (cyI, 16, .inl v_parts))] H := hP
  replace hD : va_D A [(a, .inr (4, [.int p0, .int v_h, .ref a_parts, .int v_all, .int v_top, .int v_left, .int v_right])), (a_parts, .inl (cyI, 16, .inl v_parts))] := hD
  refine lv_aload_n hx hb dX4_shape_5 rfl (lv_at hl 0 rfl) ?_
  refine lv_iload_n hx hb dX4_shape_6 rfl (lv_at hl 2 rfl) ?_
  refine va_put (D := (dC, dI)) (ci := 4) (v := .int p1) (ty := .int) (C := RX4) (T := TX4) (N := 7) hx hb hts iwX4_shape_X4 tyX4 tyX4_ok nmX4 hown hK hP hD hS 0 rfl rfl 1 (by decide) f19 (fun _ h9 => h9) rfl (by decide +kernel) rfl rfl (Nat.le_of_ble_eq_true rfl) dX4_shape_7 (fun H locs hP hD hS => ?_)
  replace hP : va_P (dC, dI) vwCl [(a, .inr (4, [.int p0, .int p1, .ref a_parts, .int v_all, .int v_top, .int v_left, .int v_right])), (a_parts, .inl (cyI, 16, .inl v_parts))] H := hP
  replace hD : va_D A [(a, .inr (4, [.int p0, .int p1, .ref a_parts, .int v_all, .int v_top, .int v_left, .int v_right])), (a_parts, .inl (cyI, 16, .inl v_parts))] := hD
  refine lv_iconst (v := 0) hx hb dX4_shape_10 (by decide) ?_
  refine lv_istore_n (lv' := [(3, .int (0 : Int32)), (0, .ref a), (1, .int p0), (2, .int p1)]) hx hb dX4_shape_11 rfl hl (by decide) rfl (fun ls hl => ?_)
  exact ih12 (0 : Int32) p0 p1 v_all v_top v_left v_right v_parts _ _ _ h hP hD hS (lv_sub hl [1, 0] rfl)

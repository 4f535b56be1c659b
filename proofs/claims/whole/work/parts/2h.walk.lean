def F_X6_bestKept_e (v_told_bound : Int32) (v_told_loss : Int32) (v_told_things : Int32) (v_told_worth : Nat → Int32) (v_course_rows : Nat → Int32) (v_told_fades : Nat → Int32) (p0 : Int32) (Q : Int32 → Prop) (rec : Nat → Int32 → Int32 → Int32 → Int32 → Prop)  : Prop :=
  ∀ x4_1 : Int32, x4_1 = ((1 : Int32) <<< (v_told_things &&& 31)) → (rec 18 (0 : Int32) (0 : Int32) x4_1 (1 : Int32))
def F_X6_bestKept_18 (v_told_bound : Int32) (v_told_loss : Int32) (v_told_things : Int32) (v_told_worth : Nat → Int32) (v_course_rows : Nat → Int32) (v_told_fades : Nat → Int32) (p0 : Int32) (Q : Int32 → Prop) (rec : Nat → Int32 → Int32 → Int32 → Int32 → Prop) (x2 : Int32) (x3 : Int32) (x4 : Int32) (x5 : Int32) : Prop :=
  (x4 ≤ x5 → (Q x2)) ∧ (¬ x4 ≤ x5 → (q_X6_worthOf v_told_things v_told_worth x5 (fun (r_4 : Int32) => (r_4 ≤ x3 → (∀ x5_6 : Int32, x5_6 = (x5 + (1 : Int32)) → (rec 18 x2 x3 x4 x5_6))) ∧ (¬ r_4 ≤ x3 → (q_X6_canBeKept v_told_bound v_told_loss v_told_things v_course_rows v_told_fades x5 p0 (fun (r_8 : Int32) => (r_8 = 0 → (∀ x5_10 : Int32, x5_10 = (x5 + (1 : Int32)) → (rec 18 x2 x3 x4 x5_10))) ∧ (¬ r_8 = 0 → (q_X6_worthOf v_told_things v_told_worth x5 (fun (r_12 : Int32) => ∀ x5_13 : Int32, x5_13 = (x5 + (1 : Int32)) → (rec 18 x5 r_12 x4 x5_13))))))))))
def wp_X6_bestKept (v_told_bound : Int32) (v_told_loss : Int32) (v_told_things : Int32) (v_told_worth : Nat → Int32) (v_course_rows : Nat → Int32) (v_told_fades : Nat → Int32) (p0 : Int32) (Q : Int32 → Prop) : Nat → Nat → Int32 → Int32 → Int32 → Int32 → Prop
  | 0 => fun _ _ _ _ _ => False
  | n + 1 => fun t x2 x3 x4 x5 => if t = 18 then F_X6_bestKept_18 v_told_bound v_told_loss v_told_things v_told_worth v_course_rows v_told_fades p0 Q (wp_X6_bestKept v_told_bound v_told_loss v_told_things v_told_worth v_course_rows v_told_fades p0 Q n) x2 x3 x4 x5 else False
def q_X6_bestKept (v_told_bound : Int32) (v_told_loss : Int32) (v_told_things : Int32) (v_told_worth : Nat → Int32) (v_course_rows : Nat → Int32) (v_told_fades : Nat → Int32) (p0 : Int32) (Q : Int32 → Prop) : Prop := ∃ n, F_X6_bestKept_e v_told_bound v_told_loss v_told_things v_told_worth v_course_rows v_told_fades p0 Q (wp_X6_bestKept v_told_bound v_told_loss v_told_things v_told_worth v_course_rows v_told_fades p0 Q n) 
theorem iwX6_bestKept_X5 : ∀ w ∈ wsX50, w ∈ wsX6_bestKept := by decide +kernel
theorem iwX6_bestKept_X6 : ∀ w ∈ wsX60, w ∈ wsX6_bestKept := by decide +kernel
theorem hdV_X6_bestKept : yX6_bestKept.cls = RX6 ∧ yX6_bestKept.cls ≠ "java/lang/invoke/MethodHandle" ∧ yX6_bestKept.cls ≠ "java/lang/invoke/VarHandle" ∧ (parseMethodDescriptor yX6_bestKept.desc).map (fun d => d.parameters.length) = some 1 := by decide +kernel
set_option maxHeartbeats 4000000 in
set_option maxRecDepth 100000 in
theorem w_X6_bestKept {p : Program} {l : Launch} {e : Env} {s : State} {m : MethodId} {args : Array Value} {below : List Frame} {meth : Method} {c : Code} {A : Nat → Prop} (dC : Nat → ClassId) (dI : Nat → Nat → Nat) (cyC cyI cyZ : ClassId) (a a_reader a_told a_draft a_course a_firstImage a_secondImage a_imageKept a_bestDigs a_heard a_told_seam a_told_yellow a_told_white a_told_fades a_told_worth a_course_rows : Nat) (v_traced : Int64) (v_told_seamTold : Int32) (v_told_boundTold : Int32) (v_told_lossTold : Int32) (v_told_bound : Int32) (v_told_loss : Int32) (v_told_things : Int32) (v_told_worth : Nat → Int32) (v_course_known : Int32) (v_course_rows : Nat → Int32) (v_told_fades : Nat → Int32) (p0 : Int32) (Q : Int32 → Prop) (C0 : gAt cX6_bestKept (some .int) 6 RX6 wsX6_bestKept p s m meth c args) (hK : va_K (dC, dI) vwCl (gTy cyC cyI cyZ) s) (hN : nU s) (hA : ∀ q, s.heap.size ≤ q → A q) : ∀ n : Nat, (∀ (x2 : Int32) (x3 : Int32) (x4 : Int32) (x5 : Int32) (H : Heap) (locs : List Loc) (ls : Array Slot), wp_X6_bestKept v_told_bound v_told_loss v_told_things v_told_worth v_course_rows v_told_fades p0 Q n 18 x2 x3 x4 x5 → va_P (dC, dI) vwCl [(a, .inr (6, [.ref a_reader, .ref a_told, .ref a_draft, .ref a_course, .ref a_firstImage, .ref a_secondImage, .ref a_imageKept, .ref a_bestDigs, .ref a_heard, .long v_traced])), (a_told, .inr (5, [.ref a_told_seam, .int v_told_seamTold, .int v_told_boundTold, .int v_told_lossTold, .int v_told_bound, .int v_told_loss, .int v_told_things, .ref a_told_yellow, .ref a_told_white, .ref a_told_fades, .ref a_told_worth])), (a_told_worth, .inl (cyI, 6, .inl v_told_worth)), (a_course, .inr (2, [.ref a_course_rows, .int v_course_known])), (a_course_rows, .inl (cyI, 165, .inl v_course_rows)), (a_told_fades, .inl (cyI, 6, .inl v_told_fades))] H → va_D A [(a, .inr (6, [.ref a_reader, .ref a_told, .ref a_draft, .ref a_course, .ref a_firstImage, .ref a_secondImage, .ref a_imageKept, .ref a_bestDigs, .ref a_heard, .long v_traced])), (a_told, .inr (5, [.ref a_told_seam, .int v_told_seamTold, .int v_told_boundTold, .int v_told_lossTold, .int v_told_bound, .int v_told_loss, .int v_told_things, .ref a_told_yellow, .ref a_told_white, .ref a_told_fades, .ref a_told_worth])), (a_told_worth, .inl (cyI, 6, .inl v_told_worth)), (a_course, .inr (2, [.ref a_course_rows, .int v_course_known])), (a_course_rows, .inl (cyI, 165, .inl v_course_rows)), (a_told_fades, .inl (cyI, 6, .inl v_told_fades))] → va_S A s.heap H locs → lv_has ls 6 [(0, .ref a), (1, .int p0), (2, .int x2), (3, .int x3), (4, .int x4), (5, .int x5)] → W p l e { frames := 5, cells := 0, slots := 0, locals := 126 } s m args below meth c H locs 0 0 (MQ below (gQi0 Q (dC, dI) A [(a, .inr (6, [.ref a_reader, .ref a_told, .ref a_draft, .ref a_course, .ref a_firstImage, .ref a_secondImage, .ref a_imageKept, .ref a_bestDigs, .ref a_heard, .long v_traced])), (a_told, .inr (5, [.ref a_told_seam, .int v_told_seamTold, .int v_told_boundTold, .int v_told_lossTold, .int v_told_bound, .int v_told_loss, .int v_told_things, .ref a_told_yellow, .ref a_told_white, .ref a_told_fades, .ref a_told_worth])), (a_told_worth, .inl (cyI, 6, .inl v_told_worth)), (a_course, .inr (2, [.ref a_course_rows, .int v_course_known])), (a_course_rows, .inl (cyI, 165, .inl v_course_rows)), (a_told_fades, .inl (cyI, 6, .inl v_told_fades))]) args s 0 0 A) (F0 m 18 ls [])) := by
  obtain ⟨hx, hb, hr, hml, hown, hts, hlocks⟩ := id C0
  have f159 := hN.link (args := (args)) (w := .fieldLinkNest RX6 159 "LastOchre$Told" "things" "I" "LastOchre") 19 rfl
  have f19 := hts (.fieldLink RX6 19 "LastOchre" "told" "LLastOchre$Told;") (by decide +kernel)
  intro n
  induction n with
  | zero => exact fun _ _ _ _ _ _ _ h => absurd h id
  | succ n ih =>
    have ih18 := ih
    · intro x2 x3 x4 x5 H locs ls h hP hD hS hl
      replace h : F_X6_bestKept_18 v_told_bound v_told_loss v_told_things v_told_worth v_course_rows v_told_fades p0 Q (wp_X6_bestKept v_told_bound v_told_loss v_told_things v_told_worth v_course_rows v_told_fades p0 Q n) x2 x3 x4 x5 := h
      unfold F_X6_bestKept_18 at h
      refine lv_iload hx hb dX6_bestKept_18 (lv_at hl 5 rfl) ?_
      refine lv_iload hx hb dX6_bestKept_20 (lv_at hl 4 rfl) ?_
      refine lv_icmp_ge (tgt := 61) hx hb dX6_bestKept_22 (by decide) (fun c_3 => ?_) (fun c_3 => ?_)
      · replace h := h.1 c_3
        refine lv_iload_n hx hb dX6_bestKept_61 rfl (lv_at hl 2 rfl) ?_
        exact gri0 hx hb hr hlocks h hP hD hS dX6_bestKept_62
      · replace h := h.2 c_3
        refine lv_aload_n hx hb dX6_bestKept_25 rfl (lv_at hl 0 rfl) ?_
        refine lv_iload hx hb dX6_bestKept_26 (lv_at hl 5 rfl) ?_
        refine gV_i0 (As := [.int x5]) (rest := []) ⟨hx, hb, hml, hown, hts⟩ (c_X6_worthOf l dC dI cyC cyI cyZ _ a a_reader a_told a_draft a_course a_firstImage a_secondImage a_imageKept a_bestDigs a_heard a_told_seam a_told_yellow a_told_white a_told_fades a_told_worth v_traced v_told_seamTold v_told_boundTold v_told_lossTold v_told_bound v_told_loss v_told_things v_told_worth x5 h) (cwV 1 hts gX6_bestKept_X6_worthOf rfl rfl rfl hdV_X6_worthOf ⟨Nat.le_of_ble_eq_true rfl, Nat.le_of_ble_eq_true rfl⟩) hK hN hP hD hS hA [0, 1, 2] (by decide) rfl (ci := 6) rfl rfl rfl hl.1 rfl (Nat.le_of_ble_eq_true rfl) dX6_bestKept_28 ⟨Nat.zero_le _, Nat.zero_le _⟩ (fun r_4 H locs h hP hS => ?_)
        refine lv_iload_n hx hb dX6_bestKept_31 rfl (lv_at hl 3 rfl) ?_
        refine lv_icmp_le (tgt := 55) hx hb dX6_bestKept_32 (by decide) (fun c_5 => ?_) (fun c_5 => ?_)
        · replace h := h.1 c_5
          obtain ⟨x5_6, e_7⟩ : ∃ y : Int32, y = (x5 + (1 : Int32)) := ⟨_, rfl⟩
          replace h := h x5_6 e_7
          refine lv_iinc (v := x5_6) (lv' := [(5, .int x5_6), (0, .ref a), (1, .int p0), (2, .int x2), (3, .int x3), (4, .int x4)]) hx hb dX6_bestKept_55 hl (k := 5) rfl (by rw [e_7]; rfl) (by decide) rfl (fun ls hl => ?_)
          refine lv_goto (tgt := 18) hx hb dX6_bestKept_58 (by decide) ?_
          exact ih18 x2 x3 x4 x5_6 _ _ _ h hP hD hS (lv_sub hl [1, 2, 3, 4, 5, 0] rfl)
        · replace h := h.2 c_5
          refine lv_aload_n hx hb dX6_bestKept_35 rfl (lv_at hl 0 rfl) ?_
          refine lv_iload hx hb dX6_bestKept_36 (lv_at hl 5 rfl) ?_
          refine lv_iload_n hx hb dX6_bestKept_38 rfl (lv_at hl 1 rfl) ?_
          refine gV_i0 (As := [.int x5, .int p0]) (rest := []) ⟨hx, hb, hml, hown, hts⟩ (c_X6_canBeKept l dC dI cyC cyI cyZ _ a a_reader a_told a_draft a_course a_firstImage a_secondImage a_imageKept a_bestDigs a_heard a_told_seam a_told_yellow a_told_white a_told_fades a_told_worth a_course_rows v_traced v_told_seamTold v_told_boundTold v_told_lossTold v_told_bound v_told_loss v_told_things v_course_known v_course_rows v_told_fades x5 p0 h) (cwV 2 hts gX6_bestKept_X6_canBeKept rfl rfl rfl hdV_X6_canBeKept ⟨Nat.le_of_ble_eq_true rfl, Nat.le_of_ble_eq_true rfl⟩) hK hN hP hD hS hA [0, 1, 3, 4, 5] (by decide) rfl (ci := 6) rfl rfl rfl hl.1 rfl (Nat.le_of_ble_eq_true rfl) dX6_bestKept_39 ⟨Nat.zero_le _, Nat.zero_le _⟩ (fun r_8 H locs h hP hS => ?_)
          refine lv_if_eq (tgt := 55) hx hb dX6_bestKept_42 (by decide) (fun c_9 => ?_) (fun c_9 => ?_)
          · replace h := h.1 c_9
            obtain ⟨x5_10, e_11⟩ : ∃ y : Int32, y = (x5 + (1 : Int32)) := ⟨_, rfl⟩
            replace h := h x5_10 e_11
            refine lv_iinc (v := x5_10) (lv' := [(5, .int x5_10), (0, .ref a), (1, .int p0), (2, .int x2), (3, .int x3), (4, .int x4)]) hx hb dX6_bestKept_55 hl (k := 5) rfl (by rw [e_11]; rfl) (by decide) rfl (fun ls hl => ?_)
            refine lv_goto (tgt := 18) hx hb dX6_bestKept_58 (by decide) ?_
            exact ih18 x2 x3 x4 x5_10 _ _ _ h hP hD hS (lv_sub hl [1, 2, 3, 4, 5, 0] rfl)
          · replace h := h.2 c_9
            refine lv_iload hx hb dX6_bestKept_45 (lv_at hl 5 rfl) ?_
            refine lv_istore_n (lv' := [(2, .int x5), (0, .ref a), (1, .int p0), (3, .int x3), (4, .int x4), (5, .int x5)]) hx hb dX6_bestKept_47 rfl hl (by decide) rfl (fun ls hl => ?_)
            refine lv_aload_n hx hb dX6_bestKept_48 rfl (lv_at hl 1 rfl) ?_
            refine lv_iload hx hb dX6_bestKept_49 (lv_at hl 5 rfl) ?_
            refine gV_i0 (As := [.int x5]) (rest := []) ⟨hx, hb, hml, hown, hts⟩ (c_X6_worthOf l dC dI cyC cyI cyZ _ a a_reader a_told a_draft a_course a_firstImage a_secondImage a_imageKept a_bestDigs a_heard a_told_seam a_told_yellow a_told_white a_told_fades a_told_worth v_traced v_told_seamTold v_told_boundTold v_told_lossTold v_told_bound v_told_loss v_told_things v_told_worth x5 h) (cwV 1 hts gX6_bestKept_X6_worthOf rfl rfl rfl hdV_X6_worthOf ⟨Nat.le_of_ble_eq_true rfl, Nat.le_of_ble_eq_true rfl⟩) hK hN hP hD hS hA [0, 1, 2] (by decide) rfl (ci := 6) rfl rfl rfl hl.1 rfl (Nat.le_of_ble_eq_true rfl) dX6_bestKept_51 ⟨Nat.zero_le _, Nat.zero_le _⟩ (fun r_12 H locs h hP hS => ?_)
            refine lv_istore_n (lv' := [(3, .int r_12), (2, .int x5), (0, .ref a), (1, .int p0), (4, .int x4), (5, .int x5)]) hx hb dX6_bestKept_54 rfl hl (by decide) rfl (fun ls hl => ?_)
            obtain ⟨x5_13, e_14⟩ : ∃ y : Int32, y = (x5 + (1 : Int32)) := ⟨_, rfl⟩
            replace h := h x5_13 e_14
            refine lv_iinc (v := x5_13) (lv' := [(5, .int x5_13), (3, .int r_12), (2, .int x5), (0, .ref a), (1, .int p0), (4, .int x4)]) hx hb dX6_bestKept_55 hl (k := 5) rfl (by rw [e_14]; rfl) (by decide) rfl (fun ls hl => ?_)
            refine lv_goto (tgt := 18) hx hb dX6_bestKept_58 (by decide) ?_
            exact ih18 x5 r_12 x4 x5_13 _ _ _ h hP hD hS (lv_sub hl [3, 4, 2, 1, 5, 0] rfl)
set_option maxHeartbeats 4000000 in
set_option maxRecDepth 100000 in
theorem c_X6_bestKept (l : Launch) (dC : Nat → ClassId) (dI : Nat → Nat → Nat) (cyC cyI cyZ : ClassId) (sz : Nat) (a a_reader a_told a_draft a_course a_firstImage a_secondImage a_imageKept a_bestDigs a_heard a_told_seam a_told_yellow a_told_white a_told_fades a_told_worth a_course_rows : Nat) (v_traced : Int64) (v_told_seamTold : Int32) (v_told_boundTold : Int32) (v_told_lossTold : Int32) (v_told_bound : Int32) (v_told_loss : Int32) (v_told_things : Int32) (v_told_worth : Nat → Int32) (v_course_known : Int32) (v_course_rows : Nat → Int32) (v_told_fades : Nat → Int32) (p0 : Int32) {Q : Int32 → Prop} (h : q_X6_bestKept v_told_bound v_told_loss v_told_things v_told_worth v_course_rows v_told_fades p0 Q) : Met l yX6_bestKept wsX6_bestKept ({ frames := 5, cells := 0, slots := 0, locals := 126 }) (gPc [.ref a, .int p0] (dC, dI) (gTy cyC cyI cyZ) sz [(a, .inr (6, [.ref a_reader, .ref a_told, .ref a_draft, .ref a_course, .ref a_firstImage, .ref a_secondImage, .ref a_imageKept, .ref a_bestDigs, .ref a_heard, .long v_traced])), (a_told, .inr (5, [.ref a_told_seam, .int v_told_seamTold, .int v_told_boundTold, .int v_told_lossTold, .int v_told_bound, .int v_told_loss, .int v_told_things, .ref a_told_yellow, .ref a_told_white, .ref a_told_fades, .ref a_told_worth])), (a_told_worth, .inl (cyI, 6, .inl v_told_worth)), (a_course, .inr (2, [.ref a_course_rows, .int v_course_known])), (a_course_rows, .inl (cyI, 165, .inl v_course_rows)), (a_told_fades, .inl (cyI, 6, .inl v_told_fades))]) (gQi0 Q (dC, dI) (va_A [(a, .inr (6, [.ref a_reader, .ref a_told, .ref a_draft, .ref a_course, .ref a_firstImage, .ref a_secondImage, .ref a_imageKept, .ref a_bestDigs, .ref a_heard, .long v_traced])), (a_told, .inr (5, [.ref a_told_seam, .int v_told_seamTold, .int v_told_boundTold, .int v_told_lossTold, .int v_told_bound, .int v_told_loss, .int v_told_things, .ref a_told_yellow, .ref a_told_white, .ref a_told_fades, .ref a_told_worth])), (a_told_worth, .inl (cyI, 6, .inl v_told_worth)), (a_course, .inr (2, [.ref a_course_rows, .int v_course_known])), (a_course_rows, .inl (cyI, 165, .inl v_course_rows)), (a_told_fades, .inl (cyI, 6, .inl v_told_fades))] sz) [(a, .inr (6, [.ref a_reader, .ref a_told, .ref a_draft, .ref a_course, .ref a_firstImage, .ref a_secondImage, .ref a_imageKept, .ref a_bestDigs, .ref a_heard, .long v_traced])), (a_told, .inr (5, [.ref a_told_seam, .int v_told_seamTold, .int v_told_boundTold, .int v_told_lossTold, .int v_told_bound, .int v_told_loss, .int v_told_things, .ref a_told_yellow, .ref a_told_white, .ref a_told_fades, .ref a_told_worth])), (a_told_worth, .inl (cyI, 6, .inl v_told_worth)), (a_course, .inr (2, [.ref a_course_rows, .int v_course_known])), (a_course_rows, .inl (cyI, 165, .inl v_course_rows)), (a_told_fades, .inl (cyI, 6, .inl v_told_fades))]) 0 0 (va_A [(a, .inr (6, [.ref a_reader, .ref a_told, .ref a_draft, .ref a_course, .ref a_firstImage, .ref a_secondImage, .ref a_imageKept, .ref a_bestDigs, .ref a_heard, .long v_traced])), (a_told, .inr (5, [.ref a_told_seam, .int v_told_seamTold, .int v_told_boundTold, .int v_told_lossTold, .int v_told_bound, .int v_told_loss, .int v_told_things, .ref a_told_yellow, .ref a_told_white, .ref a_told_fades, .ref a_told_worth])), (a_told_worth, .inl (cyI, 6, .inl v_told_worth)), (a_course, .inr (2, [.ref a_course_rows, .int v_course_known])), (a_course_rows, .inl (cyI, 165, .inl v_course_rows)), (a_told_fades, .inl (cyI, 6, .inl v_told_fades))] sz) := by
  refine gMet (cc := cX6_bestKept) (maxL := 6) (ret := (some .int)) (own := RX6) (fun A => gQi0 Q (dC, dI) A [(a, .inr (6, [.ref a_reader, .ref a_told, .ref a_draft, .ref a_course, .ref a_firstImage, .ref a_secondImage, .ref a_imageKept, .ref a_bestDigs, .ref a_heard, .long v_traced])), (a_told, .inr (5, [.ref a_told_seam, .int v_told_seamTold, .int v_told_boundTold, .int v_told_lossTold, .int v_told_bound, .int v_told_loss, .int v_told_things, .ref a_told_yellow, .ref a_told_white, .ref a_told_fades, .ref a_told_worth])), (a_told_worth, .inl (cyI, 6, .inl v_told_worth)), (a_course, .inr (2, [.ref a_course_rows, .int v_course_known])), (a_course_rows, .inl (cyI, 165, .inl v_course_rows)), (a_told_fades, .inl (cyI, 6, .inl v_told_fades))]) (by decide) rfl rfl (Nat.le_of_ble_eq_true rfl) ?_
  intro p e s m below meth c A ls C0 _ hK hN hP hD hA hl
  obtain ⟨hx, hb, hr, hml, hown, hts, hlocks⟩ := id C0
  have f159 := hN.link (args := ([.ref a, .int p0].toArray)) (w := .fieldLinkNest RX6 159 "LastOchre$Told" "things" "I" "LastOchre") 19 rfl
  have f19 := hts (.fieldLink RX6 19 "LastOchre" "told" "LLastOchre$Told;") (by decide +kernel)
  have hS : va_S A s.heap s.heap [] := va_S.rf
  replace hl : lv_has ls 6 [(0, .ref a), (1, .int p0)] := hl
  unfold q_X6_bestKept at h
  obtain ⟨n, h⟩ := h
  have ih18 := w_X6_bestKept (l := l) (e := e) (below := below) dC dI cyC cyI cyZ a a_reader a_told a_draft a_course a_firstImage a_secondImage a_imageKept a_bestDigs a_heard a_told_seam a_told_yellow a_told_white a_told_fades a_told_worth a_course_rows v_traced v_told_seamTold v_told_boundTold v_told_lossTold v_told_bound v_told_loss v_told_things v_told_worth v_course_known v_course_rows v_told_fades p0 Q C0 hK hN hA n
  unfold F_X6_bestKept_e at h
  refine lv_iconst (v := 0) hx hb dX6_bestKept_0 (by decide) ?_
  refine lv_istore_n (lv' := [(2, .int (0 : Int32)), (0, .ref a), (1, .int p0)]) hx hb dX6_bestKept_1 rfl hl (by decide) rfl (fun ls hl => ?_)
  refine lv_iconst (v := 0) hx hb dX6_bestKept_2 (by decide) ?_
  refine lv_istore_n (lv' := [(3, .int (0 : Int32)), (2, .int (0 : Int32)), (0, .ref a), (1, .int p0)]) hx hb dX6_bestKept_3 rfl hl (by decide) rfl (fun ls hl => ?_)
  refine lv_iconst (v := 1) hx hb dX6_bestKept_4 (by decide) ?_
  refine lv_aload_n hx hb dX6_bestKept_5 rfl (lv_at hl 2 rfl) ?_
  refine va_get (D := (dC, dI)) (ci := 6) (v := .ref a_told) (C := RX6) (T := TX6) (N := 10) hx hb hts iwX6_bestKept_X6 hown hK hP 0 rfl rfl 1 (by decide) f19 (fun _ h9 => h9) rfl dX6_bestKept_6 ?_
  refine va_getN (host := "LastOchre") (D := (dC, dI)) (ci := 5) (v := .int v_told_things) (C := RX5) (T := TX5) (N := 11) hx hb hts iwX6_bestKept_X5 hown hK hP 1 rfl rfl 6 (by decide) f159 (fun _ h9 => h9) rfl dX6_bestKept_9 ?_
  refine lv_ishl hx hb dX6_bestKept_12 ?_
  refine lv_topi (fun x4_1 e_2 => ?_)
  replace h := h x4_1 e_2
  refine lv_istore (lv' := [(4, .int x4_1), (3, .int (0 : Int32)), (2, .int (0 : Int32)), (0, .ref a), (1, .int p0)]) hx hb dX6_bestKept_13 hl (by decide) rfl (fun ls hl => ?_)
  refine lv_iconst (v := 1) hx hb dX6_bestKept_15 (by decide) ?_
  refine lv_istore (lv' := [(5, .int (1 : Int32)), (4, .int x4_1), (3, .int (0 : Int32)), (2, .int (0 : Int32)), (0, .ref a), (1, .int p0)]) hx hb dX6_bestKept_16 hl (by decide) rfl (fun ls hl => ?_)
  exact ih18 (0 : Int32) (0 : Int32) x4_1 (1 : Int32) _ _ _ h hP hD hS (lv_sub hl [4, 5, 3, 2, 1, 0] rfl)

def F_X6_kept_e (v_told_bound : Int32) (v_told_loss : Int32) (v_told_things : Int32) (v_told_worth : Nat → Int32) (v_course_rows : Nat → Int32) (v_told_fades : Nat → Int32) (p0 : Int32) (p1 : Int32) (Q : Int32 → Prop)  : Prop :=
  q_X6_within p0 (0 : Int32) (99 : Int32) (fun (r_1 : Int32) => (r_1 = 0 → (Q (-1 : Int32))) ∧ (¬ r_1 = 0 → (q_X6_within p1 (0 : Int32) (2 : Int32) (fun (r_3 : Int32) => (¬ r_3 = 0 → (q_X6_bestKept v_told_bound v_told_loss v_told_things v_told_worth v_course_rows v_told_fades p0 (fun (r_5 : Int32) => (p1 = (0 : Int32) → (Q r_5)) ∧ (p1 = (1 : Int32) → (q_X6_worthOf v_told_things v_told_worth r_5 (fun (r_8 : Int32) => Q r_8))) ∧ ((¬ p1 = (0 : Int32) ∧ ¬ p1 = (1 : Int32)) → (q_X6_leftOver v_course_rows v_told_bound v_told_loss v_told_things v_told_fades r_5 p0 (fun (r_9 : Int32) => Q r_9)))))) ∧ (r_3 = 0 → (Q (-1 : Int32)))))))
def q_X6_kept (v_told_bound : Int32) (v_told_loss : Int32) (v_told_things : Int32) (v_told_worth : Nat → Int32) (v_course_rows : Nat → Int32) (v_told_fades : Nat → Int32) (p0 : Int32) (p1 : Int32) (Q : Int32 → Prop) : Prop := F_X6_kept_e v_told_bound v_told_loss v_told_things v_told_worth v_course_rows v_told_fades p0 p1 Q 
theorem hdV_X6_kept : yX6_kept.cls = RX6 ∧ yX6_kept.cls ≠ "java/lang/invoke/MethodHandle" ∧ yX6_kept.cls ≠ "java/lang/invoke/VarHandle" ∧ (parseMethodDescriptor yX6_kept.desc).map (fun d => d.parameters.length) = some 2 := by decide +kernel
set_option maxHeartbeats 4000000 in
set_option maxRecDepth 100000 in
theorem c_X6_kept (l : Launch) (dC : Nat → ClassId) (dI : Nat → Nat → Nat) (cyC cyI cyZ : ClassId) (sz : Nat) (a a_reader a_told a_draft a_course a_firstImage a_secondImage a_imageKept a_bestDigs a_heard a_told_seam a_told_yellow a_told_white a_told_fades a_told_worth a_course_rows : Nat) (v_traced : Int64) (v_told_seamTold : Int32) (v_told_boundTold : Int32) (v_told_lossTold : Int32) (v_told_bound : Int32) (v_told_loss : Int32) (v_told_things : Int32) (v_course_known : Int32) (v_told_worth : Nat → Int32) (v_course_rows : Nat → Int32) (v_told_fades : Nat → Int32) (p0 : Int32) (p1 : Int32) {Q : Int32 → Prop} (h : q_X6_kept v_told_bound v_told_loss v_told_things v_told_worth v_course_rows v_told_fades p0 p1 Q) : Met l yX6_kept wsX6_kept ({ frames := 6, cells := 0, slots := 0, locals := 151 }) (gPc [.ref a, .int p0, .int p1] (dC, dI) (gTy cyC cyI cyZ) sz [(a, .inr (6, [.ref a_reader, .ref a_told, .ref a_draft, .ref a_course, .ref a_firstImage, .ref a_secondImage, .ref a_imageKept, .ref a_bestDigs, .ref a_heard, .long v_traced])), (a_told, .inr (5, [.ref a_told_seam, .int v_told_seamTold, .int v_told_boundTold, .int v_told_lossTold, .int v_told_bound, .int v_told_loss, .int v_told_things, .ref a_told_yellow, .ref a_told_white, .ref a_told_fades, .ref a_told_worth])), (a_course, .inr (2, [.ref a_course_rows, .int v_course_known])), (a_told_worth, .inl (cyI, 6, .inl v_told_worth)), (a_course_rows, .inl (cyI, 165, .inl v_course_rows)), (a_told_fades, .inl (cyI, 6, .inl v_told_fades))]) (gQi0 Q (dC, dI) (va_A [(a, .inr (6, [.ref a_reader, .ref a_told, .ref a_draft, .ref a_course, .ref a_firstImage, .ref a_secondImage, .ref a_imageKept, .ref a_bestDigs, .ref a_heard, .long v_traced])), (a_told, .inr (5, [.ref a_told_seam, .int v_told_seamTold, .int v_told_boundTold, .int v_told_lossTold, .int v_told_bound, .int v_told_loss, .int v_told_things, .ref a_told_yellow, .ref a_told_white, .ref a_told_fades, .ref a_told_worth])), (a_course, .inr (2, [.ref a_course_rows, .int v_course_known])), (a_told_worth, .inl (cyI, 6, .inl v_told_worth)), (a_course_rows, .inl (cyI, 165, .inl v_course_rows)), (a_told_fades, .inl (cyI, 6, .inl v_told_fades))] sz) [(a, .inr (6, [.ref a_reader, .ref a_told, .ref a_draft, .ref a_course, .ref a_firstImage, .ref a_secondImage, .ref a_imageKept, .ref a_bestDigs, .ref a_heard, .long v_traced])), (a_told, .inr (5, [.ref a_told_seam, .int v_told_seamTold, .int v_told_boundTold, .int v_told_lossTold, .int v_told_bound, .int v_told_loss, .int v_told_things, .ref a_told_yellow, .ref a_told_white, .ref a_told_fades, .ref a_told_worth])), (a_course, .inr (2, [.ref a_course_rows, .int v_course_known])), (a_told_worth, .inl (cyI, 6, .inl v_told_worth)), (a_course_rows, .inl (cyI, 165, .inl v_course_rows)), (a_told_fades, .inl (cyI, 6, .inl v_told_fades))]) 0 0 (va_A [(a, .inr (6, [.ref a_reader, .ref a_told, .ref a_draft, .ref a_course, .ref a_firstImage, .ref a_secondImage, .ref a_imageKept, .ref a_bestDigs, .ref a_heard, .long v_traced])), (a_told, .inr (5, [.ref a_told_seam, .int v_told_seamTold, .int v_told_boundTold, .int v_told_lossTold, .int v_told_bound, .int v_told_loss, .int v_told_things, .ref a_told_yellow, .ref a_told_white, .ref a_told_fades, .ref a_told_worth])), (a_course, .inr (2, [.ref a_course_rows, .int v_course_known])), (a_told_worth, .inl (cyI, 6, .inl v_told_worth)), (a_course_rows, .inl (cyI, 165, .inl v_course_rows)), (a_told_fades, .inl (cyI, 6, .inl v_told_fades))] sz) := by
  refine gMet (cc := cX6_kept) (maxL := 4) (ret := (some .int)) (own := RX6) (fun A => gQi0 Q (dC, dI) A [(a, .inr (6, [.ref a_reader, .ref a_told, .ref a_draft, .ref a_course, .ref a_firstImage, .ref a_secondImage, .ref a_imageKept, .ref a_bestDigs, .ref a_heard, .long v_traced])), (a_told, .inr (5, [.ref a_told_seam, .int v_told_seamTold, .int v_told_boundTold, .int v_told_lossTold, .int v_told_bound, .int v_told_loss, .int v_told_things, .ref a_told_yellow, .ref a_told_white, .ref a_told_fades, .ref a_told_worth])), (a_course, .inr (2, [.ref a_course_rows, .int v_course_known])), (a_told_worth, .inl (cyI, 6, .inl v_told_worth)), (a_course_rows, .inl (cyI, 165, .inl v_course_rows)), (a_told_fades, .inl (cyI, 6, .inl v_told_fades))]) (by decide) rfl rfl (Nat.le_of_ble_eq_true rfl) ?_
  intro p e s m below meth c A ls C0 _ hK hN hP hD hA hl
  obtain ⟨hx, hb, hr, hml, hown, hts, hlocks⟩ := id C0
  have hS : va_S A s.heap s.heap [] := va_S.rf
  replace hl : lv_has ls 4 [(0, .ref a), (1, .int p0), (2, .int p1)] := hl
  unfold q_X6_kept at h
  unfold F_X6_kept_e at h
  refine lv_iload_n hx hb dX6_kept_0 rfl (lv_at hl 1 rfl) ?_
  refine lv_iconst (v := 0) hx hb dX6_kept_1 (by decide) ?_
  refine lv_bipush (v := 99) hx hb dX6_kept_2 (by decide) ?_
  refine gS_i0 (As := [.int p0, .int (0 : Int32), .int (99 : Int32)]) (rest := []) ⟨hx, hb, hml, hown, hts⟩ (c_X6_within l dC dI cyC cyI cyZ _ p0 (0 : Int32) (99 : Int32) h) (va_cwS 3 hts gX6_kept_X6_within rfl rfl rfl hdS_X6_within ⟨Nat.le_of_ble_eq_true rfl, Nat.le_of_ble_eq_true rfl⟩) hK hN hP hD hS hA [] (by decide) rfl rfl hl.1 rfl (Nat.le_of_ble_eq_true rfl) dX6_kept_4 ⟨Nat.zero_le _, Nat.zero_le _⟩ (fun r_1 H locs h hP hS => ?_)
  refine lv_if_eq (tgt := 19) hx hb dX6_kept_7 (by decide) (fun c_2 => ?_) (fun c_2 => ?_)
  · replace h := h.1 c_2
    refine lv_iconst (v := -1) hx hb dX6_kept_19 (by decide) ?_
    exact gri0 hx hb hr hlocks h hP hD hS dX6_kept_20
  · replace h := h.2 c_2
    refine lv_iload_n hx hb dX6_kept_10 rfl (lv_at hl 2 rfl) ?_
    refine lv_iconst (v := 0) hx hb dX6_kept_11 (by decide) ?_
    refine lv_iconst (v := 2) hx hb dX6_kept_12 (by decide) ?_
    refine gS_i0 (As := [.int p1, .int (0 : Int32), .int (2 : Int32)]) (rest := []) ⟨hx, hb, hml, hown, hts⟩ (c_X6_within l dC dI cyC cyI cyZ _ p1 (0 : Int32) (2 : Int32) h) (va_cwS 3 hts gX6_kept_X6_within rfl rfl rfl hdS_X6_within ⟨Nat.le_of_ble_eq_true rfl, Nat.le_of_ble_eq_true rfl⟩) hK hN hP hD hS hA [] (by decide) rfl rfl hl.1 rfl (Nat.le_of_ble_eq_true rfl) dX6_kept_13 ⟨Nat.zero_le _, Nat.zero_le _⟩ (fun r_3 H locs h hP hS => ?_)
    refine lv_if_ne (tgt := 21) hx hb dX6_kept_16 (by decide) (fun c_4 => ?_) (fun c_4 => ?_)
    · replace h := h.1 c_4
      refine lv_aload_n hx hb dX6_kept_21 rfl (lv_at hl 0 rfl) ?_
      refine lv_iload_n hx hb dX6_kept_22 rfl (lv_at hl 1 rfl) ?_
      refine gV_i0 (As := [.int p0]) (rest := []) ⟨hx, hb, hml, hown, hts⟩ (c_X6_bestKept l dC dI cyC cyI cyZ _ a a_reader a_told a_draft a_course a_firstImage a_secondImage a_imageKept a_bestDigs a_heard a_told_seam a_told_yellow a_told_white a_told_fades a_told_worth a_course_rows v_traced v_told_seamTold v_told_boundTold v_told_lossTold v_told_bound v_told_loss v_told_things v_told_worth v_course_known v_course_rows v_told_fades p0 h) (cwV 1 hts gX6_kept_X6_bestKept rfl rfl rfl hdV_X6_bestKept ⟨Nat.le_of_ble_eq_true rfl, Nat.le_of_ble_eq_true rfl⟩) hK hN hP hD hS hA [0, 1, 3, 2, 4, 5] (by decide) rfl (ci := 6) rfl rfl rfl hl.1 rfl (Nat.le_of_ble_eq_true rfl) dX6_kept_23 ⟨Nat.zero_le _, Nat.zero_le _⟩ (fun r_5 H locs h hP hS => ?_)
      refine lv_istore_n (lv' := [(3, .int r_5), (0, .ref a), (1, .int p0), (2, .int p1)]) hx hb dX6_kept_26 rfl hl (by decide) rfl (fun ls hl => ?_)
      refine lv_iload_n hx hb dX6_kept_27 rfl (lv_at hl 3 rfl) ?_
      refine (Classical.em (p1 = (0 : Int32))).elim (fun c_6 => ?_) (fun c_6 => ?_)
      · replace h := h.1 c_6
        refine lv_lookup (off := 28) (tgt := 56) hx hb dX6_kept_28 (by decide) (by rw [c_6]; rfl) (by decide) ?_
        refine lv_iload_n hx hb dX6_kept_56 rfl (lv_at hl 0 rfl) ?_
        exact gri0 hx hb hr hlocks h hP hD hS dX6_kept_57
      refine (Classical.em (p1 = (1 : Int32))).elim (fun c_7 => ?_) (fun c_7 => ?_)
      · replace h := h.2.1 c_7
        refine lv_lookup (off := 30) (tgt := 58) hx hb dX6_kept_28 (by decide) (by rw [c_7]; rfl) (by decide) ?_
        refine lv_aload_n hx hb dX6_kept_58 rfl (lv_at hl 1 rfl) ?_
        refine lv_iload_n hx hb dX6_kept_59 rfl (lv_at hl 0 rfl) ?_
        refine gV_i0 (As := [.int r_5]) (rest := []) ⟨hx, hb, hml, hown, hts⟩ (c_X6_worthOf l dC dI cyC cyI cyZ _ a a_reader a_told a_draft a_course a_firstImage a_secondImage a_imageKept a_bestDigs a_heard a_told_seam a_told_yellow a_told_white a_told_fades a_told_worth v_traced v_told_seamTold v_told_boundTold v_told_lossTold v_told_bound v_told_loss v_told_things v_told_worth r_5 h) (cwV 1 hts gX6_kept_X6_worthOf rfl rfl rfl hdV_X6_worthOf ⟨Nat.le_of_ble_eq_true rfl, Nat.le_of_ble_eq_true rfl⟩) hK hN hP hD hS hA [0, 1, 3] (by decide) rfl (ci := 6) rfl rfl rfl hl.1 rfl (Nat.le_of_ble_eq_true rfl) dX6_kept_60 ⟨Nat.zero_le _, Nat.zero_le _⟩ (fun r_8 H locs h hP hS => ?_)
        exact gri0 hx hb hr hlocks h hP hD hS dX6_kept_63
      replace h := h.2.2 ⟨c_6, c_7⟩
      refine lv_lookup (off := 36) (tgt := 64) hx hb dX6_kept_28 (by decide) (by refine (lv_osw c_6 (by decide)).trans ?_; refine (lv_osw c_7 (by decide)).trans ?_; rfl) (by decide) ?_
      refine lv_aload_n hx hb dX6_kept_64 rfl (lv_at hl 1 rfl) ?_
      refine lv_iload_n hx hb dX6_kept_65 rfl (lv_at hl 0 rfl) ?_
      refine lv_iload_n hx hb dX6_kept_66 rfl (lv_at hl 2 rfl) ?_
      refine gV_i0 (As := [.int r_5, .int p0]) (rest := []) ⟨hx, hb, hml, hown, hts⟩ (c_X6_leftOver l dC dI cyC cyI cyZ _ a a_reader a_told a_draft a_course a_firstImage a_secondImage a_imageKept a_bestDigs a_heard a_course_rows a_told_seam a_told_yellow a_told_white a_told_fades a_told_worth v_traced v_course_known v_course_rows v_told_seamTold v_told_boundTold v_told_lossTold v_told_bound v_told_loss v_told_things v_told_fades r_5 p0 h) (cwV 2 hts gX6_kept_X6_leftOver rfl rfl rfl hdV_X6_leftOver ⟨Nat.le_of_ble_eq_true rfl, Nat.le_of_ble_eq_true rfl⟩) hK hN hP hD hS hA [0, 2, 4, 1, 5] (by decide) rfl (ci := 6) rfl rfl rfl hl.1 rfl (Nat.le_of_ble_eq_true rfl) dX6_kept_67 ⟨Nat.zero_le _, Nat.zero_le _⟩ (fun r_9 H locs h hP hS => ?_)
      exact gri0 hx hb hr hlocks h hP hD hS dX6_kept_70
    · replace h := h.2 c_4
      refine lv_iconst (v := -1) hx hb dX6_kept_19 (by decide) ?_
      exact gri0 hx hb hr hlocks h hP hD hS dX6_kept_20

def F_X6_bestDig_e (v_course_rows : Nat → Int32) (v_told_seam_w : Int32) (v_told_seam_all : Int32) (v_told_seam_top : Int32) (v_told_seam_left : Int32) (v_told_seam_right : Int32) (v_told_seam_parts : Nat → Int32) (p0 : Int32) (p1 : Int32) (Q : Int32 → Int32 → (Nat → Int32) → (Nat → Int32) → (Nat → Int32) → (Nat → Int32) → Prop) (v_bestDigs_lookedFrom : Int32) (v_bestDigs_lowSums : Nat → Int32) (v_bestDigs_highSums : Nat → Int32) (v_bestDigs_sets : Nat → Int32) (v_bestDigs_sums : Nat → Int32) : Prop :=
  q_X6_within p0 (0 : Int32) (16 : Int32) (fun (r_1 : Int32) => (r_1 = 0 → (Q (-1 : Int32) v_bestDigs_lookedFrom v_bestDigs_lowSums v_bestDigs_highSums v_bestDigs_sets v_bestDigs_sums)) ∧ (¬ r_1 = 0 → (q_X6_within p1 (0 : Int32) (1 : Int32) (fun (r_3 : Int32) => (¬ r_3 = 0 → (q_X2_dug v_course_rows (fun (r_5 : Int32) => q_X0_lookFrom v_bestDigs_lookedFrom v_told_seam_w v_told_seam_all v_told_seam_top v_told_seam_left v_told_seam_right v_bestDigs_lowSums v_told_seam_parts v_bestDigs_highSums v_bestDigs_sets v_bestDigs_sums r_5 (fun (u_6 : Int32) (u_7 : Nat → Int32) (u_8 : Nat → Int32) (u_9 : Nat → Int32) (u_10 : Nat → Int32) => q_X0_bestSize u_10 p0 (fun (r_11 : Int32) => (¬ p1 = 0 → (vp_in r_11 17 ∧ (Q (u_10 (r_11).toNatClampNeg) u_6 u_7 u_8 u_9 u_10))) ∧ (p1 = 0 → (vp_in r_11 17 ∧ (Q (u_9 (r_11).toNatClampNeg) u_6 u_7 u_8 u_9 u_10)))))))) ∧ (r_3 = 0 → (Q (-1 : Int32) v_bestDigs_lookedFrom v_bestDigs_lowSums v_bestDigs_highSums v_bestDigs_sets v_bestDigs_sums))))))
def q_X6_bestDig (v_course_rows : Nat → Int32) (v_bestDigs_lookedFrom : Int32) (v_told_seam_w : Int32) (v_told_seam_all : Int32) (v_told_seam_top : Int32) (v_told_seam_left : Int32) (v_told_seam_right : Int32) (v_bestDigs_lowSums : Nat → Int32) (v_told_seam_parts : Nat → Int32) (v_bestDigs_highSums : Nat → Int32) (v_bestDigs_sets : Nat → Int32) (v_bestDigs_sums : Nat → Int32) (p0 : Int32) (p1 : Int32) (Q : Int32 → Int32 → (Nat → Int32) → (Nat → Int32) → (Nat → Int32) → (Nat → Int32) → Prop) : Prop := F_X6_bestDig_e v_course_rows v_told_seam_w v_told_seam_all v_told_seam_top v_told_seam_left v_told_seam_right v_told_seam_parts p0 p1 Q v_bestDigs_lookedFrom v_bestDigs_lowSums v_bestDigs_highSums v_bestDigs_sets v_bestDigs_sums
theorem iwX6_bestDig_X0 : ∀ w ∈ wsX00, w ∈ wsX6_bestDig := by decide +kernel
theorem iwX6_bestDig_X5 : ∀ w ∈ wsX50, w ∈ wsX6_bestDig := by decide +kernel
theorem iwX6_bestDig_X6 : ∀ w ∈ wsX60, w ∈ wsX6_bestDig := by decide +kernel
theorem hdV_X6_bestDig : yX6_bestDig.cls = RX6 ∧ yX6_bestDig.cls ≠ "java/lang/invoke/MethodHandle" ∧ yX6_bestDig.cls ≠ "java/lang/invoke/VarHandle" ∧ (parseMethodDescriptor yX6_bestDig.desc).map (fun d => d.parameters.length) = some 2 := by decide +kernel
set_option maxHeartbeats 4000000 in
set_option maxRecDepth 100000 in
theorem c_X6_bestDig (l : Launch) (dC : Nat → ClassId) (dI : Nat → Nat → Nat) (cyC cyI cyZ : ClassId) (sz : Nat) (a a_reader a_told a_draft a_course a_firstImage a_secondImage a_imageKept a_bestDigs a_heard a_told_seam a_told_yellow a_told_white a_told_fades a_told_worth a_course_rows a_bestDigs_sets a_bestDigs_sums a_bestDigs_lowSums a_bestDigs_highSums a_told_seam_parts : Nat) (v_traced : Int64) (v_told_seamTold : Int32) (v_told_boundTold : Int32) (v_told_lossTold : Int32) (v_told_bound : Int32) (v_told_loss : Int32) (v_told_things : Int32) (v_course_known : Int32) (v_course_rows : Nat → Int32) (v_bestDigs_lookedFrom : Int32) (v_told_seam_w : Int32) (v_told_seam_h : Int32) (v_told_seam_all : Int32) (v_told_seam_top : Int32) (v_told_seam_left : Int32) (v_told_seam_right : Int32) (v_bestDigs_lowSums : Nat → Int32) (v_told_seam_parts : Nat → Int32) (v_bestDigs_highSums : Nat → Int32) (v_bestDigs_sets : Nat → Int32) (v_bestDigs_sums : Nat → Int32) (p0 : Int32) (p1 : Int32) {Q : Int32 → Int32 → (Nat → Int32) → (Nat → Int32) → (Nat → Int32) → (Nat → Int32) → Prop} (h : q_X6_bestDig v_course_rows v_bestDigs_lookedFrom v_told_seam_w v_told_seam_all v_told_seam_top v_told_seam_left v_told_seam_right v_bestDigs_lowSums v_told_seam_parts v_bestDigs_highSums v_bestDigs_sets v_bestDigs_sums p0 p1 Q) : Met l yX6_bestDig wsX6_bestDig ({ frames := 5, cells := 0, slots := 0, locals := 118 }) (gPc [.ref a, .int p0, .int p1] (dC, dI) (gTy cyC cyI cyZ) sz [(a, .inr (6, [.ref a_reader, .ref a_told, .ref a_draft, .ref a_course, .ref a_firstImage, .ref a_secondImage, .ref a_imageKept, .ref a_bestDigs, .ref a_heard, .long v_traced])), (a_told, .inr (5, [.ref a_told_seam, .int v_told_seamTold, .int v_told_boundTold, .int v_told_lossTold, .int v_told_bound, .int v_told_loss, .int v_told_things, .ref a_told_yellow, .ref a_told_white, .ref a_told_fades, .ref a_told_worth])), (a_course, .inr (2, [.ref a_course_rows, .int v_course_known])), (a_course_rows, .inl (cyI, 165, .inl v_course_rows)), (a_bestDigs, .inr (0, [.ref a_bestDigs_sets, .ref a_bestDigs_sums, .ref a_bestDigs_lowSums, .ref a_bestDigs_highSums, .int v_bestDigs_lookedFrom])), (a_told_seam, .inr (4, [.int v_told_seam_w, .int v_told_seam_h, .ref a_told_seam_parts, .int v_told_seam_all, .int v_told_seam_top, .int v_told_seam_left, .int v_told_seam_right])), (a_bestDigs_lowSums, .inl (cyI, 256, .inl v_bestDigs_lowSums)), (a_told_seam_parts, .inl (cyI, 16, .inl v_told_seam_parts)), (a_bestDigs_highSums, .inl (cyI, 256, .inl v_bestDigs_highSums)), (a_bestDigs_sets, .inl (cyI, 17, .inl v_bestDigs_sets)), (a_bestDigs_sums, .inl (cyI, 17, .inl v_bestDigs_sums))]) (gQi5 Q (dC, dI) (va_A [(a, .inr (6, [.ref a_reader, .ref a_told, .ref a_draft, .ref a_course, .ref a_firstImage, .ref a_secondImage, .ref a_imageKept, .ref a_bestDigs, .ref a_heard, .long v_traced])), (a_told, .inr (5, [.ref a_told_seam, .int v_told_seamTold, .int v_told_boundTold, .int v_told_lossTold, .int v_told_bound, .int v_told_loss, .int v_told_things, .ref a_told_yellow, .ref a_told_white, .ref a_told_fades, .ref a_told_worth])), (a_course, .inr (2, [.ref a_course_rows, .int v_course_known])), (a_course_rows, .inl (cyI, 165, .inl v_course_rows)), (a_bestDigs, .inr (0, [.ref a_bestDigs_sets, .ref a_bestDigs_sums, .ref a_bestDigs_lowSums, .ref a_bestDigs_highSums, .int v_bestDigs_lookedFrom])), (a_told_seam, .inr (4, [.int v_told_seam_w, .int v_told_seam_h, .ref a_told_seam_parts, .int v_told_seam_all, .int v_told_seam_top, .int v_told_seam_left, .int v_told_seam_right])), (a_bestDigs_lowSums, .inl (cyI, 256, .inl v_bestDigs_lowSums)), (a_told_seam_parts, .inl (cyI, 16, .inl v_told_seam_parts)), (a_bestDigs_highSums, .inl (cyI, 256, .inl v_bestDigs_highSums)), (a_bestDigs_sets, .inl (cyI, 17, .inl v_bestDigs_sets)), (a_bestDigs_sums, .inl (cyI, 17, .inl v_bestDigs_sums))] sz) (fun (u1 : Int32) (u2 : Nat → Int32) (u3 : Nat → Int32) (u4 : Nat → Int32) (u5 : Nat → Int32) => [(a, .inr (6, [.ref a_reader, .ref a_told, .ref a_draft, .ref a_course, .ref a_firstImage, .ref a_secondImage, .ref a_imageKept, .ref a_bestDigs, .ref a_heard, .long v_traced])), (a_told, .inr (5, [.ref a_told_seam, .int v_told_seamTold, .int v_told_boundTold, .int v_told_lossTold, .int v_told_bound, .int v_told_loss, .int v_told_things, .ref a_told_yellow, .ref a_told_white, .ref a_told_fades, .ref a_told_worth])), (a_course, .inr (2, [.ref a_course_rows, .int v_course_known])), (a_course_rows, .inl (cyI, 165, .inl v_course_rows)), (a_bestDigs, .inr (0, [.ref a_bestDigs_sets, .ref a_bestDigs_sums, .ref a_bestDigs_lowSums, .ref a_bestDigs_highSums, .int u1])), (a_told_seam, .inr (4, [.int v_told_seam_w, .int v_told_seam_h, .ref a_told_seam_parts, .int v_told_seam_all, .int v_told_seam_top, .int v_told_seam_left, .int v_told_seam_right])), (a_bestDigs_lowSums, .inl (cyI, 256, .inl u2)), (a_told_seam_parts, .inl (cyI, 16, .inl v_told_seam_parts)), (a_bestDigs_highSums, .inl (cyI, 256, .inl u3)), (a_bestDigs_sets, .inl (cyI, 17, .inl u4)), (a_bestDigs_sums, .inl (cyI, 17, .inl u5))])) 0 0 (va_A [(a, .inr (6, [.ref a_reader, .ref a_told, .ref a_draft, .ref a_course, .ref a_firstImage, .ref a_secondImage, .ref a_imageKept, .ref a_bestDigs, .ref a_heard, .long v_traced])), (a_told, .inr (5, [.ref a_told_seam, .int v_told_seamTold, .int v_told_boundTold, .int v_told_lossTold, .int v_told_bound, .int v_told_loss, .int v_told_things, .ref a_told_yellow, .ref a_told_white, .ref a_told_fades, .ref a_told_worth])), (a_course, .inr (2, [.ref a_course_rows, .int v_course_known])), (a_course_rows, .inl (cyI, 165, .inl v_course_rows)), (a_bestDigs, .inr (0, [.ref a_bestDigs_sets, .ref a_bestDigs_sums, .ref a_bestDigs_lowSums, .ref a_bestDigs_highSums, .int v_bestDigs_lookedFrom])), (a_told_seam, .inr (4, [.int v_told_seam_w, .int v_told_seam_h, .ref a_told_seam_parts, .int v_told_seam_all, .int v_told_seam_top, .int v_told_seam_left, .int v_told_seam_right])), (a_bestDigs_lowSums, .inl (cyI, 256, .inl v_bestDigs_lowSums)), (a_told_seam_parts, .inl (cyI, 16, .inl v_told_seam_parts)), (a_bestDigs_highSums, .inl (cyI, 256, .inl v_bestDigs_highSums)), (a_bestDigs_sets, .inl (cyI, 17, .inl v_bestDigs_sets)), (a_bestDigs_sums, .inl (cyI, 17, .inl v_bestDigs_sums))] sz) := by
  refine gMet (cc := cX6_bestDig) (maxL := 4) (ret := (some .int)) (own := RX6) (fun A => gQi5 Q (dC, dI) A (fun (u1 : Int32) (u2 : Nat → Int32) (u3 : Nat → Int32) (u4 : Nat → Int32) (u5 : Nat → Int32) => [(a, .inr (6, [.ref a_reader, .ref a_told, .ref a_draft, .ref a_course, .ref a_firstImage, .ref a_secondImage, .ref a_imageKept, .ref a_bestDigs, .ref a_heard, .long v_traced])), (a_told, .inr (5, [.ref a_told_seam, .int v_told_seamTold, .int v_told_boundTold, .int v_told_lossTold, .int v_told_bound, .int v_told_loss, .int v_told_things, .ref a_told_yellow, .ref a_told_white, .ref a_told_fades, .ref a_told_worth])), (a_course, .inr (2, [.ref a_course_rows, .int v_course_known])), (a_course_rows, .inl (cyI, 165, .inl v_course_rows)), (a_bestDigs, .inr (0, [.ref a_bestDigs_sets, .ref a_bestDigs_sums, .ref a_bestDigs_lowSums, .ref a_bestDigs_highSums, .int u1])), (a_told_seam, .inr (4, [.int v_told_seam_w, .int v_told_seam_h, .ref a_told_seam_parts, .int v_told_seam_all, .int v_told_seam_top, .int v_told_seam_left, .int v_told_seam_right])), (a_bestDigs_lowSums, .inl (cyI, 256, .inl u2)), (a_told_seam_parts, .inl (cyI, 16, .inl v_told_seam_parts)), (a_bestDigs_highSums, .inl (cyI, 256, .inl u3)), (a_bestDigs_sets, .inl (cyI, 17, .inl u4)), (a_bestDigs_sums, .inl (cyI, 17, .inl u5))])) (by decide) rfl rfl (Nat.le_of_ble_eq_true rfl) ?_
  intro p e s m below meth c A ls C0 _ hK hN hP hD hA hl
  obtain ⟨hx, hb, hr, hml, hown, hts, hlocks⟩ := id C0
  have f19 := hts (.fieldLink RX6 19 "LastOchre" "told" "LLastOchre$Told;") (by decide +kernel)
  have f210 := hN.link (args := ([.ref a, .int p0, .int p1].toArray)) (w := .fieldLinkNest RX6 210 "LastOchre$BestDigs" "sets" "[I" "LastOchre") 29 rfl
  have f213 := hN.link (args := ([.ref a, .int p0, .int p1].toArray)) (w := .fieldLinkNest RX6 213 "LastOchre$BestDigs" "sums" "[I" "LastOchre") 30 rfl
  have f29 := hts (.fieldLink RX6 29 "LastOchre" "course" "LLastOchre$Course;") (by decide +kernel)
  have f46 := hts (.fieldLink RX6 46 "LastOchre" "bestDigs" "LLastOchre$BestDigs;") (by decide +kernel)
  have f85 := hN.link (args := ([.ref a, .int p0, .int p1].toArray)) (w := .fieldLinkNest RX6 85 "LastOchre$Told" "seam" "LLastOchre$Seam;" "LastOchre") 8 rfl
  have hS : va_S A s.heap s.heap [] := va_S.rf
  replace hl : lv_has ls 4 [(0, .ref a), (1, .int p0), (2, .int p1)] := hl
  unfold q_X6_bestDig at h
  unfold F_X6_bestDig_e at h
  refine lv_iload_n hx hb dX6_bestDig_0 rfl (lv_at hl 1 rfl) ?_
  refine lv_iconst (v := 0) hx hb dX6_bestDig_1 (by decide) ?_
  refine lv_bipush (v := 16) hx hb dX6_bestDig_2 (by decide) ?_
  refine gS_i0 (As := [.int p0, .int (0 : Int32), .int (16 : Int32)]) (rest := []) ⟨hx, hb, hml, hown, hts⟩ (c_X6_within l dC dI cyC cyI cyZ _ p0 (0 : Int32) (16 : Int32) h) (va_cwS 3 hts gX6_bestDig_X6_within rfl rfl rfl hdS_X6_within ⟨Nat.le_of_ble_eq_true rfl, Nat.le_of_ble_eq_true rfl⟩) hK hN hP hD hS hA [] (by decide) rfl rfl hl.1 rfl (Nat.le_of_ble_eq_true rfl) dX6_bestDig_4 ⟨Nat.zero_le _, Nat.zero_le _⟩ (fun r_1 H locs h hP hS => ?_)
  refine lv_if_eq (tgt := 19) hx hb dX6_bestDig_7 (by decide) (fun c_2 => ?_) (fun c_2 => ?_)
  · replace h := h.1 c_2
    refine lv_iconst (v := -1) hx hb dX6_bestDig_19 (by decide) ?_
    exact gri5 hx hb hr hlocks h hP hD hS dX6_bestDig_20
  · replace h := h.2 c_2
    refine lv_iload_n hx hb dX6_bestDig_10 rfl (lv_at hl 2 rfl) ?_
    refine lv_iconst (v := 0) hx hb dX6_bestDig_11 (by decide) ?_
    refine lv_iconst (v := 1) hx hb dX6_bestDig_12 (by decide) ?_
    refine gS_i0 (As := [.int p1, .int (0 : Int32), .int (1 : Int32)]) (rest := []) ⟨hx, hb, hml, hown, hts⟩ (c_X6_within l dC dI cyC cyI cyZ _ p1 (0 : Int32) (1 : Int32) h) (va_cwS 3 hts gX6_bestDig_X6_within rfl rfl rfl hdS_X6_within ⟨Nat.le_of_ble_eq_true rfl, Nat.le_of_ble_eq_true rfl⟩) hK hN hP hD hS hA [] (by decide) rfl rfl hl.1 rfl (Nat.le_of_ble_eq_true rfl) dX6_bestDig_13 ⟨Nat.zero_le _, Nat.zero_le _⟩ (fun r_3 H locs h hP hS => ?_)
    refine lv_if_ne (tgt := 21) hx hb dX6_bestDig_16 (by decide) (fun c_4 => ?_) (fun c_4 => ?_)
    · replace h := h.1 c_4
      refine lv_aload_n hx hb dX6_bestDig_21 rfl (lv_at hl 0 rfl) ?_
      refine va_get (D := (dC, dI)) (ci := 6) (v := .ref a_bestDigs) (C := RX6) (T := TX6) (N := 10) hx hb hts iwX6_bestDig_X6 hown hK hP 0 rfl rfl 7 (by decide) f46 (fun _ h9 => h9) rfl dX6_bestDig_22 ?_
      refine lv_aload_n hx hb dX6_bestDig_25 rfl (lv_at hl 0 rfl) ?_
      refine va_get (D := (dC, dI)) (ci := 6) (v := .ref a_told) (C := RX6) (T := TX6) (N := 10) hx hb hts iwX6_bestDig_X6 hown hK hP 0 rfl rfl 1 (by decide) f19 (fun _ h9 => h9) rfl dX6_bestDig_26 ?_
      refine va_getN (host := "LastOchre") (D := (dC, dI)) (ci := 5) (v := .ref a_told_seam) (C := RX5) (T := TX5) (N := 11) hx hb hts iwX6_bestDig_X5 hown hK hP 1 rfl rfl 0 (by decide) f85 (fun _ h9 => h9) rfl dX6_bestDig_29 ?_
      refine lv_aload_n hx hb dX6_bestDig_32 rfl (lv_at hl 0 rfl) ?_
      refine va_get (D := (dC, dI)) (ci := 6) (v := .ref a_course) (C := RX6) (T := TX6) (N := 10) hx hb hts iwX6_bestDig_X6 hown hK hP 0 rfl rfl 3 (by decide) f29 (fun _ h9 => h9) rfl dX6_bestDig_33 ?_
      refine gV_i0 (As := []) (rest := [.ref a_told_seam, .ref a_bestDigs]) ⟨hx, hb, hml, hown, hts⟩ (c_X2_dug l dC dI cyC cyI cyZ _ a_course a_course_rows v_course_known v_course_rows h) (cwV 0 hts gX6_bestDig_X2_dug rfl rfl rfl hdV_X2_dug ⟨Nat.le_of_ble_eq_true rfl, Nat.le_of_ble_eq_true rfl⟩) hK hN hP hD hS hA [2, 3] (by decide) rfl (ci := 2) rfl rfl rfl hl.1 rfl (Nat.le_of_ble_eq_true rfl) dX6_bestDig_36 ⟨Nat.zero_le _, Nat.zero_le _⟩ (fun r_5 H locs h hP hS => ?_)
      refine gV_v5 (As := [.ref a_told_seam, .int r_5]) (rest := []) ⟨hx, hb, hml, hown, hts⟩ (c_X0_lookFrom l dC dI cyC cyI cyZ _ a_bestDigs a_bestDigs_sets a_bestDigs_sums a_bestDigs_lowSums a_bestDigs_highSums a_told_seam a_told_seam_parts v_bestDigs_lookedFrom v_told_seam_w v_told_seam_h v_told_seam_all v_told_seam_top v_told_seam_left v_told_seam_right v_bestDigs_lowSums v_told_seam_parts v_bestDigs_highSums v_bestDigs_sets v_bestDigs_sums r_5 h) (cwV 2 hts gX6_bestDig_X0_lookFrom rfl rfl rfl hdV_X0_lookFrom ⟨Nat.le_of_ble_eq_true rfl, Nat.le_of_ble_eq_true rfl⟩) hK hN hP hD hS hA [4, 5, 6, 7, 8, 9, 10] (by decide) rfl (ci := 0) rfl rfl rfl hl.1 rfl (Nat.le_of_ble_eq_true rfl) dX6_bestDig_39 ⟨Nat.zero_le _, Nat.zero_le _⟩ (wr := [(a, .inr (6, [.ref a_reader, .ref a_told, .ref a_draft, .ref a_course, .ref a_firstImage, .ref a_secondImage, .ref a_imageKept, .ref a_bestDigs, .ref a_heard, .long v_traced])), (a_told, .inr (5, [.ref a_told_seam, .int v_told_seamTold, .int v_told_boundTold, .int v_told_lossTold, .int v_told_bound, .int v_told_loss, .int v_told_things, .ref a_told_yellow, .ref a_told_white, .ref a_told_fades, .ref a_told_worth])), (a_course, .inr (2, [.ref a_course_rows, .int v_course_known])), (a_course_rows, .inl (cyI, 165, .inl v_course_rows))]) [0, 1, 2, 3] rfl (by decide) (by decide) (fun u_6 u_7 u_8 u_9 u_10 H locs h hP hD hS => ?_)
      replace hP : va_P (dC, dI) vwCl [(a, .inr (6, [.ref a_reader, .ref a_told, .ref a_draft, .ref a_course, .ref a_firstImage, .ref a_secondImage, .ref a_imageKept, .ref a_bestDigs, .ref a_heard, .long v_traced])), (a_told, .inr (5, [.ref a_told_seam, .int v_told_seamTold, .int v_told_boundTold, .int v_told_lossTold, .int v_told_bound, .int v_told_loss, .int v_told_things, .ref a_told_yellow, .ref a_told_white, .ref a_told_fades, .ref a_told_worth])), (a_course, .inr (2, [.ref a_course_rows, .int v_course_known])), (a_course_rows, .inl (cyI, 165, .inl v_course_rows)), (a_bestDigs, .inr (0, [.ref a_bestDigs_sets, .ref a_bestDigs_sums, .ref a_bestDigs_lowSums, .ref a_bestDigs_highSums, .int u_6])), (a_told_seam, .inr (4, [.int v_told_seam_w, .int v_told_seam_h, .ref a_told_seam_parts, .int v_told_seam_all, .int v_told_seam_top, .int v_told_seam_left, .int v_told_seam_right])), (a_bestDigs_lowSums, .inl (cyI, 256, .inl u_7)), (a_told_seam_parts, .inl (cyI, 16, .inl v_told_seam_parts)), (a_bestDigs_highSums, .inl (cyI, 256, .inl u_8)), (a_bestDigs_sets, .inl (cyI, 17, .inl u_9)), (a_bestDigs_sums, .inl (cyI, 17, .inl u_10))] H := hP
      replace hD : va_D A [(a, .inr (6, [.ref a_reader, .ref a_told, .ref a_draft, .ref a_course, .ref a_firstImage, .ref a_secondImage, .ref a_imageKept, .ref a_bestDigs, .ref a_heard, .long v_traced])), (a_told, .inr (5, [.ref a_told_seam, .int v_told_seamTold, .int v_told_boundTold, .int v_told_lossTold, .int v_told_bound, .int v_told_loss, .int v_told_things, .ref a_told_yellow, .ref a_told_white, .ref a_told_fades, .ref a_told_worth])), (a_course, .inr (2, [.ref a_course_rows, .int v_course_known])), (a_course_rows, .inl (cyI, 165, .inl v_course_rows)), (a_bestDigs, .inr (0, [.ref a_bestDigs_sets, .ref a_bestDigs_sums, .ref a_bestDigs_lowSums, .ref a_bestDigs_highSums, .int u_6])), (a_told_seam, .inr (4, [.int v_told_seam_w, .int v_told_seam_h, .ref a_told_seam_parts, .int v_told_seam_all, .int v_told_seam_top, .int v_told_seam_left, .int v_told_seam_right])), (a_bestDigs_lowSums, .inl (cyI, 256, .inl u_7)), (a_told_seam_parts, .inl (cyI, 16, .inl v_told_seam_parts)), (a_bestDigs_highSums, .inl (cyI, 256, .inl u_8)), (a_bestDigs_sets, .inl (cyI, 17, .inl u_9)), (a_bestDigs_sums, .inl (cyI, 17, .inl u_10))] := hD
      refine lv_aload_n hx hb dX6_bestDig_42 rfl (lv_at hl 0 rfl) ?_
      refine va_get (D := (dC, dI)) (ci := 6) (v := .ref a_bestDigs) (C := RX6) (T := TX6) (N := 10) hx hb hts iwX6_bestDig_X6 hown hK hP 0 rfl rfl 7 (by decide) f46 (fun _ h9 => h9) rfl dX6_bestDig_43 ?_
      refine lv_iload_n hx hb dX6_bestDig_46 rfl (lv_at hl 1 rfl) ?_
      refine gV_i0 (As := [.int p0]) (rest := []) ⟨hx, hb, hml, hown, hts⟩ (c_X0_bestSize l dC dI cyC cyI cyZ _ a_bestDigs a_bestDigs_sets a_bestDigs_sums a_bestDigs_lowSums a_bestDigs_highSums u_6 u_10 p0 h) (cwV 1 hts gX6_bestDig_X0_bestSize rfl rfl rfl hdV_X0_bestSize ⟨Nat.le_of_ble_eq_true rfl, Nat.le_of_ble_eq_true rfl⟩) hK hN hP hD hS hA [4, 10] (by decide) rfl (ci := 0) rfl rfl rfl hl.1 rfl (Nat.le_of_ble_eq_true rfl) dX6_bestDig_47 ⟨Nat.zero_le _, Nat.zero_le _⟩ (fun r_11 H locs h hP hS => ?_)
      refine lv_istore_n (lv' := [(3, .int r_11), (0, .ref a), (1, .int p0), (2, .int p1)]) hx hb dX6_bestDig_50 rfl hl (by decide) rfl (fun ls hl => ?_)
      refine lv_iload_n hx hb dX6_bestDig_51 rfl (lv_at hl 3 rfl) ?_
      refine lv_if_ne (tgt := 67) hx hb dX6_bestDig_52 (by decide) (fun c_12 => ?_) (fun c_12 => ?_)
      · replace h := h.1 c_12
        refine lv_aload_n hx hb dX6_bestDig_67 rfl (lv_at hl 1 rfl) ?_
        refine va_get (D := (dC, dI)) (ci := 6) (v := .ref a_bestDigs) (C := RX6) (T := TX6) (N := 10) hx hb hts iwX6_bestDig_X6 hown hK hP 0 rfl rfl 7 (by decide) f46 (fun _ h9 => h9) rfl dX6_bestDig_68 ?_
        refine va_getN (host := "LastOchre") (D := (dC, dI)) (ci := 0) (v := .ref a_bestDigs_sums) (C := RX0) (T := TX0) (N := 5) hx hb hts iwX6_bestDig_X0 hown hK hP 4 rfl rfl 1 (by decide) f213 (fun _ h9 => h9) rfl dX6_bestDig_71 ?_
        refine lv_iload_n hx hb dX6_bestDig_74 rfl (lv_at hl 0 rfl) ?_
        have g_13 := h.1
        replace h := h.2
        refine va_iald hx hb hK hP 10 0 rfl rfl g_13 dX6_bestDig_75 ?_
        exact gri5 hx hb hr hlocks h hP hD hS dX6_bestDig_76
      · replace h := h.2 c_12
        refine lv_aload_n hx hb dX6_bestDig_55 rfl (lv_at hl 1 rfl) ?_
        refine va_get (D := (dC, dI)) (ci := 6) (v := .ref a_bestDigs) (C := RX6) (T := TX6) (N := 10) hx hb hts iwX6_bestDig_X6 hown hK hP 0 rfl rfl 7 (by decide) f46 (fun _ h9 => h9) rfl dX6_bestDig_56 ?_
        refine va_getN (host := "LastOchre") (D := (dC, dI)) (ci := 0) (v := .ref a_bestDigs_sets) (C := RX0) (T := TX0) (N := 5) hx hb hts iwX6_bestDig_X0 hown hK hP 4 rfl rfl 0 (by decide) f210 (fun _ h9 => h9) rfl dX6_bestDig_59 ?_
        refine lv_iload_n hx hb dX6_bestDig_62 rfl (lv_at hl 0 rfl) ?_
        have g_14 := h.1
        replace h := h.2
        refine va_iald hx hb hK hP 9 0 rfl rfl g_14 dX6_bestDig_63 ?_
        refine lv_goto (tgt := 76) hx hb dX6_bestDig_64 (by decide) ?_
        exact gri5 hx hb hr hlocks h hP hD hS dX6_bestDig_76
    · replace h := h.2 c_4
      refine lv_iconst (v := -1) hx hb dX6_bestDig_19 (by decide) ?_
      exact gri5 hx hb hr hlocks h hP hD hS dX6_bestDig_20

def F_X6_far_e (v_told_bound : Int32) (v_told_things : Int32) (v_course_rows : Nat → Int32) (v_told_fades : Nat → Int32) (p0 : Int32) (Q : Int32 → Prop)  : Prop :=
  q_X6_isThing v_told_things p0 (fun (r_1 : Int32) => (¬ r_1 = 0 → (q_X6_calledAfter v_told_bound v_course_rows v_told_fades p0 (0 : Int32) (fun (r_3 : Int32) => (¬ r_3 = 0 → (q_X2_yellow v_course_rows p0 (fun (r_5 : Int32) => q_X6_quotient ((10 : Int32) * r_5) v_told_bound (fun (r_6 : Int32) => ∀ x3_7 : Int32, x3_7 = (r_6 - r_5) → (q_X2_white v_course_rows p0 (fun (r_9 : Int32) => Q ((if (999 : Int32) < x3_7 then (999 : Int32) else x3_7) - r_9))))))) ∧ (r_3 = 0 → (Q (-5 : Int32)))))) ∧ (r_1 = 0 → (Q (-1 : Int32))))
def q_X6_far (v_told_bound : Int32) (v_told_things : Int32) (v_course_rows : Nat → Int32) (v_told_fades : Nat → Int32) (p0 : Int32) (Q : Int32 → Prop) : Prop := F_X6_far_e v_told_bound v_told_things v_course_rows v_told_fades p0 Q 
theorem iwX6_far_X5 : ∀ w ∈ wsX50, w ∈ wsX6_far := by decide +kernel
theorem iwX6_far_X6 : ∀ w ∈ wsX60, w ∈ wsX6_far := by decide +kernel
theorem hdV_X6_far : yX6_far.cls = RX6 ∧ yX6_far.cls ≠ "java/lang/invoke/MethodHandle" ∧ yX6_far.cls ≠ "java/lang/invoke/VarHandle" ∧ (parseMethodDescriptor yX6_far.desc).map (fun d => d.parameters.length) = some 1 := by decide +kernel
set_option maxHeartbeats 4000000 in
set_option maxRecDepth 100000 in
theorem c_X6_far (l : Launch) (dC : Nat → ClassId) (dI : Nat → Nat → Nat) (cyC cyI cyZ : ClassId) (sz : Nat) (a a_reader a_told a_draft a_course a_firstImage a_secondImage a_imageKept a_bestDigs a_heard a_told_seam a_told_yellow a_told_white a_told_fades a_told_worth a_course_rows : Nat) (v_traced : Int64) (v_told_seamTold : Int32) (v_told_boundTold : Int32) (v_told_lossTold : Int32) (v_told_bound : Int32) (v_told_loss : Int32) (v_told_things : Int32) (v_course_known : Int32) (v_course_rows : Nat → Int32) (v_told_fades : Nat → Int32) (p0 : Int32) {Q : Int32 → Prop} (h : q_X6_far v_told_bound v_told_things v_course_rows v_told_fades p0 Q) : Met l yX6_far wsX6_far ({ frames := 3, cells := 0, slots := 0, locals := 74 }) (gPc [.ref a, .int p0] (dC, dI) (gTy cyC cyI cyZ) sz [(a, .inr (6, [.ref a_reader, .ref a_told, .ref a_draft, .ref a_course, .ref a_firstImage, .ref a_secondImage, .ref a_imageKept, .ref a_bestDigs, .ref a_heard, .long v_traced])), (a_told, .inr (5, [.ref a_told_seam, .int v_told_seamTold, .int v_told_boundTold, .int v_told_lossTold, .int v_told_bound, .int v_told_loss, .int v_told_things, .ref a_told_yellow, .ref a_told_white, .ref a_told_fades, .ref a_told_worth])), (a_course, .inr (2, [.ref a_course_rows, .int v_course_known])), (a_course_rows, .inl (cyI, 165, .inl v_course_rows)), (a_told_fades, .inl (cyI, 6, .inl v_told_fades))]) (gQi0 Q (dC, dI) (va_A [(a, .inr (6, [.ref a_reader, .ref a_told, .ref a_draft, .ref a_course, .ref a_firstImage, .ref a_secondImage, .ref a_imageKept, .ref a_bestDigs, .ref a_heard, .long v_traced])), (a_told, .inr (5, [.ref a_told_seam, .int v_told_seamTold, .int v_told_boundTold, .int v_told_lossTold, .int v_told_bound, .int v_told_loss, .int v_told_things, .ref a_told_yellow, .ref a_told_white, .ref a_told_fades, .ref a_told_worth])), (a_course, .inr (2, [.ref a_course_rows, .int v_course_known])), (a_course_rows, .inl (cyI, 165, .inl v_course_rows)), (a_told_fades, .inl (cyI, 6, .inl v_told_fades))] sz) [(a, .inr (6, [.ref a_reader, .ref a_told, .ref a_draft, .ref a_course, .ref a_firstImage, .ref a_secondImage, .ref a_imageKept, .ref a_bestDigs, .ref a_heard, .long v_traced])), (a_told, .inr (5, [.ref a_told_seam, .int v_told_seamTold, .int v_told_boundTold, .int v_told_lossTold, .int v_told_bound, .int v_told_loss, .int v_told_things, .ref a_told_yellow, .ref a_told_white, .ref a_told_fades, .ref a_told_worth])), (a_course, .inr (2, [.ref a_course_rows, .int v_course_known])), (a_course_rows, .inl (cyI, 165, .inl v_course_rows)), (a_told_fades, .inl (cyI, 6, .inl v_told_fades))]) 0 0 (va_A [(a, .inr (6, [.ref a_reader, .ref a_told, .ref a_draft, .ref a_course, .ref a_firstImage, .ref a_secondImage, .ref a_imageKept, .ref a_bestDigs, .ref a_heard, .long v_traced])), (a_told, .inr (5, [.ref a_told_seam, .int v_told_seamTold, .int v_told_boundTold, .int v_told_lossTold, .int v_told_bound, .int v_told_loss, .int v_told_things, .ref a_told_yellow, .ref a_told_white, .ref a_told_fades, .ref a_told_worth])), (a_course, .inr (2, [.ref a_course_rows, .int v_course_known])), (a_course_rows, .inl (cyI, 165, .inl v_course_rows)), (a_told_fades, .inl (cyI, 6, .inl v_told_fades))] sz) := by
  refine gMet (cc := cX6_far) (maxL := 4) (ret := (some .int)) (own := RX6) (fun A => gQi0 Q (dC, dI) A [(a, .inr (6, [.ref a_reader, .ref a_told, .ref a_draft, .ref a_course, .ref a_firstImage, .ref a_secondImage, .ref a_imageKept, .ref a_bestDigs, .ref a_heard, .long v_traced])), (a_told, .inr (5, [.ref a_told_seam, .int v_told_seamTold, .int v_told_boundTold, .int v_told_lossTold, .int v_told_bound, .int v_told_loss, .int v_told_things, .ref a_told_yellow, .ref a_told_white, .ref a_told_fades, .ref a_told_worth])), (a_course, .inr (2, [.ref a_course_rows, .int v_course_known])), (a_course_rows, .inl (cyI, 165, .inl v_course_rows)), (a_told_fades, .inl (cyI, 6, .inl v_told_fades))]) (by decide) rfl rfl (Nat.le_of_ble_eq_true rfl) ?_
  intro p e s m below meth c A ls C0 _ hK hN hP hD hA hl
  obtain ⟨hx, hb, hr, hml, hown, hts, hlocks⟩ := id C0
  have f19 := hts (.fieldLink RX6 19 "LastOchre" "told" "LLastOchre$Told;") (by decide +kernel)
  have f216 := hN.link (args := ([.ref a, .int p0].toArray)) (w := .fieldLinkNest RX6 216 "LastOchre$Told" "bound" "I" "LastOchre") 14 rfl
  have f29 := hts (.fieldLink RX6 29 "LastOchre" "course" "LLastOchre$Course;") (by decide +kernel)
  have hS : va_S A s.heap s.heap [] := va_S.rf
  replace hl : lv_has ls 4 [(0, .ref a), (1, .int p0)] := hl
  unfold q_X6_far at h
  unfold F_X6_far_e at h
  refine lv_aload_n hx hb dX6_far_0 rfl (lv_at hl 0 rfl) ?_
  refine lv_iload_n hx hb dX6_far_1 rfl (lv_at hl 1 rfl) ?_
  refine gV_i0 (As := [.int p0]) (rest := []) ⟨hx, hb, hml, hown, hts⟩ (c_X6_isThing l dC dI cyC cyI cyZ _ a a_reader a_told a_draft a_course a_firstImage a_secondImage a_imageKept a_bestDigs a_heard a_told_seam a_told_yellow a_told_white a_told_fades a_told_worth v_traced v_told_seamTold v_told_boundTold v_told_lossTold v_told_bound v_told_loss v_told_things p0 h) (cwV 1 hts gX6_far_X6_isThing rfl rfl rfl hdV_X6_isThing ⟨Nat.le_of_ble_eq_true rfl, Nat.le_of_ble_eq_true rfl⟩) hK hN hP hD hS hA [0, 1] (by decide) rfl (ci := 6) rfl rfl rfl hl.1 rfl (Nat.le_of_ble_eq_true rfl) dX6_far_2 ⟨Nat.zero_le _, Nat.zero_le _⟩ (fun r_1 H locs h hP hS => ?_)
  refine lv_if_ne (tgt := 10) hx hb dX6_far_5 (by decide) (fun c_2 => ?_) (fun c_2 => ?_)
  · replace h := h.1 c_2
    refine lv_aload_n hx hb dX6_far_10 rfl (lv_at hl 0 rfl) ?_
    refine lv_iload_n hx hb dX6_far_11 rfl (lv_at hl 1 rfl) ?_
    refine lv_iconst (v := 0) hx hb dX6_far_12 (by decide) ?_
    refine gV_i0 (As := [.int p0, .int (0 : Int32)]) (rest := []) ⟨hx, hb, hml, hown, hts⟩ (c_X6_calledAfter l dC dI cyC cyI cyZ _ a a_reader a_told a_draft a_course a_firstImage a_secondImage a_imageKept a_bestDigs a_heard a_course_rows a_told_seam a_told_yellow a_told_white a_told_fades a_told_worth v_traced v_course_known v_told_seamTold v_told_boundTold v_told_lossTold v_told_bound v_told_loss v_told_things v_course_rows v_told_fades p0 (0 : Int32) h) (cwV 2 hts gX6_far_X6_calledAfter rfl rfl rfl hdV_X6_calledAfter ⟨Nat.le_of_ble_eq_true rfl, Nat.le_of_ble_eq_true rfl⟩) hK hN hP hD hS hA [0, 2, 1, 3, 4] (by decide) rfl (ci := 6) rfl rfl rfl hl.1 rfl (Nat.le_of_ble_eq_true rfl) dX6_far_13 ⟨Nat.zero_le _, Nat.zero_le _⟩ (fun r_3 H locs h hP hS => ?_)
    refine lv_if_ne (tgt := 22) hx hb dX6_far_16 (by decide) (fun c_4 => ?_) (fun c_4 => ?_)
    · replace h := h.1 c_4
      refine lv_aload_n hx hb dX6_far_22 rfl (lv_at hl 0 rfl) ?_
      refine va_get (D := (dC, dI)) (ci := 6) (v := .ref a_course) (C := RX6) (T := TX6) (N := 10) hx hb hts iwX6_far_X6 hown hK hP 0 rfl rfl 3 (by decide) f29 (fun _ h9 => h9) rfl dX6_far_23 ?_
      refine lv_iload_n hx hb dX6_far_26 rfl (lv_at hl 1 rfl) ?_
      refine gV_i0 (As := [.int p0]) (rest := []) ⟨hx, hb, hml, hown, hts⟩ (c_X2_yellow l dC dI cyC cyI cyZ _ a_course a_course_rows v_course_known v_course_rows p0 h) (cwV 1 hts gX6_far_X2_yellow rfl rfl rfl hdV_X2_yellow ⟨Nat.le_of_ble_eq_true rfl, Nat.le_of_ble_eq_true rfl⟩) hK hN hP hD hS hA [2, 3] (by decide) rfl (ci := 2) rfl rfl rfl hl.1 rfl (Nat.le_of_ble_eq_true rfl) dX6_far_27 ⟨Nat.zero_le _, Nat.zero_le _⟩ (fun r_5 H locs h hP hS => ?_)
      refine lv_istore_n (lv' := [(2, .int r_5), (0, .ref a), (1, .int p0)]) hx hb dX6_far_30 rfl hl (by decide) rfl (fun ls hl => ?_)
      refine lv_bipush (v := 10) hx hb dX6_far_31 (by decide) ?_
      refine lv_iload_n hx hb dX6_far_33 rfl (lv_at hl 0 rfl) ?_
      refine lv_imul hx hb dX6_far_34 ?_
      refine lv_aload_n hx hb dX6_far_35 rfl (lv_at hl 1 rfl) ?_
      refine va_get (D := (dC, dI)) (ci := 6) (v := .ref a_told) (C := RX6) (T := TX6) (N := 10) hx hb hts iwX6_far_X6 hown hK hP 0 rfl rfl 1 (by decide) f19 (fun _ h9 => h9) rfl dX6_far_36 ?_
      refine va_getN (host := "LastOchre") (D := (dC, dI)) (ci := 5) (v := .int v_told_bound) (C := RX5) (T := TX5) (N := 11) hx hb hts iwX6_far_X5 hown hK hP 1 rfl rfl 4 (by decide) f216 (fun _ h9 => h9) rfl dX6_far_39 ?_
      refine gS_i0 (As := [.int ((10 : Int32) * r_5), .int v_told_bound]) (rest := []) ⟨hx, hb, hml, hown, hts⟩ (c_X6_quotient l dC dI cyC cyI cyZ _ ((10 : Int32) * r_5) v_told_bound h) (va_cwS 2 hts gX6_far_X6_quotient rfl rfl rfl hdS_X6_quotient ⟨Nat.le_of_ble_eq_true rfl, Nat.le_of_ble_eq_true rfl⟩) hK hN hP hD hS hA [] (by decide) rfl rfl hl.1 rfl (Nat.le_of_ble_eq_true rfl) dX6_far_42 ⟨Nat.zero_le _, Nat.zero_le _⟩ (fun r_6 H locs h hP hS => ?_)
      refine lv_iload_n hx hb dX6_far_45 rfl (lv_at hl 0 rfl) ?_
      refine lv_isub hx hb dX6_far_46 ?_
      refine lv_topi (fun x3_7 e_8 => ?_)
      replace h := h x3_7 e_8
      refine lv_istore_n (lv' := [(3, .int x3_7), (2, .int r_5), (0, .ref a), (1, .int p0)]) hx hb dX6_far_47 rfl hl (by decide) rfl (fun ls hl => ?_)
      refine lv_iload_n hx hb dX6_far_48 rfl (lv_at hl 0 rfl) ?_
      refine lv_sipush (v := 999) hx hb dX6_far_49 (by decide) ?_
      refine va_mmin hx hb (by rw [hml]; exact hl.1.symm) hown (hts (.methodLink RX6 222 Lib.Math.min.name) (by decide +kernel)) (hts (.static Lib.Math.min.name) (by decide +kernel)) (hts (.initialized "java/lang/Math") (by decide +kernel)) (hts (.code Lib.Math.min.name Lib.Math.min.code 2 (some .int)) (by decide +kernel)) (Nat.le_of_ble_eq_true rfl) (Nat.le_of_ble_eq_true rfl) (Nat.zero_le _) (Nat.zero_le _) dX6_far_52 ?_
      refine lv_aload_n hx hb dX6_far_55 rfl (lv_at hl 2 rfl) ?_
      refine va_get (D := (dC, dI)) (ci := 6) (v := .ref a_course) (C := RX6) (T := TX6) (N := 10) hx hb hts iwX6_far_X6 hown hK hP 0 rfl rfl 3 (by decide) f29 (fun _ h9 => h9) rfl dX6_far_56 ?_
      refine lv_iload_n hx hb dX6_far_59 rfl (lv_at hl 3 rfl) ?_
      refine gV_i0 (As := [.int p0]) (rest := [.int (if (999 : Int32) < x3_7 then (999 : Int32) else x3_7)]) ⟨hx, hb, hml, hown, hts⟩ (c_X2_white l dC dI cyC cyI cyZ _ a_course a_course_rows v_course_known v_course_rows p0 h) (cwV 1 hts gX6_far_X2_white rfl rfl rfl hdV_X2_white ⟨Nat.le_of_ble_eq_true rfl, Nat.le_of_ble_eq_true rfl⟩) hK hN hP hD hS hA [2, 3] (by decide) rfl (ci := 2) rfl rfl rfl hl.1 rfl (Nat.le_of_ble_eq_true rfl) dX6_far_60 ⟨Nat.zero_le _, Nat.zero_le _⟩ (fun r_9 H locs h hP hS => ?_)
      refine lv_isub hx hb dX6_far_63 ?_
      exact gri0 hx hb hr hlocks h hP hD hS dX6_far_64
    · replace h := h.2 c_4
      refine lv_bipush (v := -5) hx hb dX6_far_19 (by decide) ?_
      exact gri0 hx hb hr hlocks h hP hD hS dX6_far_21
  · replace h := h.2 c_2
    refine lv_iconst (v := -1) hx hb dX6_far_8 (by decide) ?_
    exact gri0 hx hb hr hlocks h hP hD hS dX6_far_9

def F_X6_priceAfter_e (v_told_bound : Int32) (v_told_things : Int32) (v_course_rows : Nat → Int32) (v_told_fades : Nat → Int32) (v_told_worth : Nat → Int32) (p0 : Int32) (p1 : Int32) (Q : Int32 → Prop) (rec : Nat → Int32 → Int32 → Int32 → Int32 → Prop)  : Prop :=
  q_X6_calledAfter v_told_bound v_course_rows v_told_fades p0 p1 (fun (r_1 : Int32) => (¬ r_1 = 0 → (rec 16 (0 : Int32) (0 : Int32) 0 0)) ∧ (r_1 = 0 → (Q (0 : Int32))))
def F_X6_priceAfter_16 (v_told_bound : Int32) (v_told_things : Int32) (v_course_rows : Nat → Int32) (v_told_fades : Nat → Int32) (v_told_worth : Nat → Int32) (p0 : Int32) (p1 : Int32) (Q : Int32 → Prop) (rec : Nat → Int32 → Int32 → Int32 → Int32 → Prop) (x3 : Int32) (x4 : Int32) (k0 : Int32) (k1 : Int32) : Prop :=
  (v_told_things ≤ x4 → (vp_in p0 6 ∧ (Q ((v_told_worth (p0).toNatClampNeg) * ((1 : Int32) + x3))))) ∧ (¬ v_told_things ≤ x4 → (q_X6_calledAfter v_told_bound v_course_rows v_told_fades x4 p1 (fun (r_5 : Int32) => (¬ r_5 = 0 → (rec 44 0 x4 (0 : Int32) x3)) ∧ (r_5 = 0 → (rec 44 0 x4 (1 : Int32) x3)))))
def F_X6_priceAfter_44 (v_told_bound : Int32) (v_told_things : Int32) (v_course_rows : Nat → Int32) (v_told_fades : Nat → Int32) (v_told_worth : Nat → Int32) (p0 : Int32) (p1 : Int32) (Q : Int32 → Prop) (rec : Nat → Int32 → Int32 → Int32 → Int32 → Prop) (x3 : Int32) (x4 : Int32) (k0 : Int32) (k1 : Int32) : Prop :=
  q_X6_oneIf k0 (fun (r_7 : Int32) => ∀ x3_8 : Int32, x3_8 = (k1 + r_7) → (∀ x4_10 : Int32, x4_10 = (x4 + (1 : Int32)) → (rec 16 x3_8 x4_10 0 0)))
def wp_X6_priceAfter (v_told_bound : Int32) (v_told_things : Int32) (v_course_rows : Nat → Int32) (v_told_fades : Nat → Int32) (v_told_worth : Nat → Int32) (p0 : Int32) (p1 : Int32) (Q : Int32 → Prop) : Nat → Nat → Int32 → Int32 → Int32 → Int32 → Prop
  | 0 => fun _ _ _ _ _ => False
  | n + 1 => fun t x3 x4 k0 k1 => if t = 16 then F_X6_priceAfter_16 v_told_bound v_told_things v_course_rows v_told_fades v_told_worth p0 p1 Q (wp_X6_priceAfter v_told_bound v_told_things v_course_rows v_told_fades v_told_worth p0 p1 Q n) x3 x4 k0 k1 else if t = 44 then F_X6_priceAfter_44 v_told_bound v_told_things v_course_rows v_told_fades v_told_worth p0 p1 Q (wp_X6_priceAfter v_told_bound v_told_things v_course_rows v_told_fades v_told_worth p0 p1 Q n) x3 x4 k0 k1 else False
def q_X6_priceAfter (v_told_bound : Int32) (v_told_things : Int32) (v_course_rows : Nat → Int32) (v_told_fades : Nat → Int32) (v_told_worth : Nat → Int32) (p0 : Int32) (p1 : Int32) (Q : Int32 → Prop) : Prop := ∃ n, F_X6_priceAfter_e v_told_bound v_told_things v_course_rows v_told_fades v_told_worth p0 p1 Q (wp_X6_priceAfter v_told_bound v_told_things v_course_rows v_told_fades v_told_worth p0 p1 Q n) 
theorem iwX6_priceAfter_X5 : ∀ w ∈ wsX50, w ∈ wsX6_priceAfter := by decide +kernel
theorem iwX6_priceAfter_X6 : ∀ w ∈ wsX60, w ∈ wsX6_priceAfter := by decide +kernel
theorem hdV_X6_priceAfter : yX6_priceAfter.cls = RX6 ∧ yX6_priceAfter.cls ≠ "java/lang/invoke/MethodHandle" ∧ yX6_priceAfter.cls ≠ "java/lang/invoke/VarHandle" ∧ (parseMethodDescriptor yX6_priceAfter.desc).map (fun d => d.parameters.length) = some 2 := by decide +kernel
set_option maxHeartbeats 4000000 in
set_option maxRecDepth 100000 in
theorem w_X6_priceAfter {p : Program} {l : Launch} {e : Env} {s : State} {m : MethodId} {args : Array Value} {below : List Frame} {meth : Method} {c : Code} {A : Nat → Prop} (dC : Nat → ClassId) (dI : Nat → Nat → Nat) (cyC cyI cyZ : ClassId) (a a_reader a_told a_draft a_course a_firstImage a_secondImage a_imageKept a_bestDigs a_heard a_course_rows a_told_seam a_told_yellow a_told_white a_told_fades a_told_worth : Nat) (v_traced : Int64) (v_course_known : Int32) (v_told_seamTold : Int32) (v_told_boundTold : Int32) (v_told_lossTold : Int32) (v_told_bound : Int32) (v_told_loss : Int32) (v_told_things : Int32) (v_course_rows : Nat → Int32) (v_told_fades : Nat → Int32) (v_told_worth : Nat → Int32) (p0 : Int32) (p1 : Int32) (Q : Int32 → Prop) (C0 : gAt cX6_priceAfter (some .int) 5 RX6 wsX6_priceAfter p s m meth c args) (hK : va_K (dC, dI) vwCl (gTy cyC cyI cyZ) s) (hN : nU s) (hA : ∀ q, s.heap.size ≤ q → A q) : ∀ n : Nat, (∀ (x3 : Int32) (x4 : Int32) (k0 : Int32) (k1 : Int32) (H : Heap) (locs : List Loc) (ls : Array Slot), wp_X6_priceAfter v_told_bound v_told_things v_course_rows v_told_fades v_told_worth p0 p1 Q n 16 x3 x4 k0 k1 → va_P (dC, dI) vwCl [(a, .inr (6, [.ref a_reader, .ref a_told, .ref a_draft, .ref a_course, .ref a_firstImage, .ref a_secondImage, .ref a_imageKept, .ref a_bestDigs, .ref a_heard, .long v_traced])), (a_course, .inr (2, [.ref a_course_rows, .int v_course_known])), (a_told, .inr (5, [.ref a_told_seam, .int v_told_seamTold, .int v_told_boundTold, .int v_told_lossTold, .int v_told_bound, .int v_told_loss, .int v_told_things, .ref a_told_yellow, .ref a_told_white, .ref a_told_fades, .ref a_told_worth])), (a_course_rows, .inl (cyI, 165, .inl v_course_rows)), (a_told_fades, .inl (cyI, 6, .inl v_told_fades)), (a_told_worth, .inl (cyI, 6, .inl v_told_worth))] H → va_D A [(a, .inr (6, [.ref a_reader, .ref a_told, .ref a_draft, .ref a_course, .ref a_firstImage, .ref a_secondImage, .ref a_imageKept, .ref a_bestDigs, .ref a_heard, .long v_traced])), (a_course, .inr (2, [.ref a_course_rows, .int v_course_known])), (a_told, .inr (5, [.ref a_told_seam, .int v_told_seamTold, .int v_told_boundTold, .int v_told_lossTold, .int v_told_bound, .int v_told_loss, .int v_told_things, .ref a_told_yellow, .ref a_told_white, .ref a_told_fades, .ref a_told_worth])), (a_course_rows, .inl (cyI, 165, .inl v_course_rows)), (a_told_fades, .inl (cyI, 6, .inl v_told_fades)), (a_told_worth, .inl (cyI, 6, .inl v_told_worth))] → va_S A s.heap H locs → lv_has ls 5 [(0, .ref a), (1, .int p0), (2, .int p1), (3, .int x3), (4, .int x4)] → W p l e { frames := 3, cells := 0, slots := 0, locals := 74 } s m args below meth c H locs 0 0 (MQ below (gQi0 Q (dC, dI) A [(a, .inr (6, [.ref a_reader, .ref a_told, .ref a_draft, .ref a_course, .ref a_firstImage, .ref a_secondImage, .ref a_imageKept, .ref a_bestDigs, .ref a_heard, .long v_traced])), (a_course, .inr (2, [.ref a_course_rows, .int v_course_known])), (a_told, .inr (5, [.ref a_told_seam, .int v_told_seamTold, .int v_told_boundTold, .int v_told_lossTold, .int v_told_bound, .int v_told_loss, .int v_told_things, .ref a_told_yellow, .ref a_told_white, .ref a_told_fades, .ref a_told_worth])), (a_course_rows, .inl (cyI, 165, .inl v_course_rows)), (a_told_fades, .inl (cyI, 6, .inl v_told_fades)), (a_told_worth, .inl (cyI, 6, .inl v_told_worth))]) args s 0 0 A) (F0 m 16 ls [])) ∧ (∀ (x3 : Int32) (x4 : Int32) (k0 : Int32) (k1 : Int32) (H : Heap) (locs : List Loc) (ls : Array Slot), wp_X6_priceAfter v_told_bound v_told_things v_course_rows v_told_fades v_told_worth p0 p1 Q n 44 x3 x4 k0 k1 → va_P (dC, dI) vwCl [(a, .inr (6, [.ref a_reader, .ref a_told, .ref a_draft, .ref a_course, .ref a_firstImage, .ref a_secondImage, .ref a_imageKept, .ref a_bestDigs, .ref a_heard, .long v_traced])), (a_course, .inr (2, [.ref a_course_rows, .int v_course_known])), (a_told, .inr (5, [.ref a_told_seam, .int v_told_seamTold, .int v_told_boundTold, .int v_told_lossTold, .int v_told_bound, .int v_told_loss, .int v_told_things, .ref a_told_yellow, .ref a_told_white, .ref a_told_fades, .ref a_told_worth])), (a_course_rows, .inl (cyI, 165, .inl v_course_rows)), (a_told_fades, .inl (cyI, 6, .inl v_told_fades)), (a_told_worth, .inl (cyI, 6, .inl v_told_worth))] H → va_D A [(a, .inr (6, [.ref a_reader, .ref a_told, .ref a_draft, .ref a_course, .ref a_firstImage, .ref a_secondImage, .ref a_imageKept, .ref a_bestDigs, .ref a_heard, .long v_traced])), (a_course, .inr (2, [.ref a_course_rows, .int v_course_known])), (a_told, .inr (5, [.ref a_told_seam, .int v_told_seamTold, .int v_told_boundTold, .int v_told_lossTold, .int v_told_bound, .int v_told_loss, .int v_told_things, .ref a_told_yellow, .ref a_told_white, .ref a_told_fades, .ref a_told_worth])), (a_course_rows, .inl (cyI, 165, .inl v_course_rows)), (a_told_fades, .inl (cyI, 6, .inl v_told_fades)), (a_told_worth, .inl (cyI, 6, .inl v_told_worth))] → va_S A s.heap H locs → lv_has ls 5 [(0, .ref a), (1, .int p0), (2, .int p1), (4, .int x4)] → W p l e { frames := 3, cells := 0, slots := 0, locals := 74 } s m args below meth c H locs 0 0 (MQ below (gQi0 Q (dC, dI) A [(a, .inr (6, [.ref a_reader, .ref a_told, .ref a_draft, .ref a_course, .ref a_firstImage, .ref a_secondImage, .ref a_imageKept, .ref a_bestDigs, .ref a_heard, .long v_traced])), (a_course, .inr (2, [.ref a_course_rows, .int v_course_known])), (a_told, .inr (5, [.ref a_told_seam, .int v_told_seamTold, .int v_told_boundTold, .int v_told_lossTold, .int v_told_bound, .int v_told_loss, .int v_told_things, .ref a_told_yellow, .ref a_told_white, .ref a_told_fades, .ref a_told_worth])), (a_course_rows, .inl (cyI, 165, .inl v_course_rows)), (a_told_fades, .inl (cyI, 6, .inl v_told_fades)), (a_told_worth, .inl (cyI, 6, .inl v_told_worth))]) args s 0 0 A) (F0 m 44 ls [.int k0, .int k1])) := by
  obtain ⟨hx, hb, hr, hml, hown, hts, hlocks⟩ := id C0
  have f127 := hN.link (args := (args)) (w := .fieldLinkNest RX6 127 "LastOchre$Told" "worth" "[I" "LastOchre") 26 rfl
  have f159 := hN.link (args := (args)) (w := .fieldLinkNest RX6 159 "LastOchre$Told" "things" "I" "LastOchre") 19 rfl
  have f19 := hts (.fieldLink RX6 19 "LastOchre" "told" "LLastOchre$Told;") (by decide +kernel)
  intro n
  induction n with
  | zero => exact ⟨fun _ _ _ _ _ _ _ h => absurd h id, fun _ _ _ _ _ _ _ h => absurd h id⟩
  | succ n ih =>
    obtain ⟨ih16, ih44⟩ := ih
    refine ⟨?_, ?_⟩
    · intro x3 x4 k0 k1 H locs ls h hP hD hS hl
      replace h : F_X6_priceAfter_16 v_told_bound v_told_things v_course_rows v_told_fades v_told_worth p0 p1 Q (wp_X6_priceAfter v_told_bound v_told_things v_course_rows v_told_fades v_told_worth p0 p1 Q n) x3 x4 k0 k1 := h
      unfold F_X6_priceAfter_16 at h
      refine lv_iload hx hb dX6_priceAfter_16 (lv_at hl 4 rfl) ?_
      refine lv_aload_n hx hb dX6_priceAfter_18 rfl (lv_at hl 0 rfl) ?_
      refine va_get (D := (dC, dI)) (ci := 6) (v := .ref a_told) (C := RX6) (T := TX6) (N := 10) hx hb hts iwX6_priceAfter_X6 hown hK hP 0 rfl rfl 1 (by decide) f19 (fun _ h9 => h9) rfl dX6_priceAfter_19 ?_
      refine va_getN (host := "LastOchre") (D := (dC, dI)) (ci := 5) (v := .int v_told_things) (C := RX5) (T := TX5) (N := 11) hx hb hts iwX6_priceAfter_X5 hown hK hP 2 rfl rfl 6 (by decide) f159 (fun _ h9 => h9) rfl dX6_priceAfter_22 ?_
      refine lv_icmp_ge (tgt := 55) hx hb dX6_priceAfter_25 (by decide) (fun c_3 => ?_) (fun c_3 => ?_)
      · replace h := h.1 c_3
        refine lv_aload_n hx hb dX6_priceAfter_55 rfl (lv_at hl 0 rfl) ?_
        refine va_get (D := (dC, dI)) (ci := 6) (v := .ref a_told) (C := RX6) (T := TX6) (N := 10) hx hb hts iwX6_priceAfter_X6 hown hK hP 0 rfl rfl 1 (by decide) f19 (fun _ h9 => h9) rfl dX6_priceAfter_56 ?_
        refine va_getN (host := "LastOchre") (D := (dC, dI)) (ci := 5) (v := .ref a_told_worth) (C := RX5) (T := TX5) (N := 11) hx hb hts iwX6_priceAfter_X5 hown hK hP 2 rfl rfl 10 (by decide) f127 (fun _ h9 => h9) rfl dX6_priceAfter_59 ?_
        refine lv_iload_n hx hb dX6_priceAfter_62 rfl (lv_at hl 1 rfl) ?_
        have g_4 := h.1
        replace h := h.2
        refine va_iald hx hb hK hP 5 0 rfl rfl g_4 dX6_priceAfter_63 ?_
        refine lv_iconst (v := 1) hx hb dX6_priceAfter_64 (by decide) ?_
        refine lv_iload_n hx hb dX6_priceAfter_65 rfl (lv_at hl 3 rfl) ?_
        refine lv_iadd hx hb dX6_priceAfter_66 ?_
        refine lv_imul hx hb dX6_priceAfter_67 ?_
        exact gri0 hx hb hr hlocks h hP hD hS dX6_priceAfter_68
      · replace h := h.2 c_3
        refine lv_iload_n hx hb dX6_priceAfter_28 rfl (lv_at hl 3 rfl) ?_
        refine lv_aload_n hx hb dX6_priceAfter_29 rfl (lv_at hl 0 rfl) ?_
        refine lv_iload hx hb dX6_priceAfter_30 (lv_at hl 4 rfl) ?_
        refine lv_iload_n hx hb dX6_priceAfter_32 rfl (lv_at hl 2 rfl) ?_
        refine gV_i0 (As := [.int x4, .int p1]) (rest := [.int x3]) ⟨hx, hb, hml, hown, hts⟩ (c_X6_calledAfter l dC dI cyC cyI cyZ _ a a_reader a_told a_draft a_course a_firstImage a_secondImage a_imageKept a_bestDigs a_heard a_course_rows a_told_seam a_told_yellow a_told_white a_told_fades a_told_worth v_traced v_course_known v_told_seamTold v_told_boundTold v_told_lossTold v_told_bound v_told_loss v_told_things v_course_rows v_told_fades x4 p1 h) (cwV 2 hts gX6_priceAfter_X6_calledAfter rfl rfl rfl hdV_X6_calledAfter ⟨Nat.le_of_ble_eq_true rfl, Nat.le_of_ble_eq_true rfl⟩) hK hN hP hD hS hA [0, 1, 2, 3, 4] (by decide) rfl (ci := 6) rfl rfl rfl hl.1 rfl (Nat.le_of_ble_eq_true rfl) dX6_priceAfter_33 ⟨Nat.zero_le _, Nat.zero_le _⟩ (fun r_5 H locs h hP hS => ?_)
        refine lv_if_ne (tgt := 43) hx hb dX6_priceAfter_36 (by decide) (fun c_6 => ?_) (fun c_6 => ?_)
        · replace h := h.1 c_6
          refine lv_iconst (v := 0) hx hb dX6_priceAfter_43 (by decide) ?_
          exact ih44 0 x4 (0 : Int32) x3 _ _ _ h hP hD hS (lv_sub hl [0, 1, 2, 4] rfl)
        · replace h := h.2 c_6
          refine lv_iconst (v := 1) hx hb dX6_priceAfter_39 (by decide) ?_
          refine lv_goto (tgt := 44) hx hb dX6_priceAfter_40 (by decide) ?_
          exact ih44 0 x4 (1 : Int32) x3 _ _ _ h hP hD hS (lv_sub hl [0, 1, 2, 4] rfl)
    · intro x3 x4 k0 k1 H locs ls h hP hD hS hl
      replace h : F_X6_priceAfter_44 v_told_bound v_told_things v_course_rows v_told_fades v_told_worth p0 p1 Q (wp_X6_priceAfter v_told_bound v_told_things v_course_rows v_told_fades v_told_worth p0 p1 Q n) x3 x4 k0 k1 := h
      unfold F_X6_priceAfter_44 at h
      refine gS_i0 (As := [.int k0]) (rest := [.int k1]) ⟨hx, hb, hml, hown, hts⟩ (c_X6_oneIf l dC dI cyC cyI cyZ _ k0 h) (va_cwS 1 hts gX6_priceAfter_X6_oneIf rfl rfl rfl hdS_X6_oneIf ⟨Nat.le_of_ble_eq_true rfl, Nat.le_of_ble_eq_true rfl⟩) hK hN hP hD hS hA [] (by decide) rfl rfl hl.1 rfl (Nat.le_of_ble_eq_true rfl) dX6_priceAfter_44 ⟨Nat.zero_le _, Nat.zero_le _⟩ (fun r_7 H locs h hP hS => ?_)
      refine lv_iadd hx hb dX6_priceAfter_47 ?_
      refine lv_topi (fun x3_8 e_9 => ?_)
      replace h := h x3_8 e_9
      refine lv_istore_n (lv' := [(3, .int x3_8), (0, .ref a), (1, .int p0), (2, .int p1), (4, .int x4)]) hx hb dX6_priceAfter_48 rfl hl (by decide) rfl (fun ls hl => ?_)
      obtain ⟨x4_10, e_11⟩ : ∃ y : Int32, y = (x4 + (1 : Int32)) := ⟨_, rfl⟩
      replace h := h x4_10 e_11
      refine lv_iinc (v := x4_10) (lv' := [(4, .int x4_10), (3, .int x3_8), (0, .ref a), (1, .int p0), (2, .int p1)]) hx hb dX6_priceAfter_49 hl (k := 4) rfl (by rw [e_11]; rfl) (by decide) rfl (fun ls hl => ?_)
      refine lv_goto (tgt := 16) hx hb dX6_priceAfter_52 (by decide) ?_
      exact ih16 x3_8 x4_10 0 0 _ _ _ h hP hD hS (lv_sub hl [2, 3, 4, 1, 0] rfl)
set_option maxHeartbeats 4000000 in
set_option maxRecDepth 100000 in
theorem c_X6_priceAfter (l : Launch) (dC : Nat → ClassId) (dI : Nat → Nat → Nat) (cyC cyI cyZ : ClassId) (sz : Nat) (a a_reader a_told a_draft a_course a_firstImage a_secondImage a_imageKept a_bestDigs a_heard a_course_rows a_told_seam a_told_yellow a_told_white a_told_fades a_told_worth : Nat) (v_traced : Int64) (v_course_known : Int32) (v_told_seamTold : Int32) (v_told_boundTold : Int32) (v_told_lossTold : Int32) (v_told_bound : Int32) (v_told_loss : Int32) (v_told_things : Int32) (v_course_rows : Nat → Int32) (v_told_fades : Nat → Int32) (v_told_worth : Nat → Int32) (p0 : Int32) (p1 : Int32) {Q : Int32 → Prop} (h : q_X6_priceAfter v_told_bound v_told_things v_course_rows v_told_fades v_told_worth p0 p1 Q) : Met l yX6_priceAfter wsX6_priceAfter ({ frames := 3, cells := 0, slots := 0, locals := 74 }) (gPc [.ref a, .int p0, .int p1] (dC, dI) (gTy cyC cyI cyZ) sz [(a, .inr (6, [.ref a_reader, .ref a_told, .ref a_draft, .ref a_course, .ref a_firstImage, .ref a_secondImage, .ref a_imageKept, .ref a_bestDigs, .ref a_heard, .long v_traced])), (a_course, .inr (2, [.ref a_course_rows, .int v_course_known])), (a_told, .inr (5, [.ref a_told_seam, .int v_told_seamTold, .int v_told_boundTold, .int v_told_lossTold, .int v_told_bound, .int v_told_loss, .int v_told_things, .ref a_told_yellow, .ref a_told_white, .ref a_told_fades, .ref a_told_worth])), (a_course_rows, .inl (cyI, 165, .inl v_course_rows)), (a_told_fades, .inl (cyI, 6, .inl v_told_fades)), (a_told_worth, .inl (cyI, 6, .inl v_told_worth))]) (gQi0 Q (dC, dI) (va_A [(a, .inr (6, [.ref a_reader, .ref a_told, .ref a_draft, .ref a_course, .ref a_firstImage, .ref a_secondImage, .ref a_imageKept, .ref a_bestDigs, .ref a_heard, .long v_traced])), (a_course, .inr (2, [.ref a_course_rows, .int v_course_known])), (a_told, .inr (5, [.ref a_told_seam, .int v_told_seamTold, .int v_told_boundTold, .int v_told_lossTold, .int v_told_bound, .int v_told_loss, .int v_told_things, .ref a_told_yellow, .ref a_told_white, .ref a_told_fades, .ref a_told_worth])), (a_course_rows, .inl (cyI, 165, .inl v_course_rows)), (a_told_fades, .inl (cyI, 6, .inl v_told_fades)), (a_told_worth, .inl (cyI, 6, .inl v_told_worth))] sz) [(a, .inr (6, [.ref a_reader, .ref a_told, .ref a_draft, .ref a_course, .ref a_firstImage, .ref a_secondImage, .ref a_imageKept, .ref a_bestDigs, .ref a_heard, .long v_traced])), (a_course, .inr (2, [.ref a_course_rows, .int v_course_known])), (a_told, .inr (5, [.ref a_told_seam, .int v_told_seamTold, .int v_told_boundTold, .int v_told_lossTold, .int v_told_bound, .int v_told_loss, .int v_told_things, .ref a_told_yellow, .ref a_told_white, .ref a_told_fades, .ref a_told_worth])), (a_course_rows, .inl (cyI, 165, .inl v_course_rows)), (a_told_fades, .inl (cyI, 6, .inl v_told_fades)), (a_told_worth, .inl (cyI, 6, .inl v_told_worth))]) 0 0 (va_A [(a, .inr (6, [.ref a_reader, .ref a_told, .ref a_draft, .ref a_course, .ref a_firstImage, .ref a_secondImage, .ref a_imageKept, .ref a_bestDigs, .ref a_heard, .long v_traced])), (a_course, .inr (2, [.ref a_course_rows, .int v_course_known])), (a_told, .inr (5, [.ref a_told_seam, .int v_told_seamTold, .int v_told_boundTold, .int v_told_lossTold, .int v_told_bound, .int v_told_loss, .int v_told_things, .ref a_told_yellow, .ref a_told_white, .ref a_told_fades, .ref a_told_worth])), (a_course_rows, .inl (cyI, 165, .inl v_course_rows)), (a_told_fades, .inl (cyI, 6, .inl v_told_fades)), (a_told_worth, .inl (cyI, 6, .inl v_told_worth))] sz) := by
  refine gMet (cc := cX6_priceAfter) (maxL := 5) (ret := (some .int)) (own := RX6) (fun A => gQi0 Q (dC, dI) A [(a, .inr (6, [.ref a_reader, .ref a_told, .ref a_draft, .ref a_course, .ref a_firstImage, .ref a_secondImage, .ref a_imageKept, .ref a_bestDigs, .ref a_heard, .long v_traced])), (a_course, .inr (2, [.ref a_course_rows, .int v_course_known])), (a_told, .inr (5, [.ref a_told_seam, .int v_told_seamTold, .int v_told_boundTold, .int v_told_lossTold, .int v_told_bound, .int v_told_loss, .int v_told_things, .ref a_told_yellow, .ref a_told_white, .ref a_told_fades, .ref a_told_worth])), (a_course_rows, .inl (cyI, 165, .inl v_course_rows)), (a_told_fades, .inl (cyI, 6, .inl v_told_fades)), (a_told_worth, .inl (cyI, 6, .inl v_told_worth))]) (by decide) rfl rfl (Nat.le_of_ble_eq_true rfl) ?_
  intro p e s m below meth c A ls C0 _ hK hN hP hD hA hl
  obtain ⟨hx, hb, hr, hml, hown, hts, hlocks⟩ := id C0
  have f127 := hN.link (args := ([.ref a, .int p0, .int p1].toArray)) (w := .fieldLinkNest RX6 127 "LastOchre$Told" "worth" "[I" "LastOchre") 26 rfl
  have f159 := hN.link (args := ([.ref a, .int p0, .int p1].toArray)) (w := .fieldLinkNest RX6 159 "LastOchre$Told" "things" "I" "LastOchre") 19 rfl
  have f19 := hts (.fieldLink RX6 19 "LastOchre" "told" "LLastOchre$Told;") (by decide +kernel)
  have hS : va_S A s.heap s.heap [] := va_S.rf
  replace hl : lv_has ls 5 [(0, .ref a), (1, .int p0), (2, .int p1)] := hl
  unfold q_X6_priceAfter at h
  obtain ⟨n, h⟩ := h
  obtain ⟨ih16, ih44⟩ := w_X6_priceAfter (l := l) (e := e) (below := below) dC dI cyC cyI cyZ a a_reader a_told a_draft a_course a_firstImage a_secondImage a_imageKept a_bestDigs a_heard a_course_rows a_told_seam a_told_yellow a_told_white a_told_fades a_told_worth v_traced v_course_known v_told_seamTold v_told_boundTold v_told_lossTold v_told_bound v_told_loss v_told_things v_course_rows v_told_fades v_told_worth p0 p1 Q C0 hK hN hA n
  unfold F_X6_priceAfter_e at h
  refine lv_aload_n hx hb dX6_priceAfter_0 rfl (lv_at hl 0 rfl) ?_
  refine lv_iload_n hx hb dX6_priceAfter_1 rfl (lv_at hl 1 rfl) ?_
  refine lv_iload_n hx hb dX6_priceAfter_2 rfl (lv_at hl 2 rfl) ?_
  refine gV_i0 (As := [.int p0, .int p1]) (rest := []) ⟨hx, hb, hml, hown, hts⟩ (c_X6_calledAfter l dC dI cyC cyI cyZ _ a a_reader a_told a_draft a_course a_firstImage a_secondImage a_imageKept a_bestDigs a_heard a_course_rows a_told_seam a_told_yellow a_told_white a_told_fades a_told_worth v_traced v_course_known v_told_seamTold v_told_boundTold v_told_lossTold v_told_bound v_told_loss v_told_things v_course_rows v_told_fades p0 p1 h) (cwV 2 hts gX6_priceAfter_X6_calledAfter rfl rfl rfl hdV_X6_calledAfter ⟨Nat.le_of_ble_eq_true rfl, Nat.le_of_ble_eq_true rfl⟩) hK hN hP hD hS hA [0, 1, 2, 3, 4] (by decide) rfl (ci := 6) rfl rfl rfl hl.1 rfl (Nat.le_of_ble_eq_true rfl) dX6_priceAfter_3 ⟨Nat.zero_le _, Nat.zero_le _⟩ (fun r_1 H locs h hP hS => ?_)
  refine lv_if_ne (tgt := 11) hx hb dX6_priceAfter_6 (by decide) (fun c_2 => ?_) (fun c_2 => ?_)
  · replace h := h.1 c_2
    refine lv_iconst (v := 0) hx hb dX6_priceAfter_11 (by decide) ?_
    refine lv_istore_n (lv' := [(3, .int (0 : Int32)), (0, .ref a), (1, .int p0), (2, .int p1)]) hx hb dX6_priceAfter_12 rfl hl (by decide) rfl (fun ls hl => ?_)
    refine lv_iconst (v := 0) hx hb dX6_priceAfter_13 (by decide) ?_
    refine lv_istore (lv' := [(4, .int (0 : Int32)), (3, .int (0 : Int32)), (0, .ref a), (1, .int p0), (2, .int p1)]) hx hb dX6_priceAfter_14 hl (by decide) rfl (fun ls hl => ?_)
    exact ih16 (0 : Int32) (0 : Int32) 0 0 _ _ _ h hP hD hS (lv_sub hl [2, 3, 4, 1, 0] rfl)
  · replace h := h.2 c_2
    refine lv_iconst (v := 0) hx hb dX6_priceAfter_9 (by decide) ?_
    exact gri0 hx hb hr hlocks h hP hD hS dX6_priceAfter_10

def F_X6_sell_e (v_told_bound : Int32) (v_told_things : Int32) (v_course_rows : Nat → Int32) (v_told_fades : Nat → Int32) (v_told_worth : Nat → Int32) (p0 : Int32) (p1 : Int32) (p2 : Int32) (Q : Int32 → Prop) (rec : Nat → Int32 → Int32 → Int32 → Prop)  : Prop :=
  q_X6_isThing v_told_things p0 (fun (r_1 : Int32) => (r_1 = 0 → (Q (-1 : Int32))) ∧ (¬ r_1 = 0 → (q_X6_within p1 (0 : Int32) (60 : Int32) (fun (r_3 : Int32) => (r_3 = 0 → (Q (-1 : Int32))) ∧ (¬ r_3 = 0 → (q_X6_within p2 (0 : Int32) (1 : Int32) (fun (r_5 : Int32) => (¬ r_5 = 0 → (q_X6_priceAfter v_told_bound v_told_things v_course_rows v_told_fades v_told_worth p0 (0 : Int32) (fun (r_7 : Int32) => rec 43 (0 : Int32) r_7 (1 : Int32)))) ∧ (r_5 = 0 → (Q (-1 : Int32))))))))))
def F_X6_sell_43 (v_told_bound : Int32) (v_told_things : Int32) (v_course_rows : Nat → Int32) (v_told_fades : Nat → Int32) (v_told_worth : Nat → Int32) (p0 : Int32) (p1 : Int32) (p2 : Int32) (Q : Int32 → Prop) (rec : Nat → Int32 → Int32 → Int32 → Prop) (x4 : Int32) (x5 : Int32) (x6 : Int32) : Prop :=
  (p1 < x6 → ((¬ p2 = 0 → (Q x5)) ∧ (p2 = 0 → (Q x4)))) ∧ (¬ p1 < x6 → (q_X6_priceAfter v_told_bound v_told_things v_course_rows v_told_fades v_told_worth p0 x6 (fun (r_10 : Int32) => (r_10 ≤ x5 → (∀ x6_12 : Int32, x6_12 = (x6 + (1 : Int32)) → (rec 43 x4 x5 x6_12))) ∧ (¬ r_10 ≤ x5 → (∀ x6_14 : Int32, x6_14 = (x6 + (1 : Int32)) → (rec 43 x6 r_10 x6_14))))))
def wp_X6_sell (v_told_bound : Int32) (v_told_things : Int32) (v_course_rows : Nat → Int32) (v_told_fades : Nat → Int32) (v_told_worth : Nat → Int32) (p0 : Int32) (p1 : Int32) (p2 : Int32) (Q : Int32 → Prop) : Nat → Nat → Int32 → Int32 → Int32 → Prop
  | 0 => fun _ _ _ _ => False
  | n + 1 => fun t x4 x5 x6 => if t = 43 then F_X6_sell_43 v_told_bound v_told_things v_course_rows v_told_fades v_told_worth p0 p1 p2 Q (wp_X6_sell v_told_bound v_told_things v_course_rows v_told_fades v_told_worth p0 p1 p2 Q n) x4 x5 x6 else False
def q_X6_sell (v_told_bound : Int32) (v_told_things : Int32) (v_course_rows : Nat → Int32) (v_told_fades : Nat → Int32) (v_told_worth : Nat → Int32) (p0 : Int32) (p1 : Int32) (p2 : Int32) (Q : Int32 → Prop) : Prop := ∃ n, F_X6_sell_e v_told_bound v_told_things v_course_rows v_told_fades v_told_worth p0 p1 p2 Q (wp_X6_sell v_told_bound v_told_things v_course_rows v_told_fades v_told_worth p0 p1 p2 Q n) 
theorem hdV_X6_sell : yX6_sell.cls = RX6 ∧ yX6_sell.cls ≠ "java/lang/invoke/MethodHandle" ∧ yX6_sell.cls ≠ "java/lang/invoke/VarHandle" ∧ (parseMethodDescriptor yX6_sell.desc).map (fun d => d.parameters.length) = some 3 := by decide +kernel
set_option maxHeartbeats 4000000 in
set_option maxRecDepth 100000 in
theorem w_X6_sell {p : Program} {l : Launch} {e : Env} {s : State} {m : MethodId} {args : Array Value} {below : List Frame} {meth : Method} {c : Code} {A : Nat → Prop} (dC : Nat → ClassId) (dI : Nat → Nat → Nat) (cyC cyI cyZ : ClassId) (a a_reader a_told a_draft a_course a_firstImage a_secondImage a_imageKept a_bestDigs a_heard a_told_seam a_told_yellow a_told_white a_told_fades a_told_worth a_course_rows : Nat) (v_traced : Int64) (v_told_seamTold : Int32) (v_told_boundTold : Int32) (v_told_lossTold : Int32) (v_told_bound : Int32) (v_told_loss : Int32) (v_told_things : Int32) (v_course_known : Int32) (v_course_rows : Nat → Int32) (v_told_fades : Nat → Int32) (v_told_worth : Nat → Int32) (p0 : Int32) (p1 : Int32) (p2 : Int32) (Q : Int32 → Prop) (C0 : gAt cX6_sell (some .int) 8 RX6 wsX6_sell p s m meth c args) (hK : va_K (dC, dI) vwCl (gTy cyC cyI cyZ) s) (hN : nU s) (hA : ∀ q, s.heap.size ≤ q → A q) : ∀ n : Nat, (∀ (x4 : Int32) (x5 : Int32) (x6 : Int32) (H : Heap) (locs : List Loc) (ls : Array Slot), wp_X6_sell v_told_bound v_told_things v_course_rows v_told_fades v_told_worth p0 p1 p2 Q n 43 x4 x5 x6 → va_P (dC, dI) vwCl [(a, .inr (6, [.ref a_reader, .ref a_told, .ref a_draft, .ref a_course, .ref a_firstImage, .ref a_secondImage, .ref a_imageKept, .ref a_bestDigs, .ref a_heard, .long v_traced])), (a_told, .inr (5, [.ref a_told_seam, .int v_told_seamTold, .int v_told_boundTold, .int v_told_lossTold, .int v_told_bound, .int v_told_loss, .int v_told_things, .ref a_told_yellow, .ref a_told_white, .ref a_told_fades, .ref a_told_worth])), (a_course, .inr (2, [.ref a_course_rows, .int v_course_known])), (a_course_rows, .inl (cyI, 165, .inl v_course_rows)), (a_told_fades, .inl (cyI, 6, .inl v_told_fades)), (a_told_worth, .inl (cyI, 6, .inl v_told_worth))] H → va_D A [(a, .inr (6, [.ref a_reader, .ref a_told, .ref a_draft, .ref a_course, .ref a_firstImage, .ref a_secondImage, .ref a_imageKept, .ref a_bestDigs, .ref a_heard, .long v_traced])), (a_told, .inr (5, [.ref a_told_seam, .int v_told_seamTold, .int v_told_boundTold, .int v_told_lossTold, .int v_told_bound, .int v_told_loss, .int v_told_things, .ref a_told_yellow, .ref a_told_white, .ref a_told_fades, .ref a_told_worth])), (a_course, .inr (2, [.ref a_course_rows, .int v_course_known])), (a_course_rows, .inl (cyI, 165, .inl v_course_rows)), (a_told_fades, .inl (cyI, 6, .inl v_told_fades)), (a_told_worth, .inl (cyI, 6, .inl v_told_worth))] → va_S A s.heap H locs → lv_has ls 8 [(0, .ref a), (1, .int p0), (2, .int p1), (3, .int p2), (4, .int x4), (5, .int x5), (6, .int x6)] → W p l e { frames := 4, cells := 0, slots := 0, locals := 98 } s m args below meth c H locs 0 0 (MQ below (gQi0 Q (dC, dI) A [(a, .inr (6, [.ref a_reader, .ref a_told, .ref a_draft, .ref a_course, .ref a_firstImage, .ref a_secondImage, .ref a_imageKept, .ref a_bestDigs, .ref a_heard, .long v_traced])), (a_told, .inr (5, [.ref a_told_seam, .int v_told_seamTold, .int v_told_boundTold, .int v_told_lossTold, .int v_told_bound, .int v_told_loss, .int v_told_things, .ref a_told_yellow, .ref a_told_white, .ref a_told_fades, .ref a_told_worth])), (a_course, .inr (2, [.ref a_course_rows, .int v_course_known])), (a_course_rows, .inl (cyI, 165, .inl v_course_rows)), (a_told_fades, .inl (cyI, 6, .inl v_told_fades)), (a_told_worth, .inl (cyI, 6, .inl v_told_worth))]) args s 0 0 A) (F0 m 43 ls [])) := by
  obtain ⟨hx, hb, hr, hml, hown, hts, hlocks⟩ := id C0
  intro n
  induction n with
  | zero => exact fun _ _ _ _ _ _ h => absurd h id
  | succ n ih =>
    have ih43 := ih
    · intro x4 x5 x6 H locs ls h hP hD hS hl
      replace h : F_X6_sell_43 v_told_bound v_told_things v_course_rows v_told_fades v_told_worth p0 p1 p2 Q (wp_X6_sell v_told_bound v_told_things v_course_rows v_told_fades v_told_worth p0 p1 p2 Q n) x4 x5 x6 := h
      unfold F_X6_sell_43 at h
      refine lv_iload hx hb dX6_sell_43 (lv_at hl 6 rfl) ?_
      refine lv_iload_n hx hb dX6_sell_45 rfl (lv_at hl 2 rfl) ?_
      refine lv_icmp_gt (tgt := 79) hx hb dX6_sell_46 (by decide) (fun c_8 => ?_) (fun c_8 => ?_)
      · replace h := h.1 c_8
        refine lv_iload_n hx hb dX6_sell_79 rfl (lv_at hl 3 rfl) ?_
        refine lv_if_ne (tgt := 88) hx hb dX6_sell_80 (by decide) (fun c_9 => ?_) (fun c_9 => ?_)
        · replace h := h.1 c_9
          refine lv_iload hx hb dX6_sell_88 (lv_at hl 5 rfl) ?_
          exact gri0 hx hb hr hlocks h hP hD hS dX6_sell_90
        · replace h := h.2 c_9
          refine lv_iload hx hb dX6_sell_83 (lv_at hl 4 rfl) ?_
          refine lv_goto (tgt := 90) hx hb dX6_sell_85 (by decide) ?_
          exact gri0 hx hb hr hlocks h hP hD hS dX6_sell_90
      · replace h := h.2 c_8
        refine lv_aload_n hx hb dX6_sell_49 rfl (lv_at hl 0 rfl) ?_
        refine lv_iload_n hx hb dX6_sell_50 rfl (lv_at hl 1 rfl) ?_
        refine lv_iload hx hb dX6_sell_51 (lv_at hl 6 rfl) ?_
        refine gV_i0 (As := [.int p0, .int x6]) (rest := []) ⟨hx, hb, hml, hown, hts⟩ (c_X6_priceAfter l dC dI cyC cyI cyZ _ a a_reader a_told a_draft a_course a_firstImage a_secondImage a_imageKept a_bestDigs a_heard a_course_rows a_told_seam a_told_yellow a_told_white a_told_fades a_told_worth v_traced v_course_known v_told_seamTold v_told_boundTold v_told_lossTold v_told_bound v_told_loss v_told_things v_course_rows v_told_fades v_told_worth p0 x6 h) (cwV 2 hts gX6_sell_X6_priceAfter rfl rfl rfl hdV_X6_priceAfter ⟨Nat.le_of_ble_eq_true rfl, Nat.le_of_ble_eq_true rfl⟩) hK hN hP hD hS hA [0, 2, 1, 3, 4, 5] (by decide) rfl (ci := 6) rfl rfl rfl hl.1 rfl (Nat.le_of_ble_eq_true rfl) dX6_sell_53 ⟨Nat.zero_le _, Nat.zero_le _⟩ (fun r_10 H locs h hP hS => ?_)
        refine lv_istore (lv' := [(7, .int r_10), (0, .ref a), (1, .int p0), (2, .int p1), (3, .int p2), (4, .int x4), (5, .int x5), (6, .int x6)]) hx hb dX6_sell_56 hl (by decide) rfl (fun ls hl => ?_)
        refine lv_iload hx hb dX6_sell_58 (lv_at hl 0 rfl) ?_
        refine lv_iload hx hb dX6_sell_60 (lv_at hl 6 rfl) ?_
        refine lv_icmp_le (tgt := 73) hx hb dX6_sell_62 (by decide) (fun c_11 => ?_) (fun c_11 => ?_)
        · replace h := h.1 c_11
          obtain ⟨x6_12, e_13⟩ : ∃ y : Int32, y = (x6 + (1 : Int32)) := ⟨_, rfl⟩
          replace h := h x6_12 e_13
          refine lv_iinc (v := x6_12) (lv' := [(6, .int x6_12), (7, .int r_10), (0, .ref a), (1, .int p0), (2, .int p1), (3, .int p2), (4, .int x4), (5, .int x5)]) hx hb dX6_sell_73 hl (k := 7) rfl (by rw [e_13]; rfl) (by decide) rfl (fun ls hl => ?_)
          refine lv_goto (tgt := 43) hx hb dX6_sell_76 (by decide) ?_
          exact ih43 x4 x5 x6_12 _ _ _ h hP hD hS (lv_sub hl [2, 3, 4, 5, 6, 7, 0] rfl)
        · replace h := h.2 c_11
          refine lv_iload hx hb dX6_sell_65 (lv_at hl 7 rfl) ?_
          refine lv_istore (lv' := [(4, .int x6), (7, .int r_10), (0, .ref a), (1, .int p0), (2, .int p1), (3, .int p2), (5, .int x5), (6, .int x6)]) hx hb dX6_sell_67 hl (by decide) rfl (fun ls hl => ?_)
          refine lv_iload hx hb dX6_sell_69 (lv_at hl 1 rfl) ?_
          refine lv_istore (lv' := [(5, .int r_10), (4, .int x6), (7, .int r_10), (0, .ref a), (1, .int p0), (2, .int p1), (3, .int p2), (6, .int x6)]) hx hb dX6_sell_71 hl (by decide) rfl (fun ls hl => ?_)
          obtain ⟨x6_14, e_15⟩ : ∃ y : Int32, y = (x6 + (1 : Int32)) := ⟨_, rfl⟩
          replace h := h x6_14 e_15
          refine lv_iinc (v := x6_14) (lv' := [(6, .int x6_14), (5, .int r_10), (4, .int x6), (7, .int r_10), (0, .ref a), (1, .int p0), (2, .int p1), (3, .int p2)]) hx hb dX6_sell_73 hl (k := 7) rfl (by rw [e_15]; rfl) (by decide) rfl (fun ls hl => ?_)
          refine lv_goto (tgt := 43) hx hb dX6_sell_76 (by decide) ?_
          exact ih43 x6 r_10 x6_14 _ _ _ h hP hD hS (lv_sub hl [4, 5, 6, 7, 2, 1, 0] rfl)
set_option maxHeartbeats 4000000 in
set_option maxRecDepth 100000 in
theorem c_X6_sell (l : Launch) (dC : Nat → ClassId) (dI : Nat → Nat → Nat) (cyC cyI cyZ : ClassId) (sz : Nat) (a a_reader a_told a_draft a_course a_firstImage a_secondImage a_imageKept a_bestDigs a_heard a_told_seam a_told_yellow a_told_white a_told_fades a_told_worth a_course_rows : Nat) (v_traced : Int64) (v_told_seamTold : Int32) (v_told_boundTold : Int32) (v_told_lossTold : Int32) (v_told_bound : Int32) (v_told_loss : Int32) (v_told_things : Int32) (v_course_known : Int32) (v_course_rows : Nat → Int32) (v_told_fades : Nat → Int32) (v_told_worth : Nat → Int32) (p0 : Int32) (p1 : Int32) (p2 : Int32) {Q : Int32 → Prop} (h : q_X6_sell v_told_bound v_told_things v_course_rows v_told_fades v_told_worth p0 p1 p2 Q) : Met l yX6_sell wsX6_sell ({ frames := 4, cells := 0, slots := 0, locals := 98 }) (gPc [.ref a, .int p0, .int p1, .int p2] (dC, dI) (gTy cyC cyI cyZ) sz [(a, .inr (6, [.ref a_reader, .ref a_told, .ref a_draft, .ref a_course, .ref a_firstImage, .ref a_secondImage, .ref a_imageKept, .ref a_bestDigs, .ref a_heard, .long v_traced])), (a_told, .inr (5, [.ref a_told_seam, .int v_told_seamTold, .int v_told_boundTold, .int v_told_lossTold, .int v_told_bound, .int v_told_loss, .int v_told_things, .ref a_told_yellow, .ref a_told_white, .ref a_told_fades, .ref a_told_worth])), (a_course, .inr (2, [.ref a_course_rows, .int v_course_known])), (a_course_rows, .inl (cyI, 165, .inl v_course_rows)), (a_told_fades, .inl (cyI, 6, .inl v_told_fades)), (a_told_worth, .inl (cyI, 6, .inl v_told_worth))]) (gQi0 Q (dC, dI) (va_A [(a, .inr (6, [.ref a_reader, .ref a_told, .ref a_draft, .ref a_course, .ref a_firstImage, .ref a_secondImage, .ref a_imageKept, .ref a_bestDigs, .ref a_heard, .long v_traced])), (a_told, .inr (5, [.ref a_told_seam, .int v_told_seamTold, .int v_told_boundTold, .int v_told_lossTold, .int v_told_bound, .int v_told_loss, .int v_told_things, .ref a_told_yellow, .ref a_told_white, .ref a_told_fades, .ref a_told_worth])), (a_course, .inr (2, [.ref a_course_rows, .int v_course_known])), (a_course_rows, .inl (cyI, 165, .inl v_course_rows)), (a_told_fades, .inl (cyI, 6, .inl v_told_fades)), (a_told_worth, .inl (cyI, 6, .inl v_told_worth))] sz) [(a, .inr (6, [.ref a_reader, .ref a_told, .ref a_draft, .ref a_course, .ref a_firstImage, .ref a_secondImage, .ref a_imageKept, .ref a_bestDigs, .ref a_heard, .long v_traced])), (a_told, .inr (5, [.ref a_told_seam, .int v_told_seamTold, .int v_told_boundTold, .int v_told_lossTold, .int v_told_bound, .int v_told_loss, .int v_told_things, .ref a_told_yellow, .ref a_told_white, .ref a_told_fades, .ref a_told_worth])), (a_course, .inr (2, [.ref a_course_rows, .int v_course_known])), (a_course_rows, .inl (cyI, 165, .inl v_course_rows)), (a_told_fades, .inl (cyI, 6, .inl v_told_fades)), (a_told_worth, .inl (cyI, 6, .inl v_told_worth))]) 0 0 (va_A [(a, .inr (6, [.ref a_reader, .ref a_told, .ref a_draft, .ref a_course, .ref a_firstImage, .ref a_secondImage, .ref a_imageKept, .ref a_bestDigs, .ref a_heard, .long v_traced])), (a_told, .inr (5, [.ref a_told_seam, .int v_told_seamTold, .int v_told_boundTold, .int v_told_lossTold, .int v_told_bound, .int v_told_loss, .int v_told_things, .ref a_told_yellow, .ref a_told_white, .ref a_told_fades, .ref a_told_worth])), (a_course, .inr (2, [.ref a_course_rows, .int v_course_known])), (a_course_rows, .inl (cyI, 165, .inl v_course_rows)), (a_told_fades, .inl (cyI, 6, .inl v_told_fades)), (a_told_worth, .inl (cyI, 6, .inl v_told_worth))] sz) := by
  refine gMet (cc := cX6_sell) (maxL := 8) (ret := (some .int)) (own := RX6) (fun A => gQi0 Q (dC, dI) A [(a, .inr (6, [.ref a_reader, .ref a_told, .ref a_draft, .ref a_course, .ref a_firstImage, .ref a_secondImage, .ref a_imageKept, .ref a_bestDigs, .ref a_heard, .long v_traced])), (a_told, .inr (5, [.ref a_told_seam, .int v_told_seamTold, .int v_told_boundTold, .int v_told_lossTold, .int v_told_bound, .int v_told_loss, .int v_told_things, .ref a_told_yellow, .ref a_told_white, .ref a_told_fades, .ref a_told_worth])), (a_course, .inr (2, [.ref a_course_rows, .int v_course_known])), (a_course_rows, .inl (cyI, 165, .inl v_course_rows)), (a_told_fades, .inl (cyI, 6, .inl v_told_fades)), (a_told_worth, .inl (cyI, 6, .inl v_told_worth))]) (by decide) rfl rfl (Nat.le_of_ble_eq_true rfl) ?_
  intro p e s m below meth c A ls C0 _ hK hN hP hD hA hl
  obtain ⟨hx, hb, hr, hml, hown, hts, hlocks⟩ := id C0
  have hS : va_S A s.heap s.heap [] := va_S.rf
  replace hl : lv_has ls 8 [(0, .ref a), (1, .int p0), (2, .int p1), (3, .int p2)] := hl
  unfold q_X6_sell at h
  obtain ⟨n, h⟩ := h
  have ih43 := w_X6_sell (l := l) (e := e) (below := below) dC dI cyC cyI cyZ a a_reader a_told a_draft a_course a_firstImage a_secondImage a_imageKept a_bestDigs a_heard a_told_seam a_told_yellow a_told_white a_told_fades a_told_worth a_course_rows v_traced v_told_seamTold v_told_boundTold v_told_lossTold v_told_bound v_told_loss v_told_things v_course_known v_course_rows v_told_fades v_told_worth p0 p1 p2 Q C0 hK hN hA n
  unfold F_X6_sell_e at h
  refine lv_aload_n hx hb dX6_sell_0 rfl (lv_at hl 0 rfl) ?_
  refine lv_iload_n hx hb dX6_sell_1 rfl (lv_at hl 1 rfl) ?_
  refine gV_i0 (As := [.int p0]) (rest := []) ⟨hx, hb, hml, hown, hts⟩ (c_X6_isThing l dC dI cyC cyI cyZ _ a a_reader a_told a_draft a_course a_firstImage a_secondImage a_imageKept a_bestDigs a_heard a_told_seam a_told_yellow a_told_white a_told_fades a_told_worth v_traced v_told_seamTold v_told_boundTold v_told_lossTold v_told_bound v_told_loss v_told_things p0 h) (cwV 1 hts gX6_sell_X6_isThing rfl rfl rfl hdV_X6_isThing ⟨Nat.le_of_ble_eq_true rfl, Nat.le_of_ble_eq_true rfl⟩) hK hN hP hD hS hA [0, 1] (by decide) rfl (ci := 6) rfl rfl rfl hl.1 rfl (Nat.le_of_ble_eq_true rfl) dX6_sell_2 ⟨Nat.zero_le _, Nat.zero_le _⟩ (fun r_1 H locs h hP hS => ?_)
  refine lv_if_eq (tgt := 27) hx hb dX6_sell_5 (by decide) (fun c_2 => ?_) (fun c_2 => ?_)
  · replace h := h.1 c_2
    refine lv_iconst (v := -1) hx hb dX6_sell_27 (by decide) ?_
    exact gri0 hx hb hr hlocks h hP hD hS dX6_sell_28
  · replace h := h.2 c_2
    refine lv_iload_n hx hb dX6_sell_8 rfl (lv_at hl 2 rfl) ?_
    refine lv_iconst (v := 0) hx hb dX6_sell_9 (by decide) ?_
    refine lv_bipush (v := 60) hx hb dX6_sell_10 (by decide) ?_
    refine gS_i0 (As := [.int p1, .int (0 : Int32), .int (60 : Int32)]) (rest := []) ⟨hx, hb, hml, hown, hts⟩ (c_X6_within l dC dI cyC cyI cyZ _ p1 (0 : Int32) (60 : Int32) h) (va_cwS 3 hts gX6_sell_X6_within rfl rfl rfl hdS_X6_within ⟨Nat.le_of_ble_eq_true rfl, Nat.le_of_ble_eq_true rfl⟩) hK hN hP hD hS hA [] (by decide) rfl rfl hl.1 rfl (Nat.le_of_ble_eq_true rfl) dX6_sell_12 ⟨Nat.zero_le _, Nat.zero_le _⟩ (fun r_3 H locs h hP hS => ?_)
    refine lv_if_eq (tgt := 27) hx hb dX6_sell_15 (by decide) (fun c_4 => ?_) (fun c_4 => ?_)
    · replace h := h.1 c_4
      refine lv_iconst (v := -1) hx hb dX6_sell_27 (by decide) ?_
      exact gri0 hx hb hr hlocks h hP hD hS dX6_sell_28
    · replace h := h.2 c_4
      refine lv_iload_n hx hb dX6_sell_18 rfl (lv_at hl 3 rfl) ?_
      refine lv_iconst (v := 0) hx hb dX6_sell_19 (by decide) ?_
      refine lv_iconst (v := 1) hx hb dX6_sell_20 (by decide) ?_
      refine gS_i0 (As := [.int p2, .int (0 : Int32), .int (1 : Int32)]) (rest := []) ⟨hx, hb, hml, hown, hts⟩ (c_X6_within l dC dI cyC cyI cyZ _ p2 (0 : Int32) (1 : Int32) h) (va_cwS 3 hts gX6_sell_X6_within rfl rfl rfl hdS_X6_within ⟨Nat.le_of_ble_eq_true rfl, Nat.le_of_ble_eq_true rfl⟩) hK hN hP hD hS hA [] (by decide) rfl rfl hl.1 rfl (Nat.le_of_ble_eq_true rfl) dX6_sell_21 ⟨Nat.zero_le _, Nat.zero_le _⟩ (fun r_5 H locs h hP hS => ?_)
      refine lv_if_ne (tgt := 29) hx hb dX6_sell_24 (by decide) (fun c_6 => ?_) (fun c_6 => ?_)
      · replace h := h.1 c_6
        refine lv_iconst (v := 0) hx hb dX6_sell_29 (by decide) ?_
        refine lv_istore (lv' := [(4, .int (0 : Int32)), (0, .ref a), (1, .int p0), (2, .int p1), (3, .int p2)]) hx hb dX6_sell_30 hl (by decide) rfl (fun ls hl => ?_)
        refine lv_aload_n hx hb dX6_sell_32 rfl (lv_at hl 1 rfl) ?_
        refine lv_iload_n hx hb dX6_sell_33 rfl (lv_at hl 2 rfl) ?_
        refine lv_iconst (v := 0) hx hb dX6_sell_34 (by decide) ?_
        refine gV_i0 (As := [.int p0, .int (0 : Int32)]) (rest := []) ⟨hx, hb, hml, hown, hts⟩ (c_X6_priceAfter l dC dI cyC cyI cyZ _ a a_reader a_told a_draft a_course a_firstImage a_secondImage a_imageKept a_bestDigs a_heard a_course_rows a_told_seam a_told_yellow a_told_white a_told_fades a_told_worth v_traced v_course_known v_told_seamTold v_told_boundTold v_told_lossTold v_told_bound v_told_loss v_told_things v_course_rows v_told_fades v_told_worth p0 (0 : Int32) h) (cwV 2 hts gX6_sell_X6_priceAfter rfl rfl rfl hdV_X6_priceAfter ⟨Nat.le_of_ble_eq_true rfl, Nat.le_of_ble_eq_true rfl⟩) hK hN hP hD hS hA [0, 2, 1, 3, 4, 5] (by decide) rfl (ci := 6) rfl rfl rfl hl.1 rfl (Nat.le_of_ble_eq_true rfl) dX6_sell_35 ⟨Nat.zero_le _, Nat.zero_le _⟩ (fun r_7 H locs h hP hS => ?_)
        refine lv_istore (lv' := [(5, .int r_7), (4, .int (0 : Int32)), (0, .ref a), (1, .int p0), (2, .int p1), (3, .int p2)]) hx hb dX6_sell_38 hl (by decide) rfl (fun ls hl => ?_)
        refine lv_iconst (v := 1) hx hb dX6_sell_40 (by decide) ?_
        refine lv_istore (lv' := [(6, .int (1 : Int32)), (5, .int r_7), (4, .int (0 : Int32)), (0, .ref a), (1, .int p0), (2, .int p1), (3, .int p2)]) hx hb dX6_sell_41 hl (by decide) rfl (fun ls hl => ?_)
        exact ih43 (0 : Int32) r_7 (1 : Int32) _ _ _ h hP hD hS (lv_sub hl [3, 4, 5, 6, 2, 1, 0] rfl)
      · replace h := h.2 c_6
        refine lv_iconst (v := -1) hx hb dX6_sell_27 (by decide) ?_
        exact gri0 hx hb hr hlocks h hP hD hS dX6_sell_28

def F_X6_spare_e (v_told_bound : Int32) (v_told_things : Int32) (v_course_rows : Nat → Int32) (v_told_fades : Nat → Int32) (p0 : Int32) (Q : Int32 → Prop)  : Prop :=
  q_X6_isThing v_told_things p0 (fun (r_1 : Int32) => (r_1 = 0 → (Q (-1 : Int32))) ∧ (¬ r_1 = 0 → (q_X6_canSpare v_told_bound v_course_rows v_told_fades p0 (fun (r_3 : Int32) => Q r_3))))
def q_X6_spare (v_told_bound : Int32) (v_told_things : Int32) (v_course_rows : Nat → Int32) (v_told_fades : Nat → Int32) (p0 : Int32) (Q : Int32 → Prop) : Prop := F_X6_spare_e v_told_bound v_told_things v_course_rows v_told_fades p0 Q 
theorem hdV_X6_spare : yX6_spare.cls = RX6 ∧ yX6_spare.cls ≠ "java/lang/invoke/MethodHandle" ∧ yX6_spare.cls ≠ "java/lang/invoke/VarHandle" ∧ (parseMethodDescriptor yX6_spare.desc).map (fun d => d.parameters.length) = some 1 := by decide +kernel
set_option maxHeartbeats 4000000 in
set_option maxRecDepth 100000 in
theorem c_X6_spare (l : Launch) (dC : Nat → ClassId) (dI : Nat → Nat → Nat) (cyC cyI cyZ : ClassId) (sz : Nat) (a a_reader a_told a_draft a_course a_firstImage a_secondImage a_imageKept a_bestDigs a_heard a_told_seam a_told_yellow a_told_white a_told_fades a_told_worth a_course_rows : Nat) (v_traced : Int64) (v_told_seamTold : Int32) (v_told_boundTold : Int32) (v_told_lossTold : Int32) (v_told_bound : Int32) (v_told_loss : Int32) (v_told_things : Int32) (v_course_known : Int32) (v_course_rows : Nat → Int32) (v_told_fades : Nat → Int32) (p0 : Int32) {Q : Int32 → Prop} (h : q_X6_spare v_told_bound v_told_things v_course_rows v_told_fades p0 Q) : Met l yX6_spare wsX6_spare ({ frames := 4, cells := 0, slots := 0, locals := 95 }) (gPc [.ref a, .int p0] (dC, dI) (gTy cyC cyI cyZ) sz [(a, .inr (6, [.ref a_reader, .ref a_told, .ref a_draft, .ref a_course, .ref a_firstImage, .ref a_secondImage, .ref a_imageKept, .ref a_bestDigs, .ref a_heard, .long v_traced])), (a_told, .inr (5, [.ref a_told_seam, .int v_told_seamTold, .int v_told_boundTold, .int v_told_lossTold, .int v_told_bound, .int v_told_loss, .int v_told_things, .ref a_told_yellow, .ref a_told_white, .ref a_told_fades, .ref a_told_worth])), (a_course, .inr (2, [.ref a_course_rows, .int v_course_known])), (a_course_rows, .inl (cyI, 165, .inl v_course_rows)), (a_told_fades, .inl (cyI, 6, .inl v_told_fades))]) (gQi0 Q (dC, dI) (va_A [(a, .inr (6, [.ref a_reader, .ref a_told, .ref a_draft, .ref a_course, .ref a_firstImage, .ref a_secondImage, .ref a_imageKept, .ref a_bestDigs, .ref a_heard, .long v_traced])), (a_told, .inr (5, [.ref a_told_seam, .int v_told_seamTold, .int v_told_boundTold, .int v_told_lossTold, .int v_told_bound, .int v_told_loss, .int v_told_things, .ref a_told_yellow, .ref a_told_white, .ref a_told_fades, .ref a_told_worth])), (a_course, .inr (2, [.ref a_course_rows, .int v_course_known])), (a_course_rows, .inl (cyI, 165, .inl v_course_rows)), (a_told_fades, .inl (cyI, 6, .inl v_told_fades))] sz) [(a, .inr (6, [.ref a_reader, .ref a_told, .ref a_draft, .ref a_course, .ref a_firstImage, .ref a_secondImage, .ref a_imageKept, .ref a_bestDigs, .ref a_heard, .long v_traced])), (a_told, .inr (5, [.ref a_told_seam, .int v_told_seamTold, .int v_told_boundTold, .int v_told_lossTold, .int v_told_bound, .int v_told_loss, .int v_told_things, .ref a_told_yellow, .ref a_told_white, .ref a_told_fades, .ref a_told_worth])), (a_course, .inr (2, [.ref a_course_rows, .int v_course_known])), (a_course_rows, .inl (cyI, 165, .inl v_course_rows)), (a_told_fades, .inl (cyI, 6, .inl v_told_fades))]) 0 0 (va_A [(a, .inr (6, [.ref a_reader, .ref a_told, .ref a_draft, .ref a_course, .ref a_firstImage, .ref a_secondImage, .ref a_imageKept, .ref a_bestDigs, .ref a_heard, .long v_traced])), (a_told, .inr (5, [.ref a_told_seam, .int v_told_seamTold, .int v_told_boundTold, .int v_told_lossTold, .int v_told_bound, .int v_told_loss, .int v_told_things, .ref a_told_yellow, .ref a_told_white, .ref a_told_fades, .ref a_told_worth])), (a_course, .inr (2, [.ref a_course_rows, .int v_course_known])), (a_course_rows, .inl (cyI, 165, .inl v_course_rows)), (a_told_fades, .inl (cyI, 6, .inl v_told_fades))] sz) := by
  refine gMet (cc := cX6_spare) (maxL := 2) (ret := (some .int)) (own := RX6) (fun A => gQi0 Q (dC, dI) A [(a, .inr (6, [.ref a_reader, .ref a_told, .ref a_draft, .ref a_course, .ref a_firstImage, .ref a_secondImage, .ref a_imageKept, .ref a_bestDigs, .ref a_heard, .long v_traced])), (a_told, .inr (5, [.ref a_told_seam, .int v_told_seamTold, .int v_told_boundTold, .int v_told_lossTold, .int v_told_bound, .int v_told_loss, .int v_told_things, .ref a_told_yellow, .ref a_told_white, .ref a_told_fades, .ref a_told_worth])), (a_course, .inr (2, [.ref a_course_rows, .int v_course_known])), (a_course_rows, .inl (cyI, 165, .inl v_course_rows)), (a_told_fades, .inl (cyI, 6, .inl v_told_fades))]) (by decide) rfl rfl (Nat.le_of_ble_eq_true rfl) ?_
  intro p e s m below meth c A ls C0 _ hK hN hP hD hA hl
  obtain ⟨hx, hb, hr, hml, hown, hts, hlocks⟩ := id C0
  have hS : va_S A s.heap s.heap [] := va_S.rf
  replace hl : lv_has ls 2 [(0, .ref a), (1, .int p0)] := hl
  unfold q_X6_spare at h
  unfold F_X6_spare_e at h
  refine lv_aload_n hx hb dX6_spare_0 rfl (lv_at hl 0 rfl) ?_
  refine lv_iload_n hx hb dX6_spare_1 rfl (lv_at hl 1 rfl) ?_
  refine gV_i0 (As := [.int p0]) (rest := []) ⟨hx, hb, hml, hown, hts⟩ (c_X6_isThing l dC dI cyC cyI cyZ _ a a_reader a_told a_draft a_course a_firstImage a_secondImage a_imageKept a_bestDigs a_heard a_told_seam a_told_yellow a_told_white a_told_fades a_told_worth v_traced v_told_seamTold v_told_boundTold v_told_lossTold v_told_bound v_told_loss v_told_things p0 h) (cwV 1 hts gX6_spare_X6_isThing rfl rfl rfl hdV_X6_isThing ⟨Nat.le_of_ble_eq_true rfl, Nat.le_of_ble_eq_true rfl⟩) hK hN hP hD hS hA [0, 1] (by decide) rfl (ci := 6) rfl rfl rfl hl.1 rfl (Nat.le_of_ble_eq_true rfl) dX6_spare_2 ⟨Nat.zero_le _, Nat.zero_le _⟩ (fun r_1 H locs h hP hS => ?_)
  refine lv_if_eq (tgt := 16) hx hb dX6_spare_5 (by decide) (fun c_2 => ?_) (fun c_2 => ?_)
  · replace h := h.1 c_2
    refine lv_iconst (v := -1) hx hb dX6_spare_16 (by decide) ?_
    exact gri0 hx hb hr hlocks h hP hD hS dX6_spare_17
  · replace h := h.2 c_2
    refine lv_aload_n hx hb dX6_spare_8 rfl (lv_at hl 0 rfl) ?_
    refine lv_iload_n hx hb dX6_spare_9 rfl (lv_at hl 1 rfl) ?_
    refine gV_i0 (As := [.int p0]) (rest := []) ⟨hx, hb, hml, hown, hts⟩ (c_X6_canSpare l dC dI cyC cyI cyZ _ a a_reader a_told a_draft a_course a_firstImage a_secondImage a_imageKept a_bestDigs a_heard a_course_rows a_told_seam a_told_yellow a_told_white a_told_fades a_told_worth v_traced v_course_known v_told_seamTold v_told_boundTold v_told_lossTold v_told_bound v_told_loss v_told_things v_course_rows v_told_fades p0 h) (cwV 1 hts gX6_spare_X6_canSpare rfl rfl rfl hdV_X6_canSpare ⟨Nat.le_of_ble_eq_true rfl, Nat.le_of_ble_eq_true rfl⟩) hK hN hP hD hS hA [0, 2, 1, 3, 4] (by decide) rfl (ci := 6) rfl rfl rfl hl.1 rfl (Nat.le_of_ble_eq_true rfl) dX6_spare_10 ⟨Nat.zero_le _, Nat.zero_le _⟩ (fun r_3 H locs h hP hS => ?_)
    refine lv_goto (tgt := 17) hx hb dX6_spare_13 (by decide) ?_
    exact gri0 hx hb hr hlocks h hP hD hS dX6_spare_17

def F_X6_rich_e (v_told_bound : Int32) (v_told_things : Int32) (v_course_rows : Nat → Int32) (v_told_fades : Nat → Int32) (Q : Int32 → Prop) (rec : Nat → Int32 → Int32 → Int32 → Prop)  : Prop :=
  rec 7 (-9 : Int32) (0 : Int32) (0 : Int32)
def F_X6_rich_7 (v_told_bound : Int32) (v_told_things : Int32) (v_course_rows : Nat → Int32) (v_told_fades : Nat → Int32) (Q : Int32 → Prop) (rec : Nat → Int32 → Int32 → Int32 → Prop) (x1 : Int32) (x2 : Int32) (x3 : Int32) : Prop :=
  (v_told_things ≤ x3 → (Q x1)) ∧ (¬ v_told_things ≤ x3 → (q_X6_canSpare v_told_bound v_course_rows v_told_fades x3 (fun (r_2 : Int32) => (r_2 ≤ x2 → (∀ x3_4 : Int32, x3_4 = (x3 + (1 : Int32)) → (rec 7 x1 x2 x3_4))) ∧ (¬ r_2 ≤ x2 → (q_X6_canSpare v_told_bound v_course_rows v_told_fades x3 (fun (r_6 : Int32) => ∀ x3_7 : Int32, x3_7 = (x3 + (1 : Int32)) → (rec 7 x3 r_6 x3_7)))))))
def wp_X6_rich (v_told_bound : Int32) (v_told_things : Int32) (v_course_rows : Nat → Int32) (v_told_fades : Nat → Int32) (Q : Int32 → Prop) : Nat → Nat → Int32 → Int32 → Int32 → Prop
  | 0 => fun _ _ _ _ => False
  | n + 1 => fun t x1 x2 x3 => if t = 7 then F_X6_rich_7 v_told_bound v_told_things v_course_rows v_told_fades Q (wp_X6_rich v_told_bound v_told_things v_course_rows v_told_fades Q n) x1 x2 x3 else False
def q_X6_rich (v_told_bound : Int32) (v_told_things : Int32) (v_course_rows : Nat → Int32) (v_told_fades : Nat → Int32) (Q : Int32 → Prop) : Prop := ∃ n, F_X6_rich_e v_told_bound v_told_things v_course_rows v_told_fades Q (wp_X6_rich v_told_bound v_told_things v_course_rows v_told_fades Q n) 
theorem iwX6_rich_X5 : ∀ w ∈ wsX50, w ∈ wsX6_rich := by decide +kernel
theorem iwX6_rich_X6 : ∀ w ∈ wsX60, w ∈ wsX6_rich := by decide +kernel
theorem hdV_X6_rich : yX6_rich.cls = RX6 ∧ yX6_rich.cls ≠ "java/lang/invoke/MethodHandle" ∧ yX6_rich.cls ≠ "java/lang/invoke/VarHandle" ∧ (parseMethodDescriptor yX6_rich.desc).map (fun d => d.parameters.length) = some 0 := by decide +kernel
set_option maxHeartbeats 4000000 in
set_option maxRecDepth 100000 in
theorem w_X6_rich {p : Program} {l : Launch} {e : Env} {s : State} {m : MethodId} {args : Array Value} {below : List Frame} {meth : Method} {c : Code} {A : Nat → Prop} (dC : Nat → ClassId) (dI : Nat → Nat → Nat) (cyC cyI cyZ : ClassId) (a a_reader a_told a_draft a_course a_firstImage a_secondImage a_imageKept a_bestDigs a_heard a_told_seam a_told_yellow a_told_white a_told_fades a_told_worth a_course_rows : Nat) (v_traced : Int64) (v_told_seamTold : Int32) (v_told_boundTold : Int32) (v_told_lossTold : Int32) (v_told_bound : Int32) (v_told_loss : Int32) (v_told_things : Int32) (v_course_known : Int32) (v_course_rows : Nat → Int32) (v_told_fades : Nat → Int32) (Q : Int32 → Prop) (C0 : gAt cX6_rich (some .int) 4 RX6 wsX6_rich p s m meth c args) (hK : va_K (dC, dI) vwCl (gTy cyC cyI cyZ) s) (hN : nU s) (hA : ∀ q, s.heap.size ≤ q → A q) : ∀ n : Nat, (∀ (x1 : Int32) (x2 : Int32) (x3 : Int32) (H : Heap) (locs : List Loc) (ls : Array Slot), wp_X6_rich v_told_bound v_told_things v_course_rows v_told_fades Q n 7 x1 x2 x3 → va_P (dC, dI) vwCl [(a, .inr (6, [.ref a_reader, .ref a_told, .ref a_draft, .ref a_course, .ref a_firstImage, .ref a_secondImage, .ref a_imageKept, .ref a_bestDigs, .ref a_heard, .long v_traced])), (a_told, .inr (5, [.ref a_told_seam, .int v_told_seamTold, .int v_told_boundTold, .int v_told_lossTold, .int v_told_bound, .int v_told_loss, .int v_told_things, .ref a_told_yellow, .ref a_told_white, .ref a_told_fades, .ref a_told_worth])), (a_course, .inr (2, [.ref a_course_rows, .int v_course_known])), (a_course_rows, .inl (cyI, 165, .inl v_course_rows)), (a_told_fades, .inl (cyI, 6, .inl v_told_fades))] H → va_D A [(a, .inr (6, [.ref a_reader, .ref a_told, .ref a_draft, .ref a_course, .ref a_firstImage, .ref a_secondImage, .ref a_imageKept, .ref a_bestDigs, .ref a_heard, .long v_traced])), (a_told, .inr (5, [.ref a_told_seam, .int v_told_seamTold, .int v_told_boundTold, .int v_told_lossTold, .int v_told_bound, .int v_told_loss, .int v_told_things, .ref a_told_yellow, .ref a_told_white, .ref a_told_fades, .ref a_told_worth])), (a_course, .inr (2, [.ref a_course_rows, .int v_course_known])), (a_course_rows, .inl (cyI, 165, .inl v_course_rows)), (a_told_fades, .inl (cyI, 6, .inl v_told_fades))] → va_S A s.heap H locs → lv_has ls 4 [(0, .ref a), (1, .int x1), (2, .int x2), (3, .int x3)] → W p l e { frames := 4, cells := 0, slots := 0, locals := 95 } s m args below meth c H locs 0 0 (MQ below (gQi0 Q (dC, dI) A [(a, .inr (6, [.ref a_reader, .ref a_told, .ref a_draft, .ref a_course, .ref a_firstImage, .ref a_secondImage, .ref a_imageKept, .ref a_bestDigs, .ref a_heard, .long v_traced])), (a_told, .inr (5, [.ref a_told_seam, .int v_told_seamTold, .int v_told_boundTold, .int v_told_lossTold, .int v_told_bound, .int v_told_loss, .int v_told_things, .ref a_told_yellow, .ref a_told_white, .ref a_told_fades, .ref a_told_worth])), (a_course, .inr (2, [.ref a_course_rows, .int v_course_known])), (a_course_rows, .inl (cyI, 165, .inl v_course_rows)), (a_told_fades, .inl (cyI, 6, .inl v_told_fades))]) args s 0 0 A) (F0 m 7 ls [])) := by
  obtain ⟨hx, hb, hr, hml, hown, hts, hlocks⟩ := id C0
  have f159 := hN.link (args := (args)) (w := .fieldLinkNest RX6 159 "LastOchre$Told" "things" "I" "LastOchre") 19 rfl
  have f19 := hts (.fieldLink RX6 19 "LastOchre" "told" "LLastOchre$Told;") (by decide +kernel)
  intro n
  induction n with
  | zero => exact fun _ _ _ _ _ _ h => absurd h id
  | succ n ih =>
    have ih7 := ih
    · intro x1 x2 x3 H locs ls h hP hD hS hl
      replace h : F_X6_rich_7 v_told_bound v_told_things v_course_rows v_told_fades Q (wp_X6_rich v_told_bound v_told_things v_course_rows v_told_fades Q n) x1 x2 x3 := h
      unfold F_X6_rich_7 at h
      refine lv_iload_n hx hb dX6_rich_7 rfl (lv_at hl 3 rfl) ?_
      refine lv_aload_n hx hb dX6_rich_8 rfl (lv_at hl 0 rfl) ?_
      refine va_get (D := (dC, dI)) (ci := 6) (v := .ref a_told) (C := RX6) (T := TX6) (N := 10) hx hb hts iwX6_rich_X6 hown hK hP 0 rfl rfl 1 (by decide) f19 (fun _ h9 => h9) rfl dX6_rich_9 ?_
      refine va_getN (host := "LastOchre") (D := (dC, dI)) (ci := 5) (v := .int v_told_things) (C := RX5) (T := TX5) (N := 11) hx hb hts iwX6_rich_X5 hown hK hP 1 rfl rfl 6 (by decide) f159 (fun _ h9 => h9) rfl dX6_rich_12 ?_
      refine lv_icmp_ge (tgt := 41) hx hb dX6_rich_15 (by decide) (fun c_1 => ?_) (fun c_1 => ?_)
      · replace h := h.1 c_1
        refine lv_iload_n hx hb dX6_rich_41 rfl (lv_at hl 1 rfl) ?_
        exact gri0 hx hb hr hlocks h hP hD hS dX6_rich_42
      · replace h := h.2 c_1
        refine lv_aload_n hx hb dX6_rich_18 rfl (lv_at hl 0 rfl) ?_
        refine lv_iload_n hx hb dX6_rich_19 rfl (lv_at hl 3 rfl) ?_
        refine gV_i0 (As := [.int x3]) (rest := []) ⟨hx, hb, hml, hown, hts⟩ (c_X6_canSpare l dC dI cyC cyI cyZ _ a a_reader a_told a_draft a_course a_firstImage a_secondImage a_imageKept a_bestDigs a_heard a_course_rows a_told_seam a_told_yellow a_told_white a_told_fades a_told_worth v_traced v_course_known v_told_seamTold v_told_boundTold v_told_lossTold v_told_bound v_told_loss v_told_things v_course_rows v_told_fades x3 h) (cwV 1 hts gX6_rich_X6_canSpare rfl rfl rfl hdV_X6_canSpare ⟨Nat.le_of_ble_eq_true rfl, Nat.le_of_ble_eq_true rfl⟩) hK hN hP hD hS hA [0, 2, 1, 3, 4] (by decide) rfl (ci := 6) rfl rfl rfl hl.1 rfl (Nat.le_of_ble_eq_true rfl) dX6_rich_20 ⟨Nat.zero_le _, Nat.zero_le _⟩ (fun r_2 H locs h hP hS => ?_)
        refine lv_iload_n hx hb dX6_rich_23 rfl (lv_at hl 2 rfl) ?_
        refine lv_icmp_le (tgt := 35) hx hb dX6_rich_24 (by decide) (fun c_3 => ?_) (fun c_3 => ?_)
        · replace h := h.1 c_3
          obtain ⟨x3_4, e_5⟩ : ∃ y : Int32, y = (x3 + (1 : Int32)) := ⟨_, rfl⟩
          replace h := h x3_4 e_5
          refine lv_iinc (v := x3_4) (lv' := [(3, .int x3_4), (0, .ref a), (1, .int x1), (2, .int x2)]) hx hb dX6_rich_35 hl (k := 3) rfl (by rw [e_5]; rfl) (by decide) rfl (fun ls hl => ?_)
          refine lv_goto (tgt := 7) hx hb dX6_rich_38 (by decide) ?_
          exact ih7 x1 x2 x3_4 _ _ _ h hP hD hS (lv_sub hl [1, 2, 3, 0] rfl)
        · replace h := h.2 c_3
          refine lv_iload_n hx hb dX6_rich_27 rfl (lv_at hl 3 rfl) ?_
          refine lv_istore_n (lv' := [(1, .int x3), (0, .ref a), (2, .int x2), (3, .int x3)]) hx hb dX6_rich_28 rfl hl (by decide) rfl (fun ls hl => ?_)
          refine lv_aload_n hx hb dX6_rich_29 rfl (lv_at hl 1 rfl) ?_
          refine lv_iload_n hx hb dX6_rich_30 rfl (lv_at hl 3 rfl) ?_
          refine gV_i0 (As := [.int x3]) (rest := []) ⟨hx, hb, hml, hown, hts⟩ (c_X6_canSpare l dC dI cyC cyI cyZ _ a a_reader a_told a_draft a_course a_firstImage a_secondImage a_imageKept a_bestDigs a_heard a_course_rows a_told_seam a_told_yellow a_told_white a_told_fades a_told_worth v_traced v_course_known v_told_seamTold v_told_boundTold v_told_lossTold v_told_bound v_told_loss v_told_things v_course_rows v_told_fades x3 h) (cwV 1 hts gX6_rich_X6_canSpare rfl rfl rfl hdV_X6_canSpare ⟨Nat.le_of_ble_eq_true rfl, Nat.le_of_ble_eq_true rfl⟩) hK hN hP hD hS hA [0, 2, 1, 3, 4] (by decide) rfl (ci := 6) rfl rfl rfl hl.1 rfl (Nat.le_of_ble_eq_true rfl) dX6_rich_31 ⟨Nat.zero_le _, Nat.zero_le _⟩ (fun r_6 H locs h hP hS => ?_)
          refine lv_istore_n (lv' := [(2, .int r_6), (1, .int x3), (0, .ref a), (3, .int x3)]) hx hb dX6_rich_34 rfl hl (by decide) rfl (fun ls hl => ?_)
          obtain ⟨x3_7, e_8⟩ : ∃ y : Int32, y = (x3 + (1 : Int32)) := ⟨_, rfl⟩
          replace h := h x3_7 e_8
          refine lv_iinc (v := x3_7) (lv' := [(3, .int x3_7), (2, .int r_6), (1, .int x3), (0, .ref a)]) hx hb dX6_rich_35 hl (k := 3) rfl (by rw [e_8]; rfl) (by decide) rfl (fun ls hl => ?_)
          refine lv_goto (tgt := 7) hx hb dX6_rich_38 (by decide) ?_
          exact ih7 x3 r_6 x3_7 _ _ _ h hP hD hS (lv_sub hl [3, 2, 1, 0] rfl)
set_option maxHeartbeats 4000000 in
set_option maxRecDepth 100000 in
theorem c_X6_rich (l : Launch) (dC : Nat → ClassId) (dI : Nat → Nat → Nat) (cyC cyI cyZ : ClassId) (sz : Nat) (a a_reader a_told a_draft a_course a_firstImage a_secondImage a_imageKept a_bestDigs a_heard a_told_seam a_told_yellow a_told_white a_told_fades a_told_worth a_course_rows : Nat) (v_traced : Int64) (v_told_seamTold : Int32) (v_told_boundTold : Int32) (v_told_lossTold : Int32) (v_told_bound : Int32) (v_told_loss : Int32) (v_told_things : Int32) (v_course_known : Int32) (v_course_rows : Nat → Int32) (v_told_fades : Nat → Int32) {Q : Int32 → Prop} (h : q_X6_rich v_told_bound v_told_things v_course_rows v_told_fades Q) : Met l yX6_rich wsX6_rich ({ frames := 4, cells := 0, slots := 0, locals := 95 }) (gPc [.ref a] (dC, dI) (gTy cyC cyI cyZ) sz [(a, .inr (6, [.ref a_reader, .ref a_told, .ref a_draft, .ref a_course, .ref a_firstImage, .ref a_secondImage, .ref a_imageKept, .ref a_bestDigs, .ref a_heard, .long v_traced])), (a_told, .inr (5, [.ref a_told_seam, .int v_told_seamTold, .int v_told_boundTold, .int v_told_lossTold, .int v_told_bound, .int v_told_loss, .int v_told_things, .ref a_told_yellow, .ref a_told_white, .ref a_told_fades, .ref a_told_worth])), (a_course, .inr (2, [.ref a_course_rows, .int v_course_known])), (a_course_rows, .inl (cyI, 165, .inl v_course_rows)), (a_told_fades, .inl (cyI, 6, .inl v_told_fades))]) (gQi0 Q (dC, dI) (va_A [(a, .inr (6, [.ref a_reader, .ref a_told, .ref a_draft, .ref a_course, .ref a_firstImage, .ref a_secondImage, .ref a_imageKept, .ref a_bestDigs, .ref a_heard, .long v_traced])), (a_told, .inr (5, [.ref a_told_seam, .int v_told_seamTold, .int v_told_boundTold, .int v_told_lossTold, .int v_told_bound, .int v_told_loss, .int v_told_things, .ref a_told_yellow, .ref a_told_white, .ref a_told_fades, .ref a_told_worth])), (a_course, .inr (2, [.ref a_course_rows, .int v_course_known])), (a_course_rows, .inl (cyI, 165, .inl v_course_rows)), (a_told_fades, .inl (cyI, 6, .inl v_told_fades))] sz) [(a, .inr (6, [.ref a_reader, .ref a_told, .ref a_draft, .ref a_course, .ref a_firstImage, .ref a_secondImage, .ref a_imageKept, .ref a_bestDigs, .ref a_heard, .long v_traced])), (a_told, .inr (5, [.ref a_told_seam, .int v_told_seamTold, .int v_told_boundTold, .int v_told_lossTold, .int v_told_bound, .int v_told_loss, .int v_told_things, .ref a_told_yellow, .ref a_told_white, .ref a_told_fades, .ref a_told_worth])), (a_course, .inr (2, [.ref a_course_rows, .int v_course_known])), (a_course_rows, .inl (cyI, 165, .inl v_course_rows)), (a_told_fades, .inl (cyI, 6, .inl v_told_fades))]) 0 0 (va_A [(a, .inr (6, [.ref a_reader, .ref a_told, .ref a_draft, .ref a_course, .ref a_firstImage, .ref a_secondImage, .ref a_imageKept, .ref a_bestDigs, .ref a_heard, .long v_traced])), (a_told, .inr (5, [.ref a_told_seam, .int v_told_seamTold, .int v_told_boundTold, .int v_told_lossTold, .int v_told_bound, .int v_told_loss, .int v_told_things, .ref a_told_yellow, .ref a_told_white, .ref a_told_fades, .ref a_told_worth])), (a_course, .inr (2, [.ref a_course_rows, .int v_course_known])), (a_course_rows, .inl (cyI, 165, .inl v_course_rows)), (a_told_fades, .inl (cyI, 6, .inl v_told_fades))] sz) := by
  refine gMet (cc := cX6_rich) (maxL := 4) (ret := (some .int)) (own := RX6) (fun A => gQi0 Q (dC, dI) A [(a, .inr (6, [.ref a_reader, .ref a_told, .ref a_draft, .ref a_course, .ref a_firstImage, .ref a_secondImage, .ref a_imageKept, .ref a_bestDigs, .ref a_heard, .long v_traced])), (a_told, .inr (5, [.ref a_told_seam, .int v_told_seamTold, .int v_told_boundTold, .int v_told_lossTold, .int v_told_bound, .int v_told_loss, .int v_told_things, .ref a_told_yellow, .ref a_told_white, .ref a_told_fades, .ref a_told_worth])), (a_course, .inr (2, [.ref a_course_rows, .int v_course_known])), (a_course_rows, .inl (cyI, 165, .inl v_course_rows)), (a_told_fades, .inl (cyI, 6, .inl v_told_fades))]) (by decide) rfl rfl (Nat.le_of_ble_eq_true rfl) ?_
  intro p e s m below meth c A ls C0 _ hK hN hP hD hA hl
  obtain ⟨hx, hb, hr, hml, hown, hts, hlocks⟩ := id C0
  have f159 := hN.link (args := ([.ref a].toArray)) (w := .fieldLinkNest RX6 159 "LastOchre$Told" "things" "I" "LastOchre") 19 rfl
  have f19 := hts (.fieldLink RX6 19 "LastOchre" "told" "LLastOchre$Told;") (by decide +kernel)
  have hS : va_S A s.heap s.heap [] := va_S.rf
  replace hl : lv_has ls 4 [(0, .ref a)] := hl
  unfold q_X6_rich at h
  obtain ⟨n, h⟩ := h
  have ih7 := w_X6_rich (l := l) (e := e) (below := below) dC dI cyC cyI cyZ a a_reader a_told a_draft a_course a_firstImage a_secondImage a_imageKept a_bestDigs a_heard a_told_seam a_told_yellow a_told_white a_told_fades a_told_worth a_course_rows v_traced v_told_seamTold v_told_boundTold v_told_lossTold v_told_bound v_told_loss v_told_things v_course_known v_course_rows v_told_fades Q C0 hK hN hA n
  unfold F_X6_rich_e at h
  refine lv_bipush (v := -9) hx hb dX6_rich_0 (by decide) ?_
  refine lv_istore_n (lv' := [(1, .int (-9 : Int32)), (0, .ref a)]) hx hb dX6_rich_2 rfl hl (by decide) rfl (fun ls hl => ?_)
  refine lv_iconst (v := 0) hx hb dX6_rich_3 (by decide) ?_
  refine lv_istore_n (lv' := [(2, .int (0 : Int32)), (1, .int (-9 : Int32)), (0, .ref a)]) hx hb dX6_rich_4 rfl hl (by decide) rfl (fun ls hl => ?_)
  refine lv_iconst (v := 0) hx hb dX6_rich_5 (by decide) ?_
  refine lv_istore_n (lv' := [(3, .int (0 : Int32)), (2, .int (0 : Int32)), (1, .int (-9 : Int32)), (0, .ref a)]) hx hb dX6_rich_6 rfl hl (by decide) rfl (fun ls hl => ?_)
  exact ih7 (-9 : Int32) (0 : Int32) (0 : Int32) _ _ _ h hP hD hS (lv_sub hl [3, 2, 1, 0] rfl)

def F_X6_power_e (p0 : Int32) (p1 : Int32) (Q : Int32 → Prop) (rec : Nat → Int32 → Int32 → Prop)  : Prop :=
  rec 4 (1 : Int32) (0 : Int32)
def F_X6_power_4 (p0 : Int32) (p1 : Int32) (Q : Int32 → Prop) (rec : Nat → Int32 → Int32 → Prop) (x2 : Int32) (x3 : Int32) : Prop :=
  (p1 ≤ x3 → (Q x2)) ∧ (¬ p1 ≤ x3 → (∀ x2_2 : Int32, x2_2 = (x2 * p0) → (∀ x3_4 : Int32, x3_4 = (x3 + (1 : Int32)) → (rec 4 x2_2 x3_4))))
def wp_X6_power (p0 : Int32) (p1 : Int32) (Q : Int32 → Prop) : Nat → Nat → Int32 → Int32 → Prop
  | 0 => fun _ _ _ => False
  | n + 1 => fun t x2 x3 => if t = 4 then F_X6_power_4 p0 p1 Q (wp_X6_power p0 p1 Q n) x2 x3 else False
def q_X6_power (p0 : Int32) (p1 : Int32) (Q : Int32 → Prop) : Prop := ∃ n, F_X6_power_e p0 p1 Q (wp_X6_power p0 p1 Q n) 
theorem hdS_X6_power : yX6_power.cls ≠ "java/lang/invoke/MethodHandle" ∧ yX6_power.cls ≠ "java/lang/invoke/VarHandle" ∧ (parseMethodDescriptor yX6_power.desc).map (fun d => d.parameters.length) = some 2 := by decide +kernel
set_option maxHeartbeats 4000000 in
set_option maxRecDepth 100000 in
theorem w_X6_power {p : Program} {l : Launch} {e : Env} {s : State} {m : MethodId} {args : Array Value} {below : List Frame} {meth : Method} {c : Code} {A : Nat → Prop} (dC : Nat → ClassId) (dI : Nat → Nat → Nat) (cyC cyI cyZ : ClassId) (p0 : Int32) (p1 : Int32) (Q : Int32 → Prop) (C0 : gAt cX6_power (some .int) 4 RX6 wsX6_power p s m meth c args) (hK : va_K (dC, dI) vwCl (gTy cyC cyI cyZ) s) (hN : nU s) (hA : ∀ q, s.heap.size ≤ q → A q) : ∀ n : Nat, (∀ (x2 : Int32) (x3 : Int32) (H : Heap) (locs : List Loc) (ls : Array Slot), wp_X6_power p0 p1 Q n 4 x2 x3 → va_P (dC, dI) vwCl [] H → va_D A [] → va_S A s.heap H locs → lv_has ls 4 [(0, .int p0), (1, .int p1), (2, .int x2), (3, .int x3)] → W p l e { frames := 0, cells := 0, slots := 0, locals := 0 } s m args below meth c H locs 0 0 (MQ below (gQi0 Q (dC, dI) A []) args s 0 0 A) (F0 m 4 ls [])) := by
  obtain ⟨hx, hb, hr, hml, hown, hts, hlocks⟩ := id C0
  intro n
  induction n with
  | zero => exact fun _ _ _ _ _ h => absurd h id
  | succ n ih =>
    have ih4 := ih
    · intro x2 x3 H locs ls h hP hD hS hl
      replace h : F_X6_power_4 p0 p1 Q (wp_X6_power p0 p1 Q n) x2 x3 := h
      unfold F_X6_power_4 at h
      refine lv_iload_n hx hb dX6_power_4 rfl (lv_at hl 3 rfl) ?_
      refine lv_iload_n hx hb dX6_power_5 rfl (lv_at hl 1 rfl) ?_
      refine lv_icmp_ge (tgt := 19) hx hb dX6_power_6 (by decide) (fun c_1 => ?_) (fun c_1 => ?_)
      · replace h := h.1 c_1
        refine lv_iload_n hx hb dX6_power_19 rfl (lv_at hl 2 rfl) ?_
        exact gri0 hx hb hr hlocks h hP hD hS dX6_power_20
      · replace h := h.2 c_1
        refine lv_iload_n hx hb dX6_power_9 rfl (lv_at hl 2 rfl) ?_
        refine lv_iload_n hx hb dX6_power_10 rfl (lv_at hl 0 rfl) ?_
        refine lv_imul hx hb dX6_power_11 ?_
        refine lv_topi (fun x2_2 e_3 => ?_)
        replace h := h x2_2 e_3
        refine lv_istore_n (lv' := [(2, .int x2_2), (0, .int p0), (1, .int p1), (3, .int x3)]) hx hb dX6_power_12 rfl hl (by decide) rfl (fun ls hl => ?_)
        obtain ⟨x3_4, e_5⟩ : ∃ y : Int32, y = (x3 + (1 : Int32)) := ⟨_, rfl⟩
        replace h := h x3_4 e_5
        refine lv_iinc (v := x3_4) (lv' := [(3, .int x3_4), (2, .int x2_2), (0, .int p0), (1, .int p1)]) hx hb dX6_power_13 hl (k := 3) rfl (by rw [e_5]; rfl) (by decide) rfl (fun ls hl => ?_)
        refine lv_goto (tgt := 4) hx hb dX6_power_16 (by decide) ?_
        exact ih4 x2_2 x3_4 _ _ _ h hP hD hS (lv_sub hl [2, 3, 1, 0] rfl)
set_option maxHeartbeats 4000000 in
set_option maxRecDepth 100000 in
theorem c_X6_power (l : Launch) (dC : Nat → ClassId) (dI : Nat → Nat → Nat) (cyC cyI cyZ : ClassId) (sz : Nat) (p0 : Int32) (p1 : Int32) {Q : Int32 → Prop} (h : q_X6_power p0 p1 Q) : Met l yX6_power wsX6_power ({ frames := 0, cells := 0, slots := 0, locals := 0 }) (gPc [.int p0, .int p1] (dC, dI) (gTy cyC cyI cyZ) sz []) (gQi0 Q (dC, dI) (va_A [] sz) []) 0 0 (va_A [] sz) := by
  refine gMet (cc := cX6_power) (maxL := 4) (ret := (some .int)) (own := RX6) (fun A => gQi0 Q (dC, dI) A []) (by decide) rfl rfl (Nat.le_of_ble_eq_true rfl) ?_
  intro p e s m below meth c A ls C0 _ hK hN hP hD hA hl
  obtain ⟨hx, hb, hr, hml, hown, hts, hlocks⟩ := id C0
  have hS : va_S A s.heap s.heap [] := va_S.rf
  replace hl : lv_has ls 4 [(0, .int p0), (1, .int p1)] := hl
  unfold q_X6_power at h
  obtain ⟨n, h⟩ := h
  have ih4 := w_X6_power (l := l) (e := e) (below := below) dC dI cyC cyI cyZ p0 p1 Q C0 hK hN hA n
  unfold F_X6_power_e at h
  refine lv_iconst (v := 1) hx hb dX6_power_0 (by decide) ?_
  refine lv_istore_n (lv' := [(2, .int (1 : Int32)), (0, .int p0), (1, .int p1)]) hx hb dX6_power_1 rfl hl (by decide) rfl (fun ls hl => ?_)
  refine lv_iconst (v := 0) hx hb dX6_power_2 (by decide) ?_
  refine lv_istore_n (lv' := [(3, .int (0 : Int32)), (2, .int (1 : Int32)), (0, .int p0), (1, .int p1)]) hx hb dX6_power_3 rfl hl (by decide) rfl (fun ls hl => ?_)
  exact ih4 (1 : Int32) (0 : Int32) _ _ _ h hP hD hS (lv_sub hl [2, 3, 1, 0] rfl)

def F_X6_commonDivisor_e (p0 : Int32) (p1 : Int32) (Q : Int32 → Prop) (rec : Nat → Int32 → Int32 → Int32 → Prop)  : Prop :=
  rec 7 p0 p1 (0 : Int32)
def F_X6_commonDivisor_7 (p0 : Int32) (p1 : Int32) (Q : Int32 → Prop) (rec : Nat → Int32 → Int32 → Int32 → Prop) (x2 : Int32) (x3 : Int32) (x4 : Int32) : Prop :=
  ((50 : Int32) ≤ x4 → (Q x2)) ∧ (¬ (50 : Int32) ≤ x4 → ((x3 ≤ 0 → (Q x2)) ∧ (¬ x3 ≤ 0 → (¬ x3 = 0 ∧ (∀ x5_4 : Int32, x5_4 = (x2 - x2 / x3 * x3) → (∀ x4_6 : Int32, x4_6 = (x4 + (1 : Int32)) → (rec 7 x3 x5_4 x4_6)))))))
def wp_X6_commonDivisor (p0 : Int32) (p1 : Int32) (Q : Int32 → Prop) : Nat → Nat → Int32 → Int32 → Int32 → Prop
  | 0 => fun _ _ _ _ => False
  | n + 1 => fun t x2 x3 x4 => if t = 7 then F_X6_commonDivisor_7 p0 p1 Q (wp_X6_commonDivisor p0 p1 Q n) x2 x3 x4 else False
def q_X6_commonDivisor (p0 : Int32) (p1 : Int32) (Q : Int32 → Prop) : Prop := ∃ n, F_X6_commonDivisor_e p0 p1 Q (wp_X6_commonDivisor p0 p1 Q n) 
theorem hdS_X6_commonDivisor : yX6_commonDivisor.cls ≠ "java/lang/invoke/MethodHandle" ∧ yX6_commonDivisor.cls ≠ "java/lang/invoke/VarHandle" ∧ (parseMethodDescriptor yX6_commonDivisor.desc).map (fun d => d.parameters.length) = some 2 := by decide +kernel
set_option maxHeartbeats 4000000 in
set_option maxRecDepth 100000 in
theorem w_X6_commonDivisor {p : Program} {l : Launch} {e : Env} {s : State} {m : MethodId} {args : Array Value} {below : List Frame} {meth : Method} {c : Code} {A : Nat → Prop} (dC : Nat → ClassId) (dI : Nat → Nat → Nat) (cyC cyI cyZ : ClassId) (p0 : Int32) (p1 : Int32) (Q : Int32 → Prop) (C0 : gAt cX6_commonDivisor (some .int) 6 RX6 wsX6_commonDivisor p s m meth c args) (hK : va_K (dC, dI) vwCl (gTy cyC cyI cyZ) s) (hN : nU s) (hA : ∀ q, s.heap.size ≤ q → A q) : ∀ n : Nat, (∀ (x2 : Int32) (x3 : Int32) (x4 : Int32) (H : Heap) (locs : List Loc) (ls : Array Slot), wp_X6_commonDivisor p0 p1 Q n 7 x2 x3 x4 → va_P (dC, dI) vwCl [] H → va_D A [] → va_S A s.heap H locs → lv_has ls 6 [(2, .int x2), (3, .int x3), (4, .int x4)] → W p l e { frames := 0, cells := 0, slots := 0, locals := 0 } s m args below meth c H locs 0 0 (MQ below (gQi0 Q (dC, dI) A []) args s 0 0 A) (F0 m 7 ls [])) := by
  obtain ⟨hx, hb, hr, hml, hown, hts, hlocks⟩ := id C0
  intro n
  induction n with
  | zero => exact fun _ _ _ _ _ _ h => absurd h id
  | succ n ih =>
    have ih7 := ih
    · intro x2 x3 x4 H locs ls h hP hD hS hl
      replace h : F_X6_commonDivisor_7 p0 p1 Q (wp_X6_commonDivisor p0 p1 Q n) x2 x3 x4 := h
      unfold F_X6_commonDivisor_7 at h
      refine lv_iload hx hb dX6_commonDivisor_7 (lv_at hl 2 rfl) ?_
      refine lv_bipush (v := 50) hx hb dX6_commonDivisor_9 (by decide) ?_
      refine lv_icmp_ge (tgt := 34) hx hb dX6_commonDivisor_11 (by decide) (fun c_1 => ?_) (fun c_1 => ?_)
      · replace h := h.1 c_1
        refine lv_iload_n hx hb dX6_commonDivisor_34 rfl (lv_at hl 0 rfl) ?_
        exact gri0 hx hb hr hlocks h hP hD hS dX6_commonDivisor_35
      · replace h := h.2 c_1
        refine lv_iload_n hx hb dX6_commonDivisor_14 rfl (lv_at hl 1 rfl) ?_
        refine lv_if_le (tgt := 34) hx hb dX6_commonDivisor_15 (by decide) (fun c_2 => ?_) (fun c_2 => ?_)
        · replace h := h.1 c_2
          refine lv_iload_n hx hb dX6_commonDivisor_34 rfl (lv_at hl 0 rfl) ?_
          exact gri0 hx hb hr hlocks h hP hD hS dX6_commonDivisor_35
        · replace h := h.2 c_2
          refine lv_iload_n hx hb dX6_commonDivisor_18 rfl (lv_at hl 0 rfl) ?_
          refine lv_iload_n hx hb dX6_commonDivisor_19 rfl (lv_at hl 1 rfl) ?_
          have g_3 := h.1
          replace h := h.2
          refine lv_irem hx hb dX6_commonDivisor_20 g_3 ?_
          refine lv_topi (fun x5_4 e_5 => ?_)
          replace h := h x5_4 e_5
          refine lv_istore (lv' := [(5, .int x5_4), (2, .int x2), (3, .int x3), (4, .int x4)]) hx hb dX6_commonDivisor_21 hl (by decide) rfl (fun ls hl => ?_)
          refine lv_iload_n hx hb dX6_commonDivisor_23 rfl (lv_at hl 2 rfl) ?_
          refine lv_istore_n (lv' := [(2, .int x3), (5, .int x5_4), (3, .int x3), (4, .int x4)]) hx hb dX6_commonDivisor_24 rfl hl (by decide) rfl (fun ls hl => ?_)
          refine lv_iload hx hb dX6_commonDivisor_25 (lv_at hl 1 rfl) ?_
          refine lv_istore_n (lv' := [(3, .int x5_4), (2, .int x3), (5, .int x5_4), (4, .int x4)]) hx hb dX6_commonDivisor_27 rfl hl (by decide) rfl (fun ls hl => ?_)
          obtain ⟨x4_6, e_7⟩ : ∃ y : Int32, y = (x4 + (1 : Int32)) := ⟨_, rfl⟩
          replace h := h x4_6 e_7
          refine lv_iinc (v := x4_6) (lv' := [(4, .int x4_6), (3, .int x5_4), (2, .int x3), (5, .int x5_4)]) hx hb dX6_commonDivisor_28 hl (k := 3) rfl (by rw [e_7]; rfl) (by decide) rfl (fun ls hl => ?_)
          refine lv_goto (tgt := 7) hx hb dX6_commonDivisor_31 (by decide) ?_
          exact ih7 x3 x5_4 x4_6 _ _ _ h hP hD hS (lv_sub hl [2, 1, 0] rfl)
set_option maxHeartbeats 4000000 in
set_option maxRecDepth 100000 in
theorem c_X6_commonDivisor (l : Launch) (dC : Nat → ClassId) (dI : Nat → Nat → Nat) (cyC cyI cyZ : ClassId) (sz : Nat) (p0 : Int32) (p1 : Int32) {Q : Int32 → Prop} (h : q_X6_commonDivisor p0 p1 Q) : Met l yX6_commonDivisor wsX6_commonDivisor ({ frames := 0, cells := 0, slots := 0, locals := 0 }) (gPc [.int p0, .int p1] (dC, dI) (gTy cyC cyI cyZ) sz []) (gQi0 Q (dC, dI) (va_A [] sz) []) 0 0 (va_A [] sz) := by
  refine gMet (cc := cX6_commonDivisor) (maxL := 6) (ret := (some .int)) (own := RX6) (fun A => gQi0 Q (dC, dI) A []) (by decide) rfl rfl (Nat.le_of_ble_eq_true rfl) ?_
  intro p e s m below meth c A ls C0 _ hK hN hP hD hA hl
  obtain ⟨hx, hb, hr, hml, hown, hts, hlocks⟩ := id C0
  have hS : va_S A s.heap s.heap [] := va_S.rf
  replace hl : lv_has ls 6 [(0, .int p0), (1, .int p1)] := hl
  unfold q_X6_commonDivisor at h
  obtain ⟨n, h⟩ := h
  have ih7 := w_X6_commonDivisor (l := l) (e := e) (below := below) dC dI cyC cyI cyZ p0 p1 Q C0 hK hN hA n
  unfold F_X6_commonDivisor_e at h
  refine lv_iload_n hx hb dX6_commonDivisor_0 rfl (lv_at hl 0 rfl) ?_
  refine lv_istore_n (lv' := [(2, .int p0), (0, .int p0), (1, .int p1)]) hx hb dX6_commonDivisor_1 rfl hl (by decide) rfl (fun ls hl => ?_)
  refine lv_iload_n hx hb dX6_commonDivisor_2 rfl (lv_at hl 2 rfl) ?_
  refine lv_istore_n (lv' := [(3, .int p1), (2, .int p0), (0, .int p0), (1, .int p1)]) hx hb dX6_commonDivisor_3 rfl hl (by decide) rfl (fun ls hl => ?_)
  refine lv_iconst (v := 0) hx hb dX6_commonDivisor_4 (by decide) ?_
  refine lv_istore (lv' := [(4, .int (0 : Int32)), (3, .int p1), (2, .int p0), (0, .int p0), (1, .int p1)]) hx hb dX6_commonDivisor_5 hl (by decide) rfl (fun ls hl => ?_)
  exact ih7 p0 p1 (0 : Int32) _ _ _ h hP hD hS (lv_sub hl [2, 1, 0] rfl)

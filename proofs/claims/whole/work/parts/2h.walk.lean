def F_X6_spare_e (v_told_bound : Int32) (v_told_things : Int32) (v_course_rows : Nat → Int32) (v_told_fades : Nat → Int32) (p0 : Int32) (Q : Int32 → Prop)  : Prop :=
  q_X6_isThing v_told_things p0 (fun (r_1 : Int32) => (r_1 = 0 → (Q (-1 : Int32))) ∧ (¬ r_1 = 0 → (q_X6_canSpare v_told_bound v_course_rows v_told_fades p0 (fun (r_3 : Int32) => Q r_3))))
def q_X6_spare (v_told_bound : Int32) (v_told_things : Int32) (v_course_rows : Nat → Int32) (v_told_fades : Nat → Int32) (p0 : Int32) (Q : Int32 → Prop) : Prop := F_X6_spare_e v_told_bound v_told_things v_course_rows v_told_fades p0 Q 
theorem hdV_X6_spare : yX6_spare.cls = RX6 ∧ yX6_spare.cls ≠ "java/lang/invoke/MethodHandle" ∧ yX6_spare.cls ≠ "java/lang/invoke/VarHandle" ∧ (parseMethodDescriptor yX6_spare.desc).map (fun d => d.parameters.length) = some 1 := by decide +kernel
set_option maxHeartbeats 4000000 in
set_option maxRecDepth 100000 in
theorem c_X6_spare (l : Launch) (dC : Nat → ClassId) (dI : Nat → Nat → Nat) (cyC cyI cyZ : ClassId) (sz : Nat) (a a_reader a_told a_draft a_course a_firstImage a_secondImage a_imageKept a_bestDigs a_heard a_told_seam a_told_yellow a_told_white a_told_fades a_told_worth a_course_rows : Nat) (v_traced : Int64) (v_told_seamTold : Int32) (v_told_boundTold : Int32) (v_told_lossTold : Int32) (v_told_bound : Int32) (v_told_loss : Int32) (v_told_things : Int32) (v_course_known : Int32) (v_course_rows : Nat → Int32) (v_told_fades : Nat → Int32) (p0 : Int32) {Q : Int32 → Prop} (h : q_X6_spare v_told_bound v_told_things v_course_rows v_told_fades p0 Q) : Met l yX6_spare wsX6_spare ({ frames := 4, cells := 0, slots := 0, locals := 95 }) (gPc [.ref a, .int p0] (dC, dI) (gTy cyC cyI cyZ) sz [(a, .inr (6, [.ref a_reader, .ref a_told, .ref a_draft, .ref a_course, .ref a_firstImage, .ref a_secondImage, .ref a_imageKept, .ref a_bestDigs, .ref a_heard, .long v_traced])), (a_told, .inr (5, [.ref a_told_seam, .int v_told_seamTold, .int v_told_boundTold, .int v_told_lossTold, .int v_told_bound, .int v_told_loss, .int v_told_things, .ref a_told_yellow, .ref a_told_white, .ref a_told_fades, .ref a_told_worth])), (a_course, .inr (2, [.ref a_course_rows, .int v_course_known])), (a_course_rows, .inl (cyI, 165, .inl v_course_rows)), (a_told_fades, .inl (cyI, 6, .inl v_told_fades))]) (gQi0 Q (dC, dI) (va_A [(a, .inr (6, [.ref a_reader, .ref a_told, .ref a_draft, .ref a_course, .ref a_firstImage, .ref a_secondImage, .ref a_imageKept, .ref a_bestDigs, .ref a_heard, .long v_traced])), (a_told, .inr (5, [.ref a_told_seam, .int v_told_seamTold, .int v_told_boundTold, .int v_told_lossTold, .int v_told_bound, .int v_told_loss, .int v_told_things, .ref a_told_yellow, .ref a_told_white, .ref a_told_fades, .ref a_told_worth])), (a_course, .inr (2, [.ref a_course_rows, .int v_course_known])), (a_course_rows, .inl (cyI, 165, .inl v_course_rows)), (a_told_fades, .inl (cyI, 6, .inl v_told_fades))] sz) [(a, .inr (6, [.ref a_reader, .ref a_told, .ref a_draft, .ref a_course, .ref a_firstImage, .ref a_secondImage, .ref a_imageKept, .ref a_bestDigs, .ref a_heard, .long v_traced])), (a_told, .inr (5, [.ref a_told_seam, .int v_told_seamTold, .int v_told_boundTold, .int v_told_lossTold, .int v_told_bound, .int v_told_loss, .int v_told_things, .ref a_told_yellow, .ref a_told_white, .ref a_told_fades, .ref a_told_worth])), (a_course, .inr (2, [.ref a_course_rows, .int v_course_known])), (a_course_rows, .inl (cyI, 165, .inl v_course_rows)), (a_told_fades, .inl (cyI, 6, .inl v_told_fades))]) 0 0 (va_A [(a, .inr (6, [.ref a_reader, .ref a_told, .ref a_draft, .ref a_course, .ref a_firstImage, .ref a_secondImage, .ref a_imageKept, .ref a_bestDigs, .ref a_heard, .long v_traced])), (a_told, .inr (5, [.ref a_told_seam, .int v_told_seamTold, .int v_told_boundTold, .int v_told_lossTold, .int v_told_bound, .int v_told_loss, .int v_told_things, .ref a_told_yellow, .ref a_told_white, .ref a_told_fades, .ref a_told_worth])), (a_course, .inr (2, [.ref a_course_rows, .int v_course_known])), (a_course_rows, .inl (cyI, 165, .inl v_course_rows)), (a_told_fades, .inl (cyI, 6, .inl v_told_fades))] sz) := by
  refine gMet (cc := cX6_spare) (maxL := 2) (ret := (some .int)) (own := RX6) (fun A => gQi0 Q (dC, dI) A [(a, .inr (6, [.ref a_reader, .ref a_told, .ref a_draft, .ref a_course, .ref a_firstImage, .ref a_secondImage, .ref a_imageKept, .ref a_bestDigs, .ref a_heard, .long v_traced])), (a_told, .inr (5, [.ref a_told_seam, .int v_told_seamTold, .int v_told_boundTold, .int v_told_lossTold, .int v_told_bound, .int v_told_loss, .int v_told_things, .ref a_told_yellow, .ref a_told_white, .ref a_told_fades, .ref a_told_worth])), (a_course, .inr (2, [.ref a_course_rows, .int v_course_known])), (a_course_rows, .inl (cyI, 165, .inl v_course_rows)), (a_told_fades, .inl (cyI, 6, .inl v_told_fades))]) (by decide) rfl rfl (Nat.le_of_ble_eq_true rfl) ?_
  intro p e s m below meth c A ls C0 _ hK hN hP hD hA hl
  obtain ⟨hx, hb, hr, hml, hown, hts, hlocks⟩ := id C0
  have hS : va_S A s.heap s.heap [] := va_S.rf
  replace hl : lv_has ls 2 [(0, .ref a), (1, .int p0)] := hl
  unfold q_X6_spare at h
  unfold F_X6_spare_e at h
  refine lv_aload_n hx hb dX6_spare_0 rfl (lv_at hl 0 rfl) ?_
  refine lv_iload_n hx hb dX6_spare_1 rfl (lv_at hl 1 rfl) ?_
  refine gV_i0 (As := [.int p0]) (rest := []) ⟨hx, hb, hml, hown, hts⟩ (c_X6_isThing l dC dI cyC cyI cyZ _ a a_reader a_told a_draft a_course a_firstImage a_secondImage a_imageKept a_bestDigs a_heard a_told_seam a_told_yellow a_told_white a_told_fades a_told_worth v_traced v_told_seamTold v_told_boundTold v_told_lossTold v_told_bound v_told_loss v_told_things p0 h) (cwV 1 hts gX6_spare_X6_isThing rfl rfl rfl hdV_X6_isThing ⟨Nat.le_of_ble_eq_true rfl, Nat.le_of_ble_eq_true rfl⟩) hK hN hP hD hS hA [0, 1] (by decide) rfl (ci := 6) rfl rfl rfl hl.1 rfl (Nat.le_of_ble_eq_true rfl) dX6_spare_2 ⟨Nat.zero_le _, Nat.zero_le _⟩ (fun r_1 H locs h hP hS => ?_)
  refine lv_if_eq (tgt := 16) hx hb dX6_spare_5 (by decide) (fun c_2 => ?_) (fun c_2 => ?_)
  · replace h := h.1 c_2
    refine lv_iconst (v := -1) hx hb dX6_spare_16 (by decide) ?_
    exact gri0 hx hb hr hlocks h hP hD hS dX6_spare_17
  · replace h := h.2 c_2
    refine lv_aload_n hx hb dX6_spare_8 rfl (lv_at hl 0 rfl) ?_
    refine lv_iload_n hx hb dX6_spare_9 rfl (lv_at hl 1 rfl) ?_
    refine gV_i0 (As := [.int p0]) (rest := []) ⟨hx, hb, hml, hown, hts⟩ (c_X6_canSpare l dC dI cyC cyI cyZ _ a a_reader a_told a_draft a_course a_firstImage a_secondImage a_imageKept a_bestDigs a_heard a_course_rows a_told_seam a_told_yellow a_told_white a_told_fades a_told_worth v_traced v_course_known v_told_seamTold v_told_boundTold v_told_lossTold v_told_bound v_told_loss v_told_things v_course_rows v_told_fades p0 h) (cwV 1 hts gX6_spare_X6_canSpare rfl rfl rfl hdV_X6_canSpare ⟨Nat.le_of_ble_eq_true rfl, Nat.le_of_ble_eq_true rfl⟩) hK hN hP hD hS hA [0, 2, 1, 3, 4] (by decide) rfl (ci := 6) rfl rfl rfl hl.1 rfl (Nat.le_of_ble_eq_true rfl) dX6_spare_10 ⟨Nat.zero_le _, Nat.zero_le _⟩ (fun r_3 H locs h hP hS => ?_)
    refine lv_goto (tgt := 17) hx hb dX6_spare_13 (by decide) ?_
    exact gri0 hx hb hr hlocks h hP hD hS dX6_spare_17

def F_X6_rich_e (v_told_bound : Int32) (v_told_things : Int32) (v_course_rows : Nat → Int32) (v_told_fades : Nat → Int32) (Q : Int32 → Prop) (rec : Nat → Int32 → Int32 → Int32 → Prop)  : Prop :=
  rec 7 (-9 : Int32) (0 : Int32) (0 : Int32)
def F_X6_rich_7 (v_told_bound : Int32) (v_told_things : Int32) (v_course_rows : Nat → Int32) (v_told_fades : Nat → Int32) (Q : Int32 → Prop) (rec : Nat → Int32 → Int32 → Int32 → Prop) (x1 : Int32) (x2 : Int32) (x3 : Int32) : Prop :=
  (v_told_things ≤ x3 → (Q x1)) ∧ (¬ v_told_things ≤ x3 → (q_X6_canSpare v_told_bound v_course_rows v_told_fades x3 (fun (r_2 : Int32) => (r_2 ≤ x2 → (∀ x3_4 : Int32, x3_4 = (x3 + (1 : Int32)) → (rec 7 x1 x2 x3_4))) ∧ (¬ r_2 ≤ x2 → (q_X6_canSpare v_told_bound v_course_rows v_told_fades x3 (fun (r_6 : Int32) => ∀ x3_7 : Int32, x3_7 = (x3 + (1 : Int32)) → (rec 7 x3 r_6 x3_7)))))))
def wp_X6_rich (v_told_bound : Int32) (v_told_things : Int32) (v_course_rows : Nat → Int32) (v_told_fades : Nat → Int32) (Q : Int32 → Prop) : Nat → Nat → Int32 → Int32 → Int32 → Prop
  | 0 => fun _ _ _ _ => False
  | n + 1 => fun t x1 x2 x3 => if t = 7 then F_X6_rich_7 v_told_bound v_told_things v_course_rows v_told_fades Q (wp_X6_rich v_told_bound v_told_things v_course_rows v_told_fades Q n) x1 x2 x3 else False
def q_X6_rich (v_told_bound : Int32) (v_told_things : Int32) (v_course_rows : Nat → Int32) (v_told_fades : Nat → Int32) (Q : Int32 → Prop) : Prop := ∃ n, F_X6_rich_e v_told_bound v_told_things v_course_rows v_told_fades Q (wp_X6_rich v_told_bound v_told_things v_course_rows v_told_fades Q n) 
theorem iwX6_rich_X5 : ∀ w ∈ wsX50, w ∈ wsX6_rich := by decide +kernel
theorem iwX6_rich_X6 : ∀ w ∈ wsX60, w ∈ wsX6_rich := by decide +kernel
theorem hdV_X6_rich : yX6_rich.cls = RX6 ∧ yX6_rich.cls ≠ "java/lang/invoke/MethodHandle" ∧ yX6_rich.cls ≠ "java/lang/invoke/VarHandle" ∧ (parseMethodDescriptor yX6_rich.desc).map (fun d => d.parameters.length) = some 0 := by decide +kernel
set_option maxHeartbeats 4000000 in
set_option maxRecDepth 100000 in
theorem w_X6_rich {p : Program} {l : Launch} {e : Env} {s : State} {m : MethodId} {args : Array Value} {below : List Frame} {meth : Method} {c : Code} {A : Nat → Prop} (dC : Nat → ClassId) (dI : Nat → Nat → Nat) (cyC cyI cyZ : ClassId) (a a_reader a_told a_draft a_course a_firstImage a_secondImage a_imageKept a_bestDigs a_heard a_told_seam a_told_yellow a_told_white a_told_fades a_told_worth a_course_rows : Nat) (v_traced : Int64) (v_told_seamTold : Int32) (v_told_boundTold : Int32) (v_told_lossTold : Int32) (v_told_bound : Int32) (v_told_loss : Int32) (v_told_things : Int32) (v_course_known : Int32) (v_course_rows : Nat → Int32) (v_told_fades : Nat → Int32) (Q : Int32 → Prop) (C0 : gAt cX6_rich (some .int) 4 RX6 wsX6_rich p s m meth c args) (hK : va_K (dC, dI) vwCl (gTy cyC cyI cyZ) s) (hN : nU s) (hA : ∀ q, s.heap.size ≤ q → A q) : ∀ n : Nat, (∀ (x1 : Int32) (x2 : Int32) (x3 : Int32) (H : Heap) (locs : List Loc) (ls : Array Slot), wp_X6_rich v_told_bound v_told_things v_course_rows v_told_fades Q n 7 x1 x2 x3 → va_P (dC, dI) vwCl [(a, .inr (6, [.ref a_reader, .ref a_told, .ref a_draft, .ref a_course, .ref a_firstImage, .ref a_secondImage, .ref a_imageKept, .ref a_bestDigs, .ref a_heard, .long v_traced])), (a_told, .inr (5, [.ref a_told_seam, .int v_told_seamTold, .int v_told_boundTold, .int v_told_lossTold, .int v_told_bound, .int v_told_loss, .int v_told_things, .ref a_told_yellow, .ref a_told_white, .ref a_told_fades, .ref a_told_worth])), (a_course, .inr (2, [.ref a_course_rows, .int v_course_known])), (a_course_rows, .inl (cyI, 165, .inl v_course_rows)), (a_told_fades, .inl (cyI, 6, .inl v_told_fades))] H → va_D A [(a, .inr (6, [.ref a_reader, .ref a_told, .ref a_draft, .ref a_course, .ref a_firstImage, .ref a_secondImage, .ref a_imageKept, .ref a_bestDigs, .ref a_heard, .long v_traced])), (a_told, .inr (5, [.ref a_told_seam, .int v_told_seamTold, .int v_told_boundTold, .int v_told_lossTold, .int v_told_bound, .int v_told_loss, .int v_told_things, .ref a_told_yellow, .ref a_told_white, .ref a_told_fades, .ref a_told_worth])), (a_course, .inr (2, [.ref a_course_rows, .int v_course_known])), (a_course_rows, .inl (cyI, 165, .inl v_course_rows)), (a_told_fades, .inl (cyI, 6, .inl v_told_fades))] → va_S A s.heap H locs → lv_has ls 4 [(0, .ref a), (1, .int x1), (2, .int x2), (3, .int x3)] → W p l e { frames := 4, cells := 0, slots := 0, locals := 95 } s m args below meth c H locs 0 0 (MQ below (gQi0 Q (dC, dI) A [(a, .inr (6, [.ref a_reader, .ref a_told, .ref a_draft, .ref a_course, .ref a_firstImage, .ref a_secondImage, .ref a_imageKept, .ref a_bestDigs, .ref a_heard, .long v_traced])), (a_told, .inr (5, [.ref a_told_seam, .int v_told_seamTold, .int v_told_boundTold, .int v_told_lossTold, .int v_told_bound, .int v_told_loss, .int v_told_things, .ref a_told_yellow, .ref a_told_white, .ref a_told_fades, .ref a_told_worth])), (a_course, .inr (2, [.ref a_course_rows, .int v_course_known])), (a_course_rows, .inl (cyI, 165, .inl v_course_rows)), (a_told_fades, .inl (cyI, 6, .inl v_told_fades))]) args s 0 0 A) (F0 m 7 ls [])) := by
  obtain ⟨hx, hb, hr, hml, hown, hts, hlocks⟩ := id C0
  have f159 := hN.link (args := (args)) (w := .fieldLinkNest RX6 159 "LastOchre$Told" "things" "I" "LastOchre") 19 rfl
  have f19 := hts (.fieldLink RX6 19 "LastOchre" "told" "LLastOchre$Told;") (by decide +kernel)
  intro n
  induction n with
  | zero => exact fun _ _ _ _ _ _ h => absurd h id
  | succ n ih =>
    have ih7 := ih
    · intro x1 x2 x3 H locs ls h hP hD hS hl
      replace h : F_X6_rich_7 v_told_bound v_told_things v_course_rows v_told_fades Q (wp_X6_rich v_told_bound v_told_things v_course_rows v_told_fades Q n) x1 x2 x3 := h
      unfold F_X6_rich_7 at h
      refine lv_iload_n hx hb dX6_rich_7 rfl (lv_at hl 3 rfl) ?_
      refine lv_aload_n hx hb dX6_rich_8 rfl (lv_at hl 0 rfl) ?_
      refine va_get (D := (dC, dI)) (ci := 6) (v := .ref a_told) (C := RX6) (T := TX6) (N := 10) hx hb hts iwX6_rich_X6 hown hK hP 0 rfl rfl 1 (by decide) f19 (fun _ h9 => h9) rfl dX6_rich_9 ?_
      refine va_getN (host := "LastOchre") (D := (dC, dI)) (ci := 5) (v := .int v_told_things) (C := RX5) (T := TX5) (N := 11) hx hb hts iwX6_rich_X5 hown hK hP 1 rfl rfl 6 (by decide) f159 (fun _ h9 => h9) rfl dX6_rich_12 ?_
      refine lv_icmp_ge (tgt := 41) hx hb dX6_rich_15 (by decide) (fun c_1 => ?_) (fun c_1 => ?_)
      · replace h := h.1 c_1
        refine lv_iload_n hx hb dX6_rich_41 rfl (lv_at hl 1 rfl) ?_
        exact gri0 hx hb hr hlocks h hP hD hS dX6_rich_42
      · replace h := h.2 c_1
        refine lv_aload_n hx hb dX6_rich_18 rfl (lv_at hl 0 rfl) ?_
        refine lv_iload_n hx hb dX6_rich_19 rfl (lv_at hl 3 rfl) ?_
        refine gV_i0 (As := [.int x3]) (rest := []) ⟨hx, hb, hml, hown, hts⟩ (c_X6_canSpare l dC dI cyC cyI cyZ _ a a_reader a_told a_draft a_course a_firstImage a_secondImage a_imageKept a_bestDigs a_heard a_course_rows a_told_seam a_told_yellow a_told_white a_told_fades a_told_worth v_traced v_course_known v_told_seamTold v_told_boundTold v_told_lossTold v_told_bound v_told_loss v_told_things v_course_rows v_told_fades x3 h) (cwV 1 hts gX6_rich_X6_canSpare rfl rfl rfl hdV_X6_canSpare ⟨Nat.le_of_ble_eq_true rfl, Nat.le_of_ble_eq_true rfl⟩) hK hN hP hD hS hA [0, 2, 1, 3, 4] (by decide) rfl (ci := 6) rfl rfl rfl hl.1 rfl (Nat.le_of_ble_eq_true rfl) dX6_rich_20 ⟨Nat.zero_le _, Nat.zero_le _⟩ (fun r_2 H locs h hP hS => ?_)
        refine lv_iload_n hx hb dX6_rich_23 rfl (lv_at hl 2 rfl) ?_
        refine lv_icmp_le (tgt := 35) hx hb dX6_rich_24 (by decide) (fun c_3 => ?_) (fun c_3 => ?_)
        · replace h := h.1 c_3
          obtain ⟨x3_4, e_5⟩ : ∃ y : Int32, y = (x3 + (1 : Int32)) := ⟨_, rfl⟩
          replace h := h x3_4 e_5
          refine lv_iinc (v := x3_4) (lv' := [(3, .int x3_4), (0, .ref a), (1, .int x1), (2, .int x2)]) hx hb dX6_rich_35 hl (k := 3) rfl (by rw [e_5]; rfl) (by decide) rfl (fun ls hl => ?_)
          refine lv_goto (tgt := 7) hx hb dX6_rich_38 (by decide) ?_
          exact ih7 x1 x2 x3_4 _ _ _ h hP hD hS (lv_sub hl [1, 2, 3, 0] rfl)
        · replace h := h.2 c_3
          refine lv_iload_n hx hb dX6_rich_27 rfl (lv_at hl 3 rfl) ?_
          refine lv_istore_n (lv' := [(1, .int x3), (0, .ref a), (2, .int x2), (3, .int x3)]) hx hb dX6_rich_28 rfl hl (by decide) rfl (fun ls hl => ?_)
          refine lv_aload_n hx hb dX6_rich_29 rfl (lv_at hl 1 rfl) ?_
          refine lv_iload_n hx hb dX6_rich_30 rfl (lv_at hl 3 rfl) ?_
          refine gV_i0 (As := [.int x3]) (rest := []) ⟨hx, hb, hml, hown, hts⟩ (c_X6_canSpare l dC dI cyC cyI cyZ _ a a_reader a_told a_draft a_course a_firstImage a_secondImage a_imageKept a_bestDigs a_heard a_course_rows a_told_seam a_told_yellow a_told_white a_told_fades a_told_worth v_traced v_course_known v_told_seamTold v_told_boundTold v_told_lossTold v_told_bound v_told_loss v_told_things v_course_rows v_told_fades x3 h) (cwV 1 hts gX6_rich_X6_canSpare rfl rfl rfl hdV_X6_canSpare ⟨Nat.le_of_ble_eq_true rfl, Nat.le_of_ble_eq_true rfl⟩) hK hN hP hD hS hA [0, 2, 1, 3, 4] (by decide) rfl (ci := 6) rfl rfl rfl hl.1 rfl (Nat.le_of_ble_eq_true rfl) dX6_rich_31 ⟨Nat.zero_le _, Nat.zero_le _⟩ (fun r_6 H locs h hP hS => ?_)
          refine lv_istore_n (lv' := [(2, .int r_6), (1, .int x3), (0, .ref a), (3, .int x3)]) hx hb dX6_rich_34 rfl hl (by decide) rfl (fun ls hl => ?_)
          obtain ⟨x3_7, e_8⟩ : ∃ y : Int32, y = (x3 + (1 : Int32)) := ⟨_, rfl⟩
          replace h := h x3_7 e_8
          refine lv_iinc (v := x3_7) (lv' := [(3, .int x3_7), (2, .int r_6), (1, .int x3), (0, .ref a)]) hx hb dX6_rich_35 hl (k := 3) rfl (by rw [e_8]; rfl) (by decide) rfl (fun ls hl => ?_)
          refine lv_goto (tgt := 7) hx hb dX6_rich_38 (by decide) ?_
          exact ih7 x3 r_6 x3_7 _ _ _ h hP hD hS (lv_sub hl [3, 2, 1, 0] rfl)
set_option maxHeartbeats 4000000 in
set_option maxRecDepth 100000 in
theorem c_X6_rich (l : Launch) (dC : Nat → ClassId) (dI : Nat → Nat → Nat) (cyC cyI cyZ : ClassId) (sz : Nat) (a a_reader a_told a_draft a_course a_firstImage a_secondImage a_imageKept a_bestDigs a_heard a_told_seam a_told_yellow a_told_white a_told_fades a_told_worth a_course_rows : Nat) (v_traced : Int64) (v_told_seamTold : Int32) (v_told_boundTold : Int32) (v_told_lossTold : Int32) (v_told_bound : Int32) (v_told_loss : Int32) (v_told_things : Int32) (v_course_known : Int32) (v_course_rows : Nat → Int32) (v_told_fades : Nat → Int32) {Q : Int32 → Prop} (h : q_X6_rich v_told_bound v_told_things v_course_rows v_told_fades Q) : Met l yX6_rich wsX6_rich ({ frames := 4, cells := 0, slots := 0, locals := 95 }) (gPc [.ref a] (dC, dI) (gTy cyC cyI cyZ) sz [(a, .inr (6, [.ref a_reader, .ref a_told, .ref a_draft, .ref a_course, .ref a_firstImage, .ref a_secondImage, .ref a_imageKept, .ref a_bestDigs, .ref a_heard, .long v_traced])), (a_told, .inr (5, [.ref a_told_seam, .int v_told_seamTold, .int v_told_boundTold, .int v_told_lossTold, .int v_told_bound, .int v_told_loss, .int v_told_things, .ref a_told_yellow, .ref a_told_white, .ref a_told_fades, .ref a_told_worth])), (a_course, .inr (2, [.ref a_course_rows, .int v_course_known])), (a_course_rows, .inl (cyI, 165, .inl v_course_rows)), (a_told_fades, .inl (cyI, 6, .inl v_told_fades))]) (gQi0 Q (dC, dI) (va_A [(a, .inr (6, [.ref a_reader, .ref a_told, .ref a_draft, .ref a_course, .ref a_firstImage, .ref a_secondImage, .ref a_imageKept, .ref a_bestDigs, .ref a_heard, .long v_traced])), (a_told, .inr (5, [.ref a_told_seam, .int v_told_seamTold, .int v_told_boundTold, .int v_told_lossTold, .int v_told_bound, .int v_told_loss, .int v_told_things, .ref a_told_yellow, .ref a_told_white, .ref a_told_fades, .ref a_told_worth])), (a_course, .inr (2, [.ref a_course_rows, .int v_course_known])), (a_course_rows, .inl (cyI, 165, .inl v_course_rows)), (a_told_fades, .inl (cyI, 6, .inl v_told_fades))] sz) [(a, .inr (6, [.ref a_reader, .ref a_told, .ref a_draft, .ref a_course, .ref a_firstImage, .ref a_secondImage, .ref a_imageKept, .ref a_bestDigs, .ref a_heard, .long v_traced])), (a_told, .inr (5, [.ref a_told_seam, .int v_told_seamTold, .int v_told_boundTold, .int v_told_lossTold, .int v_told_bound, .int v_told_loss, .int v_told_things, .ref a_told_yellow, .ref a_told_white, .ref a_told_fades, .ref a_told_worth])), (a_course, .inr (2, [.ref a_course_rows, .int v_course_known])), (a_course_rows, .inl (cyI, 165, .inl v_course_rows)), (a_told_fades, .inl (cyI, 6, .inl v_told_fades))]) 0 0 (va_A [(a, .inr (6, [.ref a_reader, .ref a_told, .ref a_draft, .ref a_course, .ref a_firstImage, .ref a_secondImage, .ref a_imageKept, .ref a_bestDigs, .ref a_heard, .long v_traced])), (a_told, .inr (5, [.ref a_told_seam, .int v_told_seamTold, .int v_told_boundTold, .int v_told_lossTold, .int v_told_bound, .int v_told_loss, .int v_told_things, .ref a_told_yellow, .ref a_told_white, .ref a_told_fades, .ref a_told_worth])), (a_course, .inr (2, [.ref a_course_rows, .int v_course_known])), (a_course_rows, .inl (cyI, 165, .inl v_course_rows)), (a_told_fades, .inl (cyI, 6, .inl v_told_fades))] sz) := by
  refine gMet (cc := cX6_rich) (maxL := 4) (ret := (some .int)) (own := RX6) (fun A => gQi0 Q (dC, dI) A [(a, .inr (6, [.ref a_reader, .ref a_told, .ref a_draft, .ref a_course, .ref a_firstImage, .ref a_secondImage, .ref a_imageKept, .ref a_bestDigs, .ref a_heard, .long v_traced])), (a_told, .inr (5, [.ref a_told_seam, .int v_told_seamTold, .int v_told_boundTold, .int v_told_lossTold, .int v_told_bound, .int v_told_loss, .int v_told_things, .ref a_told_yellow, .ref a_told_white, .ref a_told_fades, .ref a_told_worth])), (a_course, .inr (2, [.ref a_course_rows, .int v_course_known])), (a_course_rows, .inl (cyI, 165, .inl v_course_rows)), (a_told_fades, .inl (cyI, 6, .inl v_told_fades))]) (by decide) rfl rfl (Nat.le_of_ble_eq_true rfl) ?_
  intro p e s m below meth c A ls C0 _ hK hN hP hD hA hl
  obtain ⟨hx, hb, hr, hml, hown, hts, hlocks⟩ := id C0
  have f159 := hN.link (args := ([.ref a].toArray)) (w := .fieldLinkNest RX6 159 "LastOchre$Told" "things" "I" "LastOchre") 19 rfl
  have f19 := hts (.fieldLink RX6 19 "LastOchre" "told" "LLastOchre$Told;") (by decide +kernel)
  have hS : va_S A s.heap s.heap [] := va_S.rf
  replace hl : lv_has ls 4 [(0, .ref a)] := hl
  unfold q_X6_rich at h
  obtain ⟨n, h⟩ := h
  have ih7 := w_X6_rich (l := l) (e := e) (below := below) dC dI cyC cyI cyZ a a_reader a_told a_draft a_course a_firstImage a_secondImage a_imageKept a_bestDigs a_heard a_told_seam a_told_yellow a_told_white a_told_fades a_told_worth a_course_rows v_traced v_told_seamTold v_told_boundTold v_told_lossTold v_told_bound v_told_loss v_told_things v_course_known v_course_rows v_told_fades Q C0 hK hN hA n
  unfold F_X6_rich_e at h
  refine lv_bipush (v := -9) hx hb dX6_rich_0 (by decide) ?_
  refine lv_istore_n (lv' := [(1, .int (-9 : Int32)), (0, .ref a)]) hx hb dX6_rich_2 rfl hl (by decide) rfl (fun ls hl => ?_)
  refine lv_iconst (v := 0) hx hb dX6_rich_3 (by decide) ?_
  refine lv_istore_n (lv' := [(2, .int (0 : Int32)), (1, .int (-9 : Int32)), (0, .ref a)]) hx hb dX6_rich_4 rfl hl (by decide) rfl (fun ls hl => ?_)
  refine lv_iconst (v := 0) hx hb dX6_rich_5 (by decide) ?_
  refine lv_istore_n (lv' := [(3, .int (0 : Int32)), (2, .int (0 : Int32)), (1, .int (-9 : Int32)), (0, .ref a)]) hx hb dX6_rich_6 rfl hl (by decide) rfl (fun ls hl => ?_)
  exact ih7 (-9 : Int32) (0 : Int32) (0 : Int32) _ _ _ h hP hD hS (lv_sub hl [3, 2, 1, 0] rfl)

def F_X6_power_e (p0 : Int32) (p1 : Int32) (Q : Int32 → Prop) (rec : Nat → Int32 → Int32 → Prop)  : Prop :=
  rec 4 (1 : Int32) (0 : Int32)
def F_X6_power_4 (p0 : Int32) (p1 : Int32) (Q : Int32 → Prop) (rec : Nat → Int32 → Int32 → Prop) (x2 : Int32) (x3 : Int32) : Prop :=
  (p1 ≤ x3 → (Q x2)) ∧ (¬ p1 ≤ x3 → (∀ x2_2 : Int32, x2_2 = (x2 * p0) → (∀ x3_4 : Int32, x3_4 = (x3 + (1 : Int32)) → (rec 4 x2_2 x3_4))))
def wp_X6_power (p0 : Int32) (p1 : Int32) (Q : Int32 → Prop) : Nat → Nat → Int32 → Int32 → Prop
  | 0 => fun _ _ _ => False
  | n + 1 => fun t x2 x3 => if t = 4 then F_X6_power_4 p0 p1 Q (wp_X6_power p0 p1 Q n) x2 x3 else False
def q_X6_power (p0 : Int32) (p1 : Int32) (Q : Int32 → Prop) : Prop := ∃ n, F_X6_power_e p0 p1 Q (wp_X6_power p0 p1 Q n) 
theorem hdS_X6_power : yX6_power.cls ≠ "java/lang/invoke/MethodHandle" ∧ yX6_power.cls ≠ "java/lang/invoke/VarHandle" ∧ (parseMethodDescriptor yX6_power.desc).map (fun d => d.parameters.length) = some 2 := by decide +kernel
set_option maxHeartbeats 4000000 in
set_option maxRecDepth 100000 in
theorem w_X6_power {p : Program} {l : Launch} {e : Env} {s : State} {m : MethodId} {args : Array Value} {below : List Frame} {meth : Method} {c : Code} {A : Nat → Prop} (dC : Nat → ClassId) (dI : Nat → Nat → Nat) (cyC cyI cyZ : ClassId) (p0 : Int32) (p1 : Int32) (Q : Int32 → Prop) (C0 : gAt cX6_power (some .int) 4 RX6 wsX6_power p s m meth c args) (hK : va_K (dC, dI) vwCl (gTy cyC cyI cyZ) s) (hN : nU s) (hA : ∀ q, s.heap.size ≤ q → A q) : ∀ n : Nat, (∀ (x2 : Int32) (x3 : Int32) (H : Heap) (locs : List Loc) (ls : Array Slot), wp_X6_power p0 p1 Q n 4 x2 x3 → va_P (dC, dI) vwCl [] H → va_D A [] → va_S A s.heap H locs → lv_has ls 4 [(0, .int p0), (1, .int p1), (2, .int x2), (3, .int x3)] → W p l e { frames := 0, cells := 0, slots := 0, locals := 0 } s m args below meth c H locs 0 0 (MQ below (gQi0 Q (dC, dI) A []) args s 0 0 A) (F0 m 4 ls [])) := by
  obtain ⟨hx, hb, hr, hml, hown, hts, hlocks⟩ := id C0
  intro n
  induction n with
  | zero => exact fun _ _ _ _ _ h => absurd h id
  | succ n ih =>
    have ih4 := ih
    · intro x2 x3 H locs ls h hP hD hS hl
      replace h : F_X6_power_4 p0 p1 Q (wp_X6_power p0 p1 Q n) x2 x3 := h
      unfold F_X6_power_4 at h
      refine lv_iload_n hx hb dX6_power_4 rfl (lv_at hl 3 rfl) ?_
      refine lv_iload_n hx hb dX6_power_5 rfl (lv_at hl 1 rfl) ?_
      refine lv_icmp_ge (tgt := 19) hx hb dX6_power_6 (by decide) (fun c_1 => ?_) (fun c_1 => ?_)
      · replace h := h.1 c_1
        refine lv_iload_n hx hb dX6_power_19 rfl (lv_at hl 2 rfl) ?_
        exact gri0 hx hb hr hlocks h hP hD hS dX6_power_20
      · replace h := h.2 c_1
        refine lv_iload_n hx hb dX6_power_9 rfl (lv_at hl 2 rfl) ?_
        refine lv_iload_n hx hb dX6_power_10 rfl (lv_at hl 0 rfl) ?_
        refine lv_imul hx hb dX6_power_11 ?_
        refine lv_topi (fun x2_2 e_3 => ?_)
        replace h := h x2_2 e_3
        refine lv_istore_n (lv' := [(2, .int x2_2), (0, .int p0), (1, .int p1), (3, .int x3)]) hx hb dX6_power_12 rfl hl (by decide) rfl (fun ls hl => ?_)
        obtain ⟨x3_4, e_5⟩ : ∃ y : Int32, y = (x3 + (1 : Int32)) := ⟨_, rfl⟩
        replace h := h x3_4 e_5
        refine lv_iinc (v := x3_4) (lv' := [(3, .int x3_4), (2, .int x2_2), (0, .int p0), (1, .int p1)]) hx hb dX6_power_13 hl (k := 3) rfl (by rw [e_5]; rfl) (by decide) rfl (fun ls hl => ?_)
        refine lv_goto (tgt := 4) hx hb dX6_power_16 (by decide) ?_
        exact ih4 x2_2 x3_4 _ _ _ h hP hD hS (lv_sub hl [2, 3, 1, 0] rfl)
set_option maxHeartbeats 4000000 in
set_option maxRecDepth 100000 in
theorem c_X6_power (l : Launch) (dC : Nat → ClassId) (dI : Nat → Nat → Nat) (cyC cyI cyZ : ClassId) (sz : Nat) (p0 : Int32) (p1 : Int32) {Q : Int32 → Prop} (h : q_X6_power p0 p1 Q) : Met l yX6_power wsX6_power ({ frames := 0, cells := 0, slots := 0, locals := 0 }) (gPc [.int p0, .int p1] (dC, dI) (gTy cyC cyI cyZ) sz []) (gQi0 Q (dC, dI) (va_A [] sz) []) 0 0 (va_A [] sz) := by
  refine gMet (cc := cX6_power) (maxL := 4) (ret := (some .int)) (own := RX6) (fun A => gQi0 Q (dC, dI) A []) (by decide) rfl rfl (Nat.le_of_ble_eq_true rfl) ?_
  intro p e s m below meth c A ls C0 _ hK hN hP hD hA hl
  obtain ⟨hx, hb, hr, hml, hown, hts, hlocks⟩ := id C0
  have hS : va_S A s.heap s.heap [] := va_S.rf
  replace hl : lv_has ls 4 [(0, .int p0), (1, .int p1)] := hl
  unfold q_X6_power at h
  obtain ⟨n, h⟩ := h
  have ih4 := w_X6_power (l := l) (e := e) (below := below) dC dI cyC cyI cyZ p0 p1 Q C0 hK hN hA n
  unfold F_X6_power_e at h
  refine lv_iconst (v := 1) hx hb dX6_power_0 (by decide) ?_
  refine lv_istore_n (lv' := [(2, .int (1 : Int32)), (0, .int p0), (1, .int p1)]) hx hb dX6_power_1 rfl hl (by decide) rfl (fun ls hl => ?_)
  refine lv_iconst (v := 0) hx hb dX6_power_2 (by decide) ?_
  refine lv_istore_n (lv' := [(3, .int (0 : Int32)), (2, .int (1 : Int32)), (0, .int p0), (1, .int p1)]) hx hb dX6_power_3 rfl hl (by decide) rfl (fun ls hl => ?_)
  exact ih4 (1 : Int32) (0 : Int32) _ _ _ h hP hD hS (lv_sub hl [2, 3, 1, 0] rfl)

def F_X6_commonDivisor_e (p0 : Int32) (p1 : Int32) (Q : Int32 → Prop) (rec : Nat → Int32 → Int32 → Int32 → Prop)  : Prop :=
  rec 7 p0 p1 (0 : Int32)
def F_X6_commonDivisor_7 (p0 : Int32) (p1 : Int32) (Q : Int32 → Prop) (rec : Nat → Int32 → Int32 → Int32 → Prop) (x2 : Int32) (x3 : Int32) (x4 : Int32) : Prop :=
  ((50 : Int32) ≤ x4 → (Q x2)) ∧ (¬ (50 : Int32) ≤ x4 → ((x3 ≤ 0 → (Q x2)) ∧ (¬ x3 ≤ 0 → (¬ x3 = 0 ∧ (∀ x5_4 : Int32, x5_4 = (x2 - x2 / x3 * x3) → (∀ x4_6 : Int32, x4_6 = (x4 + (1 : Int32)) → (rec 7 x3 x5_4 x4_6)))))))
def wp_X6_commonDivisor (p0 : Int32) (p1 : Int32) (Q : Int32 → Prop) : Nat → Nat → Int32 → Int32 → Int32 → Prop
  | 0 => fun _ _ _ _ => False
  | n + 1 => fun t x2 x3 x4 => if t = 7 then F_X6_commonDivisor_7 p0 p1 Q (wp_X6_commonDivisor p0 p1 Q n) x2 x3 x4 else False
def q_X6_commonDivisor (p0 : Int32) (p1 : Int32) (Q : Int32 → Prop) : Prop := ∃ n, F_X6_commonDivisor_e p0 p1 Q (wp_X6_commonDivisor p0 p1 Q n) 
theorem hdS_X6_commonDivisor : yX6_commonDivisor.cls ≠ "java/lang/invoke/MethodHandle" ∧ yX6_commonDivisor.cls ≠ "java/lang/invoke/VarHandle" ∧ (parseMethodDescriptor yX6_commonDivisor.desc).map (fun d => d.parameters.length) = some 2 := by decide +kernel
set_option maxHeartbeats 4000000 in
set_option maxRecDepth 100000 in
theorem w_X6_commonDivisor {p : Program} {l : Launch} {e : Env} {s : State} {m : MethodId} {args : Array Value} {below : List Frame} {meth : Method} {c : Code} {A : Nat → Prop} (dC : Nat → ClassId) (dI : Nat → Nat → Nat) (cyC cyI cyZ : ClassId) (p0 : Int32) (p1 : Int32) (Q : Int32 → Prop) (C0 : gAt cX6_commonDivisor (some .int) 6 RX6 wsX6_commonDivisor p s m meth c args) (hK : va_K (dC, dI) vwCl (gTy cyC cyI cyZ) s) (hN : nU s) (hA : ∀ q, s.heap.size ≤ q → A q) : ∀ n : Nat, (∀ (x2 : Int32) (x3 : Int32) (x4 : Int32) (H : Heap) (locs : List Loc) (ls : Array Slot), wp_X6_commonDivisor p0 p1 Q n 7 x2 x3 x4 → va_P (dC, dI) vwCl [] H → va_D A [] → va_S A s.heap H locs → lv_has ls 6 [(2, .int x2), (3, .int x3), (4, .int x4)] → W p l e { frames := 0, cells := 0, slots := 0, locals := 0 } s m args below meth c H locs 0 0 (MQ below (gQi0 Q (dC, dI) A []) args s 0 0 A) (F0 m 7 ls [])) := by
  obtain ⟨hx, hb, hr, hml, hown, hts, hlocks⟩ := id C0
  intro n
  induction n with
  | zero => exact fun _ _ _ _ _ _ h => absurd h id
  | succ n ih =>
    have ih7 := ih
    · intro x2 x3 x4 H locs ls h hP hD hS hl
      replace h : F_X6_commonDivisor_7 p0 p1 Q (wp_X6_commonDivisor p0 p1 Q n) x2 x3 x4 := h
      unfold F_X6_commonDivisor_7 at h
      refine lv_iload hx hb dX6_commonDivisor_7 (lv_at hl 2 rfl) ?_
      refine lv_bipush (v := 50) hx hb dX6_commonDivisor_9 (by decide) ?_
      refine lv_icmp_ge (tgt := 34) hx hb dX6_commonDivisor_11 (by decide) (fun c_1 => ?_) (fun c_1 => ?_)
      · replace h := h.1 c_1
        refine lv_iload_n hx hb dX6_commonDivisor_34 rfl (lv_at hl 0 rfl) ?_
        exact gri0 hx hb hr hlocks h hP hD hS dX6_commonDivisor_35
      · replace h := h.2 c_1
        refine lv_iload_n hx hb dX6_commonDivisor_14 rfl (lv_at hl 1 rfl) ?_
        refine lv_if_le (tgt := 34) hx hb dX6_commonDivisor_15 (by decide) (fun c_2 => ?_) (fun c_2 => ?_)
        · replace h := h.1 c_2
          refine lv_iload_n hx hb dX6_commonDivisor_34 rfl (lv_at hl 0 rfl) ?_
          exact gri0 hx hb hr hlocks h hP hD hS dX6_commonDivisor_35
        · replace h := h.2 c_2
          refine lv_iload_n hx hb dX6_commonDivisor_18 rfl (lv_at hl 0 rfl) ?_
          refine lv_iload_n hx hb dX6_commonDivisor_19 rfl (lv_at hl 1 rfl) ?_
          have g_3 := h.1
          replace h := h.2
          refine lv_irem hx hb dX6_commonDivisor_20 g_3 ?_
          refine lv_topi (fun x5_4 e_5 => ?_)
          replace h := h x5_4 e_5
          refine lv_istore (lv' := [(5, .int x5_4), (2, .int x2), (3, .int x3), (4, .int x4)]) hx hb dX6_commonDivisor_21 hl (by decide) rfl (fun ls hl => ?_)
          refine lv_iload_n hx hb dX6_commonDivisor_23 rfl (lv_at hl 2 rfl) ?_
          refine lv_istore_n (lv' := [(2, .int x3), (5, .int x5_4), (3, .int x3), (4, .int x4)]) hx hb dX6_commonDivisor_24 rfl hl (by decide) rfl (fun ls hl => ?_)
          refine lv_iload hx hb dX6_commonDivisor_25 (lv_at hl 1 rfl) ?_
          refine lv_istore_n (lv' := [(3, .int x5_4), (2, .int x3), (5, .int x5_4), (4, .int x4)]) hx hb dX6_commonDivisor_27 rfl hl (by decide) rfl (fun ls hl => ?_)
          obtain ⟨x4_6, e_7⟩ : ∃ y : Int32, y = (x4 + (1 : Int32)) := ⟨_, rfl⟩
          replace h := h x4_6 e_7
          refine lv_iinc (v := x4_6) (lv' := [(4, .int x4_6), (3, .int x5_4), (2, .int x3), (5, .int x5_4)]) hx hb dX6_commonDivisor_28 hl (k := 3) rfl (by rw [e_7]; rfl) (by decide) rfl (fun ls hl => ?_)
          refine lv_goto (tgt := 7) hx hb dX6_commonDivisor_31 (by decide) ?_
          exact ih7 x3 x5_4 x4_6 _ _ _ h hP hD hS (lv_sub hl [2, 1, 0] rfl)
set_option maxHeartbeats 4000000 in
set_option maxRecDepth 100000 in
theorem c_X6_commonDivisor (l : Launch) (dC : Nat → ClassId) (dI : Nat → Nat → Nat) (cyC cyI cyZ : ClassId) (sz : Nat) (p0 : Int32) (p1 : Int32) {Q : Int32 → Prop} (h : q_X6_commonDivisor p0 p1 Q) : Met l yX6_commonDivisor wsX6_commonDivisor ({ frames := 0, cells := 0, slots := 0, locals := 0 }) (gPc [.int p0, .int p1] (dC, dI) (gTy cyC cyI cyZ) sz []) (gQi0 Q (dC, dI) (va_A [] sz) []) 0 0 (va_A [] sz) := by
  refine gMet (cc := cX6_commonDivisor) (maxL := 6) (ret := (some .int)) (own := RX6) (fun A => gQi0 Q (dC, dI) A []) (by decide) rfl rfl (Nat.le_of_ble_eq_true rfl) ?_
  intro p e s m below meth c A ls C0 _ hK hN hP hD hA hl
  obtain ⟨hx, hb, hr, hml, hown, hts, hlocks⟩ := id C0
  have hS : va_S A s.heap s.heap [] := va_S.rf
  replace hl : lv_has ls 6 [(0, .int p0), (1, .int p1)] := hl
  unfold q_X6_commonDivisor at h
  obtain ⟨n, h⟩ := h
  have ih7 := w_X6_commonDivisor (l := l) (e := e) (below := below) dC dI cyC cyI cyZ p0 p1 Q C0 hK hN hA n
  unfold F_X6_commonDivisor_e at h
  refine lv_iload_n hx hb dX6_commonDivisor_0 rfl (lv_at hl 0 rfl) ?_
  refine lv_istore_n (lv' := [(2, .int p0), (0, .int p0), (1, .int p1)]) hx hb dX6_commonDivisor_1 rfl hl (by decide) rfl (fun ls hl => ?_)
  refine lv_iload_n hx hb dX6_commonDivisor_2 rfl (lv_at hl 2 rfl) ?_
  refine lv_istore_n (lv' := [(3, .int p1), (2, .int p0), (0, .int p0), (1, .int p1)]) hx hb dX6_commonDivisor_3 rfl hl (by decide) rfl (fun ls hl => ?_)
  refine lv_iconst (v := 0) hx hb dX6_commonDivisor_4 (by decide) ?_
  refine lv_istore (lv' := [(4, .int (0 : Int32)), (3, .int p1), (2, .int p0), (0, .int p0), (1, .int p1)]) hx hb dX6_commonDivisor_5 hl (by decide) rfl (fun ls hl => ?_)
  exact ih7 p0 p1 (0 : Int32) _ _ _ h hP hD hS (lv_sub hl [2, 1, 0] rfl)

def F_X6_odds_e (v_told_bound : Int32) (v_told_things : Int32) (v_course_rows : Nat → Int32) (v_told_fades : Nat → Int32) (p0 : Int32) (p1 : Int32) (p2 : Int32) (p3 : Int32) (Q : Int32 → Prop) (rec : Nat → Int32 → Int32 → Prop)  : Prop :=
  q_X6_isThing v_told_things p0 (fun (r_1 : Int32) => (r_1 = 0 → (Q (-1 : Int32))) ∧ (¬ r_1 = 0 → (q_X6_within p1 (0 : Int32) (10 : Int32) (fun (r_3 : Int32) => (r_3 = 0 → (Q (-1 : Int32))) ∧ (¬ r_3 = 0 → (q_X6_within p2 (0 : Int32) (8 : Int32) (fun (r_5 : Int32) => (r_5 = 0 → (Q (-1 : Int32))) ∧ (¬ r_5 = 0 → (q_X6_within p3 (0 : Int32) (1 : Int32) (fun (r_7 : Int32) => (¬ r_7 = 0 → (q_X6_calledAfter v_told_bound v_course_rows v_told_fades p0 p2 (fun (r_9 : Int32) => (r_9 = 0 → (rec 61 0 (0 : Int32))) ∧ (¬ r_9 = 0 → (q_X6_power ((10 : Int32) - p1) p2 (fun (r_11 : Int32) => rec 61 0 r_11)))))) ∧ (r_7 = 0 → (Q (-1 : Int32)))))))))))))
def F_X6_odds_61 (v_told_bound : Int32) (v_told_things : Int32) (v_course_rows : Nat → Int32) (v_told_fades : Nat → Int32) (p0 : Int32) (p1 : Int32) (p2 : Int32) (p3 : Int32) (Q : Int32 → Prop) (rec : Nat → Int32 → Int32 → Prop) (x7 : Int32) (k0 : Int32) : Prop :=
  q_X6_power (10 : Int32) p2 (fun (r_12 : Int32) => q_X6_commonDivisor k0 r_12 (fun (r_13 : Int32) => (¬ p3 = 0 → (rec 92 r_13 r_12)) ∧ (p3 = 0 → (rec 92 r_13 k0))))
def F_X6_odds_92 (v_told_bound : Int32) (v_told_things : Int32) (v_course_rows : Nat → Int32) (v_told_fades : Nat → Int32) (p0 : Int32) (p1 : Int32) (p2 : Int32) (p3 : Int32) (Q : Int32 → Prop) (rec : Nat → Int32 → Int32 → Prop) (x7 : Int32) (k0 : Int32) : Prop :=
  q_X6_quotient k0 x7 (fun (r_15 : Int32) => Q r_15)
def wp_X6_odds (v_told_bound : Int32) (v_told_things : Int32) (v_course_rows : Nat → Int32) (v_told_fades : Nat → Int32) (p0 : Int32) (p1 : Int32) (p2 : Int32) (p3 : Int32) (Q : Int32 → Prop) : Nat → Nat → Int32 → Int32 → Prop
  | 0 => fun _ _ _ => False
  | n + 1 => fun t x7 k0 => if t = 61 then F_X6_odds_61 v_told_bound v_told_things v_course_rows v_told_fades p0 p1 p2 p3 Q (wp_X6_odds v_told_bound v_told_things v_course_rows v_told_fades p0 p1 p2 p3 Q n) x7 k0 else if t = 92 then F_X6_odds_92 v_told_bound v_told_things v_course_rows v_told_fades p0 p1 p2 p3 Q (wp_X6_odds v_told_bound v_told_things v_course_rows v_told_fades p0 p1 p2 p3 Q n) x7 k0 else False
def q_X6_odds (v_told_bound : Int32) (v_told_things : Int32) (v_course_rows : Nat → Int32) (v_told_fades : Nat → Int32) (p0 : Int32) (p1 : Int32) (p2 : Int32) (p3 : Int32) (Q : Int32 → Prop) : Prop := ∃ n, F_X6_odds_e v_told_bound v_told_things v_course_rows v_told_fades p0 p1 p2 p3 Q (wp_X6_odds v_told_bound v_told_things v_course_rows v_told_fades p0 p1 p2 p3 Q n) 
theorem hdV_X6_odds : yX6_odds.cls = RX6 ∧ yX6_odds.cls ≠ "java/lang/invoke/MethodHandle" ∧ yX6_odds.cls ≠ "java/lang/invoke/VarHandle" ∧ (parseMethodDescriptor yX6_odds.desc).map (fun d => d.parameters.length) = some 4 := by decide +kernel
set_option maxHeartbeats 4000000 in
set_option maxRecDepth 100000 in
theorem w_X6_odds {p : Program} {l : Launch} {e : Env} {s : State} {m : MethodId} {args : Array Value} {below : List Frame} {meth : Method} {c : Code} {A : Nat → Prop} (dC : Nat → ClassId) (dI : Nat → Nat → Nat) (cyC cyI cyZ : ClassId) (a a_reader a_told a_draft a_course a_firstImage a_secondImage a_imageKept a_bestDigs a_heard a_told_seam a_told_yellow a_told_white a_told_fades a_told_worth a_course_rows : Nat) (v_traced : Int64) (v_told_seamTold : Int32) (v_told_boundTold : Int32) (v_told_lossTold : Int32) (v_told_bound : Int32) (v_told_loss : Int32) (v_told_things : Int32) (v_course_known : Int32) (v_course_rows : Nat → Int32) (v_told_fades : Nat → Int32) (p0 : Int32) (p1 : Int32) (p2 : Int32) (p3 : Int32) (Q : Int32 → Prop) (C0 : gAt cX6_odds (some .int) 8 RX6 wsX6_odds p s m meth c args) (hK : va_K (dC, dI) vwCl (gTy cyC cyI cyZ) s) (hN : nU s) (hA : ∀ q, s.heap.size ≤ q → A q) : ∀ n : Nat, (∀ (x7 : Int32) (k0 : Int32) (H : Heap) (locs : List Loc) (ls : Array Slot), wp_X6_odds v_told_bound v_told_things v_course_rows v_told_fades p0 p1 p2 p3 Q n 61 x7 k0 → va_P (dC, dI) vwCl [(a, .inr (6, [.ref a_reader, .ref a_told, .ref a_draft, .ref a_course, .ref a_firstImage, .ref a_secondImage, .ref a_imageKept, .ref a_bestDigs, .ref a_heard, .long v_traced])), (a_told, .inr (5, [.ref a_told_seam, .int v_told_seamTold, .int v_told_boundTold, .int v_told_lossTold, .int v_told_bound, .int v_told_loss, .int v_told_things, .ref a_told_yellow, .ref a_told_white, .ref a_told_fades, .ref a_told_worth])), (a_course, .inr (2, [.ref a_course_rows, .int v_course_known])), (a_course_rows, .inl (cyI, 165, .inl v_course_rows)), (a_told_fades, .inl (cyI, 6, .inl v_told_fades))] H → va_D A [(a, .inr (6, [.ref a_reader, .ref a_told, .ref a_draft, .ref a_course, .ref a_firstImage, .ref a_secondImage, .ref a_imageKept, .ref a_bestDigs, .ref a_heard, .long v_traced])), (a_told, .inr (5, [.ref a_told_seam, .int v_told_seamTold, .int v_told_boundTold, .int v_told_lossTold, .int v_told_bound, .int v_told_loss, .int v_told_things, .ref a_told_yellow, .ref a_told_white, .ref a_told_fades, .ref a_told_worth])), (a_course, .inr (2, [.ref a_course_rows, .int v_course_known])), (a_course_rows, .inl (cyI, 165, .inl v_course_rows)), (a_told_fades, .inl (cyI, 6, .inl v_told_fades))] → va_S A s.heap H locs → lv_has ls 8 [(3, .int p2), (4, .int p3)] → W p l e { frames := 3, cells := 0, slots := 0, locals := 74 } s m args below meth c H locs 0 0 (MQ below (gQi0 Q (dC, dI) A [(a, .inr (6, [.ref a_reader, .ref a_told, .ref a_draft, .ref a_course, .ref a_firstImage, .ref a_secondImage, .ref a_imageKept, .ref a_bestDigs, .ref a_heard, .long v_traced])), (a_told, .inr (5, [.ref a_told_seam, .int v_told_seamTold, .int v_told_boundTold, .int v_told_lossTold, .int v_told_bound, .int v_told_loss, .int v_told_things, .ref a_told_yellow, .ref a_told_white, .ref a_told_fades, .ref a_told_worth])), (a_course, .inr (2, [.ref a_course_rows, .int v_course_known])), (a_course_rows, .inl (cyI, 165, .inl v_course_rows)), (a_told_fades, .inl (cyI, 6, .inl v_told_fades))]) args s 0 0 A) (F0 m 61 ls [.int k0])) ∧ (∀ (x7 : Int32) (k0 : Int32) (H : Heap) (locs : List Loc) (ls : Array Slot), wp_X6_odds v_told_bound v_told_things v_course_rows v_told_fades p0 p1 p2 p3 Q n 92 x7 k0 → va_P (dC, dI) vwCl [(a, .inr (6, [.ref a_reader, .ref a_told, .ref a_draft, .ref a_course, .ref a_firstImage, .ref a_secondImage, .ref a_imageKept, .ref a_bestDigs, .ref a_heard, .long v_traced])), (a_told, .inr (5, [.ref a_told_seam, .int v_told_seamTold, .int v_told_boundTold, .int v_told_lossTold, .int v_told_bound, .int v_told_loss, .int v_told_things, .ref a_told_yellow, .ref a_told_white, .ref a_told_fades, .ref a_told_worth])), (a_course, .inr (2, [.ref a_course_rows, .int v_course_known])), (a_course_rows, .inl (cyI, 165, .inl v_course_rows)), (a_told_fades, .inl (cyI, 6, .inl v_told_fades))] H → va_D A [(a, .inr (6, [.ref a_reader, .ref a_told, .ref a_draft, .ref a_course, .ref a_firstImage, .ref a_secondImage, .ref a_imageKept, .ref a_bestDigs, .ref a_heard, .long v_traced])), (a_told, .inr (5, [.ref a_told_seam, .int v_told_seamTold, .int v_told_boundTold, .int v_told_lossTold, .int v_told_bound, .int v_told_loss, .int v_told_things, .ref a_told_yellow, .ref a_told_white, .ref a_told_fades, .ref a_told_worth])), (a_course, .inr (2, [.ref a_course_rows, .int v_course_known])), (a_course_rows, .inl (cyI, 165, .inl v_course_rows)), (a_told_fades, .inl (cyI, 6, .inl v_told_fades))] → va_S A s.heap H locs → lv_has ls 8 [(7, .int x7)] → W p l e { frames := 3, cells := 0, slots := 0, locals := 74 } s m args below meth c H locs 0 0 (MQ below (gQi0 Q (dC, dI) A [(a, .inr (6, [.ref a_reader, .ref a_told, .ref a_draft, .ref a_course, .ref a_firstImage, .ref a_secondImage, .ref a_imageKept, .ref a_bestDigs, .ref a_heard, .long v_traced])), (a_told, .inr (5, [.ref a_told_seam, .int v_told_seamTold, .int v_told_boundTold, .int v_told_lossTold, .int v_told_bound, .int v_told_loss, .int v_told_things, .ref a_told_yellow, .ref a_told_white, .ref a_told_fades, .ref a_told_worth])), (a_course, .inr (2, [.ref a_course_rows, .int v_course_known])), (a_course_rows, .inl (cyI, 165, .inl v_course_rows)), (a_told_fades, .inl (cyI, 6, .inl v_told_fades))]) args s 0 0 A) (F0 m 92 ls [.int k0])) := by
  obtain ⟨hx, hb, hr, hml, hown, hts, hlocks⟩ := id C0
  intro n
  induction n with
  | zero => exact ⟨fun _ _ _ _ _ h => absurd h id, fun _ _ _ _ _ h => absurd h id⟩
  | succ n ih =>
    obtain ⟨ih61, ih92⟩ := ih
    refine ⟨?_, ?_⟩
    · intro x7 k0 H locs ls h hP hD hS hl
      replace h : F_X6_odds_61 v_told_bound v_told_things v_course_rows v_told_fades p0 p1 p2 p3 Q (wp_X6_odds v_told_bound v_told_things v_course_rows v_told_fades p0 p1 p2 p3 Q n) x7 k0 := h
      unfold F_X6_odds_61 at h
      refine lv_istore (lv' := [(5, .int k0), (3, .int p2), (4, .int p3)]) hx hb dX6_odds_61 hl (by decide) rfl (fun ls hl => ?_)
      refine lv_bipush (v := 10) hx hb dX6_odds_63 (by decide) ?_
      refine lv_iload_n hx hb dX6_odds_65 rfl (lv_at hl 1 rfl) ?_
      refine gS_i0 (As := [.int (10 : Int32), .int p2]) (rest := []) ⟨hx, hb, hml, hown, hts⟩ (c_X6_power l dC dI cyC cyI cyZ _ (10 : Int32) p2 h) (va_cwS 2 hts gX6_odds_X6_power rfl rfl rfl hdS_X6_power ⟨Nat.le_of_ble_eq_true rfl, Nat.le_of_ble_eq_true rfl⟩) hK hN hP hD hS hA [] (by decide) rfl rfl hl.1 rfl (Nat.le_of_ble_eq_true rfl) dX6_odds_66 ⟨Nat.zero_le _, Nat.zero_le _⟩ (fun r_12 H locs h hP hS => ?_)
      refine lv_istore (lv' := [(6, .int r_12), (5, .int k0), (3, .int p2), (4, .int p3)]) hx hb dX6_odds_69 hl (by decide) rfl (fun ls hl => ?_)
      refine lv_iload hx hb dX6_odds_71 (lv_at hl 1 rfl) ?_
      refine lv_iload hx hb dX6_odds_73 (lv_at hl 0 rfl) ?_
      refine gS_i0 (As := [.int k0, .int r_12]) (rest := []) ⟨hx, hb, hml, hown, hts⟩ (c_X6_commonDivisor l dC dI cyC cyI cyZ _ k0 r_12 h) (va_cwS 2 hts gX6_odds_X6_commonDivisor rfl rfl rfl hdS_X6_commonDivisor ⟨Nat.le_of_ble_eq_true rfl, Nat.le_of_ble_eq_true rfl⟩) hK hN hP hD hS hA [] (by decide) rfl rfl hl.1 rfl (Nat.le_of_ble_eq_true rfl) dX6_odds_75 ⟨Nat.zero_le _, Nat.zero_le _⟩ (fun r_13 H locs h hP hS => ?_)
      refine lv_istore (lv' := [(7, .int r_13), (6, .int r_12), (5, .int k0), (3, .int p2), (4, .int p3)]) hx hb dX6_odds_78 hl (by decide) rfl (fun ls hl => ?_)
      refine lv_iload hx hb dX6_odds_80 (lv_at hl 4 rfl) ?_
      refine lv_if_ne (tgt := 90) hx hb dX6_odds_82 (by decide) (fun c_14 => ?_) (fun c_14 => ?_)
      · replace h := h.1 c_14
        refine lv_iload hx hb dX6_odds_90 (lv_at hl 1 rfl) ?_
        exact ih92 r_13 r_12 _ _ _ h hP hD hS (lv_sub hl [0] rfl)
      · replace h := h.2 c_14
        refine lv_iload hx hb dX6_odds_85 (lv_at hl 2 rfl) ?_
        refine lv_goto (tgt := 92) hx hb dX6_odds_87 (by decide) ?_
        exact ih92 r_13 k0 _ _ _ h hP hD hS (lv_sub hl [0] rfl)
    · intro x7 k0 H locs ls h hP hD hS hl
      replace h : F_X6_odds_92 v_told_bound v_told_things v_course_rows v_told_fades p0 p1 p2 p3 Q (wp_X6_odds v_told_bound v_told_things v_course_rows v_told_fades p0 p1 p2 p3 Q n) x7 k0 := h
      unfold F_X6_odds_92 at h
      refine lv_iload hx hb dX6_odds_92 (lv_at hl 0 rfl) ?_
      refine gS_i0 (As := [.int k0, .int x7]) (rest := []) ⟨hx, hb, hml, hown, hts⟩ (c_X6_quotient l dC dI cyC cyI cyZ _ k0 x7 h) (va_cwS 2 hts gX6_odds_X6_quotient rfl rfl rfl hdS_X6_quotient ⟨Nat.le_of_ble_eq_true rfl, Nat.le_of_ble_eq_true rfl⟩) hK hN hP hD hS hA [] (by decide) rfl rfl hl.1 rfl (Nat.le_of_ble_eq_true rfl) dX6_odds_94 ⟨Nat.zero_le _, Nat.zero_le _⟩ (fun r_15 H locs h hP hS => ?_)
      exact gri0 hx hb hr hlocks h hP hD hS dX6_odds_97
set_option maxHeartbeats 4000000 in
set_option maxRecDepth 100000 in
theorem c_X6_odds (l : Launch) (dC : Nat → ClassId) (dI : Nat → Nat → Nat) (cyC cyI cyZ : ClassId) (sz : Nat) (a a_reader a_told a_draft a_course a_firstImage a_secondImage a_imageKept a_bestDigs a_heard a_told_seam a_told_yellow a_told_white a_told_fades a_told_worth a_course_rows : Nat) (v_traced : Int64) (v_told_seamTold : Int32) (v_told_boundTold : Int32) (v_told_lossTold : Int32) (v_told_bound : Int32) (v_told_loss : Int32) (v_told_things : Int32) (v_course_known : Int32) (v_course_rows : Nat → Int32) (v_told_fades : Nat → Int32) (p0 : Int32) (p1 : Int32) (p2 : Int32) (p3 : Int32) {Q : Int32 → Prop} (h : q_X6_odds v_told_bound v_told_things v_course_rows v_told_fades p0 p1 p2 p3 Q) : Met l yX6_odds wsX6_odds ({ frames := 3, cells := 0, slots := 0, locals := 74 }) (gPc [.ref a, .int p0, .int p1, .int p2, .int p3] (dC, dI) (gTy cyC cyI cyZ) sz [(a, .inr (6, [.ref a_reader, .ref a_told, .ref a_draft, .ref a_course, .ref a_firstImage, .ref a_secondImage, .ref a_imageKept, .ref a_bestDigs, .ref a_heard, .long v_traced])), (a_told, .inr (5, [.ref a_told_seam, .int v_told_seamTold, .int v_told_boundTold, .int v_told_lossTold, .int v_told_bound, .int v_told_loss, .int v_told_things, .ref a_told_yellow, .ref a_told_white, .ref a_told_fades, .ref a_told_worth])), (a_course, .inr (2, [.ref a_course_rows, .int v_course_known])), (a_course_rows, .inl (cyI, 165, .inl v_course_rows)), (a_told_fades, .inl (cyI, 6, .inl v_told_fades))]) (gQi0 Q (dC, dI) (va_A [(a, .inr (6, [.ref a_reader, .ref a_told, .ref a_draft, .ref a_course, .ref a_firstImage, .ref a_secondImage, .ref a_imageKept, .ref a_bestDigs, .ref a_heard, .long v_traced])), (a_told, .inr (5, [.ref a_told_seam, .int v_told_seamTold, .int v_told_boundTold, .int v_told_lossTold, .int v_told_bound, .int v_told_loss, .int v_told_things, .ref a_told_yellow, .ref a_told_white, .ref a_told_fades, .ref a_told_worth])), (a_course, .inr (2, [.ref a_course_rows, .int v_course_known])), (a_course_rows, .inl (cyI, 165, .inl v_course_rows)), (a_told_fades, .inl (cyI, 6, .inl v_told_fades))] sz) [(a, .inr (6, [.ref a_reader, .ref a_told, .ref a_draft, .ref a_course, .ref a_firstImage, .ref a_secondImage, .ref a_imageKept, .ref a_bestDigs, .ref a_heard, .long v_traced])), (a_told, .inr (5, [.ref a_told_seam, .int v_told_seamTold, .int v_told_boundTold, .int v_told_lossTold, .int v_told_bound, .int v_told_loss, .int v_told_things, .ref a_told_yellow, .ref a_told_white, .ref a_told_fades, .ref a_told_worth])), (a_course, .inr (2, [.ref a_course_rows, .int v_course_known])), (a_course_rows, .inl (cyI, 165, .inl v_course_rows)), (a_told_fades, .inl (cyI, 6, .inl v_told_fades))]) 0 0 (va_A [(a, .inr (6, [.ref a_reader, .ref a_told, .ref a_draft, .ref a_course, .ref a_firstImage, .ref a_secondImage, .ref a_imageKept, .ref a_bestDigs, .ref a_heard, .long v_traced])), (a_told, .inr (5, [.ref a_told_seam, .int v_told_seamTold, .int v_told_boundTold, .int v_told_lossTold, .int v_told_bound, .int v_told_loss, .int v_told_things, .ref a_told_yellow, .ref a_told_white, .ref a_told_fades, .ref a_told_worth])), (a_course, .inr (2, [.ref a_course_rows, .int v_course_known])), (a_course_rows, .inl (cyI, 165, .inl v_course_rows)), (a_told_fades, .inl (cyI, 6, .inl v_told_fades))] sz) := by
  refine gMet (cc := cX6_odds) (maxL := 8) (ret := (some .int)) (own := RX6) (fun A => gQi0 Q (dC, dI) A [(a, .inr (6, [.ref a_reader, .ref a_told, .ref a_draft, .ref a_course, .ref a_firstImage, .ref a_secondImage, .ref a_imageKept, .ref a_bestDigs, .ref a_heard, .long v_traced])), (a_told, .inr (5, [.ref a_told_seam, .int v_told_seamTold, .int v_told_boundTold, .int v_told_lossTold, .int v_told_bound, .int v_told_loss, .int v_told_things, .ref a_told_yellow, .ref a_told_white, .ref a_told_fades, .ref a_told_worth])), (a_course, .inr (2, [.ref a_course_rows, .int v_course_known])), (a_course_rows, .inl (cyI, 165, .inl v_course_rows)), (a_told_fades, .inl (cyI, 6, .inl v_told_fades))]) (by decide) rfl rfl (Nat.le_of_ble_eq_true rfl) ?_
  intro p e s m below meth c A ls C0 _ hK hN hP hD hA hl
  obtain ⟨hx, hb, hr, hml, hown, hts, hlocks⟩ := id C0
  have hS : va_S A s.heap s.heap [] := va_S.rf
  replace hl : lv_has ls 8 [(0, .ref a), (1, .int p0), (2, .int p1), (3, .int p2), (4, .int p3)] := hl
  unfold q_X6_odds at h
  obtain ⟨n, h⟩ := h
  obtain ⟨ih61, ih92⟩ := w_X6_odds (l := l) (e := e) (below := below) dC dI cyC cyI cyZ a a_reader a_told a_draft a_course a_firstImage a_secondImage a_imageKept a_bestDigs a_heard a_told_seam a_told_yellow a_told_white a_told_fades a_told_worth a_course_rows v_traced v_told_seamTold v_told_boundTold v_told_lossTold v_told_bound v_told_loss v_told_things v_course_known v_course_rows v_told_fades p0 p1 p2 p3 Q C0 hK hN hA n
  unfold F_X6_odds_e at h
  refine lv_aload_n hx hb dX6_odds_0 rfl (lv_at hl 0 rfl) ?_
  refine lv_iload_n hx hb dX6_odds_1 rfl (lv_at hl 1 rfl) ?_
  refine gV_i0 (As := [.int p0]) (rest := []) ⟨hx, hb, hml, hown, hts⟩ (c_X6_isThing l dC dI cyC cyI cyZ _ a a_reader a_told a_draft a_course a_firstImage a_secondImage a_imageKept a_bestDigs a_heard a_told_seam a_told_yellow a_told_white a_told_fades a_told_worth v_traced v_told_seamTold v_told_boundTold v_told_lossTold v_told_bound v_told_loss v_told_things p0 h) (cwV 1 hts gX6_odds_X6_isThing rfl rfl rfl hdV_X6_isThing ⟨Nat.le_of_ble_eq_true rfl, Nat.le_of_ble_eq_true rfl⟩) hK hN hP hD hS hA [0, 1] (by decide) rfl (ci := 6) rfl rfl rfl hl.1 rfl (Nat.le_of_ble_eq_true rfl) dX6_odds_2 ⟨Nat.zero_le _, Nat.zero_le _⟩ (fun r_1 H locs h hP hS => ?_)
  refine lv_if_eq (tgt := 38) hx hb dX6_odds_5 (by decide) (fun c_2 => ?_) (fun c_2 => ?_)
  · replace h := h.1 c_2
    refine lv_iconst (v := -1) hx hb dX6_odds_38 (by decide) ?_
    exact gri0 hx hb hr hlocks h hP hD hS dX6_odds_39
  · replace h := h.2 c_2
    refine lv_iload_n hx hb dX6_odds_8 rfl (lv_at hl 2 rfl) ?_
    refine lv_iconst (v := 0) hx hb dX6_odds_9 (by decide) ?_
    refine lv_bipush (v := 10) hx hb dX6_odds_10 (by decide) ?_
    refine gS_i0 (As := [.int p1, .int (0 : Int32), .int (10 : Int32)]) (rest := []) ⟨hx, hb, hml, hown, hts⟩ (c_X6_within l dC dI cyC cyI cyZ _ p1 (0 : Int32) (10 : Int32) h) (va_cwS 3 hts gX6_odds_X6_within rfl rfl rfl hdS_X6_within ⟨Nat.le_of_ble_eq_true rfl, Nat.le_of_ble_eq_true rfl⟩) hK hN hP hD hS hA [] (by decide) rfl rfl hl.1 rfl (Nat.le_of_ble_eq_true rfl) dX6_odds_12 ⟨Nat.zero_le _, Nat.zero_le _⟩ (fun r_3 H locs h hP hS => ?_)
    refine lv_if_eq (tgt := 38) hx hb dX6_odds_15 (by decide) (fun c_4 => ?_) (fun c_4 => ?_)
    · replace h := h.1 c_4
      refine lv_iconst (v := -1) hx hb dX6_odds_38 (by decide) ?_
      exact gri0 hx hb hr hlocks h hP hD hS dX6_odds_39
    · replace h := h.2 c_4
      refine lv_iload_n hx hb dX6_odds_18 rfl (lv_at hl 3 rfl) ?_
      refine lv_iconst (v := 0) hx hb dX6_odds_19 (by decide) ?_
      refine lv_bipush (v := 8) hx hb dX6_odds_20 (by decide) ?_
      refine gS_i0 (As := [.int p2, .int (0 : Int32), .int (8 : Int32)]) (rest := []) ⟨hx, hb, hml, hown, hts⟩ (c_X6_within l dC dI cyC cyI cyZ _ p2 (0 : Int32) (8 : Int32) h) (va_cwS 3 hts gX6_odds_X6_within rfl rfl rfl hdS_X6_within ⟨Nat.le_of_ble_eq_true rfl, Nat.le_of_ble_eq_true rfl⟩) hK hN hP hD hS hA [] (by decide) rfl rfl hl.1 rfl (Nat.le_of_ble_eq_true rfl) dX6_odds_22 ⟨Nat.zero_le _, Nat.zero_le _⟩ (fun r_5 H locs h hP hS => ?_)
      refine lv_if_eq (tgt := 38) hx hb dX6_odds_25 (by decide) (fun c_6 => ?_) (fun c_6 => ?_)
      · replace h := h.1 c_6
        refine lv_iconst (v := -1) hx hb dX6_odds_38 (by decide) ?_
        exact gri0 hx hb hr hlocks h hP hD hS dX6_odds_39
      · replace h := h.2 c_6
        refine lv_iload hx hb dX6_odds_28 (lv_at hl 4 rfl) ?_
        refine lv_iconst (v := 0) hx hb dX6_odds_30 (by decide) ?_
        refine lv_iconst (v := 1) hx hb dX6_odds_31 (by decide) ?_
        refine gS_i0 (As := [.int p3, .int (0 : Int32), .int (1 : Int32)]) (rest := []) ⟨hx, hb, hml, hown, hts⟩ (c_X6_within l dC dI cyC cyI cyZ _ p3 (0 : Int32) (1 : Int32) h) (va_cwS 3 hts gX6_odds_X6_within rfl rfl rfl hdS_X6_within ⟨Nat.le_of_ble_eq_true rfl, Nat.le_of_ble_eq_true rfl⟩) hK hN hP hD hS hA [] (by decide) rfl rfl hl.1 rfl (Nat.le_of_ble_eq_true rfl) dX6_odds_32 ⟨Nat.zero_le _, Nat.zero_le _⟩ (fun r_7 H locs h hP hS => ?_)
        refine lv_if_ne (tgt := 40) hx hb dX6_odds_35 (by decide) (fun c_8 => ?_) (fun c_8 => ?_)
        · replace h := h.1 c_8
          refine lv_aload_n hx hb dX6_odds_40 rfl (lv_at hl 0 rfl) ?_
          refine lv_iload_n hx hb dX6_odds_41 rfl (lv_at hl 1 rfl) ?_
          refine lv_iload_n hx hb dX6_odds_42 rfl (lv_at hl 3 rfl) ?_
          refine gV_i0 (As := [.int p0, .int p2]) (rest := []) ⟨hx, hb, hml, hown, hts⟩ (c_X6_calledAfter l dC dI cyC cyI cyZ _ a a_reader a_told a_draft a_course a_firstImage a_secondImage a_imageKept a_bestDigs a_heard a_course_rows a_told_seam a_told_yellow a_told_white a_told_fades a_told_worth v_traced v_course_known v_told_seamTold v_told_boundTold v_told_lossTold v_told_bound v_told_loss v_told_things v_course_rows v_told_fades p0 p2 h) (cwV 2 hts gX6_odds_X6_calledAfter rfl rfl rfl hdV_X6_calledAfter ⟨Nat.le_of_ble_eq_true rfl, Nat.le_of_ble_eq_true rfl⟩) hK hN hP hD hS hA [0, 2, 1, 3, 4] (by decide) rfl (ci := 6) rfl rfl rfl hl.1 rfl (Nat.le_of_ble_eq_true rfl) dX6_odds_43 ⟨Nat.zero_le _, Nat.zero_le _⟩ (fun r_9 H locs h hP hS => ?_)
          refine lv_if_eq (tgt := 60) hx hb dX6_odds_46 (by decide) (fun c_10 => ?_) (fun c_10 => ?_)
          · replace h := h.1 c_10
            refine lv_iconst (v := 0) hx hb dX6_odds_60 (by decide) ?_
            exact ih61 0 (0 : Int32) _ _ _ h hP hD hS (lv_sub hl [3, 4] rfl)
          · replace h := h.2 c_10
            refine lv_bipush (v := 10) hx hb dX6_odds_49 (by decide) ?_
            refine lv_iload_n hx hb dX6_odds_51 rfl (lv_at hl 2 rfl) ?_
            refine lv_isub hx hb dX6_odds_52 ?_
            refine lv_iload_n hx hb dX6_odds_53 rfl (lv_at hl 3 rfl) ?_
            refine gS_i0 (As := [.int ((10 : Int32) - p1), .int p2]) (rest := []) ⟨hx, hb, hml, hown, hts⟩ (c_X6_power l dC dI cyC cyI cyZ _ ((10 : Int32) - p1) p2 h) (va_cwS 2 hts gX6_odds_X6_power rfl rfl rfl hdS_X6_power ⟨Nat.le_of_ble_eq_true rfl, Nat.le_of_ble_eq_true rfl⟩) hK hN hP hD hS hA [] (by decide) rfl rfl hl.1 rfl (Nat.le_of_ble_eq_true rfl) dX6_odds_54 ⟨Nat.zero_le _, Nat.zero_le _⟩ (fun r_11 H locs h hP hS => ?_)
            refine lv_goto (tgt := 61) hx hb dX6_odds_57 (by decide) ?_
            exact ih61 0 r_11 _ _ _ h hP hD hS (lv_sub hl [3, 4] rfl)
        · replace h := h.2 c_8
          refine lv_iconst (v := -1) hx hb dX6_odds_38 (by decide) ?_
          exact gri0 hx hb hr hlocks h hP hD hS dX6_odds_39

def F_X6_came_e (p0 : Int32) (Q : Int32 → Int32 → Int32 → (Nat → Int32) → Prop) (v_heard_length : Int32) (v_heard_lookedFrom : Int32) (v_heard_parts : Nat → Int32) : Prop :=
  q_X6_within p0 (0 : Int32) (9 : Int32) (fun (r_1 : Int32) => (¬ r_1 = 0 → (q_X1_add v_heard_length v_heard_lookedFrom v_heard_parts p0 (fun (r_3 : Int32) (u_4 : Int32) (u_5 : Int32) (u_6 : Nat → Int32) => (r_3 = 0 → (Q (-3 : Int32) u_4 u_5 u_6)) ∧ (¬ r_3 = 0 → (Q u_4 u_4 u_5 u_6))))) ∧ (r_1 = 0 → (Q (-1 : Int32) v_heard_length v_heard_lookedFrom v_heard_parts)))
def q_X6_came (v_heard_length : Int32) (v_heard_lookedFrom : Int32) (v_heard_parts : Nat → Int32) (p0 : Int32) (Q : Int32 → Int32 → Int32 → (Nat → Int32) → Prop) : Prop := F_X6_came_e p0 Q v_heard_length v_heard_lookedFrom v_heard_parts
theorem iwX6_came_X1 : ∀ w ∈ wsX10, w ∈ wsX6_came := by decide +kernel
theorem iwX6_came_X6 : ∀ w ∈ wsX60, w ∈ wsX6_came := by decide +kernel
theorem hdV_X6_came : yX6_came.cls = RX6 ∧ yX6_came.cls ≠ "java/lang/invoke/MethodHandle" ∧ yX6_came.cls ≠ "java/lang/invoke/VarHandle" ∧ (parseMethodDescriptor yX6_came.desc).map (fun d => d.parameters.length) = some 1 := by decide +kernel
set_option maxHeartbeats 4000000 in
set_option maxRecDepth 100000 in
theorem c_X6_came (l : Launch) (dC : Nat → ClassId) (dI : Nat → Nat → Nat) (cyC cyI cyZ : ClassId) (sz : Nat) (a a_reader a_told a_draft a_course a_firstImage a_secondImage a_imageKept a_bestDigs a_heard a_heard_parts a_heard_path a_heard_firstRow : Nat) (v_traced : Int64) (v_heard_length : Int32) (v_heard_found : Int32) (v_heard_inEach : Int32) (v_heard_lookedFrom : Int32) (v_heard_parts : Nat → Int32) (p0 : Int32) {Q : Int32 → Int32 → Int32 → (Nat → Int32) → Prop} (h : q_X6_came v_heard_length v_heard_lookedFrom v_heard_parts p0 Q) : Met l yX6_came wsX6_came ({ frames := 1, cells := 0, slots := 0, locals := 22 }) (gPc [.ref a, .int p0] (dC, dI) (gTy cyC cyI cyZ) sz [(a, .inr (6, [.ref a_reader, .ref a_told, .ref a_draft, .ref a_course, .ref a_firstImage, .ref a_secondImage, .ref a_imageKept, .ref a_bestDigs, .ref a_heard, .long v_traced])), (a_heard, .inr (1, [.ref a_heard_parts, .int v_heard_length, .ref a_heard_path, .ref a_heard_firstRow, .int v_heard_found, .int v_heard_inEach, .int v_heard_lookedFrom])), (a_heard_parts, .inl (cyI, 5, .inl v_heard_parts))]) (gQi3 Q (dC, dI) (va_A [(a, .inr (6, [.ref a_reader, .ref a_told, .ref a_draft, .ref a_course, .ref a_firstImage, .ref a_secondImage, .ref a_imageKept, .ref a_bestDigs, .ref a_heard, .long v_traced])), (a_heard, .inr (1, [.ref a_heard_parts, .int v_heard_length, .ref a_heard_path, .ref a_heard_firstRow, .int v_heard_found, .int v_heard_inEach, .int v_heard_lookedFrom])), (a_heard_parts, .inl (cyI, 5, .inl v_heard_parts))] sz) (fun (u1 : Int32) (u2 : Int32) (u3 : Nat → Int32) => [(a, .inr (6, [.ref a_reader, .ref a_told, .ref a_draft, .ref a_course, .ref a_firstImage, .ref a_secondImage, .ref a_imageKept, .ref a_bestDigs, .ref a_heard, .long v_traced])), (a_heard, .inr (1, [.ref a_heard_parts, .int u1, .ref a_heard_path, .ref a_heard_firstRow, .int v_heard_found, .int v_heard_inEach, .int u2])), (a_heard_parts, .inl (cyI, 5, .inl u3))])) 0 0 (va_A [(a, .inr (6, [.ref a_reader, .ref a_told, .ref a_draft, .ref a_course, .ref a_firstImage, .ref a_secondImage, .ref a_imageKept, .ref a_bestDigs, .ref a_heard, .long v_traced])), (a_heard, .inr (1, [.ref a_heard_parts, .int v_heard_length, .ref a_heard_path, .ref a_heard_firstRow, .int v_heard_found, .int v_heard_inEach, .int v_heard_lookedFrom])), (a_heard_parts, .inl (cyI, 5, .inl v_heard_parts))] sz) := by
  refine gMet (cc := cX6_came) (maxL := 2) (ret := (some .int)) (own := RX6) (fun A => gQi3 Q (dC, dI) A (fun (u1 : Int32) (u2 : Int32) (u3 : Nat → Int32) => [(a, .inr (6, [.ref a_reader, .ref a_told, .ref a_draft, .ref a_course, .ref a_firstImage, .ref a_secondImage, .ref a_imageKept, .ref a_bestDigs, .ref a_heard, .long v_traced])), (a_heard, .inr (1, [.ref a_heard_parts, .int u1, .ref a_heard_path, .ref a_heard_firstRow, .int v_heard_found, .int v_heard_inEach, .int u2])), (a_heard_parts, .inl (cyI, 5, .inl u3))])) (by decide) rfl rfl (Nat.le_of_ble_eq_true rfl) ?_
  intro p e s m below meth c A ls C0 _ hK hN hP hD hA hl
  obtain ⟨hx, hb, hr, hml, hown, hts, hlocks⟩ := id C0
  have f240 := hN.link (args := ([.ref a, .int p0].toArray)) (w := .fieldLinkNest RX6 240 "LastOchre$Came" "length" "I" "LastOchre") 31 rfl
  have f53 := hts (.fieldLink RX6 53 "LastOchre" "heard" "LLastOchre$Came;") (by decide +kernel)
  have hS : va_S A s.heap s.heap [] := va_S.rf
  replace hl : lv_has ls 2 [(0, .ref a), (1, .int p0)] := hl
  unfold q_X6_came at h
  unfold F_X6_came_e at h
  refine lv_iload_n hx hb dX6_came_0 rfl (lv_at hl 1 rfl) ?_
  refine lv_iconst (v := 0) hx hb dX6_came_1 (by decide) ?_
  refine lv_bipush (v := 9) hx hb dX6_came_2 (by decide) ?_
  refine gS_i0 (As := [.int p0, .int (0 : Int32), .int (9 : Int32)]) (rest := []) ⟨hx, hb, hml, hown, hts⟩ (c_X6_within l dC dI cyC cyI cyZ _ p0 (0 : Int32) (9 : Int32) h) (va_cwS 3 hts gX6_came_X6_within rfl rfl rfl hdS_X6_within ⟨Nat.le_of_ble_eq_true rfl, Nat.le_of_ble_eq_true rfl⟩) hK hN hP hD hS hA [] (by decide) rfl rfl hl.1 rfl (Nat.le_of_ble_eq_true rfl) dX6_came_4 ⟨Nat.zero_le _, Nat.zero_le _⟩ (fun r_1 H locs h hP hS => ?_)
  refine lv_if_ne (tgt := 12) hx hb dX6_came_7 (by decide) (fun c_2 => ?_) (fun c_2 => ?_)
  · replace h := h.1 c_2
    refine lv_aload_n hx hb dX6_came_12 rfl (lv_at hl 0 rfl) ?_
    refine va_get (D := (dC, dI)) (ci := 6) (v := .ref a_heard) (C := RX6) (T := TX6) (N := 10) hx hb hts iwX6_came_X6 hown hK hP 0 rfl rfl 8 (by decide) f53 (fun _ h9 => h9) rfl dX6_came_13 ?_
    refine lv_iload_n hx hb dX6_came_16 rfl (lv_at hl 1 rfl) ?_
    refine gV_i3 (As := [.int p0]) (rest := []) ⟨hx, hb, hml, hown, hts⟩ (c_X1_add l dC dI cyC cyI cyZ _ a_heard a_heard_parts a_heard_path a_heard_firstRow v_heard_length v_heard_found v_heard_inEach v_heard_lookedFrom v_heard_parts p0 h) (cwV 1 hts gX6_came_X1_add rfl rfl rfl hdV_X1_add ⟨Nat.le_of_ble_eq_true rfl, Nat.le_of_ble_eq_true rfl⟩) hK hN hP hD hS hA [1, 2] (by decide) rfl (ci := 1) rfl rfl rfl hl.1 rfl (Nat.le_of_ble_eq_true rfl) dX6_came_17 ⟨Nat.zero_le _, Nat.zero_le _⟩ (wr := [(a, .inr (6, [.ref a_reader, .ref a_told, .ref a_draft, .ref a_course, .ref a_firstImage, .ref a_secondImage, .ref a_imageKept, .ref a_bestDigs, .ref a_heard, .long v_traced]))]) [0] rfl (by decide) (by decide) (fun r_3 u_4 u_5 u_6 H locs h hP hD hS => ?_)
    replace hP : va_P (dC, dI) vwCl [(a, .inr (6, [.ref a_reader, .ref a_told, .ref a_draft, .ref a_course, .ref a_firstImage, .ref a_secondImage, .ref a_imageKept, .ref a_bestDigs, .ref a_heard, .long v_traced])), (a_heard, .inr (1, [.ref a_heard_parts, .int u_4, .ref a_heard_path, .ref a_heard_firstRow, .int v_heard_found, .int v_heard_inEach, .int u_5])), (a_heard_parts, .inl (cyI, 5, .inl u_6))] H := hP
    replace hD : va_D A [(a, .inr (6, [.ref a_reader, .ref a_told, .ref a_draft, .ref a_course, .ref a_firstImage, .ref a_secondImage, .ref a_imageKept, .ref a_bestDigs, .ref a_heard, .long v_traced])), (a_heard, .inr (1, [.ref a_heard_parts, .int u_4, .ref a_heard_path, .ref a_heard_firstRow, .int v_heard_found, .int v_heard_inEach, .int u_5])), (a_heard_parts, .inl (cyI, 5, .inl u_6))] := hD
    refine lv_if_eq (tgt := 33) hx hb dX6_came_20 (by decide) (fun c_7 => ?_) (fun c_7 => ?_)
    · replace h := h.1 c_7
      refine lv_bipush (v := -3) hx hb dX6_came_33 (by decide) ?_
      exact gri3 hx hb hr hlocks h hP hD hS dX6_came_35
    · replace h := h.2 c_7
      refine lv_aload_n hx hb dX6_came_23 rfl (lv_at hl 0 rfl) ?_
      refine va_get (D := (dC, dI)) (ci := 6) (v := .ref a_heard) (C := RX6) (T := TX6) (N := 10) hx hb hts iwX6_came_X6 hown hK hP 0 rfl rfl 8 (by decide) f53 (fun _ h9 => h9) rfl dX6_came_24 ?_
      refine va_getN (host := "LastOchre") (D := (dC, dI)) (ci := 1) (v := .int u_4) (C := RX1) (T := TX1) (N := 7) hx hb hts iwX6_came_X1 hown hK hP 1 rfl rfl 1 (by decide) f240 (fun _ h9 => h9) rfl dX6_came_27 ?_
      refine lv_goto (tgt := 35) hx hb dX6_came_30 (by decide) ?_
      exact gri3 hx hb hr hlocks h hP hD hS dX6_came_35
  · replace h := h.2 c_2
    refine lv_iconst (v := -1) hx hb dX6_came_10 (by decide) ?_
    exact gri3 hx hb hr hlocks h hP hD hS dX6_came_11

def F_X6_forget_e  (Q : Int32 → Int32 → Int32 → Prop) (v_heard_length : Int32) (v_heard_lookedFrom : Int32) : Prop :=
  q_X1_wipe v_heard_length v_heard_lookedFrom (fun (u_1 : Int32) (u_2 : Int32) => Q v_heard_length u_1 u_2)
def q_X6_forget (v_heard_length : Int32) (v_heard_lookedFrom : Int32) (Q : Int32 → Int32 → Int32 → Prop) : Prop := F_X6_forget_e  Q v_heard_length v_heard_lookedFrom
theorem iwX6_forget_X1 : ∀ w ∈ wsX10, w ∈ wsX6_forget := by decide +kernel
theorem iwX6_forget_X6 : ∀ w ∈ wsX60, w ∈ wsX6_forget := by decide +kernel
theorem hdV_X6_forget : yX6_forget.cls = RX6 ∧ yX6_forget.cls ≠ "java/lang/invoke/MethodHandle" ∧ yX6_forget.cls ≠ "java/lang/invoke/VarHandle" ∧ (parseMethodDescriptor yX6_forget.desc).map (fun d => d.parameters.length) = some 0 := by decide +kernel
set_option maxHeartbeats 4000000 in
set_option maxRecDepth 100000 in
theorem c_X6_forget (l : Launch) (dC : Nat → ClassId) (dI : Nat → Nat → Nat) (cyC cyI cyZ : ClassId) (sz : Nat) (a a_reader a_told a_draft a_course a_firstImage a_secondImage a_imageKept a_bestDigs a_heard a_heard_parts a_heard_path a_heard_firstRow : Nat) (v_traced : Int64) (v_heard_length : Int32) (v_heard_found : Int32) (v_heard_inEach : Int32) (v_heard_lookedFrom : Int32) {Q : Int32 → Int32 → Int32 → Prop} (h : q_X6_forget v_heard_length v_heard_lookedFrom Q) : Met l yX6_forget wsX6_forget ({ frames := 1, cells := 0, slots := 0, locals := 20 }) (gPc [.ref a] (dC, dI) (gTy cyC cyI cyZ) sz [(a, .inr (6, [.ref a_reader, .ref a_told, .ref a_draft, .ref a_course, .ref a_firstImage, .ref a_secondImage, .ref a_imageKept, .ref a_bestDigs, .ref a_heard, .long v_traced])), (a_heard, .inr (1, [.ref a_heard_parts, .int v_heard_length, .ref a_heard_path, .ref a_heard_firstRow, .int v_heard_found, .int v_heard_inEach, .int v_heard_lookedFrom]))]) (gQi2 Q (dC, dI) (va_A [(a, .inr (6, [.ref a_reader, .ref a_told, .ref a_draft, .ref a_course, .ref a_firstImage, .ref a_secondImage, .ref a_imageKept, .ref a_bestDigs, .ref a_heard, .long v_traced])), (a_heard, .inr (1, [.ref a_heard_parts, .int v_heard_length, .ref a_heard_path, .ref a_heard_firstRow, .int v_heard_found, .int v_heard_inEach, .int v_heard_lookedFrom]))] sz) (fun (u1 : Int32) (u2 : Int32) => [(a, .inr (6, [.ref a_reader, .ref a_told, .ref a_draft, .ref a_course, .ref a_firstImage, .ref a_secondImage, .ref a_imageKept, .ref a_bestDigs, .ref a_heard, .long v_traced])), (a_heard, .inr (1, [.ref a_heard_parts, .int u1, .ref a_heard_path, .ref a_heard_firstRow, .int v_heard_found, .int v_heard_inEach, .int u2]))])) 0 0 (va_A [(a, .inr (6, [.ref a_reader, .ref a_told, .ref a_draft, .ref a_course, .ref a_firstImage, .ref a_secondImage, .ref a_imageKept, .ref a_bestDigs, .ref a_heard, .long v_traced])), (a_heard, .inr (1, [.ref a_heard_parts, .int v_heard_length, .ref a_heard_path, .ref a_heard_firstRow, .int v_heard_found, .int v_heard_inEach, .int v_heard_lookedFrom]))] sz) := by
  refine gMet (cc := cX6_forget) (maxL := 2) (ret := (some .int)) (own := RX6) (fun A => gQi2 Q (dC, dI) A (fun (u1 : Int32) (u2 : Int32) => [(a, .inr (6, [.ref a_reader, .ref a_told, .ref a_draft, .ref a_course, .ref a_firstImage, .ref a_secondImage, .ref a_imageKept, .ref a_bestDigs, .ref a_heard, .long v_traced])), (a_heard, .inr (1, [.ref a_heard_parts, .int u1, .ref a_heard_path, .ref a_heard_firstRow, .int v_heard_found, .int v_heard_inEach, .int u2]))])) (by decide) rfl rfl (Nat.le_of_ble_eq_true rfl) ?_
  intro p e s m below meth c A ls C0 _ hK hN hP hD hA hl
  obtain ⟨hx, hb, hr, hml, hown, hts, hlocks⟩ := id C0
  have f240 := hN.link (args := ([.ref a].toArray)) (w := .fieldLinkNest RX6 240 "LastOchre$Came" "length" "I" "LastOchre") 31 rfl
  have f53 := hts (.fieldLink RX6 53 "LastOchre" "heard" "LLastOchre$Came;") (by decide +kernel)
  have hS : va_S A s.heap s.heap [] := va_S.rf
  replace hl : lv_has ls 2 [(0, .ref a)] := hl
  unfold q_X6_forget at h
  unfold F_X6_forget_e at h
  refine lv_aload_n hx hb dX6_forget_0 rfl (lv_at hl 0 rfl) ?_
  refine va_get (D := (dC, dI)) (ci := 6) (v := .ref a_heard) (C := RX6) (T := TX6) (N := 10) hx hb hts iwX6_forget_X6 hown hK hP 0 rfl rfl 8 (by decide) f53 (fun _ h9 => h9) rfl dX6_forget_1 ?_
  refine va_getN (host := "LastOchre") (D := (dC, dI)) (ci := 1) (v := .int v_heard_length) (C := RX1) (T := TX1) (N := 7) hx hb hts iwX6_forget_X1 hown hK hP 1 rfl rfl 1 (by decide) f240 (fun _ h9 => h9) rfl dX6_forget_4 ?_
  refine lv_istore_n (lv' := [(1, .int v_heard_length), (0, .ref a)]) hx hb dX6_forget_7 rfl hl (by decide) rfl (fun ls hl => ?_)
  refine lv_aload_n hx hb dX6_forget_8 rfl (lv_at hl 1 rfl) ?_
  refine va_get (D := (dC, dI)) (ci := 6) (v := .ref a_heard) (C := RX6) (T := TX6) (N := 10) hx hb hts iwX6_forget_X6 hown hK hP 0 rfl rfl 8 (by decide) f53 (fun _ h9 => h9) rfl dX6_forget_9 ?_
  refine gV_v2 (As := []) (rest := []) ⟨hx, hb, hml, hown, hts⟩ (c_X1_wipe l dC dI cyC cyI cyZ _ a_heard a_heard_parts a_heard_path a_heard_firstRow v_heard_length v_heard_found v_heard_inEach v_heard_lookedFrom h) (cwV 0 hts gX6_forget_X1_wipe rfl rfl rfl hdV_X1_wipe ⟨Nat.le_of_ble_eq_true rfl, Nat.le_of_ble_eq_true rfl⟩) hK hN hP hD hS hA [1] (by decide) rfl (ci := 1) rfl rfl rfl hl.1 rfl (Nat.le_of_ble_eq_true rfl) dX6_forget_12 ⟨Nat.zero_le _, Nat.zero_le _⟩ (wr := [(a, .inr (6, [.ref a_reader, .ref a_told, .ref a_draft, .ref a_course, .ref a_firstImage, .ref a_secondImage, .ref a_imageKept, .ref a_bestDigs, .ref a_heard, .long v_traced]))]) [0] rfl (by decide) (by decide) (fun u_1 u_2 H locs h hP hD hS => ?_)
  replace hP : va_P (dC, dI) vwCl [(a, .inr (6, [.ref a_reader, .ref a_told, .ref a_draft, .ref a_course, .ref a_firstImage, .ref a_secondImage, .ref a_imageKept, .ref a_bestDigs, .ref a_heard, .long v_traced])), (a_heard, .inr (1, [.ref a_heard_parts, .int u_1, .ref a_heard_path, .ref a_heard_firstRow, .int v_heard_found, .int v_heard_inEach, .int u_2]))] H := hP
  replace hD : va_D A [(a, .inr (6, [.ref a_reader, .ref a_told, .ref a_draft, .ref a_course, .ref a_firstImage, .ref a_secondImage, .ref a_imageKept, .ref a_bestDigs, .ref a_heard, .long v_traced])), (a_heard, .inr (1, [.ref a_heard_parts, .int u_1, .ref a_heard_path, .ref a_heard_firstRow, .int v_heard_found, .int v_heard_inEach, .int u_2]))] := hD
  refine lv_iload_n hx hb dX6_forget_15 rfl (lv_at hl 0 rfl) ?_
  exact gri2 hx hb hr hlocks h hP hD hS dX6_forget_16

def F_X6_markThing_e (v_course_rows : Nat → Int32) (p0 : Int32) (Q : Int32 → Int64 → Prop) (v_traced : Int64) : Prop :=
  ∀ n_1 : Int64, n_1 = (v_traced + (1 : Int64)) → (q_X2_yellow v_course_rows p0 (fun (r_3 : Int32) => Q r_3 n_1))
def q_X6_markThing (v_traced : Int64) (v_course_rows : Nat → Int32) (p0 : Int32) (Q : Int32 → Int64 → Prop) : Prop := F_X6_markThing_e v_course_rows p0 Q v_traced
theorem iwX6_markThing_X6 : ∀ w ∈ wsX60, w ∈ wsX6_markThing := by decide +kernel
theorem hdV_X6_markThing : yX6_markThing.cls = RX6 ∧ yX6_markThing.cls ≠ "java/lang/invoke/MethodHandle" ∧ yX6_markThing.cls ≠ "java/lang/invoke/VarHandle" ∧ (parseMethodDescriptor yX6_markThing.desc).map (fun d => d.parameters.length) = some 1 := by decide +kernel
set_option maxHeartbeats 4000000 in
set_option maxRecDepth 100000 in
theorem c_X6_markThing (l : Launch) (dC : Nat → ClassId) (dI : Nat → Nat → Nat) (cyC cyI cyZ : ClassId) (sz : Nat) (a a_reader a_told a_draft a_course a_firstImage a_secondImage a_imageKept a_bestDigs a_heard a_course_rows : Nat) (v_traced : Int64) (v_course_known : Int32) (v_course_rows : Nat → Int32) (p0 : Int32) {Q : Int32 → Int64 → Prop} (h : q_X6_markThing v_traced v_course_rows p0 Q) : Met l yX6_markThing wsX6_markThing ({ frames := 1, cells := 0, slots := 0, locals := 21 }) (gPc [.ref a, .int p0] (dC, dI) (gTy cyC cyI cyZ) sz [(a, .inr (6, [.ref a_reader, .ref a_told, .ref a_draft, .ref a_course, .ref a_firstImage, .ref a_secondImage, .ref a_imageKept, .ref a_bestDigs, .ref a_heard, .long v_traced])), (a_course, .inr (2, [.ref a_course_rows, .int v_course_known])), (a_course_rows, .inl (cyI, 165, .inl v_course_rows))]) (gQi1 Q (dC, dI) (va_A [(a, .inr (6, [.ref a_reader, .ref a_told, .ref a_draft, .ref a_course, .ref a_firstImage, .ref a_secondImage, .ref a_imageKept, .ref a_bestDigs, .ref a_heard, .long v_traced])), (a_course, .inr (2, [.ref a_course_rows, .int v_course_known])), (a_course_rows, .inl (cyI, 165, .inl v_course_rows))] sz) (fun (u1 : Int64) => [(a, .inr (6, [.ref a_reader, .ref a_told, .ref a_draft, .ref a_course, .ref a_firstImage, .ref a_secondImage, .ref a_imageKept, .ref a_bestDigs, .ref a_heard, .long u1])), (a_course, .inr (2, [.ref a_course_rows, .int v_course_known])), (a_course_rows, .inl (cyI, 165, .inl v_course_rows))])) 0 0 (va_A [(a, .inr (6, [.ref a_reader, .ref a_told, .ref a_draft, .ref a_course, .ref a_firstImage, .ref a_secondImage, .ref a_imageKept, .ref a_bestDigs, .ref a_heard, .long v_traced])), (a_course, .inr (2, [.ref a_course_rows, .int v_course_known])), (a_course_rows, .inl (cyI, 165, .inl v_course_rows))] sz) := by
  refine gMet (cc := cX6_markThing) (maxL := 2) (ret := (some .int)) (own := RX6) (fun A => gQi1 Q (dC, dI) A (fun (u1 : Int64) => [(a, .inr (6, [.ref a_reader, .ref a_told, .ref a_draft, .ref a_course, .ref a_firstImage, .ref a_secondImage, .ref a_imageKept, .ref a_bestDigs, .ref a_heard, .long u1])), (a_course, .inr (2, [.ref a_course_rows, .int v_course_known])), (a_course_rows, .inl (cyI, 165, .inl v_course_rows))])) (by decide) rfl rfl (Nat.le_of_ble_eq_true rfl) ?_
  intro p e s m below meth c A ls C0 _ hK hN hP hD hA hl
  obtain ⟨hx, hb, hr, hml, hown, hts, hlocks⟩ := id C0
  have f29 := hts (.fieldLink RX6 29 "LastOchre" "course" "LLastOchre$Course;") (by decide +kernel)
  have f57 := hts (.fieldLink RX6 57 "LastOchre" "traced" "J") (by decide +kernel)
  have hS : va_S A s.heap s.heap [] := va_S.rf
  replace hl : lv_has ls 2 [(0, .ref a), (1, .int p0)] := hl
  unfold q_X6_markThing at h
  unfold F_X6_markThing_e at h
  refine lv_aload_n hx hb dX6_markThing_0 rfl (lv_at hl 0 rfl) ?_
  refine lv_dup hx hb dX6_markThing_1 rfl ?_
  refine va_get (D := (dC, dI)) (ci := 6) (v := .long v_traced) (C := RX6) (T := TX6) (N := 10) hx hb hts iwX6_markThing_X6 hown hK hP 0 rfl rfl 9 (by decide) f57 (fun _ h9 => h9) rfl dX6_markThing_2 ?_
  refine lv_lconst (v := 1) hx hb dX6_markThing_5 (by decide) ?_
  refine lv_ladd hx hb dX6_markThing_6 ?_
  refine lv_topl (fun n_1 e_2 => ?_)
  replace h := h n_1 e_2
  refine va_put (D := (dC, dI)) (ci := 6) (v := .long n_1) (ty := .long) (C := RX6) (T := TX6) (N := 10) hx hb hts iwX6_markThing_X6 tyX6 tyX6_ok nmX6 hown hK hP hD hS 0 rfl rfl 9 (by decide) f57 (fun _ h9 => h9) rfl (by decide +kernel) rfl rfl (Nat.le_of_ble_eq_true rfl) dX6_markThing_7 (fun H locs hP hD hS => ?_)
  replace hP : va_P (dC, dI) vwCl [(a, .inr (6, [.ref a_reader, .ref a_told, .ref a_draft, .ref a_course, .ref a_firstImage, .ref a_secondImage, .ref a_imageKept, .ref a_bestDigs, .ref a_heard, .long n_1])), (a_course, .inr (2, [.ref a_course_rows, .int v_course_known])), (a_course_rows, .inl (cyI, 165, .inl v_course_rows))] H := hP
  replace hD : va_D A [(a, .inr (6, [.ref a_reader, .ref a_told, .ref a_draft, .ref a_course, .ref a_firstImage, .ref a_secondImage, .ref a_imageKept, .ref a_bestDigs, .ref a_heard, .long n_1])), (a_course, .inr (2, [.ref a_course_rows, .int v_course_known])), (a_course_rows, .inl (cyI, 165, .inl v_course_rows))] := hD
  refine lv_aload_n hx hb dX6_markThing_10 rfl (lv_at hl 0 rfl) ?_
  refine va_get (D := (dC, dI)) (ci := 6) (v := .ref a_course) (C := RX6) (T := TX6) (N := 10) hx hb hts iwX6_markThing_X6 hown hK hP 0 rfl rfl 3 (by decide) f29 (fun _ h9 => h9) rfl dX6_markThing_11 ?_
  refine lv_iload_n hx hb dX6_markThing_14 rfl (lv_at hl 1 rfl) ?_
  refine gV_i0 (As := [.int p0]) (rest := []) ⟨hx, hb, hml, hown, hts⟩ (c_X2_yellow l dC dI cyC cyI cyZ _ a_course a_course_rows v_course_known v_course_rows p0 h) (cwV 1 hts gX6_markThing_X2_yellow rfl rfl rfl hdV_X2_yellow ⟨Nat.le_of_ble_eq_true rfl, Nat.le_of_ble_eq_true rfl⟩) hK hN hP hD hS hA [1, 2] (by decide) rfl (ci := 2) rfl rfl rfl hl.1 rfl (Nat.le_of_ble_eq_true rfl) dX6_markThing_15 ⟨Nat.zero_le _, Nat.zero_le _⟩ (fun r_3 H locs h hP hS => ?_)
  exact gri1 hx hb hr hlocks h hP hD hS dX6_markThing_18

def F_X6_markPainting_e (v_course_rows : Nat → Int32) (v_told_worth : Nat → Int32) (p0 : Int32) (Q : Int32 → Int64 → Prop) (v_traced : Int64) : Prop :=
  ∀ n_1 : Int64, n_1 = (v_traced + (10 : Int64)) → (q_X6_markThing n_1 v_course_rows p0 (fun (r_3 : Int32) (u_4 : Int64) => vp_in p0 6 ∧ (Q (r_3 + (v_told_worth (p0).toNatClampNeg)) u_4)))
def q_X6_markPainting (v_traced : Int64) (v_course_rows : Nat → Int32) (v_told_worth : Nat → Int32) (p0 : Int32) (Q : Int32 → Int64 → Prop) : Prop := F_X6_markPainting_e v_course_rows v_told_worth p0 Q v_traced
theorem iwX6_markPainting_X5 : ∀ w ∈ wsX50, w ∈ wsX6_markPainting := by decide +kernel
theorem iwX6_markPainting_X6 : ∀ w ∈ wsX60, w ∈ wsX6_markPainting := by decide +kernel
theorem hdV_X6_markPainting : yX6_markPainting.cls = RX6 ∧ yX6_markPainting.cls ≠ "java/lang/invoke/MethodHandle" ∧ yX6_markPainting.cls ≠ "java/lang/invoke/VarHandle" ∧ (parseMethodDescriptor yX6_markPainting.desc).map (fun d => d.parameters.length) = some 1 := by decide +kernel
set_option maxHeartbeats 4000000 in
set_option maxRecDepth 100000 in
theorem c_X6_markPainting (l : Launch) (dC : Nat → ClassId) (dI : Nat → Nat → Nat) (cyC cyI cyZ : ClassId) (sz : Nat) (a a_reader a_told a_draft a_course a_firstImage a_secondImage a_imageKept a_bestDigs a_heard a_course_rows a_told_seam a_told_yellow a_told_white a_told_fades a_told_worth : Nat) (v_traced : Int64) (v_course_known : Int32) (v_course_rows : Nat → Int32) (v_told_seamTold : Int32) (v_told_boundTold : Int32) (v_told_lossTold : Int32) (v_told_bound : Int32) (v_told_loss : Int32) (v_told_things : Int32) (v_told_worth : Nat → Int32) (p0 : Int32) {Q : Int32 → Int64 → Prop} (h : q_X6_markPainting v_traced v_course_rows v_told_worth p0 Q) : Met l yX6_markPainting wsX6_markPainting ({ frames := 2, cells := 0, slots := 0, locals := 42 }) (gPc [.ref a, .int p0] (dC, dI) (gTy cyC cyI cyZ) sz [(a, .inr (6, [.ref a_reader, .ref a_told, .ref a_draft, .ref a_course, .ref a_firstImage, .ref a_secondImage, .ref a_imageKept, .ref a_bestDigs, .ref a_heard, .long v_traced])), (a_course, .inr (2, [.ref a_course_rows, .int v_course_known])), (a_course_rows, .inl (cyI, 165, .inl v_course_rows)), (a_told, .inr (5, [.ref a_told_seam, .int v_told_seamTold, .int v_told_boundTold, .int v_told_lossTold, .int v_told_bound, .int v_told_loss, .int v_told_things, .ref a_told_yellow, .ref a_told_white, .ref a_told_fades, .ref a_told_worth])), (a_told_worth, .inl (cyI, 6, .inl v_told_worth))]) (gQi1 Q (dC, dI) (va_A [(a, .inr (6, [.ref a_reader, .ref a_told, .ref a_draft, .ref a_course, .ref a_firstImage, .ref a_secondImage, .ref a_imageKept, .ref a_bestDigs, .ref a_heard, .long v_traced])), (a_course, .inr (2, [.ref a_course_rows, .int v_course_known])), (a_course_rows, .inl (cyI, 165, .inl v_course_rows)), (a_told, .inr (5, [.ref a_told_seam, .int v_told_seamTold, .int v_told_boundTold, .int v_told_lossTold, .int v_told_bound, .int v_told_loss, .int v_told_things, .ref a_told_yellow, .ref a_told_white, .ref a_told_fades, .ref a_told_worth])), (a_told_worth, .inl (cyI, 6, .inl v_told_worth))] sz) (fun (u1 : Int64) => [(a, .inr (6, [.ref a_reader, .ref a_told, .ref a_draft, .ref a_course, .ref a_firstImage, .ref a_secondImage, .ref a_imageKept, .ref a_bestDigs, .ref a_heard, .long u1])), (a_course, .inr (2, [.ref a_course_rows, .int v_course_known])), (a_course_rows, .inl (cyI, 165, .inl v_course_rows)), (a_told, .inr (5, [.ref a_told_seam, .int v_told_seamTold, .int v_told_boundTold, .int v_told_lossTold, .int v_told_bound, .int v_told_loss, .int v_told_things, .ref a_told_yellow, .ref a_told_white, .ref a_told_fades, .ref a_told_worth])), (a_told_worth, .inl (cyI, 6, .inl v_told_worth))])) 0 0 (va_A [(a, .inr (6, [.ref a_reader, .ref a_told, .ref a_draft, .ref a_course, .ref a_firstImage, .ref a_secondImage, .ref a_imageKept, .ref a_bestDigs, .ref a_heard, .long v_traced])), (a_course, .inr (2, [.ref a_course_rows, .int v_course_known])), (a_course_rows, .inl (cyI, 165, .inl v_course_rows)), (a_told, .inr (5, [.ref a_told_seam, .int v_told_seamTold, .int v_told_boundTold, .int v_told_lossTold, .int v_told_bound, .int v_told_loss, .int v_told_things, .ref a_told_yellow, .ref a_told_white, .ref a_told_fades, .ref a_told_worth])), (a_told_worth, .inl (cyI, 6, .inl v_told_worth))] sz) := by
  refine gMet (cc := cX6_markPainting) (maxL := 2) (ret := (some .int)) (own := RX6) (fun A => gQi1 Q (dC, dI) A (fun (u1 : Int64) => [(a, .inr (6, [.ref a_reader, .ref a_told, .ref a_draft, .ref a_course, .ref a_firstImage, .ref a_secondImage, .ref a_imageKept, .ref a_bestDigs, .ref a_heard, .long u1])), (a_course, .inr (2, [.ref a_course_rows, .int v_course_known])), (a_course_rows, .inl (cyI, 165, .inl v_course_rows)), (a_told, .inr (5, [.ref a_told_seam, .int v_told_seamTold, .int v_told_boundTold, .int v_told_lossTold, .int v_told_bound, .int v_told_loss, .int v_told_things, .ref a_told_yellow, .ref a_told_white, .ref a_told_fades, .ref a_told_worth])), (a_told_worth, .inl (cyI, 6, .inl v_told_worth))])) (by decide) rfl rfl (Nat.le_of_ble_eq_true rfl) ?_
  intro p e s m below meth c A ls C0 _ hK hN hP hD hA hl
  obtain ⟨hx, hb, hr, hml, hown, hts, hlocks⟩ := id C0
  have f127 := hN.link (args := ([.ref a, .int p0].toArray)) (w := .fieldLinkNest RX6 127 "LastOchre$Told" "worth" "[I" "LastOchre") 26 rfl
  have f19 := hts (.fieldLink RX6 19 "LastOchre" "told" "LLastOchre$Told;") (by decide +kernel)
  have f57 := hts (.fieldLink RX6 57 "LastOchre" "traced" "J") (by decide +kernel)
  have hS : va_S A s.heap s.heap [] := va_S.rf
  replace hl : lv_has ls 2 [(0, .ref a), (1, .int p0)] := hl
  unfold q_X6_markPainting at h
  unfold F_X6_markPainting_e at h
  refine lv_aload_n hx hb dX6_markPainting_0 rfl (lv_at hl 0 rfl) ?_
  refine lv_dup hx hb dX6_markPainting_1 rfl ?_
  refine va_get (D := (dC, dI)) (ci := 6) (v := .long v_traced) (C := RX6) (T := TX6) (N := 10) hx hb hts iwX6_markPainting_X6 hown hK hP 0 rfl rfl 9 (by decide) f57 (fun _ h9 => h9) rfl dX6_markPainting_2 ?_
  refine lv_ldc2 (v := 10) hx hb hown (hts (.constantLong RX6 305 (10)) (by decide +kernel)) dX6_markPainting_5 ?_
  refine lv_ladd hx hb dX6_markPainting_8 ?_
  refine lv_topl (fun n_1 e_2 => ?_)
  replace h := h n_1 e_2
  refine va_put (D := (dC, dI)) (ci := 6) (v := .long n_1) (ty := .long) (C := RX6) (T := TX6) (N := 10) hx hb hts iwX6_markPainting_X6 tyX6 tyX6_ok nmX6 hown hK hP hD hS 0 rfl rfl 9 (by decide) f57 (fun _ h9 => h9) rfl (by decide +kernel) rfl rfl (Nat.le_of_ble_eq_true rfl) dX6_markPainting_9 (fun H locs hP hD hS => ?_)
  replace hP : va_P (dC, dI) vwCl [(a, .inr (6, [.ref a_reader, .ref a_told, .ref a_draft, .ref a_course, .ref a_firstImage, .ref a_secondImage, .ref a_imageKept, .ref a_bestDigs, .ref a_heard, .long n_1])), (a_course, .inr (2, [.ref a_course_rows, .int v_course_known])), (a_course_rows, .inl (cyI, 165, .inl v_course_rows)), (a_told, .inr (5, [.ref a_told_seam, .int v_told_seamTold, .int v_told_boundTold, .int v_told_lossTold, .int v_told_bound, .int v_told_loss, .int v_told_things, .ref a_told_yellow, .ref a_told_white, .ref a_told_fades, .ref a_told_worth])), (a_told_worth, .inl (cyI, 6, .inl v_told_worth))] H := hP
  replace hD : va_D A [(a, .inr (6, [.ref a_reader, .ref a_told, .ref a_draft, .ref a_course, .ref a_firstImage, .ref a_secondImage, .ref a_imageKept, .ref a_bestDigs, .ref a_heard, .long n_1])), (a_course, .inr (2, [.ref a_course_rows, .int v_course_known])), (a_course_rows, .inl (cyI, 165, .inl v_course_rows)), (a_told, .inr (5, [.ref a_told_seam, .int v_told_seamTold, .int v_told_boundTold, .int v_told_lossTold, .int v_told_bound, .int v_told_loss, .int v_told_things, .ref a_told_yellow, .ref a_told_white, .ref a_told_fades, .ref a_told_worth])), (a_told_worth, .inl (cyI, 6, .inl v_told_worth))] := hD
  refine lv_aload_n hx hb dX6_markPainting_12 rfl (lv_at hl 0 rfl) ?_
  refine lv_iload_n hx hb dX6_markPainting_13 rfl (lv_at hl 1 rfl) ?_
  refine gV_i1 (As := [.int p0]) (rest := []) ⟨hx, hb, hml, hown, hts⟩ (c_X6_markThing l dC dI cyC cyI cyZ _ a a_reader a_told a_draft a_course a_firstImage a_secondImage a_imageKept a_bestDigs a_heard a_course_rows n_1 v_course_known v_course_rows p0 h) (cwV 1 hts gX6_markPainting_X6_markThing rfl rfl rfl hdV_X6_markThing ⟨Nat.le_of_ble_eq_true rfl, Nat.le_of_ble_eq_true rfl⟩) hK hN hP hD hS hA [0, 1, 2] (by decide) rfl (ci := 6) rfl rfl rfl hl.1 rfl (Nat.le_of_ble_eq_true rfl) dX6_markPainting_14 ⟨Nat.zero_le _, Nat.zero_le _⟩ (wr := [(a_told, .inr (5, [.ref a_told_seam, .int v_told_seamTold, .int v_told_boundTold, .int v_told_lossTold, .int v_told_bound, .int v_told_loss, .int v_told_things, .ref a_told_yellow, .ref a_told_white, .ref a_told_fades, .ref a_told_worth])), (a_told_worth, .inl (cyI, 6, .inl v_told_worth))]) [3, 4] rfl (by decide) (by decide) (fun r_3 u_4 H locs h hP hD hS => ?_)
  replace hP : va_P (dC, dI) vwCl [(a_told, .inr (5, [.ref a_told_seam, .int v_told_seamTold, .int v_told_boundTold, .int v_told_lossTold, .int v_told_bound, .int v_told_loss, .int v_told_things, .ref a_told_yellow, .ref a_told_white, .ref a_told_fades, .ref a_told_worth])), (a_told_worth, .inl (cyI, 6, .inl v_told_worth)), (a, .inr (6, [.ref a_reader, .ref a_told, .ref a_draft, .ref a_course, .ref a_firstImage, .ref a_secondImage, .ref a_imageKept, .ref a_bestDigs, .ref a_heard, .long u_4])), (a_course, .inr (2, [.ref a_course_rows, .int v_course_known])), (a_course_rows, .inl (cyI, 165, .inl v_course_rows))] H := hP
  replace hD : va_D A [(a_told, .inr (5, [.ref a_told_seam, .int v_told_seamTold, .int v_told_boundTold, .int v_told_lossTold, .int v_told_bound, .int v_told_loss, .int v_told_things, .ref a_told_yellow, .ref a_told_white, .ref a_told_fades, .ref a_told_worth])), (a_told_worth, .inl (cyI, 6, .inl v_told_worth)), (a, .inr (6, [.ref a_reader, .ref a_told, .ref a_draft, .ref a_course, .ref a_firstImage, .ref a_secondImage, .ref a_imageKept, .ref a_bestDigs, .ref a_heard, .long u_4])), (a_course, .inr (2, [.ref a_course_rows, .int v_course_known])), (a_course_rows, .inl (cyI, 165, .inl v_course_rows))] := hD
  refine lv_aload_n hx hb dX6_markPainting_17 rfl (lv_at hl 0 rfl) ?_
  refine va_get (D := (dC, dI)) (ci := 6) (v := .ref a_told) (C := RX6) (T := TX6) (N := 10) hx hb hts iwX6_markPainting_X6 hown hK hP 2 rfl rfl 1 (by decide) f19 (fun _ h9 => h9) rfl dX6_markPainting_18 ?_
  refine va_getN (host := "LastOchre") (D := (dC, dI)) (ci := 5) (v := .ref a_told_worth) (C := RX5) (T := TX5) (N := 11) hx hb hts iwX6_markPainting_X5 hown hK hP 0 rfl rfl 10 (by decide) f127 (fun _ h9 => h9) rfl dX6_markPainting_21 ?_
  refine lv_iload_n hx hb dX6_markPainting_24 rfl (lv_at hl 1 rfl) ?_
  have g_5 := h.1
  replace h := h.2
  refine va_iald hx hb hK hP 1 0 rfl rfl g_5 dX6_markPainting_25 ?_
  refine lv_iadd hx hb dX6_markPainting_26 ?_
  exact gri1 hx hb hr hlocks h (hP.sub (ws' := [(a, .inr (6, [.ref a_reader, .ref a_told, .ref a_draft, .ref a_course, .ref a_firstImage, .ref a_secondImage, .ref a_imageKept, .ref a_bestDigs, .ref a_heard, .long u_4])), (a_course, .inr (2, [.ref a_course_rows, .int v_course_known])), (a_course_rows, .inl (cyI, 165, .inl v_course_rows)), (a_told, .inr (5, [.ref a_told_seam, .int v_told_seamTold, .int v_told_boundTold, .int v_told_lossTold, .int v_told_bound, .int v_told_loss, .int v_told_things, .ref a_told_yellow, .ref a_told_white, .ref a_told_fades, .ref a_told_worth])), (a_told_worth, .inl (cyI, 6, .inl v_told_worth))]) [2, 3, 4, 0, 1] rfl) (hD.sub (ws' := [(a, .inr (6, [.ref a_reader, .ref a_told, .ref a_draft, .ref a_course, .ref a_firstImage, .ref a_secondImage, .ref a_imageKept, .ref a_bestDigs, .ref a_heard, .long u_4])), (a_course, .inr (2, [.ref a_course_rows, .int v_course_known])), (a_course_rows, .inl (cyI, 165, .inl v_course_rows)), (a_told, .inr (5, [.ref a_told_seam, .int v_told_seamTold, .int v_told_boundTold, .int v_told_lossTold, .int v_told_bound, .int v_told_loss, .int v_told_things, .ref a_told_yellow, .ref a_told_white, .ref a_told_fades, .ref a_told_worth])), (a_told_worth, .inl (cyI, 6, .inl v_told_worth))]) [2, 3, 4, 0, 1] (by decide) rfl) hS dX6_markPainting_27

def F_X6_markLemon_e (v_course_rows : Nat → Int32) (p0 : Int32) (Q : Int32 → Int64 → Prop) (v_traced : Int64) : Prop :=
  ∀ n_1 : Int64, n_1 = (v_traced + (100 : Int64)) → (q_X6_markThing n_1 v_course_rows p0 (fun (r_3 : Int32) (u_4 : Int64) => q_X2_white v_course_rows p0 (fun (r_5 : Int32) => Q (r_3 - r_5) u_4)))
def q_X6_markLemon (v_traced : Int64) (v_course_rows : Nat → Int32) (p0 : Int32) (Q : Int32 → Int64 → Prop) : Prop := F_X6_markLemon_e v_course_rows p0 Q v_traced
theorem iwX6_markLemon_X6 : ∀ w ∈ wsX60, w ∈ wsX6_markLemon := by decide +kernel
theorem hdV_X6_markLemon : yX6_markLemon.cls = RX6 ∧ yX6_markLemon.cls ≠ "java/lang/invoke/MethodHandle" ∧ yX6_markLemon.cls ≠ "java/lang/invoke/VarHandle" ∧ (parseMethodDescriptor yX6_markLemon.desc).map (fun d => d.parameters.length) = some 1 := by decide +kernel
set_option maxHeartbeats 4000000 in
set_option maxRecDepth 100000 in
theorem c_X6_markLemon (l : Launch) (dC : Nat → ClassId) (dI : Nat → Nat → Nat) (cyC cyI cyZ : ClassId) (sz : Nat) (a a_reader a_told a_draft a_course a_firstImage a_secondImage a_imageKept a_bestDigs a_heard a_course_rows : Nat) (v_traced : Int64) (v_course_known : Int32) (v_course_rows : Nat → Int32) (p0 : Int32) {Q : Int32 → Int64 → Prop} (h : q_X6_markLemon v_traced v_course_rows p0 Q) : Met l yX6_markLemon wsX6_markLemon ({ frames := 2, cells := 0, slots := 0, locals := 42 }) (gPc [.ref a, .int p0] (dC, dI) (gTy cyC cyI cyZ) sz [(a, .inr (6, [.ref a_reader, .ref a_told, .ref a_draft, .ref a_course, .ref a_firstImage, .ref a_secondImage, .ref a_imageKept, .ref a_bestDigs, .ref a_heard, .long v_traced])), (a_course, .inr (2, [.ref a_course_rows, .int v_course_known])), (a_course_rows, .inl (cyI, 165, .inl v_course_rows))]) (gQi1 Q (dC, dI) (va_A [(a, .inr (6, [.ref a_reader, .ref a_told, .ref a_draft, .ref a_course, .ref a_firstImage, .ref a_secondImage, .ref a_imageKept, .ref a_bestDigs, .ref a_heard, .long v_traced])), (a_course, .inr (2, [.ref a_course_rows, .int v_course_known])), (a_course_rows, .inl (cyI, 165, .inl v_course_rows))] sz) (fun (u1 : Int64) => [(a, .inr (6, [.ref a_reader, .ref a_told, .ref a_draft, .ref a_course, .ref a_firstImage, .ref a_secondImage, .ref a_imageKept, .ref a_bestDigs, .ref a_heard, .long u1])), (a_course, .inr (2, [.ref a_course_rows, .int v_course_known])), (a_course_rows, .inl (cyI, 165, .inl v_course_rows))])) 0 0 (va_A [(a, .inr (6, [.ref a_reader, .ref a_told, .ref a_draft, .ref a_course, .ref a_firstImage, .ref a_secondImage, .ref a_imageKept, .ref a_bestDigs, .ref a_heard, .long v_traced])), (a_course, .inr (2, [.ref a_course_rows, .int v_course_known])), (a_course_rows, .inl (cyI, 165, .inl v_course_rows))] sz) := by
  refine gMet (cc := cX6_markLemon) (maxL := 2) (ret := (some .int)) (own := RX6) (fun A => gQi1 Q (dC, dI) A (fun (u1 : Int64) => [(a, .inr (6, [.ref a_reader, .ref a_told, .ref a_draft, .ref a_course, .ref a_firstImage, .ref a_secondImage, .ref a_imageKept, .ref a_bestDigs, .ref a_heard, .long u1])), (a_course, .inr (2, [.ref a_course_rows, .int v_course_known])), (a_course_rows, .inl (cyI, 165, .inl v_course_rows))])) (by decide) rfl rfl (Nat.le_of_ble_eq_true rfl) ?_
  intro p e s m below meth c A ls C0 _ hK hN hP hD hA hl
  obtain ⟨hx, hb, hr, hml, hown, hts, hlocks⟩ := id C0
  have f29 := hts (.fieldLink RX6 29 "LastOchre" "course" "LLastOchre$Course;") (by decide +kernel)
  have f57 := hts (.fieldLink RX6 57 "LastOchre" "traced" "J") (by decide +kernel)
  have hS : va_S A s.heap s.heap [] := va_S.rf
  replace hl : lv_has ls 2 [(0, .ref a), (1, .int p0)] := hl
  unfold q_X6_markLemon at h
  unfold F_X6_markLemon_e at h
  refine lv_aload_n hx hb dX6_markLemon_0 rfl (lv_at hl 0 rfl) ?_
  refine lv_dup hx hb dX6_markLemon_1 rfl ?_
  refine va_get (D := (dC, dI)) (ci := 6) (v := .long v_traced) (C := RX6) (T := TX6) (N := 10) hx hb hts iwX6_markLemon_X6 hown hK hP 0 rfl rfl 9 (by decide) f57 (fun _ h9 => h9) rfl dX6_markLemon_2 ?_
  refine lv_ldc2 (v := 100) hx hb hown (hts (.constantLong RX6 307 (100)) (by decide +kernel)) dX6_markLemon_5 ?_
  refine lv_ladd hx hb dX6_markLemon_8 ?_
  refine lv_topl (fun n_1 e_2 => ?_)
  replace h := h n_1 e_2
  refine va_put (D := (dC, dI)) (ci := 6) (v := .long n_1) (ty := .long) (C := RX6) (T := TX6) (N := 10) hx hb hts iwX6_markLemon_X6 tyX6 tyX6_ok nmX6 hown hK hP hD hS 0 rfl rfl 9 (by decide) f57 (fun _ h9 => h9) rfl (by decide +kernel) rfl rfl (Nat.le_of_ble_eq_true rfl) dX6_markLemon_9 (fun H locs hP hD hS => ?_)
  replace hP : va_P (dC, dI) vwCl [(a, .inr (6, [.ref a_reader, .ref a_told, .ref a_draft, .ref a_course, .ref a_firstImage, .ref a_secondImage, .ref a_imageKept, .ref a_bestDigs, .ref a_heard, .long n_1])), (a_course, .inr (2, [.ref a_course_rows, .int v_course_known])), (a_course_rows, .inl (cyI, 165, .inl v_course_rows))] H := hP
  replace hD : va_D A [(a, .inr (6, [.ref a_reader, .ref a_told, .ref a_draft, .ref a_course, .ref a_firstImage, .ref a_secondImage, .ref a_imageKept, .ref a_bestDigs, .ref a_heard, .long n_1])), (a_course, .inr (2, [.ref a_course_rows, .int v_course_known])), (a_course_rows, .inl (cyI, 165, .inl v_course_rows))] := hD
  refine lv_aload_n hx hb dX6_markLemon_12 rfl (lv_at hl 0 rfl) ?_
  refine lv_iload_n hx hb dX6_markLemon_13 rfl (lv_at hl 1 rfl) ?_
  refine gV_i1 (As := [.int p0]) (rest := []) ⟨hx, hb, hml, hown, hts⟩ (c_X6_markThing l dC dI cyC cyI cyZ _ a a_reader a_told a_draft a_course a_firstImage a_secondImage a_imageKept a_bestDigs a_heard a_course_rows n_1 v_course_known v_course_rows p0 h) (cwV 1 hts gX6_markLemon_X6_markThing rfl rfl rfl hdV_X6_markThing ⟨Nat.le_of_ble_eq_true rfl, Nat.le_of_ble_eq_true rfl⟩) hK hN hP hD hS hA [0, 1, 2] (by decide) rfl (ci := 6) rfl rfl rfl hl.1 rfl (Nat.le_of_ble_eq_true rfl) dX6_markLemon_14 ⟨Nat.zero_le _, Nat.zero_le _⟩ (wr := []) [] rfl (by decide) (by decide) (fun r_3 u_4 H locs h hP hD hS => ?_)
  replace hP : va_P (dC, dI) vwCl [(a, .inr (6, [.ref a_reader, .ref a_told, .ref a_draft, .ref a_course, .ref a_firstImage, .ref a_secondImage, .ref a_imageKept, .ref a_bestDigs, .ref a_heard, .long u_4])), (a_course, .inr (2, [.ref a_course_rows, .int v_course_known])), (a_course_rows, .inl (cyI, 165, .inl v_course_rows))] H := hP
  replace hD : va_D A [(a, .inr (6, [.ref a_reader, .ref a_told, .ref a_draft, .ref a_course, .ref a_firstImage, .ref a_secondImage, .ref a_imageKept, .ref a_bestDigs, .ref a_heard, .long u_4])), (a_course, .inr (2, [.ref a_course_rows, .int v_course_known])), (a_course_rows, .inl (cyI, 165, .inl v_course_rows))] := hD
  refine lv_aload_n hx hb dX6_markLemon_17 rfl (lv_at hl 0 rfl) ?_
  refine va_get (D := (dC, dI)) (ci := 6) (v := .ref a_course) (C := RX6) (T := TX6) (N := 10) hx hb hts iwX6_markLemon_X6 hown hK hP 0 rfl rfl 3 (by decide) f29 (fun _ h9 => h9) rfl dX6_markLemon_18 ?_
  refine lv_iload_n hx hb dX6_markLemon_21 rfl (lv_at hl 1 rfl) ?_
  refine gV_i0 (As := [.int p0]) (rest := [.int r_3]) ⟨hx, hb, hml, hown, hts⟩ (c_X2_white l dC dI cyC cyI cyZ _ a_course a_course_rows v_course_known v_course_rows p0 h) (cwV 1 hts gX6_markLemon_X2_white rfl rfl rfl hdV_X2_white ⟨Nat.le_of_ble_eq_true rfl, Nat.le_of_ble_eq_true rfl⟩) hK hN hP hD hS hA [1, 2] (by decide) rfl (ci := 2) rfl rfl rfl hl.1 rfl (Nat.le_of_ble_eq_true rfl) dX6_markLemon_22 ⟨Nat.zero_le _, Nat.zero_le _⟩ (fun r_5 H locs h hP hS => ?_)
  refine lv_isub hx hb dX6_markLemon_25 ?_
  exact gri1 hx hb hr hlocks h hP hD hS dX6_markLemon_26

def F_X6_markSun_e (v_course_rows : Nat → Int32) (v_told_worth : Nat → Int32) (p0 : Int32) (Q : Int32 → Int64 → Prop) (v_traced : Int64) : Prop :=
  ∀ n_1 : Int64, n_1 = (v_traced + (1000 : Int64)) → (q_X6_markPainting n_1 v_course_rows v_told_worth p0 (fun (r_3 : Int32) (u_4 : Int64) => Q (r_3 * (2 : Int32)) u_4))
def q_X6_markSun (v_traced : Int64) (v_course_rows : Nat → Int32) (v_told_worth : Nat → Int32) (p0 : Int32) (Q : Int32 → Int64 → Prop) : Prop := F_X6_markSun_e v_course_rows v_told_worth p0 Q v_traced
theorem iwX6_markSun_X6 : ∀ w ∈ wsX60, w ∈ wsX6_markSun := by decide +kernel
theorem hdV_X6_markSun : yX6_markSun.cls = RX6 ∧ yX6_markSun.cls ≠ "java/lang/invoke/MethodHandle" ∧ yX6_markSun.cls ≠ "java/lang/invoke/VarHandle" ∧ (parseMethodDescriptor yX6_markSun.desc).map (fun d => d.parameters.length) = some 1 := by decide +kernel
set_option maxHeartbeats 4000000 in
set_option maxRecDepth 100000 in
theorem c_X6_markSun (l : Launch) (dC : Nat → ClassId) (dI : Nat → Nat → Nat) (cyC cyI cyZ : ClassId) (sz : Nat) (a a_reader a_told a_draft a_course a_firstImage a_secondImage a_imageKept a_bestDigs a_heard a_course_rows a_told_seam a_told_yellow a_told_white a_told_fades a_told_worth : Nat) (v_traced : Int64) (v_course_known : Int32) (v_told_seamTold : Int32) (v_told_boundTold : Int32) (v_told_lossTold : Int32) (v_told_bound : Int32) (v_told_loss : Int32) (v_told_things : Int32) (v_course_rows : Nat → Int32) (v_told_worth : Nat → Int32) (p0 : Int32) {Q : Int32 → Int64 → Prop} (h : q_X6_markSun v_traced v_course_rows v_told_worth p0 Q) : Met l yX6_markSun wsX6_markSun ({ frames := 3, cells := 0, slots := 0, locals := 63 }) (gPc [.ref a, .int p0] (dC, dI) (gTy cyC cyI cyZ) sz [(a, .inr (6, [.ref a_reader, .ref a_told, .ref a_draft, .ref a_course, .ref a_firstImage, .ref a_secondImage, .ref a_imageKept, .ref a_bestDigs, .ref a_heard, .long v_traced])), (a_course, .inr (2, [.ref a_course_rows, .int v_course_known])), (a_told, .inr (5, [.ref a_told_seam, .int v_told_seamTold, .int v_told_boundTold, .int v_told_lossTold, .int v_told_bound, .int v_told_loss, .int v_told_things, .ref a_told_yellow, .ref a_told_white, .ref a_told_fades, .ref a_told_worth])), (a_course_rows, .inl (cyI, 165, .inl v_course_rows)), (a_told_worth, .inl (cyI, 6, .inl v_told_worth))]) (gQi1 Q (dC, dI) (va_A [(a, .inr (6, [.ref a_reader, .ref a_told, .ref a_draft, .ref a_course, .ref a_firstImage, .ref a_secondImage, .ref a_imageKept, .ref a_bestDigs, .ref a_heard, .long v_traced])), (a_course, .inr (2, [.ref a_course_rows, .int v_course_known])), (a_told, .inr (5, [.ref a_told_seam, .int v_told_seamTold, .int v_told_boundTold, .int v_told_lossTold, .int v_told_bound, .int v_told_loss, .int v_told_things, .ref a_told_yellow, .ref a_told_white, .ref a_told_fades, .ref a_told_worth])), (a_course_rows, .inl (cyI, 165, .inl v_course_rows)), (a_told_worth, .inl (cyI, 6, .inl v_told_worth))] sz) (fun (u1 : Int64) => [(a, .inr (6, [.ref a_reader, .ref a_told, .ref a_draft, .ref a_course, .ref a_firstImage, .ref a_secondImage, .ref a_imageKept, .ref a_bestDigs, .ref a_heard, .long u1])), (a_course, .inr (2, [.ref a_course_rows, .int v_course_known])), (a_told, .inr (5, [.ref a_told_seam, .int v_told_seamTold, .int v_told_boundTold, .int v_told_lossTold, .int v_told_bound, .int v_told_loss, .int v_told_things, .ref a_told_yellow, .ref a_told_white, .ref a_told_fades, .ref a_told_worth])), (a_course_rows, .inl (cyI, 165, .inl v_course_rows)), (a_told_worth, .inl (cyI, 6, .inl v_told_worth))])) 0 0 (va_A [(a, .inr (6, [.ref a_reader, .ref a_told, .ref a_draft, .ref a_course, .ref a_firstImage, .ref a_secondImage, .ref a_imageKept, .ref a_bestDigs, .ref a_heard, .long v_traced])), (a_course, .inr (2, [.ref a_course_rows, .int v_course_known])), (a_told, .inr (5, [.ref a_told_seam, .int v_told_seamTold, .int v_told_boundTold, .int v_told_lossTold, .int v_told_bound, .int v_told_loss, .int v_told_things, .ref a_told_yellow, .ref a_told_white, .ref a_told_fades, .ref a_told_worth])), (a_course_rows, .inl (cyI, 165, .inl v_course_rows)), (a_told_worth, .inl (cyI, 6, .inl v_told_worth))] sz) := by
  refine gMet (cc := cX6_markSun) (maxL := 2) (ret := (some .int)) (own := RX6) (fun A => gQi1 Q (dC, dI) A (fun (u1 : Int64) => [(a, .inr (6, [.ref a_reader, .ref a_told, .ref a_draft, .ref a_course, .ref a_firstImage, .ref a_secondImage, .ref a_imageKept, .ref a_bestDigs, .ref a_heard, .long u1])), (a_course, .inr (2, [.ref a_course_rows, .int v_course_known])), (a_told, .inr (5, [.ref a_told_seam, .int v_told_seamTold, .int v_told_boundTold, .int v_told_lossTold, .int v_told_bound, .int v_told_loss, .int v_told_things, .ref a_told_yellow, .ref a_told_white, .ref a_told_fades, .ref a_told_worth])), (a_course_rows, .inl (cyI, 165, .inl v_course_rows)), (a_told_worth, .inl (cyI, 6, .inl v_told_worth))])) (by decide) rfl rfl (Nat.le_of_ble_eq_true rfl) ?_
  intro p e s m below meth c A ls C0 _ hK hN hP hD hA hl
  obtain ⟨hx, hb, hr, hml, hown, hts, hlocks⟩ := id C0
  have f57 := hts (.fieldLink RX6 57 "LastOchre" "traced" "J") (by decide +kernel)
  have hS : va_S A s.heap s.heap [] := va_S.rf
  replace hl : lv_has ls 2 [(0, .ref a), (1, .int p0)] := hl
  unfold q_X6_markSun at h
  unfold F_X6_markSun_e at h
  refine lv_aload_n hx hb dX6_markSun_0 rfl (lv_at hl 0 rfl) ?_
  refine lv_dup hx hb dX6_markSun_1 rfl ?_
  refine va_get (D := (dC, dI)) (ci := 6) (v := .long v_traced) (C := RX6) (T := TX6) (N := 10) hx hb hts iwX6_markSun_X6 hown hK hP 0 rfl rfl 9 (by decide) f57 (fun _ h9 => h9) rfl dX6_markSun_2 ?_
  refine lv_ldc2 (v := 1000) hx hb hown (hts (.constantLong RX6 309 (1000)) (by decide +kernel)) dX6_markSun_5 ?_
  refine lv_ladd hx hb dX6_markSun_8 ?_
  refine lv_topl (fun n_1 e_2 => ?_)
  replace h := h n_1 e_2
  refine va_put (D := (dC, dI)) (ci := 6) (v := .long n_1) (ty := .long) (C := RX6) (T := TX6) (N := 10) hx hb hts iwX6_markSun_X6 tyX6 tyX6_ok nmX6 hown hK hP hD hS 0 rfl rfl 9 (by decide) f57 (fun _ h9 => h9) rfl (by decide +kernel) rfl rfl (Nat.le_of_ble_eq_true rfl) dX6_markSun_9 (fun H locs hP hD hS => ?_)
  replace hP : va_P (dC, dI) vwCl [(a, .inr (6, [.ref a_reader, .ref a_told, .ref a_draft, .ref a_course, .ref a_firstImage, .ref a_secondImage, .ref a_imageKept, .ref a_bestDigs, .ref a_heard, .long n_1])), (a_course, .inr (2, [.ref a_course_rows, .int v_course_known])), (a_told, .inr (5, [.ref a_told_seam, .int v_told_seamTold, .int v_told_boundTold, .int v_told_lossTold, .int v_told_bound, .int v_told_loss, .int v_told_things, .ref a_told_yellow, .ref a_told_white, .ref a_told_fades, .ref a_told_worth])), (a_course_rows, .inl (cyI, 165, .inl v_course_rows)), (a_told_worth, .inl (cyI, 6, .inl v_told_worth))] H := hP
  replace hD : va_D A [(a, .inr (6, [.ref a_reader, .ref a_told, .ref a_draft, .ref a_course, .ref a_firstImage, .ref a_secondImage, .ref a_imageKept, .ref a_bestDigs, .ref a_heard, .long n_1])), (a_course, .inr (2, [.ref a_course_rows, .int v_course_known])), (a_told, .inr (5, [.ref a_told_seam, .int v_told_seamTold, .int v_told_boundTold, .int v_told_lossTold, .int v_told_bound, .int v_told_loss, .int v_told_things, .ref a_told_yellow, .ref a_told_white, .ref a_told_fades, .ref a_told_worth])), (a_course_rows, .inl (cyI, 165, .inl v_course_rows)), (a_told_worth, .inl (cyI, 6, .inl v_told_worth))] := hD
  refine lv_aload_n hx hb dX6_markSun_12 rfl (lv_at hl 0 rfl) ?_
  refine lv_iload_n hx hb dX6_markSun_13 rfl (lv_at hl 1 rfl) ?_
  refine gV_i1 (As := [.int p0]) (rest := []) ⟨hx, hb, hml, hown, hts⟩ (c_X6_markPainting l dC dI cyC cyI cyZ _ a a_reader a_told a_draft a_course a_firstImage a_secondImage a_imageKept a_bestDigs a_heard a_course_rows a_told_seam a_told_yellow a_told_white a_told_fades a_told_worth n_1 v_course_known v_course_rows v_told_seamTold v_told_boundTold v_told_lossTold v_told_bound v_told_loss v_told_things v_told_worth p0 h) (cwV 1 hts gX6_markSun_X6_markPainting rfl rfl rfl hdV_X6_markPainting ⟨Nat.le_of_ble_eq_true rfl, Nat.le_of_ble_eq_true rfl⟩) hK hN hP hD hS hA [0, 1, 3, 2, 4] (by decide) rfl (ci := 6) rfl rfl rfl hl.1 rfl (Nat.le_of_ble_eq_true rfl) dX6_markSun_14 ⟨Nat.zero_le _, Nat.zero_le _⟩ (wr := []) [] rfl (by decide) (by decide) (fun r_3 u_4 H locs h hP hD hS => ?_)
  replace hP : va_P (dC, dI) vwCl [(a, .inr (6, [.ref a_reader, .ref a_told, .ref a_draft, .ref a_course, .ref a_firstImage, .ref a_secondImage, .ref a_imageKept, .ref a_bestDigs, .ref a_heard, .long u_4])), (a_course, .inr (2, [.ref a_course_rows, .int v_course_known])), (a_course_rows, .inl (cyI, 165, .inl v_course_rows)), (a_told, .inr (5, [.ref a_told_seam, .int v_told_seamTold, .int v_told_boundTold, .int v_told_lossTold, .int v_told_bound, .int v_told_loss, .int v_told_things, .ref a_told_yellow, .ref a_told_white, .ref a_told_fades, .ref a_told_worth])), (a_told_worth, .inl (cyI, 6, .inl v_told_worth))] H := hP
  replace hD : va_D A [(a, .inr (6, [.ref a_reader, .ref a_told, .ref a_draft, .ref a_course, .ref a_firstImage, .ref a_secondImage, .ref a_imageKept, .ref a_bestDigs, .ref a_heard, .long u_4])), (a_course, .inr (2, [.ref a_course_rows, .int v_course_known])), (a_course_rows, .inl (cyI, 165, .inl v_course_rows)), (a_told, .inr (5, [.ref a_told_seam, .int v_told_seamTold, .int v_told_boundTold, .int v_told_lossTold, .int v_told_bound, .int v_told_loss, .int v_told_things, .ref a_told_yellow, .ref a_told_white, .ref a_told_fades, .ref a_told_worth])), (a_told_worth, .inl (cyI, 6, .inl v_told_worth))] := hD
  refine lv_iconst (v := 2) hx hb dX6_markSun_17 (by decide) ?_
  refine lv_imul hx hb dX6_markSun_18 ?_
  exact gri1 hx hb hr hlocks h (hP.sub (ws' := [(a, .inr (6, [.ref a_reader, .ref a_told, .ref a_draft, .ref a_course, .ref a_firstImage, .ref a_secondImage, .ref a_imageKept, .ref a_bestDigs, .ref a_heard, .long u_4])), (a_course, .inr (2, [.ref a_course_rows, .int v_course_known])), (a_told, .inr (5, [.ref a_told_seam, .int v_told_seamTold, .int v_told_boundTold, .int v_told_lossTold, .int v_told_bound, .int v_told_loss, .int v_told_things, .ref a_told_yellow, .ref a_told_white, .ref a_told_fades, .ref a_told_worth])), (a_course_rows, .inl (cyI, 165, .inl v_course_rows)), (a_told_worth, .inl (cyI, 6, .inl v_told_worth))]) [0, 1, 3, 2, 4] rfl) (hD.sub (ws' := [(a, .inr (6, [.ref a_reader, .ref a_told, .ref a_draft, .ref a_course, .ref a_firstImage, .ref a_secondImage, .ref a_imageKept, .ref a_bestDigs, .ref a_heard, .long u_4])), (a_course, .inr (2, [.ref a_course_rows, .int v_course_known])), (a_told, .inr (5, [.ref a_told_seam, .int v_told_seamTold, .int v_told_boundTold, .int v_told_lossTold, .int v_told_bound, .int v_told_loss, .int v_told_things, .ref a_told_yellow, .ref a_told_white, .ref a_told_fades, .ref a_told_worth])), (a_course_rows, .inl (cyI, 165, .inl v_course_rows)), (a_told_worth, .inl (cyI, 6, .inl v_told_worth))]) [0, 1, 3, 2, 4] (by decide) rfl) hS dX6_markSun_19

def F_X6_markButter_e (v_course_rows : Nat → Int32) (v_told_bound : Int32) (p0 : Int32) (Q : Int32 → Int64 → Prop) (v_traced : Int64) : Prop :=
  ∀ n_1 : Int64, n_1 = (v_traced + (10000 : Int64)) → (q_X6_markLemon n_1 v_course_rows p0 (fun (r_3 : Int32) (u_4 : Int64) => Q (r_3 + v_told_bound) u_4))
def q_X6_markButter (v_traced : Int64) (v_course_rows : Nat → Int32) (v_told_bound : Int32) (p0 : Int32) (Q : Int32 → Int64 → Prop) : Prop := F_X6_markButter_e v_course_rows v_told_bound p0 Q v_traced
theorem iwX6_markButter_X5 : ∀ w ∈ wsX50, w ∈ wsX6_markButter := by decide +kernel
theorem iwX6_markButter_X6 : ∀ w ∈ wsX60, w ∈ wsX6_markButter := by decide +kernel
theorem hdV_X6_markButter : yX6_markButter.cls = RX6 ∧ yX6_markButter.cls ≠ "java/lang/invoke/MethodHandle" ∧ yX6_markButter.cls ≠ "java/lang/invoke/VarHandle" ∧ (parseMethodDescriptor yX6_markButter.desc).map (fun d => d.parameters.length) = some 1 := by decide +kernel
set_option maxHeartbeats 4000000 in
set_option maxRecDepth 100000 in
theorem c_X6_markButter (l : Launch) (dC : Nat → ClassId) (dI : Nat → Nat → Nat) (cyC cyI cyZ : ClassId) (sz : Nat) (a a_reader a_told a_draft a_course a_firstImage a_secondImage a_imageKept a_bestDigs a_heard a_course_rows a_told_seam a_told_yellow a_told_white a_told_fades a_told_worth : Nat) (v_traced : Int64) (v_course_known : Int32) (v_course_rows : Nat → Int32) (v_told_seamTold : Int32) (v_told_boundTold : Int32) (v_told_lossTold : Int32) (v_told_bound : Int32) (v_told_loss : Int32) (v_told_things : Int32) (p0 : Int32) {Q : Int32 → Int64 → Prop} (h : q_X6_markButter v_traced v_course_rows v_told_bound p0 Q) : Met l yX6_markButter wsX6_markButter ({ frames := 3, cells := 0, slots := 0, locals := 63 }) (gPc [.ref a, .int p0] (dC, dI) (gTy cyC cyI cyZ) sz [(a, .inr (6, [.ref a_reader, .ref a_told, .ref a_draft, .ref a_course, .ref a_firstImage, .ref a_secondImage, .ref a_imageKept, .ref a_bestDigs, .ref a_heard, .long v_traced])), (a_course, .inr (2, [.ref a_course_rows, .int v_course_known])), (a_course_rows, .inl (cyI, 165, .inl v_course_rows)), (a_told, .inr (5, [.ref a_told_seam, .int v_told_seamTold, .int v_told_boundTold, .int v_told_lossTold, .int v_told_bound, .int v_told_loss, .int v_told_things, .ref a_told_yellow, .ref a_told_white, .ref a_told_fades, .ref a_told_worth]))]) (gQi1 Q (dC, dI) (va_A [(a, .inr (6, [.ref a_reader, .ref a_told, .ref a_draft, .ref a_course, .ref a_firstImage, .ref a_secondImage, .ref a_imageKept, .ref a_bestDigs, .ref a_heard, .long v_traced])), (a_course, .inr (2, [.ref a_course_rows, .int v_course_known])), (a_course_rows, .inl (cyI, 165, .inl v_course_rows)), (a_told, .inr (5, [.ref a_told_seam, .int v_told_seamTold, .int v_told_boundTold, .int v_told_lossTold, .int v_told_bound, .int v_told_loss, .int v_told_things, .ref a_told_yellow, .ref a_told_white, .ref a_told_fades, .ref a_told_worth]))] sz) (fun (u1 : Int64) => [(a, .inr (6, [.ref a_reader, .ref a_told, .ref a_draft, .ref a_course, .ref a_firstImage, .ref a_secondImage, .ref a_imageKept, .ref a_bestDigs, .ref a_heard, .long u1])), (a_course, .inr (2, [.ref a_course_rows, .int v_course_known])), (a_course_rows, .inl (cyI, 165, .inl v_course_rows)), (a_told, .inr (5, [.ref a_told_seam, .int v_told_seamTold, .int v_told_boundTold, .int v_told_lossTold, .int v_told_bound, .int v_told_loss, .int v_told_things, .ref a_told_yellow, .ref a_told_white, .ref a_told_fades, .ref a_told_worth]))])) 0 0 (va_A [(a, .inr (6, [.ref a_reader, .ref a_told, .ref a_draft, .ref a_course, .ref a_firstImage, .ref a_secondImage, .ref a_imageKept, .ref a_bestDigs, .ref a_heard, .long v_traced])), (a_course, .inr (2, [.ref a_course_rows, .int v_course_known])), (a_course_rows, .inl (cyI, 165, .inl v_course_rows)), (a_told, .inr (5, [.ref a_told_seam, .int v_told_seamTold, .int v_told_boundTold, .int v_told_lossTold, .int v_told_bound, .int v_told_loss, .int v_told_things, .ref a_told_yellow, .ref a_told_white, .ref a_told_fades, .ref a_told_worth]))] sz) := by
  refine gMet (cc := cX6_markButter) (maxL := 2) (ret := (some .int)) (own := RX6) (fun A => gQi1 Q (dC, dI) A (fun (u1 : Int64) => [(a, .inr (6, [.ref a_reader, .ref a_told, .ref a_draft, .ref a_course, .ref a_firstImage, .ref a_secondImage, .ref a_imageKept, .ref a_bestDigs, .ref a_heard, .long u1])), (a_course, .inr (2, [.ref a_course_rows, .int v_course_known])), (a_course_rows, .inl (cyI, 165, .inl v_course_rows)), (a_told, .inr (5, [.ref a_told_seam, .int v_told_seamTold, .int v_told_boundTold, .int v_told_lossTold, .int v_told_bound, .int v_told_loss, .int v_told_things, .ref a_told_yellow, .ref a_told_white, .ref a_told_fades, .ref a_told_worth]))])) (by decide) rfl rfl (Nat.le_of_ble_eq_true rfl) ?_
  intro p e s m below meth c A ls C0 _ hK hN hP hD hA hl
  obtain ⟨hx, hb, hr, hml, hown, hts, hlocks⟩ := id C0
  have f19 := hts (.fieldLink RX6 19 "LastOchre" "told" "LLastOchre$Told;") (by decide +kernel)
  have f216 := hN.link (args := ([.ref a, .int p0].toArray)) (w := .fieldLinkNest RX6 216 "LastOchre$Told" "bound" "I" "LastOchre") 14 rfl
  have f57 := hts (.fieldLink RX6 57 "LastOchre" "traced" "J") (by decide +kernel)
  have hS : va_S A s.heap s.heap [] := va_S.rf
  replace hl : lv_has ls 2 [(0, .ref a), (1, .int p0)] := hl
  unfold q_X6_markButter at h
  unfold F_X6_markButter_e at h
  refine lv_aload_n hx hb dX6_markButter_0 rfl (lv_at hl 0 rfl) ?_
  refine lv_dup hx hb dX6_markButter_1 rfl ?_
  refine va_get (D := (dC, dI)) (ci := 6) (v := .long v_traced) (C := RX6) (T := TX6) (N := 10) hx hb hts iwX6_markButter_X6 hown hK hP 0 rfl rfl 9 (by decide) f57 (fun _ h9 => h9) rfl dX6_markButter_2 ?_
  refine lv_ldc2 (v := 10000) hx hb hown (hts (.constantLong RX6 311 (10000)) (by decide +kernel)) dX6_markButter_5 ?_
  refine lv_ladd hx hb dX6_markButter_8 ?_
  refine lv_topl (fun n_1 e_2 => ?_)
  replace h := h n_1 e_2
  refine va_put (D := (dC, dI)) (ci := 6) (v := .long n_1) (ty := .long) (C := RX6) (T := TX6) (N := 10) hx hb hts iwX6_markButter_X6 tyX6 tyX6_ok nmX6 hown hK hP hD hS 0 rfl rfl 9 (by decide) f57 (fun _ h9 => h9) rfl (by decide +kernel) rfl rfl (Nat.le_of_ble_eq_true rfl) dX6_markButter_9 (fun H locs hP hD hS => ?_)
  replace hP : va_P (dC, dI) vwCl [(a, .inr (6, [.ref a_reader, .ref a_told, .ref a_draft, .ref a_course, .ref a_firstImage, .ref a_secondImage, .ref a_imageKept, .ref a_bestDigs, .ref a_heard, .long n_1])), (a_course, .inr (2, [.ref a_course_rows, .int v_course_known])), (a_course_rows, .inl (cyI, 165, .inl v_course_rows)), (a_told, .inr (5, [.ref a_told_seam, .int v_told_seamTold, .int v_told_boundTold, .int v_told_lossTold, .int v_told_bound, .int v_told_loss, .int v_told_things, .ref a_told_yellow, .ref a_told_white, .ref a_told_fades, .ref a_told_worth]))] H := hP
  replace hD : va_D A [(a, .inr (6, [.ref a_reader, .ref a_told, .ref a_draft, .ref a_course, .ref a_firstImage, .ref a_secondImage, .ref a_imageKept, .ref a_bestDigs, .ref a_heard, .long n_1])), (a_course, .inr (2, [.ref a_course_rows, .int v_course_known])), (a_course_rows, .inl (cyI, 165, .inl v_course_rows)), (a_told, .inr (5, [.ref a_told_seam, .int v_told_seamTold, .int v_told_boundTold, .int v_told_lossTold, .int v_told_bound, .int v_told_loss, .int v_told_things, .ref a_told_yellow, .ref a_told_white, .ref a_told_fades, .ref a_told_worth]))] := hD
  refine lv_aload_n hx hb dX6_markButter_12 rfl (lv_at hl 0 rfl) ?_
  refine lv_iload_n hx hb dX6_markButter_13 rfl (lv_at hl 1 rfl) ?_
  refine gV_i1 (As := [.int p0]) (rest := []) ⟨hx, hb, hml, hown, hts⟩ (c_X6_markLemon l dC dI cyC cyI cyZ _ a a_reader a_told a_draft a_course a_firstImage a_secondImage a_imageKept a_bestDigs a_heard a_course_rows n_1 v_course_known v_course_rows p0 h) (cwV 1 hts gX6_markButter_X6_markLemon rfl rfl rfl hdV_X6_markLemon ⟨Nat.le_of_ble_eq_true rfl, Nat.le_of_ble_eq_true rfl⟩) hK hN hP hD hS hA [0, 1, 2] (by decide) rfl (ci := 6) rfl rfl rfl hl.1 rfl (Nat.le_of_ble_eq_true rfl) dX6_markButter_14 ⟨Nat.zero_le _, Nat.zero_le _⟩ (wr := [(a_told, .inr (5, [.ref a_told_seam, .int v_told_seamTold, .int v_told_boundTold, .int v_told_lossTold, .int v_told_bound, .int v_told_loss, .int v_told_things, .ref a_told_yellow, .ref a_told_white, .ref a_told_fades, .ref a_told_worth]))]) [3] rfl (by decide) (by decide) (fun r_3 u_4 H locs h hP hD hS => ?_)
  replace hP : va_P (dC, dI) vwCl [(a_told, .inr (5, [.ref a_told_seam, .int v_told_seamTold, .int v_told_boundTold, .int v_told_lossTold, .int v_told_bound, .int v_told_loss, .int v_told_things, .ref a_told_yellow, .ref a_told_white, .ref a_told_fades, .ref a_told_worth])), (a, .inr (6, [.ref a_reader, .ref a_told, .ref a_draft, .ref a_course, .ref a_firstImage, .ref a_secondImage, .ref a_imageKept, .ref a_bestDigs, .ref a_heard, .long u_4])), (a_course, .inr (2, [.ref a_course_rows, .int v_course_known])), (a_course_rows, .inl (cyI, 165, .inl v_course_rows))] H := hP
  replace hD : va_D A [(a_told, .inr (5, [.ref a_told_seam, .int v_told_seamTold, .int v_told_boundTold, .int v_told_lossTold, .int v_told_bound, .int v_told_loss, .int v_told_things, .ref a_told_yellow, .ref a_told_white, .ref a_told_fades, .ref a_told_worth])), (a, .inr (6, [.ref a_reader, .ref a_told, .ref a_draft, .ref a_course, .ref a_firstImage, .ref a_secondImage, .ref a_imageKept, .ref a_bestDigs, .ref a_heard, .long u_4])), (a_course, .inr (2, [.ref a_course_rows, .int v_course_known])), (a_course_rows, .inl (cyI, 165, .inl v_course_rows))] := hD
  refine lv_aload_n hx hb dX6_markButter_17 rfl (lv_at hl 0 rfl) ?_
  refine va_get (D := (dC, dI)) (ci := 6) (v := .ref a_told) (C := RX6) (T := TX6) (N := 10) hx hb hts iwX6_markButter_X6 hown hK hP 1 rfl rfl 1 (by decide) f19 (fun _ h9 => h9) rfl dX6_markButter_18 ?_
  refine va_getN (host := "LastOchre") (D := (dC, dI)) (ci := 5) (v := .int v_told_bound) (C := RX5) (T := TX5) (N := 11) hx hb hts iwX6_markButter_X5 hown hK hP 0 rfl rfl 4 (by decide) f216 (fun _ h9 => h9) rfl dX6_markButter_21 ?_
  refine lv_iadd hx hb dX6_markButter_24 ?_
  exact gri1 hx hb hr hlocks h (hP.sub (ws' := [(a, .inr (6, [.ref a_reader, .ref a_told, .ref a_draft, .ref a_course, .ref a_firstImage, .ref a_secondImage, .ref a_imageKept, .ref a_bestDigs, .ref a_heard, .long u_4])), (a_course, .inr (2, [.ref a_course_rows, .int v_course_known])), (a_course_rows, .inl (cyI, 165, .inl v_course_rows)), (a_told, .inr (5, [.ref a_told_seam, .int v_told_seamTold, .int v_told_boundTold, .int v_told_lossTold, .int v_told_bound, .int v_told_loss, .int v_told_things, .ref a_told_yellow, .ref a_told_white, .ref a_told_fades, .ref a_told_worth]))]) [1, 2, 3, 0] rfl) (hD.sub (ws' := [(a, .inr (6, [.ref a_reader, .ref a_told, .ref a_draft, .ref a_course, .ref a_firstImage, .ref a_secondImage, .ref a_imageKept, .ref a_bestDigs, .ref a_heard, .long u_4])), (a_course, .inr (2, [.ref a_course_rows, .int v_course_known])), (a_course_rows, .inl (cyI, 165, .inl v_course_rows)), (a_told, .inr (5, [.ref a_told_seam, .int v_told_seamTold, .int v_told_boundTold, .int v_told_lossTold, .int v_told_bound, .int v_told_loss, .int v_told_things, .ref a_told_yellow, .ref a_told_white, .ref a_told_fades, .ref a_told_worth]))]) [1, 2, 3, 0] (by decide) rfl) hS dX6_markButter_25

def F_X6_markBee_e (v_course_rows : Nat → Int32) (p0 : Int32) (Q : Int32 → Int64 → Prop) (v_traced : Int64) : Prop :=
  ∀ n_1 : Int64, n_1 = (v_traced + (100000 : Int64)) → (q_X6_markThing n_1 v_course_rows p0 (fun (r_3 : Int32) (u_4 : Int64) => q_X2_year v_course_rows (fun (r_5 : Int32) => Q (r_3 + r_5) u_4)))
def q_X6_markBee (v_traced : Int64) (v_course_rows : Nat → Int32) (p0 : Int32) (Q : Int32 → Int64 → Prop) : Prop := F_X6_markBee_e v_course_rows p0 Q v_traced
theorem iwX6_markBee_X6 : ∀ w ∈ wsX60, w ∈ wsX6_markBee := by decide +kernel
theorem hdV_X6_markBee : yX6_markBee.cls = RX6 ∧ yX6_markBee.cls ≠ "java/lang/invoke/MethodHandle" ∧ yX6_markBee.cls ≠ "java/lang/invoke/VarHandle" ∧ (parseMethodDescriptor yX6_markBee.desc).map (fun d => d.parameters.length) = some 1 := by decide +kernel
set_option maxHeartbeats 4000000 in
set_option maxRecDepth 100000 in
theorem c_X6_markBee (l : Launch) (dC : Nat → ClassId) (dI : Nat → Nat → Nat) (cyC cyI cyZ : ClassId) (sz : Nat) (a a_reader a_told a_draft a_course a_firstImage a_secondImage a_imageKept a_bestDigs a_heard a_course_rows : Nat) (v_traced : Int64) (v_course_known : Int32) (v_course_rows : Nat → Int32) (p0 : Int32) {Q : Int32 → Int64 → Prop} (h : q_X6_markBee v_traced v_course_rows p0 Q) : Met l yX6_markBee wsX6_markBee ({ frames := 2, cells := 0, slots := 0, locals := 42 }) (gPc [.ref a, .int p0] (dC, dI) (gTy cyC cyI cyZ) sz [(a, .inr (6, [.ref a_reader, .ref a_told, .ref a_draft, .ref a_course, .ref a_firstImage, .ref a_secondImage, .ref a_imageKept, .ref a_bestDigs, .ref a_heard, .long v_traced])), (a_course, .inr (2, [.ref a_course_rows, .int v_course_known])), (a_course_rows, .inl (cyI, 165, .inl v_course_rows))]) (gQi1 Q (dC, dI) (va_A [(a, .inr (6, [.ref a_reader, .ref a_told, .ref a_draft, .ref a_course, .ref a_firstImage, .ref a_secondImage, .ref a_imageKept, .ref a_bestDigs, .ref a_heard, .long v_traced])), (a_course, .inr (2, [.ref a_course_rows, .int v_course_known])), (a_course_rows, .inl (cyI, 165, .inl v_course_rows))] sz) (fun (u1 : Int64) => [(a, .inr (6, [.ref a_reader, .ref a_told, .ref a_draft, .ref a_course, .ref a_firstImage, .ref a_secondImage, .ref a_imageKept, .ref a_bestDigs, .ref a_heard, .long u1])), (a_course, .inr (2, [.ref a_course_rows, .int v_course_known])), (a_course_rows, .inl (cyI, 165, .inl v_course_rows))])) 0 0 (va_A [(a, .inr (6, [.ref a_reader, .ref a_told, .ref a_draft, .ref a_course, .ref a_firstImage, .ref a_secondImage, .ref a_imageKept, .ref a_bestDigs, .ref a_heard, .long v_traced])), (a_course, .inr (2, [.ref a_course_rows, .int v_course_known])), (a_course_rows, .inl (cyI, 165, .inl v_course_rows))] sz) := by
  refine gMet (cc := cX6_markBee) (maxL := 2) (ret := (some .int)) (own := RX6) (fun A => gQi1 Q (dC, dI) A (fun (u1 : Int64) => [(a, .inr (6, [.ref a_reader, .ref a_told, .ref a_draft, .ref a_course, .ref a_firstImage, .ref a_secondImage, .ref a_imageKept, .ref a_bestDigs, .ref a_heard, .long u1])), (a_course, .inr (2, [.ref a_course_rows, .int v_course_known])), (a_course_rows, .inl (cyI, 165, .inl v_course_rows))])) (by decide) rfl rfl (Nat.le_of_ble_eq_true rfl) ?_
  intro p e s m below meth c A ls C0 _ hK hN hP hD hA hl
  obtain ⟨hx, hb, hr, hml, hown, hts, hlocks⟩ := id C0
  have f29 := hts (.fieldLink RX6 29 "LastOchre" "course" "LLastOchre$Course;") (by decide +kernel)
  have f57 := hts (.fieldLink RX6 57 "LastOchre" "traced" "J") (by decide +kernel)
  have hS : va_S A s.heap s.heap [] := va_S.rf
  replace hl : lv_has ls 2 [(0, .ref a), (1, .int p0)] := hl
  unfold q_X6_markBee at h
  unfold F_X6_markBee_e at h
  refine lv_aload_n hx hb dX6_markBee_0 rfl (lv_at hl 0 rfl) ?_
  refine lv_dup hx hb dX6_markBee_1 rfl ?_
  refine va_get (D := (dC, dI)) (ci := 6) (v := .long v_traced) (C := RX6) (T := TX6) (N := 10) hx hb hts iwX6_markBee_X6 hown hK hP 0 rfl rfl 9 (by decide) f57 (fun _ h9 => h9) rfl dX6_markBee_2 ?_
  refine lv_ldc2 (v := 100000) hx hb hown (hts (.constantLong RX6 313 (100000)) (by decide +kernel)) dX6_markBee_5 ?_
  refine lv_ladd hx hb dX6_markBee_8 ?_
  refine lv_topl (fun n_1 e_2 => ?_)
  replace h := h n_1 e_2
  refine va_put (D := (dC, dI)) (ci := 6) (v := .long n_1) (ty := .long) (C := RX6) (T := TX6) (N := 10) hx hb hts iwX6_markBee_X6 tyX6 tyX6_ok nmX6 hown hK hP hD hS 0 rfl rfl 9 (by decide) f57 (fun _ h9 => h9) rfl (by decide +kernel) rfl rfl (Nat.le_of_ble_eq_true rfl) dX6_markBee_9 (fun H locs hP hD hS => ?_)
  replace hP : va_P (dC, dI) vwCl [(a, .inr (6, [.ref a_reader, .ref a_told, .ref a_draft, .ref a_course, .ref a_firstImage, .ref a_secondImage, .ref a_imageKept, .ref a_bestDigs, .ref a_heard, .long n_1])), (a_course, .inr (2, [.ref a_course_rows, .int v_course_known])), (a_course_rows, .inl (cyI, 165, .inl v_course_rows))] H := hP
  replace hD : va_D A [(a, .inr (6, [.ref a_reader, .ref a_told, .ref a_draft, .ref a_course, .ref a_firstImage, .ref a_secondImage, .ref a_imageKept, .ref a_bestDigs, .ref a_heard, .long n_1])), (a_course, .inr (2, [.ref a_course_rows, .int v_course_known])), (a_course_rows, .inl (cyI, 165, .inl v_course_rows))] := hD
  refine lv_aload_n hx hb dX6_markBee_12 rfl (lv_at hl 0 rfl) ?_
  refine lv_iload_n hx hb dX6_markBee_13 rfl (lv_at hl 1 rfl) ?_
  refine gV_i1 (As := [.int p0]) (rest := []) ⟨hx, hb, hml, hown, hts⟩ (c_X6_markThing l dC dI cyC cyI cyZ _ a a_reader a_told a_draft a_course a_firstImage a_secondImage a_imageKept a_bestDigs a_heard a_course_rows n_1 v_course_known v_course_rows p0 h) (cwV 1 hts gX6_markBee_X6_markThing rfl rfl rfl hdV_X6_markThing ⟨Nat.le_of_ble_eq_true rfl, Nat.le_of_ble_eq_true rfl⟩) hK hN hP hD hS hA [0, 1, 2] (by decide) rfl (ci := 6) rfl rfl rfl hl.1 rfl (Nat.le_of_ble_eq_true rfl) dX6_markBee_14 ⟨Nat.zero_le _, Nat.zero_le _⟩ (wr := []) [] rfl (by decide) (by decide) (fun r_3 u_4 H locs h hP hD hS => ?_)
  replace hP : va_P (dC, dI) vwCl [(a, .inr (6, [.ref a_reader, .ref a_told, .ref a_draft, .ref a_course, .ref a_firstImage, .ref a_secondImage, .ref a_imageKept, .ref a_bestDigs, .ref a_heard, .long u_4])), (a_course, .inr (2, [.ref a_course_rows, .int v_course_known])), (a_course_rows, .inl (cyI, 165, .inl v_course_rows))] H := hP
  replace hD : va_D A [(a, .inr (6, [.ref a_reader, .ref a_told, .ref a_draft, .ref a_course, .ref a_firstImage, .ref a_secondImage, .ref a_imageKept, .ref a_bestDigs, .ref a_heard, .long u_4])), (a_course, .inr (2, [.ref a_course_rows, .int v_course_known])), (a_course_rows, .inl (cyI, 165, .inl v_course_rows))] := hD
  refine lv_aload_n hx hb dX6_markBee_17 rfl (lv_at hl 0 rfl) ?_
  refine va_get (D := (dC, dI)) (ci := 6) (v := .ref a_course) (C := RX6) (T := TX6) (N := 10) hx hb hts iwX6_markBee_X6 hown hK hP 0 rfl rfl 3 (by decide) f29 (fun _ h9 => h9) rfl dX6_markBee_18 ?_
  refine gV_i0 (As := []) (rest := [.int r_3]) ⟨hx, hb, hml, hown, hts⟩ (c_X2_year l dC dI cyC cyI cyZ _ a_course a_course_rows v_course_known v_course_rows h) (cwV 0 hts gX6_markBee_X2_year rfl rfl rfl hdV_X2_year ⟨Nat.le_of_ble_eq_true rfl, Nat.le_of_ble_eq_true rfl⟩) hK hN hP hD hS hA [1, 2] (by decide) rfl (ci := 2) rfl rfl rfl hl.1 rfl (Nat.le_of_ble_eq_true rfl) dX6_markBee_21 ⟨Nat.zero_le _, Nat.zero_le _⟩ (fun r_5 H locs h hP hS => ?_)
  refine lv_iadd hx hb dX6_markBee_24 ?_
  exact gri1 hx hb hr hlocks h hP hD hS dX6_markBee_25

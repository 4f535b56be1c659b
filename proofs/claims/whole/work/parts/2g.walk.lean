def F_X6_yellowOfAll_e (v_told_things : Int32) (v_course_rows : Nat → Int32) (Q : Int32 → Prop) (rec : Nat → Int32 → Int32 → Prop)  : Prop :=
  rec 4 (0 : Int32) (0 : Int32)
def F_X6_yellowOfAll_4 (v_told_things : Int32) (v_course_rows : Nat → Int32) (Q : Int32 → Prop) (rec : Nat → Int32 → Int32 → Prop) (x1 : Int32) (x2 : Int32) : Prop :=
  (v_told_things ≤ x2 → (Q x1)) ∧ (¬ v_told_things ≤ x2 → (q_X2_yellow v_course_rows x2 (fun (r_2 : Int32) => ∀ x1_3 : Int32, x1_3 = (x1 + r_2) → (∀ x2_5 : Int32, x2_5 = (x2 + (1 : Int32)) → (rec 4 x1_3 x2_5)))))
def wp_X6_yellowOfAll (v_told_things : Int32) (v_course_rows : Nat → Int32) (Q : Int32 → Prop) : Nat → Nat → Int32 → Int32 → Prop
  | 0 => fun _ _ _ => False
  | n + 1 => fun t x1 x2 => if t = 4 then F_X6_yellowOfAll_4 v_told_things v_course_rows Q (wp_X6_yellowOfAll v_told_things v_course_rows Q n) x1 x2 else False
def q_X6_yellowOfAll (v_told_things : Int32) (v_course_rows : Nat → Int32) (Q : Int32 → Prop) : Prop := ∃ n, F_X6_yellowOfAll_e v_told_things v_course_rows Q (wp_X6_yellowOfAll v_told_things v_course_rows Q n) 
theorem iwX6_yellowOfAll_X5 : ∀ w ∈ wsX50, w ∈ wsX6_yellowOfAll := by decide +kernel
theorem iwX6_yellowOfAll_X6 : ∀ w ∈ wsX60, w ∈ wsX6_yellowOfAll := by decide +kernel
theorem hdV_X6_yellowOfAll : yX6_yellowOfAll.cls = RX6 ∧ yX6_yellowOfAll.cls ≠ "java/lang/invoke/MethodHandle" ∧ yX6_yellowOfAll.cls ≠ "java/lang/invoke/VarHandle" ∧ (parseMethodDescriptor yX6_yellowOfAll.desc).map (fun d => d.parameters.length) = some 0 := by decide +kernel
set_option maxHeartbeats 4000000 in
set_option maxRecDepth 100000 in
theorem w_X6_yellowOfAll {p : Program} {l : Launch} {e : Env} {s : State} {m : MethodId} {args : Array Value} {below : List Frame} {meth : Method} {c : Code} {A : Nat → Prop} (dC : Nat → ClassId) (dI : Nat → Nat → Nat) (cyC cyI cyZ : ClassId) (a a_reader a_told a_draft a_course a_firstImage a_secondImage a_imageKept a_bestDigs a_heard a_told_seam a_told_yellow a_told_white a_told_fades a_told_worth a_course_rows : Nat) (v_traced : Int64) (v_told_seamTold : Int32) (v_told_boundTold : Int32) (v_told_lossTold : Int32) (v_told_bound : Int32) (v_told_loss : Int32) (v_told_things : Int32) (v_course_known : Int32) (v_course_rows : Nat → Int32) (Q : Int32 → Prop) (C0 : gAt cX6_yellowOfAll (some .int) 3 RX6 wsX6_yellowOfAll p s m meth c args) (hK : va_K (dC, dI) vwCl (gTy cyC cyI cyZ) s) (hN : nU s) (hA : ∀ q, s.heap.size ≤ q → A q) : ∀ n : Nat, (∀ (x1 : Int32) (x2 : Int32) (H : Heap) (locs : List Loc) (ls : Array Slot), wp_X6_yellowOfAll v_told_things v_course_rows Q n 4 x1 x2 → va_P (dC, dI) vwCl [(a, .inr (6, [.ref a_reader, .ref a_told, .ref a_draft, .ref a_course, .ref a_firstImage, .ref a_secondImage, .ref a_imageKept, .ref a_bestDigs, .ref a_heard, .long v_traced])), (a_told, .inr (5, [.ref a_told_seam, .int v_told_seamTold, .int v_told_boundTold, .int v_told_lossTold, .int v_told_bound, .int v_told_loss, .int v_told_things, .ref a_told_yellow, .ref a_told_white, .ref a_told_fades, .ref a_told_worth])), (a_course, .inr (2, [.ref a_course_rows, .int v_course_known])), (a_course_rows, .inl (cyI, 165, .inl v_course_rows))] H → va_D A [(a, .inr (6, [.ref a_reader, .ref a_told, .ref a_draft, .ref a_course, .ref a_firstImage, .ref a_secondImage, .ref a_imageKept, .ref a_bestDigs, .ref a_heard, .long v_traced])), (a_told, .inr (5, [.ref a_told_seam, .int v_told_seamTold, .int v_told_boundTold, .int v_told_lossTold, .int v_told_bound, .int v_told_loss, .int v_told_things, .ref a_told_yellow, .ref a_told_white, .ref a_told_fades, .ref a_told_worth])), (a_course, .inr (2, [.ref a_course_rows, .int v_course_known])), (a_course_rows, .inl (cyI, 165, .inl v_course_rows))] → va_S A s.heap H locs → lv_has ls 3 [(0, .ref a), (1, .int x1), (2, .int x2)] → W p l e { frames := 1, cells := 0, slots := 0, locals := 21 } s m args below meth c H locs 0 0 (MQ below (gQi0 Q (dC, dI) A [(a, .inr (6, [.ref a_reader, .ref a_told, .ref a_draft, .ref a_course, .ref a_firstImage, .ref a_secondImage, .ref a_imageKept, .ref a_bestDigs, .ref a_heard, .long v_traced])), (a_told, .inr (5, [.ref a_told_seam, .int v_told_seamTold, .int v_told_boundTold, .int v_told_lossTold, .int v_told_bound, .int v_told_loss, .int v_told_things, .ref a_told_yellow, .ref a_told_white, .ref a_told_fades, .ref a_told_worth])), (a_course, .inr (2, [.ref a_course_rows, .int v_course_known])), (a_course_rows, .inl (cyI, 165, .inl v_course_rows))]) args s 0 0 A) (F0 m 4 ls [])) := by
  obtain ⟨hx, hb, hr, hml, hown, hts, hlocks⟩ := id C0
  have f159 := hN.link (args := (args)) (w := .fieldLinkNest RX6 159 "LastOchre$Told" "things" "I" "LastOchre") 19 rfl
  have f19 := hts (.fieldLink RX6 19 "LastOchre" "told" "LLastOchre$Told;") (by decide +kernel)
  have f29 := hts (.fieldLink RX6 29 "LastOchre" "course" "LLastOchre$Course;") (by decide +kernel)
  intro n
  induction n with
  | zero => exact fun _ _ _ _ _ h => absurd h id
  | succ n ih =>
    have ih4 := ih
    · intro x1 x2 H locs ls h hP hD hS hl
      replace h : F_X6_yellowOfAll_4 v_told_things v_course_rows Q (wp_X6_yellowOfAll v_told_things v_course_rows Q n) x1 x2 := h
      unfold F_X6_yellowOfAll_4 at h
      refine lv_iload_n hx hb dX6_yellowOfAll_4 rfl (lv_at hl 2 rfl) ?_
      refine lv_aload_n hx hb dX6_yellowOfAll_5 rfl (lv_at hl 0 rfl) ?_
      refine va_get (D := (dC, dI)) (ci := 6) (v := .ref a_told) (C := RX6) (T := TX6) (N := 10) hx hb hts iwX6_yellowOfAll_X6 hown hK hP 0 rfl rfl 1 (by decide) f19 (fun _ h9 => h9) rfl dX6_yellowOfAll_6 ?_
      refine va_getN (host := "LastOchre") (D := (dC, dI)) (ci := 5) (v := .int v_told_things) (C := RX5) (T := TX5) (N := 11) hx hb hts iwX6_yellowOfAll_X5 hown hK hP 1 rfl rfl 6 (by decide) f159 (fun _ h9 => h9) rfl dX6_yellowOfAll_9 ?_
      refine lv_icmp_ge (tgt := 32) hx hb dX6_yellowOfAll_12 (by decide) (fun c_1 => ?_) (fun c_1 => ?_)
      · replace h := h.1 c_1
        refine lv_iload_n hx hb dX6_yellowOfAll_32 rfl (lv_at hl 1 rfl) ?_
        exact gri0 hx hb hr hlocks h hP hD hS dX6_yellowOfAll_33
      · replace h := h.2 c_1
        refine lv_iload_n hx hb dX6_yellowOfAll_15 rfl (lv_at hl 1 rfl) ?_
        refine lv_aload_n hx hb dX6_yellowOfAll_16 rfl (lv_at hl 0 rfl) ?_
        refine va_get (D := (dC, dI)) (ci := 6) (v := .ref a_course) (C := RX6) (T := TX6) (N := 10) hx hb hts iwX6_yellowOfAll_X6 hown hK hP 0 rfl rfl 3 (by decide) f29 (fun _ h9 => h9) rfl dX6_yellowOfAll_17 ?_
        refine lv_iload_n hx hb dX6_yellowOfAll_20 rfl (lv_at hl 2 rfl) ?_
        refine gV_i0 (As := [.int x2]) (rest := [.int x1]) ⟨hx, hb, hml, hown, hts⟩ (c_X2_yellow l dC dI cyC cyI cyZ _ a_course a_course_rows v_course_known v_course_rows x2 h) (cwV 1 hts gX6_yellowOfAll_X2_yellow rfl rfl rfl hdV_X2_yellow ⟨Nat.le_of_ble_eq_true rfl, Nat.le_of_ble_eq_true rfl⟩) hK hN hP hD hS hA [2, 3] (by decide) rfl (ci := 2) rfl rfl rfl hl.1 rfl (Nat.le_of_ble_eq_true rfl) dX6_yellowOfAll_21 ⟨Nat.zero_le _, Nat.zero_le _⟩ (fun r_2 H locs h hP hS => ?_)
        refine lv_iadd hx hb dX6_yellowOfAll_24 ?_
        refine lv_topi (fun x1_3 e_4 => ?_)
        replace h := h x1_3 e_4
        refine lv_istore_n (lv' := [(1, .int x1_3), (0, .ref a), (2, .int x2)]) hx hb dX6_yellowOfAll_25 rfl hl (by decide) rfl (fun ls hl => ?_)
        obtain ⟨x2_5, e_6⟩ : ∃ y : Int32, y = (x2 + (1 : Int32)) := ⟨_, rfl⟩
        replace h := h x2_5 e_6
        refine lv_iinc (v := x2_5) (lv' := [(2, .int x2_5), (1, .int x1_3), (0, .ref a)]) hx hb dX6_yellowOfAll_26 hl (k := 2) rfl (by rw [e_6]; rfl) (by decide) rfl (fun ls hl => ?_)
        refine lv_goto (tgt := 4) hx hb dX6_yellowOfAll_29 (by decide) ?_
        exact ih4 x1_3 x2_5 _ _ _ h hP hD hS (lv_sub hl [2, 1, 0] rfl)
set_option maxHeartbeats 4000000 in
set_option maxRecDepth 100000 in
theorem c_X6_yellowOfAll (l : Launch) (dC : Nat → ClassId) (dI : Nat → Nat → Nat) (cyC cyI cyZ : ClassId) (sz : Nat) (a a_reader a_told a_draft a_course a_firstImage a_secondImage a_imageKept a_bestDigs a_heard a_told_seam a_told_yellow a_told_white a_told_fades a_told_worth a_course_rows : Nat) (v_traced : Int64) (v_told_seamTold : Int32) (v_told_boundTold : Int32) (v_told_lossTold : Int32) (v_told_bound : Int32) (v_told_loss : Int32) (v_told_things : Int32) (v_course_known : Int32) (v_course_rows : Nat → Int32) {Q : Int32 → Prop} (h : q_X6_yellowOfAll v_told_things v_course_rows Q) : Met l yX6_yellowOfAll wsX6_yellowOfAll ({ frames := 1, cells := 0, slots := 0, locals := 21 }) (gPc [.ref a] (dC, dI) (gTy cyC cyI cyZ) sz [(a, .inr (6, [.ref a_reader, .ref a_told, .ref a_draft, .ref a_course, .ref a_firstImage, .ref a_secondImage, .ref a_imageKept, .ref a_bestDigs, .ref a_heard, .long v_traced])), (a_told, .inr (5, [.ref a_told_seam, .int v_told_seamTold, .int v_told_boundTold, .int v_told_lossTold, .int v_told_bound, .int v_told_loss, .int v_told_things, .ref a_told_yellow, .ref a_told_white, .ref a_told_fades, .ref a_told_worth])), (a_course, .inr (2, [.ref a_course_rows, .int v_course_known])), (a_course_rows, .inl (cyI, 165, .inl v_course_rows))]) (gQi0 Q (dC, dI) (va_A [(a, .inr (6, [.ref a_reader, .ref a_told, .ref a_draft, .ref a_course, .ref a_firstImage, .ref a_secondImage, .ref a_imageKept, .ref a_bestDigs, .ref a_heard, .long v_traced])), (a_told, .inr (5, [.ref a_told_seam, .int v_told_seamTold, .int v_told_boundTold, .int v_told_lossTold, .int v_told_bound, .int v_told_loss, .int v_told_things, .ref a_told_yellow, .ref a_told_white, .ref a_told_fades, .ref a_told_worth])), (a_course, .inr (2, [.ref a_course_rows, .int v_course_known])), (a_course_rows, .inl (cyI, 165, .inl v_course_rows))] sz) [(a, .inr (6, [.ref a_reader, .ref a_told, .ref a_draft, .ref a_course, .ref a_firstImage, .ref a_secondImage, .ref a_imageKept, .ref a_bestDigs, .ref a_heard, .long v_traced])), (a_told, .inr (5, [.ref a_told_seam, .int v_told_seamTold, .int v_told_boundTold, .int v_told_lossTold, .int v_told_bound, .int v_told_loss, .int v_told_things, .ref a_told_yellow, .ref a_told_white, .ref a_told_fades, .ref a_told_worth])), (a_course, .inr (2, [.ref a_course_rows, .int v_course_known])), (a_course_rows, .inl (cyI, 165, .inl v_course_rows))]) 0 0 (va_A [(a, .inr (6, [.ref a_reader, .ref a_told, .ref a_draft, .ref a_course, .ref a_firstImage, .ref a_secondImage, .ref a_imageKept, .ref a_bestDigs, .ref a_heard, .long v_traced])), (a_told, .inr (5, [.ref a_told_seam, .int v_told_seamTold, .int v_told_boundTold, .int v_told_lossTold, .int v_told_bound, .int v_told_loss, .int v_told_things, .ref a_told_yellow, .ref a_told_white, .ref a_told_fades, .ref a_told_worth])), (a_course, .inr (2, [.ref a_course_rows, .int v_course_known])), (a_course_rows, .inl (cyI, 165, .inl v_course_rows))] sz) := by
  refine gMet (cc := cX6_yellowOfAll) (maxL := 3) (ret := (some .int)) (own := RX6) (fun A => gQi0 Q (dC, dI) A [(a, .inr (6, [.ref a_reader, .ref a_told, .ref a_draft, .ref a_course, .ref a_firstImage, .ref a_secondImage, .ref a_imageKept, .ref a_bestDigs, .ref a_heard, .long v_traced])), (a_told, .inr (5, [.ref a_told_seam, .int v_told_seamTold, .int v_told_boundTold, .int v_told_lossTold, .int v_told_bound, .int v_told_loss, .int v_told_things, .ref a_told_yellow, .ref a_told_white, .ref a_told_fades, .ref a_told_worth])), (a_course, .inr (2, [.ref a_course_rows, .int v_course_known])), (a_course_rows, .inl (cyI, 165, .inl v_course_rows))]) (by decide) rfl rfl (Nat.le_of_ble_eq_true rfl) ?_
  intro p e s m below meth c A ls C0 _ hK hN hP hD hA hl
  obtain ⟨hx, hb, hr, hml, hown, hts, hlocks⟩ := id C0
  have f159 := hN.link (args := ([.ref a].toArray)) (w := .fieldLinkNest RX6 159 "LastOchre$Told" "things" "I" "LastOchre") 19 rfl
  have f19 := hts (.fieldLink RX6 19 "LastOchre" "told" "LLastOchre$Told;") (by decide +kernel)
  have f29 := hts (.fieldLink RX6 29 "LastOchre" "course" "LLastOchre$Course;") (by decide +kernel)
  have hS : va_S A s.heap s.heap [] := va_S.rf
  replace hl : lv_has ls 3 [(0, .ref a)] := hl
  unfold q_X6_yellowOfAll at h
  obtain ⟨n, h⟩ := h
  have ih4 := w_X6_yellowOfAll (l := l) (e := e) (below := below) dC dI cyC cyI cyZ a a_reader a_told a_draft a_course a_firstImage a_secondImage a_imageKept a_bestDigs a_heard a_told_seam a_told_yellow a_told_white a_told_fades a_told_worth a_course_rows v_traced v_told_seamTold v_told_boundTold v_told_lossTold v_told_bound v_told_loss v_told_things v_course_known v_course_rows Q C0 hK hN hA n
  unfold F_X6_yellowOfAll_e at h
  refine lv_iconst (v := 0) hx hb dX6_yellowOfAll_0 (by decide) ?_
  refine lv_istore_n (lv' := [(1, .int (0 : Int32)), (0, .ref a)]) hx hb dX6_yellowOfAll_1 rfl hl (by decide) rfl (fun ls hl => ?_)
  refine lv_iconst (v := 0) hx hb dX6_yellowOfAll_2 (by decide) ?_
  refine lv_istore_n (lv' := [(2, .int (0 : Int32)), (1, .int (0 : Int32)), (0, .ref a)]) hx hb dX6_yellowOfAll_3 rfl hl (by decide) rfl (fun ls hl => ?_)
  exact ih4 (0 : Int32) (0 : Int32) _ _ _ h hP hD hS (lv_sub hl [2, 1, 0] rfl)

def F_X6_now_e (v_course_rows : Nat → Int32) (v_told_bound : Int32) (v_told_things : Int32) (v_told_fades : Nat → Int32) (v_told_worth : Nat → Int32) (v_told_seam_all : Int32) (v_told_seam_parts : Nat → Int32) (p0 : Int32) (Q : Int32 → Prop)  : Prop :=
  (p0 = (0 : Int32) → (q_X2_year v_course_rows (fun (r_2 : Int32) => Q r_2))) ∧ (p0 = (1 : Int32) → (q_X2_store v_course_rows (fun (r_4 : Int32) => Q r_4))) ∧ (p0 = (2 : Int32) → (q_X2_dug v_course_rows (fun (r_6 : Int32) => Q r_6))) ∧ (p0 = (3 : Int32) → (q_X6_calledSet v_told_bound v_told_things v_course_rows v_told_fades (fun (r_8 : Int32) => Q r_8))) ∧ (p0 = (4 : Int32) → (q_X6_calledSet v_told_bound v_told_things v_course_rows v_told_fades (fun (r_10 : Int32) => q_X6_worthOf v_told_things v_told_worth r_10 (fun (r_11 : Int32) => Q r_11)))) ∧ (p0 = (5 : Int32) → (q_X6_yellowOfAll v_told_things v_course_rows (fun (r_13 : Int32) => Q r_13))) ∧ (p0 = (6 : Int32) → (q_X2_dug v_course_rows (fun (r_15 : Int32) => q_X4_partsIn v_told_seam_parts (v_told_seam_all &&& (r_15 ^^^ (-1 : Int32))) (fun (r_16 : Int32) => Q r_16)))) ∧ ((¬ p0 = (0 : Int32) ∧ ¬ p0 = (1 : Int32) ∧ ¬ p0 = (2 : Int32) ∧ ¬ p0 = (3 : Int32) ∧ ¬ p0 = (4 : Int32) ∧ ¬ p0 = (5 : Int32) ∧ ¬ p0 = (6 : Int32)) → (Q (-1 : Int32)))
def q_X6_now (v_course_rows : Nat → Int32) (v_told_bound : Int32) (v_told_things : Int32) (v_told_fades : Nat → Int32) (v_told_worth : Nat → Int32) (v_told_seam_all : Int32) (v_told_seam_parts : Nat → Int32) (p0 : Int32) (Q : Int32 → Prop) : Prop := F_X6_now_e v_course_rows v_told_bound v_told_things v_told_fades v_told_worth v_told_seam_all v_told_seam_parts p0 Q 
theorem iwX6_now_X4 : ∀ w ∈ wsX40, w ∈ wsX6_now := by decide +kernel
theorem iwX6_now_X5 : ∀ w ∈ wsX50, w ∈ wsX6_now := by decide +kernel
theorem iwX6_now_X6 : ∀ w ∈ wsX60, w ∈ wsX6_now := by decide +kernel
theorem hdV_X6_now : yX6_now.cls = RX6 ∧ yX6_now.cls ≠ "java/lang/invoke/MethodHandle" ∧ yX6_now.cls ≠ "java/lang/invoke/VarHandle" ∧ (parseMethodDescriptor yX6_now.desc).map (fun d => d.parameters.length) = some 1 := by decide +kernel
set_option maxHeartbeats 4000000 in
set_option maxRecDepth 100000 in
theorem c_X6_now (l : Launch) (dC : Nat → ClassId) (dI : Nat → Nat → Nat) (cyC cyI cyZ : ClassId) (sz : Nat) (a a_reader a_told a_draft a_course a_firstImage a_secondImage a_imageKept a_bestDigs a_heard a_course_rows a_told_seam a_told_yellow a_told_white a_told_fades a_told_worth a_told_seam_parts : Nat) (v_traced : Int64) (v_course_known : Int32) (v_course_rows : Nat → Int32) (v_told_seamTold : Int32) (v_told_boundTold : Int32) (v_told_lossTold : Int32) (v_told_bound : Int32) (v_told_loss : Int32) (v_told_things : Int32) (v_told_fades : Nat → Int32) (v_told_worth : Nat → Int32) (v_told_seam_w : Int32) (v_told_seam_h : Int32) (v_told_seam_all : Int32) (v_told_seam_top : Int32) (v_told_seam_left : Int32) (v_told_seam_right : Int32) (v_told_seam_parts : Nat → Int32) (p0 : Int32) {Q : Int32 → Prop} (h : q_X6_now v_course_rows v_told_bound v_told_things v_told_fades v_told_worth v_told_seam_all v_told_seam_parts p0 Q) : Met l yX6_now wsX6_now ({ frames := 4, cells := 0, slots := 0, locals := 96 }) (gPc [.ref a, .int p0] (dC, dI) (gTy cyC cyI cyZ) sz [(a, .inr (6, [.ref a_reader, .ref a_told, .ref a_draft, .ref a_course, .ref a_firstImage, .ref a_secondImage, .ref a_imageKept, .ref a_bestDigs, .ref a_heard, .long v_traced])), (a_course, .inr (2, [.ref a_course_rows, .int v_course_known])), (a_course_rows, .inl (cyI, 165, .inl v_course_rows)), (a_told, .inr (5, [.ref a_told_seam, .int v_told_seamTold, .int v_told_boundTold, .int v_told_lossTold, .int v_told_bound, .int v_told_loss, .int v_told_things, .ref a_told_yellow, .ref a_told_white, .ref a_told_fades, .ref a_told_worth])), (a_told_fades, .inl (cyI, 6, .inl v_told_fades)), (a_told_worth, .inl (cyI, 6, .inl v_told_worth)), (a_told_seam, .inr (4, [.int v_told_seam_w, .int v_told_seam_h, .ref a_told_seam_parts, .int v_told_seam_all, .int v_told_seam_top, .int v_told_seam_left, .int v_told_seam_right])), (a_told_seam_parts, .inl (cyI, 16, .inl v_told_seam_parts))]) (gQi0 Q (dC, dI) (va_A [(a, .inr (6, [.ref a_reader, .ref a_told, .ref a_draft, .ref a_course, .ref a_firstImage, .ref a_secondImage, .ref a_imageKept, .ref a_bestDigs, .ref a_heard, .long v_traced])), (a_course, .inr (2, [.ref a_course_rows, .int v_course_known])), (a_course_rows, .inl (cyI, 165, .inl v_course_rows)), (a_told, .inr (5, [.ref a_told_seam, .int v_told_seamTold, .int v_told_boundTold, .int v_told_lossTold, .int v_told_bound, .int v_told_loss, .int v_told_things, .ref a_told_yellow, .ref a_told_white, .ref a_told_fades, .ref a_told_worth])), (a_told_fades, .inl (cyI, 6, .inl v_told_fades)), (a_told_worth, .inl (cyI, 6, .inl v_told_worth)), (a_told_seam, .inr (4, [.int v_told_seam_w, .int v_told_seam_h, .ref a_told_seam_parts, .int v_told_seam_all, .int v_told_seam_top, .int v_told_seam_left, .int v_told_seam_right])), (a_told_seam_parts, .inl (cyI, 16, .inl v_told_seam_parts))] sz) [(a, .inr (6, [.ref a_reader, .ref a_told, .ref a_draft, .ref a_course, .ref a_firstImage, .ref a_secondImage, .ref a_imageKept, .ref a_bestDigs, .ref a_heard, .long v_traced])), (a_course, .inr (2, [.ref a_course_rows, .int v_course_known])), (a_course_rows, .inl (cyI, 165, .inl v_course_rows)), (a_told, .inr (5, [.ref a_told_seam, .int v_told_seamTold, .int v_told_boundTold, .int v_told_lossTold, .int v_told_bound, .int v_told_loss, .int v_told_things, .ref a_told_yellow, .ref a_told_white, .ref a_told_fades, .ref a_told_worth])), (a_told_fades, .inl (cyI, 6, .inl v_told_fades)), (a_told_worth, .inl (cyI, 6, .inl v_told_worth)), (a_told_seam, .inr (4, [.int v_told_seam_w, .int v_told_seam_h, .ref a_told_seam_parts, .int v_told_seam_all, .int v_told_seam_top, .int v_told_seam_left, .int v_told_seam_right])), (a_told_seam_parts, .inl (cyI, 16, .inl v_told_seam_parts))]) 0 0 (va_A [(a, .inr (6, [.ref a_reader, .ref a_told, .ref a_draft, .ref a_course, .ref a_firstImage, .ref a_secondImage, .ref a_imageKept, .ref a_bestDigs, .ref a_heard, .long v_traced])), (a_course, .inr (2, [.ref a_course_rows, .int v_course_known])), (a_course_rows, .inl (cyI, 165, .inl v_course_rows)), (a_told, .inr (5, [.ref a_told_seam, .int v_told_seamTold, .int v_told_boundTold, .int v_told_lossTold, .int v_told_bound, .int v_told_loss, .int v_told_things, .ref a_told_yellow, .ref a_told_white, .ref a_told_fades, .ref a_told_worth])), (a_told_fades, .inl (cyI, 6, .inl v_told_fades)), (a_told_worth, .inl (cyI, 6, .inl v_told_worth)), (a_told_seam, .inr (4, [.int v_told_seam_w, .int v_told_seam_h, .ref a_told_seam_parts, .int v_told_seam_all, .int v_told_seam_top, .int v_told_seam_left, .int v_told_seam_right])), (a_told_seam_parts, .inl (cyI, 16, .inl v_told_seam_parts))] sz) := by
  refine gMet (cc := cX6_now) (maxL := 2) (ret := (some .int)) (own := RX6) (fun A => gQi0 Q (dC, dI) A [(a, .inr (6, [.ref a_reader, .ref a_told, .ref a_draft, .ref a_course, .ref a_firstImage, .ref a_secondImage, .ref a_imageKept, .ref a_bestDigs, .ref a_heard, .long v_traced])), (a_course, .inr (2, [.ref a_course_rows, .int v_course_known])), (a_course_rows, .inl (cyI, 165, .inl v_course_rows)), (a_told, .inr (5, [.ref a_told_seam, .int v_told_seamTold, .int v_told_boundTold, .int v_told_lossTold, .int v_told_bound, .int v_told_loss, .int v_told_things, .ref a_told_yellow, .ref a_told_white, .ref a_told_fades, .ref a_told_worth])), (a_told_fades, .inl (cyI, 6, .inl v_told_fades)), (a_told_worth, .inl (cyI, 6, .inl v_told_worth)), (a_told_seam, .inr (4, [.int v_told_seam_w, .int v_told_seam_h, .ref a_told_seam_parts, .int v_told_seam_all, .int v_told_seam_top, .int v_told_seam_left, .int v_told_seam_right])), (a_told_seam_parts, .inl (cyI, 16, .inl v_told_seam_parts))]) (by decide) rfl rfl (Nat.le_of_ble_eq_true rfl) ?_
  intro p e s m below meth c A ls C0 _ hK hN hP hD hA hl
  obtain ⟨hx, hb, hr, hml, hown, hts, hlocks⟩ := id C0
  have f188 := hN.link (args := ([.ref a, .int p0].toArray)) (w := .fieldLinkNest RX6 188 "LastOchre$Seam" "all" "I" "LastOchre") 7 rfl
  have f19 := hts (.fieldLink RX6 19 "LastOchre" "told" "LLastOchre$Told;") (by decide +kernel)
  have f29 := hts (.fieldLink RX6 29 "LastOchre" "course" "LLastOchre$Course;") (by decide +kernel)
  have f85 := hN.link (args := ([.ref a, .int p0].toArray)) (w := .fieldLinkNest RX6 85 "LastOchre$Told" "seam" "LLastOchre$Seam;" "LastOchre") 8 rfl
  have hS : va_S A s.heap s.heap [] := va_S.rf
  replace hl : lv_has ls 2 [(0, .ref a), (1, .int p0)] := hl
  unfold q_X6_now at h
  unfold F_X6_now_e at h
  refine lv_iload_n hx hb dX6_now_0 rfl (lv_at hl 1 rfl) ?_
  refine (Classical.em (p0 = (0 : Int32))).elim (fun c_1 => ?_) (fun c_1 => ?_)
  · replace h := h.1 c_1
    refine lv_tableIn (off := 43) (tgt := 44) hx hb dX6_now_1 (by rw [c_1]; decide) (by rw [c_1]; decide) (by rw [c_1]; rfl) (by decide) ?_
    refine lv_aload_n hx hb dX6_now_44 rfl (lv_at hl 0 rfl) ?_
    refine va_get (D := (dC, dI)) (ci := 6) (v := .ref a_course) (C := RX6) (T := TX6) (N := 10) hx hb hts iwX6_now_X6 hown hK hP 0 rfl rfl 3 (by decide) f29 (fun _ h9 => h9) rfl dX6_now_45 ?_
    refine gV_i0 (As := []) (rest := []) ⟨hx, hb, hml, hown, hts⟩ (c_X2_year l dC dI cyC cyI cyZ _ a_course a_course_rows v_course_known v_course_rows h) (cwV 0 hts gX6_now_X2_year rfl rfl rfl hdV_X2_year ⟨Nat.le_of_ble_eq_true rfl, Nat.le_of_ble_eq_true rfl⟩) hK hN hP hD hS hA [1, 2] (by decide) rfl (ci := 2) rfl rfl rfl hl.1 rfl (Nat.le_of_ble_eq_true rfl) dX6_now_48 ⟨Nat.zero_le _, Nat.zero_le _⟩ (fun r_2 H locs h hP hS => ?_)
    exact gri0 hx hb hr hlocks h hP hD hS dX6_now_51
  refine (Classical.em (p0 = (1 : Int32))).elim (fun c_3 => ?_) (fun c_3 => ?_)
  · replace h := h.2.1 c_3
    refine lv_tableIn (off := 51) (tgt := 52) hx hb dX6_now_1 (by rw [c_3]; decide) (by rw [c_3]; decide) (by rw [c_3]; rfl) (by decide) ?_
    refine lv_aload_n hx hb dX6_now_52 rfl (lv_at hl 0 rfl) ?_
    refine va_get (D := (dC, dI)) (ci := 6) (v := .ref a_course) (C := RX6) (T := TX6) (N := 10) hx hb hts iwX6_now_X6 hown hK hP 0 rfl rfl 3 (by decide) f29 (fun _ h9 => h9) rfl dX6_now_53 ?_
    refine gV_i0 (As := []) (rest := []) ⟨hx, hb, hml, hown, hts⟩ (c_X2_store l dC dI cyC cyI cyZ _ a_course a_course_rows v_course_known v_course_rows h) (cwV 0 hts gX6_now_X2_store rfl rfl rfl hdV_X2_store ⟨Nat.le_of_ble_eq_true rfl, Nat.le_of_ble_eq_true rfl⟩) hK hN hP hD hS hA [1, 2] (by decide) rfl (ci := 2) rfl rfl rfl hl.1 rfl (Nat.le_of_ble_eq_true rfl) dX6_now_56 ⟨Nat.zero_le _, Nat.zero_le _⟩ (fun r_4 H locs h hP hS => ?_)
    exact gri0 hx hb hr hlocks h hP hD hS dX6_now_59
  refine (Classical.em (p0 = (2 : Int32))).elim (fun c_5 => ?_) (fun c_5 => ?_)
  · replace h := h.2.2.1 c_5
    refine lv_tableIn (off := 59) (tgt := 60) hx hb dX6_now_1 (by rw [c_5]; decide) (by rw [c_5]; decide) (by rw [c_5]; rfl) (by decide) ?_
    refine lv_aload_n hx hb dX6_now_60 rfl (lv_at hl 0 rfl) ?_
    refine va_get (D := (dC, dI)) (ci := 6) (v := .ref a_course) (C := RX6) (T := TX6) (N := 10) hx hb hts iwX6_now_X6 hown hK hP 0 rfl rfl 3 (by decide) f29 (fun _ h9 => h9) rfl dX6_now_61 ?_
    refine gV_i0 (As := []) (rest := []) ⟨hx, hb, hml, hown, hts⟩ (c_X2_dug l dC dI cyC cyI cyZ _ a_course a_course_rows v_course_known v_course_rows h) (cwV 0 hts gX6_now_X2_dug rfl rfl rfl hdV_X2_dug ⟨Nat.le_of_ble_eq_true rfl, Nat.le_of_ble_eq_true rfl⟩) hK hN hP hD hS hA [1, 2] (by decide) rfl (ci := 2) rfl rfl rfl hl.1 rfl (Nat.le_of_ble_eq_true rfl) dX6_now_64 ⟨Nat.zero_le _, Nat.zero_le _⟩ (fun r_6 H locs h hP hS => ?_)
    exact gri0 hx hb hr hlocks h hP hD hS dX6_now_67
  refine (Classical.em (p0 = (3 : Int32))).elim (fun c_7 => ?_) (fun c_7 => ?_)
  · replace h := h.2.2.2.1 c_7
    refine lv_tableIn (off := 67) (tgt := 68) hx hb dX6_now_1 (by rw [c_7]; decide) (by rw [c_7]; decide) (by rw [c_7]; rfl) (by decide) ?_
    refine lv_aload_n hx hb dX6_now_68 rfl (lv_at hl 0 rfl) ?_
    refine gV_i0 (As := []) (rest := []) ⟨hx, hb, hml, hown, hts⟩ (c_X6_calledSet l dC dI cyC cyI cyZ _ a a_reader a_told a_draft a_course a_firstImage a_secondImage a_imageKept a_bestDigs a_heard a_told_seam a_told_yellow a_told_white a_told_fades a_told_worth a_course_rows v_traced v_told_seamTold v_told_boundTold v_told_lossTold v_told_bound v_told_loss v_told_things v_course_known v_course_rows v_told_fades h) (cwV 0 hts gX6_now_X6_calledSet rfl rfl rfl hdV_X6_calledSet ⟨Nat.le_of_ble_eq_true rfl, Nat.le_of_ble_eq_true rfl⟩) hK hN hP hD hS hA [0, 3, 1, 2, 4] (by decide) rfl (ci := 6) rfl rfl rfl hl.1 rfl (Nat.le_of_ble_eq_true rfl) dX6_now_69 ⟨Nat.zero_le _, Nat.zero_le _⟩ (fun r_8 H locs h hP hS => ?_)
    exact gri0 hx hb hr hlocks h hP hD hS dX6_now_72
  refine (Classical.em (p0 = (4 : Int32))).elim (fun c_9 => ?_) (fun c_9 => ?_)
  · replace h := h.2.2.2.2.1 c_9
    refine lv_tableIn (off := 72) (tgt := 73) hx hb dX6_now_1 (by rw [c_9]; decide) (by rw [c_9]; decide) (by rw [c_9]; rfl) (by decide) ?_
    refine lv_aload_n hx hb dX6_now_73 rfl (lv_at hl 0 rfl) ?_
    refine lv_aload_n hx hb dX6_now_74 rfl (lv_at hl 0 rfl) ?_
    refine gV_i0 (As := []) (rest := [.ref a]) ⟨hx, hb, hml, hown, hts⟩ (c_X6_calledSet l dC dI cyC cyI cyZ _ a a_reader a_told a_draft a_course a_firstImage a_secondImage a_imageKept a_bestDigs a_heard a_told_seam a_told_yellow a_told_white a_told_fades a_told_worth a_course_rows v_traced v_told_seamTold v_told_boundTold v_told_lossTold v_told_bound v_told_loss v_told_things v_course_known v_course_rows v_told_fades h) (cwV 0 hts gX6_now_X6_calledSet rfl rfl rfl hdV_X6_calledSet ⟨Nat.le_of_ble_eq_true rfl, Nat.le_of_ble_eq_true rfl⟩) hK hN hP hD hS hA [0, 3, 1, 2, 4] (by decide) rfl (ci := 6) rfl rfl rfl hl.1 rfl (Nat.le_of_ble_eq_true rfl) dX6_now_75 ⟨Nat.zero_le _, Nat.zero_le _⟩ (fun r_10 H locs h hP hS => ?_)
    refine gV_i0 (As := [.int r_10]) (rest := []) ⟨hx, hb, hml, hown, hts⟩ (c_X6_worthOf l dC dI cyC cyI cyZ _ a a_reader a_told a_draft a_course a_firstImage a_secondImage a_imageKept a_bestDigs a_heard a_told_seam a_told_yellow a_told_white a_told_fades a_told_worth v_traced v_told_seamTold v_told_boundTold v_told_lossTold v_told_bound v_told_loss v_told_things v_told_worth r_10 h) (cwV 1 hts gX6_now_X6_worthOf rfl rfl rfl hdV_X6_worthOf ⟨Nat.le_of_ble_eq_true rfl, Nat.le_of_ble_eq_true rfl⟩) hK hN hP hD hS hA [0, 3, 5] (by decide) rfl (ci := 6) rfl rfl rfl hl.1 rfl (Nat.le_of_ble_eq_true rfl) dX6_now_78 ⟨Nat.zero_le _, Nat.zero_le _⟩ (fun r_11 H locs h hP hS => ?_)
    exact gri0 hx hb hr hlocks h hP hD hS dX6_now_81
  refine (Classical.em (p0 = (5 : Int32))).elim (fun c_12 => ?_) (fun c_12 => ?_)
  · replace h := h.2.2.2.2.2.1 c_12
    refine lv_tableIn (off := 81) (tgt := 82) hx hb dX6_now_1 (by rw [c_12]; decide) (by rw [c_12]; decide) (by rw [c_12]; rfl) (by decide) ?_
    refine lv_aload_n hx hb dX6_now_82 rfl (lv_at hl 0 rfl) ?_
    refine gV_i0 (As := []) (rest := []) ⟨hx, hb, hml, hown, hts⟩ (c_X6_yellowOfAll l dC dI cyC cyI cyZ _ a a_reader a_told a_draft a_course a_firstImage a_secondImage a_imageKept a_bestDigs a_heard a_told_seam a_told_yellow a_told_white a_told_fades a_told_worth a_course_rows v_traced v_told_seamTold v_told_boundTold v_told_lossTold v_told_bound v_told_loss v_told_things v_course_known v_course_rows h) (cwV 0 hts gX6_now_X6_yellowOfAll rfl rfl rfl hdV_X6_yellowOfAll ⟨Nat.le_of_ble_eq_true rfl, Nat.le_of_ble_eq_true rfl⟩) hK hN hP hD hS hA [0, 3, 1, 2] (by decide) rfl (ci := 6) rfl rfl rfl hl.1 rfl (Nat.le_of_ble_eq_true rfl) dX6_now_83 ⟨Nat.zero_le _, Nat.zero_le _⟩ (fun r_13 H locs h hP hS => ?_)
    exact gri0 hx hb hr hlocks h hP hD hS dX6_now_86
  refine (Classical.em (p0 = (6 : Int32))).elim (fun c_14 => ?_) (fun c_14 => ?_)
  · replace h := h.2.2.2.2.2.2.1 c_14
    refine lv_tableIn (off := 86) (tgt := 87) hx hb dX6_now_1 (by rw [c_14]; decide) (by rw [c_14]; decide) (by rw [c_14]; rfl) (by decide) ?_
    refine lv_aload_n hx hb dX6_now_87 rfl (lv_at hl 0 rfl) ?_
    refine va_get (D := (dC, dI)) (ci := 6) (v := .ref a_told) (C := RX6) (T := TX6) (N := 10) hx hb hts iwX6_now_X6 hown hK hP 0 rfl rfl 1 (by decide) f19 (fun _ h9 => h9) rfl dX6_now_88 ?_
    refine va_getN (host := "LastOchre") (D := (dC, dI)) (ci := 5) (v := .ref a_told_seam) (C := RX5) (T := TX5) (N := 11) hx hb hts iwX6_now_X5 hown hK hP 3 rfl rfl 0 (by decide) f85 (fun _ h9 => h9) rfl dX6_now_91 ?_
    refine lv_aload_n hx hb dX6_now_94 rfl (lv_at hl 0 rfl) ?_
    refine va_get (D := (dC, dI)) (ci := 6) (v := .ref a_told) (C := RX6) (T := TX6) (N := 10) hx hb hts iwX6_now_X6 hown hK hP 0 rfl rfl 1 (by decide) f19 (fun _ h9 => h9) rfl dX6_now_95 ?_
    refine va_getN (host := "LastOchre") (D := (dC, dI)) (ci := 5) (v := .ref a_told_seam) (C := RX5) (T := TX5) (N := 11) hx hb hts iwX6_now_X5 hown hK hP 3 rfl rfl 0 (by decide) f85 (fun _ h9 => h9) rfl dX6_now_98 ?_
    refine va_getN (host := "LastOchre") (D := (dC, dI)) (ci := 4) (v := .int v_told_seam_all) (C := RX4) (T := TX4) (N := 7) hx hb hts iwX6_now_X4 hown hK hP 6 rfl rfl 3 (by decide) f188 (fun _ h9 => h9) rfl dX6_now_101 ?_
    refine lv_aload_n hx hb dX6_now_104 rfl (lv_at hl 0 rfl) ?_
    refine va_get (D := (dC, dI)) (ci := 6) (v := .ref a_course) (C := RX6) (T := TX6) (N := 10) hx hb hts iwX6_now_X6 hown hK hP 0 rfl rfl 3 (by decide) f29 (fun _ h9 => h9) rfl dX6_now_105 ?_
    refine gV_i0 (As := []) (rest := [.int v_told_seam_all, .ref a_told_seam]) ⟨hx, hb, hml, hown, hts⟩ (c_X2_dug l dC dI cyC cyI cyZ _ a_course a_course_rows v_course_known v_course_rows h) (cwV 0 hts gX6_now_X2_dug rfl rfl rfl hdV_X2_dug ⟨Nat.le_of_ble_eq_true rfl, Nat.le_of_ble_eq_true rfl⟩) hK hN hP hD hS hA [1, 2] (by decide) rfl (ci := 2) rfl rfl rfl hl.1 rfl (Nat.le_of_ble_eq_true rfl) dX6_now_108 ⟨Nat.zero_le _, Nat.zero_le _⟩ (fun r_15 H locs h hP hS => ?_)
    refine lv_iconst (v := -1) hx hb dX6_now_111 (by decide) ?_
    refine lv_ixor hx hb dX6_now_112 ?_
    refine lv_iand hx hb dX6_now_113 ?_
    refine gV_i0 (As := [.int (v_told_seam_all &&& (r_15 ^^^ (-1 : Int32)))]) (rest := []) ⟨hx, hb, hml, hown, hts⟩ (c_X4_partsIn l dC dI cyC cyI cyZ _ a_told_seam a_told_seam_parts v_told_seam_w v_told_seam_h v_told_seam_all v_told_seam_top v_told_seam_left v_told_seam_right v_told_seam_parts (v_told_seam_all &&& (r_15 ^^^ (-1 : Int32))) h) (cwV 1 hts gX6_now_X4_partsIn rfl rfl rfl hdV_X4_partsIn ⟨Nat.le_of_ble_eq_true rfl, Nat.le_of_ble_eq_true rfl⟩) hK hN hP hD hS hA [6, 7] (by decide) rfl (ci := 4) rfl rfl rfl hl.1 rfl (Nat.le_of_ble_eq_true rfl) dX6_now_114 ⟨Nat.zero_le _, Nat.zero_le _⟩ (fun r_16 H locs h hP hS => ?_)
    exact gri0 hx hb hr hlocks h hP hD hS dX6_now_117
  replace h := h.2.2.2.2.2.2.2 ⟨c_1, c_3, c_5, c_7, c_9, c_12, c_14⟩
  have t_17 := sw_ne (a := 0) c_1 (by decide)
  have t_18 := sw_ne (a := 1) c_3 (by decide)
  have t_19 := sw_ne (a := 2) c_5 (by decide)
  have t_20 := sw_ne (a := 3) c_7 (by decide)
  have t_21 := sw_ne (a := 4) c_9 (by decide)
  have t_22 := sw_ne (a := 5) c_12 (by decide)
  have t_23 := sw_ne (a := 6) c_14 (by decide)
  refine lv_tableOut (tgt := 118) hx hb dX6_now_1 (by omega) (by decide) ?_
  refine lv_iconst (v := -1) hx hb dX6_now_118 (by decide) ?_
  exact gri0 hx hb hr hlocks h hP hD hS dX6_now_119

def F_X6_leastYellow_e (v_course_rows : Nat → Int32) (v_told_bound : Int32) (p0 : Int32) (Q : Int32 → Prop)  : Prop :=
  q_X2_white v_course_rows p0 (fun (r_1 : Int32) => ∀ x3_2 : Int32, x3_2 = ((10 : Int32) - v_told_bound) → ((¬ x3_2 = 0 → (q_X6_quotient (((v_told_bound * r_1) + x3_2) - (1 : Int32)) x3_2 (fun (r_5 : Int32) => Q (if (1 : Int32) < r_5 then r_5 else (1 : Int32))))) ∧ (x3_2 = 0 → ((¬ r_1 = 0 → (Q (-9 : Int32))) ∧ (r_1 = 0 → (Q (1 : Int32)))))))
def q_X6_leastYellow (v_course_rows : Nat → Int32) (v_told_bound : Int32) (p0 : Int32) (Q : Int32 → Prop) : Prop := F_X6_leastYellow_e v_course_rows v_told_bound p0 Q 
theorem iwX6_leastYellow_X5 : ∀ w ∈ wsX50, w ∈ wsX6_leastYellow := by decide +kernel
theorem iwX6_leastYellow_X6 : ∀ w ∈ wsX60, w ∈ wsX6_leastYellow := by decide +kernel
theorem hdV_X6_leastYellow : yX6_leastYellow.cls = RX6 ∧ yX6_leastYellow.cls ≠ "java/lang/invoke/MethodHandle" ∧ yX6_leastYellow.cls ≠ "java/lang/invoke/VarHandle" ∧ (parseMethodDescriptor yX6_leastYellow.desc).map (fun d => d.parameters.length) = some 1 := by decide +kernel
set_option maxHeartbeats 4000000 in
set_option maxRecDepth 100000 in
theorem c_X6_leastYellow (l : Launch) (dC : Nat → ClassId) (dI : Nat → Nat → Nat) (cyC cyI cyZ : ClassId) (sz : Nat) (a a_reader a_told a_draft a_course a_firstImage a_secondImage a_imageKept a_bestDigs a_heard a_course_rows a_told_seam a_told_yellow a_told_white a_told_fades a_told_worth : Nat) (v_traced : Int64) (v_course_known : Int32) (v_course_rows : Nat → Int32) (v_told_seamTold : Int32) (v_told_boundTold : Int32) (v_told_lossTold : Int32) (v_told_bound : Int32) (v_told_loss : Int32) (v_told_things : Int32) (p0 : Int32) {Q : Int32 → Prop} (h : q_X6_leastYellow v_course_rows v_told_bound p0 Q) : Met l yX6_leastYellow wsX6_leastYellow ({ frames := 1, cells := 0, slots := 0, locals := 30 }) (gPc [.ref a, .int p0] (dC, dI) (gTy cyC cyI cyZ) sz [(a, .inr (6, [.ref a_reader, .ref a_told, .ref a_draft, .ref a_course, .ref a_firstImage, .ref a_secondImage, .ref a_imageKept, .ref a_bestDigs, .ref a_heard, .long v_traced])), (a_course, .inr (2, [.ref a_course_rows, .int v_course_known])), (a_course_rows, .inl (cyI, 165, .inl v_course_rows)), (a_told, .inr (5, [.ref a_told_seam, .int v_told_seamTold, .int v_told_boundTold, .int v_told_lossTold, .int v_told_bound, .int v_told_loss, .int v_told_things, .ref a_told_yellow, .ref a_told_white, .ref a_told_fades, .ref a_told_worth]))]) (gQi0 Q (dC, dI) (va_A [(a, .inr (6, [.ref a_reader, .ref a_told, .ref a_draft, .ref a_course, .ref a_firstImage, .ref a_secondImage, .ref a_imageKept, .ref a_bestDigs, .ref a_heard, .long v_traced])), (a_course, .inr (2, [.ref a_course_rows, .int v_course_known])), (a_course_rows, .inl (cyI, 165, .inl v_course_rows)), (a_told, .inr (5, [.ref a_told_seam, .int v_told_seamTold, .int v_told_boundTold, .int v_told_lossTold, .int v_told_bound, .int v_told_loss, .int v_told_things, .ref a_told_yellow, .ref a_told_white, .ref a_told_fades, .ref a_told_worth]))] sz) [(a, .inr (6, [.ref a_reader, .ref a_told, .ref a_draft, .ref a_course, .ref a_firstImage, .ref a_secondImage, .ref a_imageKept, .ref a_bestDigs, .ref a_heard, .long v_traced])), (a_course, .inr (2, [.ref a_course_rows, .int v_course_known])), (a_course_rows, .inl (cyI, 165, .inl v_course_rows)), (a_told, .inr (5, [.ref a_told_seam, .int v_told_seamTold, .int v_told_boundTold, .int v_told_lossTold, .int v_told_bound, .int v_told_loss, .int v_told_things, .ref a_told_yellow, .ref a_told_white, .ref a_told_fades, .ref a_told_worth]))]) 0 0 (va_A [(a, .inr (6, [.ref a_reader, .ref a_told, .ref a_draft, .ref a_course, .ref a_firstImage, .ref a_secondImage, .ref a_imageKept, .ref a_bestDigs, .ref a_heard, .long v_traced])), (a_course, .inr (2, [.ref a_course_rows, .int v_course_known])), (a_course_rows, .inl (cyI, 165, .inl v_course_rows)), (a_told, .inr (5, [.ref a_told_seam, .int v_told_seamTold, .int v_told_boundTold, .int v_told_lossTold, .int v_told_bound, .int v_told_loss, .int v_told_things, .ref a_told_yellow, .ref a_told_white, .ref a_told_fades, .ref a_told_worth]))] sz) := by
  refine gMet (cc := cX6_leastYellow) (maxL := 5) (ret := (some .int)) (own := RX6) (fun A => gQi0 Q (dC, dI) A [(a, .inr (6, [.ref a_reader, .ref a_told, .ref a_draft, .ref a_course, .ref a_firstImage, .ref a_secondImage, .ref a_imageKept, .ref a_bestDigs, .ref a_heard, .long v_traced])), (a_course, .inr (2, [.ref a_course_rows, .int v_course_known])), (a_course_rows, .inl (cyI, 165, .inl v_course_rows)), (a_told, .inr (5, [.ref a_told_seam, .int v_told_seamTold, .int v_told_boundTold, .int v_told_lossTold, .int v_told_bound, .int v_told_loss, .int v_told_things, .ref a_told_yellow, .ref a_told_white, .ref a_told_fades, .ref a_told_worth]))]) (by decide) rfl rfl (Nat.le_of_ble_eq_true rfl) ?_
  intro p e s m below meth c A ls C0 _ hK hN hP hD hA hl
  obtain ⟨hx, hb, hr, hml, hown, hts, hlocks⟩ := id C0
  have f19 := hts (.fieldLink RX6 19 "LastOchre" "told" "LLastOchre$Told;") (by decide +kernel)
  have f216 := hN.link (args := ([.ref a, .int p0].toArray)) (w := .fieldLinkNest RX6 216 "LastOchre$Told" "bound" "I" "LastOchre") 14 rfl
  have f29 := hts (.fieldLink RX6 29 "LastOchre" "course" "LLastOchre$Course;") (by decide +kernel)
  have hS : va_S A s.heap s.heap [] := va_S.rf
  replace hl : lv_has ls 5 [(0, .ref a), (1, .int p0)] := hl
  unfold q_X6_leastYellow at h
  unfold F_X6_leastYellow_e at h
  refine lv_aload_n hx hb dX6_leastYellow_0 rfl (lv_at hl 0 rfl) ?_
  refine va_get (D := (dC, dI)) (ci := 6) (v := .ref a_course) (C := RX6) (T := TX6) (N := 10) hx hb hts iwX6_leastYellow_X6 hown hK hP 0 rfl rfl 3 (by decide) f29 (fun _ h9 => h9) rfl dX6_leastYellow_1 ?_
  refine lv_iload_n hx hb dX6_leastYellow_4 rfl (lv_at hl 1 rfl) ?_
  refine gV_i0 (As := [.int p0]) (rest := []) ⟨hx, hb, hml, hown, hts⟩ (c_X2_white l dC dI cyC cyI cyZ _ a_course a_course_rows v_course_known v_course_rows p0 h) (cwV 1 hts gX6_leastYellow_X2_white rfl rfl rfl hdV_X2_white ⟨Nat.le_of_ble_eq_true rfl, Nat.le_of_ble_eq_true rfl⟩) hK hN hP hD hS hA [1, 2] (by decide) rfl (ci := 2) rfl rfl rfl hl.1 rfl (Nat.le_of_ble_eq_true rfl) dX6_leastYellow_5 ⟨Nat.zero_le _, Nat.zero_le _⟩ (fun r_1 H locs h hP hS => ?_)
  refine lv_istore_n (lv' := [(2, .int r_1), (0, .ref a), (1, .int p0)]) hx hb dX6_leastYellow_8 rfl hl (by decide) rfl (fun ls hl => ?_)
  refine lv_bipush (v := 10) hx hb dX6_leastYellow_9 (by decide) ?_
  refine lv_aload_n hx hb dX6_leastYellow_11 rfl (lv_at hl 1 rfl) ?_
  refine va_get (D := (dC, dI)) (ci := 6) (v := .ref a_told) (C := RX6) (T := TX6) (N := 10) hx hb hts iwX6_leastYellow_X6 hown hK hP 0 rfl rfl 1 (by decide) f19 (fun _ h9 => h9) rfl dX6_leastYellow_12 ?_
  refine va_getN (host := "LastOchre") (D := (dC, dI)) (ci := 5) (v := .int v_told_bound) (C := RX5) (T := TX5) (N := 11) hx hb hts iwX6_leastYellow_X5 hown hK hP 3 rfl rfl 4 (by decide) f216 (fun _ h9 => h9) rfl dX6_leastYellow_15 ?_
  refine lv_isub hx hb dX6_leastYellow_18 ?_
  refine lv_topi (fun x3_2 e_3 => ?_)
  replace h := h x3_2 e_3
  refine lv_istore_n (lv' := [(3, .int x3_2), (2, .int r_1), (0, .ref a), (1, .int p0)]) hx hb dX6_leastYellow_19 rfl hl (by decide) rfl (fun ls hl => ?_)
  refine lv_iload_n hx hb dX6_leastYellow_20 rfl (lv_at hl 0 rfl) ?_
  refine lv_if_ne (tgt := 35) hx hb dX6_leastYellow_21 (by decide) (fun c_4 => ?_) (fun c_4 => ?_)
  · replace h := h.1 c_4
    refine lv_aload_n hx hb dX6_leastYellow_35 rfl (lv_at hl 2 rfl) ?_
    refine va_get (D := (dC, dI)) (ci := 6) (v := .ref a_told) (C := RX6) (T := TX6) (N := 10) hx hb hts iwX6_leastYellow_X6 hown hK hP 0 rfl rfl 1 (by decide) f19 (fun _ h9 => h9) rfl dX6_leastYellow_36 ?_
    refine va_getN (host := "LastOchre") (D := (dC, dI)) (ci := 5) (v := .int v_told_bound) (C := RX5) (T := TX5) (N := 11) hx hb hts iwX6_leastYellow_X5 hown hK hP 3 rfl rfl 4 (by decide) f216 (fun _ h9 => h9) rfl dX6_leastYellow_39 ?_
    refine lv_iload_n hx hb dX6_leastYellow_42 rfl (lv_at hl 1 rfl) ?_
    refine lv_imul hx hb dX6_leastYellow_43 ?_
    refine lv_iload_n hx hb dX6_leastYellow_44 rfl (lv_at hl 0 rfl) ?_
    refine lv_iadd hx hb dX6_leastYellow_45 ?_
    refine lv_iconst (v := 1) hx hb dX6_leastYellow_46 (by decide) ?_
    refine lv_isub hx hb dX6_leastYellow_47 ?_
    refine lv_iload_n hx hb dX6_leastYellow_48 rfl (lv_at hl 0 rfl) ?_
    refine gS_i0 (As := [.int (((v_told_bound * r_1) + x3_2) - (1 : Int32)), .int x3_2]) (rest := []) ⟨hx, hb, hml, hown, hts⟩ (c_X6_quotient l dC dI cyC cyI cyZ _ (((v_told_bound * r_1) + x3_2) - (1 : Int32)) x3_2 h) (va_cwS 2 hts gX6_leastYellow_X6_quotient rfl rfl rfl hdS_X6_quotient ⟨Nat.le_of_ble_eq_true rfl, Nat.le_of_ble_eq_true rfl⟩) hK hN hP hD hS hA [] (by decide) rfl rfl hl.1 rfl (Nat.le_of_ble_eq_true rfl) dX6_leastYellow_49 ⟨Nat.zero_le _, Nat.zero_le _⟩ (fun r_5 H locs h hP hS => ?_)
    refine lv_istore (lv' := [(4, .int r_5), (3, .int x3_2), (2, .int r_1), (0, .ref a), (1, .int p0)]) hx hb dX6_leastYellow_52 hl (by decide) rfl (fun ls hl => ?_)
    refine lv_iconst (v := 1) hx hb dX6_leastYellow_54 (by decide) ?_
    refine lv_iload hx hb dX6_leastYellow_55 (lv_at hl 0 rfl) ?_
    refine va_mmax hx hb (by rw [hml]; exact hl.1.symm) hown (hts (.methodLink RX6 293 Lib.Math.max.name) (by decide +kernel)) (hts (.static Lib.Math.max.name) (by decide +kernel)) (hts (.initialized "java/lang/Math") (by decide +kernel)) (hts (.code Lib.Math.max.name Lib.Math.max.code 2 (some .int)) (by decide +kernel)) (Nat.le_of_ble_eq_true rfl) (Nat.le_of_ble_eq_true rfl) (Nat.zero_le _) (Nat.zero_le _) dX6_leastYellow_57 ?_
    exact gri0 hx hb hr hlocks h hP hD hS dX6_leastYellow_60
  · replace h := h.2 c_4
    refine lv_iload_n hx hb dX6_leastYellow_24 rfl (lv_at hl 1 rfl) ?_
    refine lv_if_ne (tgt := 32) hx hb dX6_leastYellow_25 (by decide) (fun c_6 => ?_) (fun c_6 => ?_)
    · replace h := h.1 c_6
      refine lv_bipush (v := -9) hx hb dX6_leastYellow_32 (by decide) ?_
      exact gri0 hx hb hr hlocks h hP hD hS dX6_leastYellow_34
    · replace h := h.2 c_6
      refine lv_iconst (v := 1) hx hb dX6_leastYellow_28 (by decide) ?_
      refine lv_goto (tgt := 34) hx hb dX6_leastYellow_29 (by decide) ?_
      exact gri0 hx hb hr hlocks h hP hD hS dX6_leastYellow_34

def F_X6_canSpare_e (v_told_bound : Int32) (v_course_rows : Nat → Int32) (v_told_fades : Nat → Int32) (p0 : Int32) (Q : Int32 → Prop)  : Prop :=
  q_X6_calledAfter v_told_bound v_course_rows v_told_fades p0 (0 : Int32) (fun (r_1 : Int32) => (r_1 = 0 → (Q (0 : Int32))) ∧ (¬ r_1 = 0 → (q_X2_yellow v_course_rows p0 (fun (r_3 : Int32) => q_X6_leastYellow v_course_rows v_told_bound p0 (fun (r_4 : Int32) => Q (r_3 - r_4))))))
def q_X6_canSpare (v_told_bound : Int32) (v_course_rows : Nat → Int32) (v_told_fades : Nat → Int32) (p0 : Int32) (Q : Int32 → Prop) : Prop := F_X6_canSpare_e v_told_bound v_course_rows v_told_fades p0 Q 
theorem iwX6_canSpare_X6 : ∀ w ∈ wsX60, w ∈ wsX6_canSpare := by decide +kernel
theorem hdV_X6_canSpare : yX6_canSpare.cls = RX6 ∧ yX6_canSpare.cls ≠ "java/lang/invoke/MethodHandle" ∧ yX6_canSpare.cls ≠ "java/lang/invoke/VarHandle" ∧ (parseMethodDescriptor yX6_canSpare.desc).map (fun d => d.parameters.length) = some 1 := by decide +kernel
set_option maxHeartbeats 4000000 in
set_option maxRecDepth 100000 in
theorem c_X6_canSpare (l : Launch) (dC : Nat → ClassId) (dI : Nat → Nat → Nat) (cyC cyI cyZ : ClassId) (sz : Nat) (a a_reader a_told a_draft a_course a_firstImage a_secondImage a_imageKept a_bestDigs a_heard a_course_rows a_told_seam a_told_yellow a_told_white a_told_fades a_told_worth : Nat) (v_traced : Int64) (v_course_known : Int32) (v_told_seamTold : Int32) (v_told_boundTold : Int32) (v_told_lossTold : Int32) (v_told_bound : Int32) (v_told_loss : Int32) (v_told_things : Int32) (v_course_rows : Nat → Int32) (v_told_fades : Nat → Int32) (p0 : Int32) {Q : Int32 → Prop} (h : q_X6_canSpare v_told_bound v_course_rows v_told_fades p0 Q) : Met l yX6_canSpare wsX6_canSpare ({ frames := 3, cells := 0, slots := 0, locals := 74 }) (gPc [.ref a, .int p0] (dC, dI) (gTy cyC cyI cyZ) sz [(a, .inr (6, [.ref a_reader, .ref a_told, .ref a_draft, .ref a_course, .ref a_firstImage, .ref a_secondImage, .ref a_imageKept, .ref a_bestDigs, .ref a_heard, .long v_traced])), (a_course, .inr (2, [.ref a_course_rows, .int v_course_known])), (a_told, .inr (5, [.ref a_told_seam, .int v_told_seamTold, .int v_told_boundTold, .int v_told_lossTold, .int v_told_bound, .int v_told_loss, .int v_told_things, .ref a_told_yellow, .ref a_told_white, .ref a_told_fades, .ref a_told_worth])), (a_course_rows, .inl (cyI, 165, .inl v_course_rows)), (a_told_fades, .inl (cyI, 6, .inl v_told_fades))]) (gQi0 Q (dC, dI) (va_A [(a, .inr (6, [.ref a_reader, .ref a_told, .ref a_draft, .ref a_course, .ref a_firstImage, .ref a_secondImage, .ref a_imageKept, .ref a_bestDigs, .ref a_heard, .long v_traced])), (a_course, .inr (2, [.ref a_course_rows, .int v_course_known])), (a_told, .inr (5, [.ref a_told_seam, .int v_told_seamTold, .int v_told_boundTold, .int v_told_lossTold, .int v_told_bound, .int v_told_loss, .int v_told_things, .ref a_told_yellow, .ref a_told_white, .ref a_told_fades, .ref a_told_worth])), (a_course_rows, .inl (cyI, 165, .inl v_course_rows)), (a_told_fades, .inl (cyI, 6, .inl v_told_fades))] sz) [(a, .inr (6, [.ref a_reader, .ref a_told, .ref a_draft, .ref a_course, .ref a_firstImage, .ref a_secondImage, .ref a_imageKept, .ref a_bestDigs, .ref a_heard, .long v_traced])), (a_course, .inr (2, [.ref a_course_rows, .int v_course_known])), (a_told, .inr (5, [.ref a_told_seam, .int v_told_seamTold, .int v_told_boundTold, .int v_told_lossTold, .int v_told_bound, .int v_told_loss, .int v_told_things, .ref a_told_yellow, .ref a_told_white, .ref a_told_fades, .ref a_told_worth])), (a_course_rows, .inl (cyI, 165, .inl v_course_rows)), (a_told_fades, .inl (cyI, 6, .inl v_told_fades))]) 0 0 (va_A [(a, .inr (6, [.ref a_reader, .ref a_told, .ref a_draft, .ref a_course, .ref a_firstImage, .ref a_secondImage, .ref a_imageKept, .ref a_bestDigs, .ref a_heard, .long v_traced])), (a_course, .inr (2, [.ref a_course_rows, .int v_course_known])), (a_told, .inr (5, [.ref a_told_seam, .int v_told_seamTold, .int v_told_boundTold, .int v_told_lossTold, .int v_told_bound, .int v_told_loss, .int v_told_things, .ref a_told_yellow, .ref a_told_white, .ref a_told_fades, .ref a_told_worth])), (a_course_rows, .inl (cyI, 165, .inl v_course_rows)), (a_told_fades, .inl (cyI, 6, .inl v_told_fades))] sz) := by
  refine gMet (cc := cX6_canSpare) (maxL := 2) (ret := (some .int)) (own := RX6) (fun A => gQi0 Q (dC, dI) A [(a, .inr (6, [.ref a_reader, .ref a_told, .ref a_draft, .ref a_course, .ref a_firstImage, .ref a_secondImage, .ref a_imageKept, .ref a_bestDigs, .ref a_heard, .long v_traced])), (a_course, .inr (2, [.ref a_course_rows, .int v_course_known])), (a_told, .inr (5, [.ref a_told_seam, .int v_told_seamTold, .int v_told_boundTold, .int v_told_lossTold, .int v_told_bound, .int v_told_loss, .int v_told_things, .ref a_told_yellow, .ref a_told_white, .ref a_told_fades, .ref a_told_worth])), (a_course_rows, .inl (cyI, 165, .inl v_course_rows)), (a_told_fades, .inl (cyI, 6, .inl v_told_fades))]) (by decide) rfl rfl (Nat.le_of_ble_eq_true rfl) ?_
  intro p e s m below meth c A ls C0 _ hK hN hP hD hA hl
  obtain ⟨hx, hb, hr, hml, hown, hts, hlocks⟩ := id C0
  have f29 := hts (.fieldLink RX6 29 "LastOchre" "course" "LLastOchre$Course;") (by decide +kernel)
  have hS : va_S A s.heap s.heap [] := va_S.rf
  replace hl : lv_has ls 2 [(0, .ref a), (1, .int p0)] := hl
  unfold q_X6_canSpare at h
  unfold F_X6_canSpare_e at h
  refine lv_aload_n hx hb dX6_canSpare_0 rfl (lv_at hl 0 rfl) ?_
  refine lv_iload_n hx hb dX6_canSpare_1 rfl (lv_at hl 1 rfl) ?_
  refine lv_iconst (v := 0) hx hb dX6_canSpare_2 (by decide) ?_
  refine gV_i0 (As := [.int p0, .int (0 : Int32)]) (rest := []) ⟨hx, hb, hml, hown, hts⟩ (c_X6_calledAfter l dC dI cyC cyI cyZ _ a a_reader a_told a_draft a_course a_firstImage a_secondImage a_imageKept a_bestDigs a_heard a_course_rows a_told_seam a_told_yellow a_told_white a_told_fades a_told_worth v_traced v_course_known v_told_seamTold v_told_boundTold v_told_lossTold v_told_bound v_told_loss v_told_things v_course_rows v_told_fades p0 (0 : Int32) h) (cwV 2 hts gX6_canSpare_X6_calledAfter rfl rfl rfl hdV_X6_calledAfter ⟨Nat.le_of_ble_eq_true rfl, Nat.le_of_ble_eq_true rfl⟩) hK hN hP hD hS hA [0, 1, 2, 3, 4] (by decide) rfl (ci := 6) rfl rfl rfl hl.1 rfl (Nat.le_of_ble_eq_true rfl) dX6_canSpare_3 ⟨Nat.zero_le _, Nat.zero_le _⟩ (fun r_1 H locs h hP hS => ?_)
  refine lv_if_eq (tgt := 26) hx hb dX6_canSpare_6 (by decide) (fun c_2 => ?_) (fun c_2 => ?_)
  · replace h := h.1 c_2
    refine lv_iconst (v := 0) hx hb dX6_canSpare_26 (by decide) ?_
    exact gri0 hx hb hr hlocks h hP hD hS dX6_canSpare_27
  · replace h := h.2 c_2
    refine lv_aload_n hx hb dX6_canSpare_9 rfl (lv_at hl 0 rfl) ?_
    refine va_get (D := (dC, dI)) (ci := 6) (v := .ref a_course) (C := RX6) (T := TX6) (N := 10) hx hb hts iwX6_canSpare_X6 hown hK hP 0 rfl rfl 3 (by decide) f29 (fun _ h9 => h9) rfl dX6_canSpare_10 ?_
    refine lv_iload_n hx hb dX6_canSpare_13 rfl (lv_at hl 1 rfl) ?_
    refine gV_i0 (As := [.int p0]) (rest := []) ⟨hx, hb, hml, hown, hts⟩ (c_X2_yellow l dC dI cyC cyI cyZ _ a_course a_course_rows v_course_known v_course_rows p0 h) (cwV 1 hts gX6_canSpare_X2_yellow rfl rfl rfl hdV_X2_yellow ⟨Nat.le_of_ble_eq_true rfl, Nat.le_of_ble_eq_true rfl⟩) hK hN hP hD hS hA [1, 3] (by decide) rfl (ci := 2) rfl rfl rfl hl.1 rfl (Nat.le_of_ble_eq_true rfl) dX6_canSpare_14 ⟨Nat.zero_le _, Nat.zero_le _⟩ (fun r_3 H locs h hP hS => ?_)
    refine lv_aload_n hx hb dX6_canSpare_17 rfl (lv_at hl 0 rfl) ?_
    refine lv_iload_n hx hb dX6_canSpare_18 rfl (lv_at hl 1 rfl) ?_
    refine gV_i0 (As := [.int p0]) (rest := [.int r_3]) ⟨hx, hb, hml, hown, hts⟩ (c_X6_leastYellow l dC dI cyC cyI cyZ _ a a_reader a_told a_draft a_course a_firstImage a_secondImage a_imageKept a_bestDigs a_heard a_course_rows a_told_seam a_told_yellow a_told_white a_told_fades a_told_worth v_traced v_course_known v_course_rows v_told_seamTold v_told_boundTold v_told_lossTold v_told_bound v_told_loss v_told_things p0 h) (cwV 1 hts gX6_canSpare_X6_leastYellow rfl rfl rfl hdV_X6_leastYellow ⟨Nat.le_of_ble_eq_true rfl, Nat.le_of_ble_eq_true rfl⟩) hK hN hP hD hS hA [0, 1, 3, 2] (by decide) rfl (ci := 6) rfl rfl rfl hl.1 rfl (Nat.le_of_ble_eq_true rfl) dX6_canSpare_19 ⟨Nat.zero_le _, Nat.zero_le _⟩ (fun r_4 H locs h hP hS => ?_)
    refine lv_isub hx hb dX6_canSpare_22 ?_
    refine lv_goto (tgt := 27) hx hb dX6_canSpare_23 (by decide) ?_
    exact gri0 hx hb hr hlocks h hP hD hS dX6_canSpare_27

def F_X6_yearsCalled_e (v_told_bound : Int32) (v_course_rows : Nat → Int32) (v_told_fades : Nat → Int32) (p0 : Int32) (Q : Int32 → Prop)  : Prop :=
  q_X6_calledAfter v_told_bound v_course_rows v_told_fades p0 (0 : Int32) (fun (r_1 : Int32) => (¬ r_1 = 0 → (vp_in p0 6 ∧ ((¬ (v_told_fades (p0).toNatClampNeg) = 0 → (q_X6_canSpare v_told_bound v_course_rows v_told_fades p0 (fun (r_5 : Int32) => vp_in p0 6 ∧ (q_X6_quotient r_5 (v_told_fades (p0).toNatClampNeg) (fun (r_7 : Int32) => Q (r_7 + (1 : Int32))))))) ∧ ((v_told_fades (p0).toNatClampNeg) = 0 → (Q (-9 : Int32)))))) ∧ (r_1 = 0 → (Q (0 : Int32))))
def q_X6_yearsCalled (v_told_bound : Int32) (v_course_rows : Nat → Int32) (v_told_fades : Nat → Int32) (p0 : Int32) (Q : Int32 → Prop) : Prop := F_X6_yearsCalled_e v_told_bound v_course_rows v_told_fades p0 Q 
theorem iwX6_yearsCalled_X5 : ∀ w ∈ wsX50, w ∈ wsX6_yearsCalled := by decide +kernel
theorem iwX6_yearsCalled_X6 : ∀ w ∈ wsX60, w ∈ wsX6_yearsCalled := by decide +kernel
theorem hdV_X6_yearsCalled : yX6_yearsCalled.cls = RX6 ∧ yX6_yearsCalled.cls ≠ "java/lang/invoke/MethodHandle" ∧ yX6_yearsCalled.cls ≠ "java/lang/invoke/VarHandle" ∧ (parseMethodDescriptor yX6_yearsCalled.desc).map (fun d => d.parameters.length) = some 1 := by decide +kernel
set_option maxHeartbeats 4000000 in
set_option maxRecDepth 100000 in
theorem c_X6_yearsCalled (l : Launch) (dC : Nat → ClassId) (dI : Nat → Nat → Nat) (cyC cyI cyZ : ClassId) (sz : Nat) (a a_reader a_told a_draft a_course a_firstImage a_secondImage a_imageKept a_bestDigs a_heard a_course_rows a_told_seam a_told_yellow a_told_white a_told_fades a_told_worth : Nat) (v_traced : Int64) (v_course_known : Int32) (v_told_seamTold : Int32) (v_told_boundTold : Int32) (v_told_lossTold : Int32) (v_told_bound : Int32) (v_told_loss : Int32) (v_told_things : Int32) (v_course_rows : Nat → Int32) (v_told_fades : Nat → Int32) (p0 : Int32) {Q : Int32 → Prop} (h : q_X6_yearsCalled v_told_bound v_course_rows v_told_fades p0 Q) : Met l yX6_yearsCalled wsX6_yearsCalled ({ frames := 4, cells := 0, slots := 0, locals := 95 }) (gPc [.ref a, .int p0] (dC, dI) (gTy cyC cyI cyZ) sz [(a, .inr (6, [.ref a_reader, .ref a_told, .ref a_draft, .ref a_course, .ref a_firstImage, .ref a_secondImage, .ref a_imageKept, .ref a_bestDigs, .ref a_heard, .long v_traced])), (a_course, .inr (2, [.ref a_course_rows, .int v_course_known])), (a_told, .inr (5, [.ref a_told_seam, .int v_told_seamTold, .int v_told_boundTold, .int v_told_lossTold, .int v_told_bound, .int v_told_loss, .int v_told_things, .ref a_told_yellow, .ref a_told_white, .ref a_told_fades, .ref a_told_worth])), (a_course_rows, .inl (cyI, 165, .inl v_course_rows)), (a_told_fades, .inl (cyI, 6, .inl v_told_fades))]) (gQi0 Q (dC, dI) (va_A [(a, .inr (6, [.ref a_reader, .ref a_told, .ref a_draft, .ref a_course, .ref a_firstImage, .ref a_secondImage, .ref a_imageKept, .ref a_bestDigs, .ref a_heard, .long v_traced])), (a_course, .inr (2, [.ref a_course_rows, .int v_course_known])), (a_told, .inr (5, [.ref a_told_seam, .int v_told_seamTold, .int v_told_boundTold, .int v_told_lossTold, .int v_told_bound, .int v_told_loss, .int v_told_things, .ref a_told_yellow, .ref a_told_white, .ref a_told_fades, .ref a_told_worth])), (a_course_rows, .inl (cyI, 165, .inl v_course_rows)), (a_told_fades, .inl (cyI, 6, .inl v_told_fades))] sz) [(a, .inr (6, [.ref a_reader, .ref a_told, .ref a_draft, .ref a_course, .ref a_firstImage, .ref a_secondImage, .ref a_imageKept, .ref a_bestDigs, .ref a_heard, .long v_traced])), (a_course, .inr (2, [.ref a_course_rows, .int v_course_known])), (a_told, .inr (5, [.ref a_told_seam, .int v_told_seamTold, .int v_told_boundTold, .int v_told_lossTold, .int v_told_bound, .int v_told_loss, .int v_told_things, .ref a_told_yellow, .ref a_told_white, .ref a_told_fades, .ref a_told_worth])), (a_course_rows, .inl (cyI, 165, .inl v_course_rows)), (a_told_fades, .inl (cyI, 6, .inl v_told_fades))]) 0 0 (va_A [(a, .inr (6, [.ref a_reader, .ref a_told, .ref a_draft, .ref a_course, .ref a_firstImage, .ref a_secondImage, .ref a_imageKept, .ref a_bestDigs, .ref a_heard, .long v_traced])), (a_course, .inr (2, [.ref a_course_rows, .int v_course_known])), (a_told, .inr (5, [.ref a_told_seam, .int v_told_seamTold, .int v_told_boundTold, .int v_told_lossTold, .int v_told_bound, .int v_told_loss, .int v_told_things, .ref a_told_yellow, .ref a_told_white, .ref a_told_fades, .ref a_told_worth])), (a_course_rows, .inl (cyI, 165, .inl v_course_rows)), (a_told_fades, .inl (cyI, 6, .inl v_told_fades))] sz) := by
  refine gMet (cc := cX6_yearsCalled) (maxL := 2) (ret := (some .int)) (own := RX6) (fun A => gQi0 Q (dC, dI) A [(a, .inr (6, [.ref a_reader, .ref a_told, .ref a_draft, .ref a_course, .ref a_firstImage, .ref a_secondImage, .ref a_imageKept, .ref a_bestDigs, .ref a_heard, .long v_traced])), (a_course, .inr (2, [.ref a_course_rows, .int v_course_known])), (a_told, .inr (5, [.ref a_told_seam, .int v_told_seamTold, .int v_told_boundTold, .int v_told_lossTold, .int v_told_bound, .int v_told_loss, .int v_told_things, .ref a_told_yellow, .ref a_told_white, .ref a_told_fades, .ref a_told_worth])), (a_course_rows, .inl (cyI, 165, .inl v_course_rows)), (a_told_fades, .inl (cyI, 6, .inl v_told_fades))]) (by decide) rfl rfl (Nat.le_of_ble_eq_true rfl) ?_
  intro p e s m below meth c A ls C0 _ hK hN hP hD hA hl
  obtain ⟨hx, hb, hr, hml, hown, hts, hlocks⟩ := id C0
  have f123 := hN.link (args := ([.ref a, .int p0].toArray)) (w := .fieldLinkNest RX6 123 "LastOchre$Told" "fades" "[I" "LastOchre") 25 rfl
  have f19 := hts (.fieldLink RX6 19 "LastOchre" "told" "LLastOchre$Told;") (by decide +kernel)
  have hS : va_S A s.heap s.heap [] := va_S.rf
  replace hl : lv_has ls 2 [(0, .ref a), (1, .int p0)] := hl
  unfold q_X6_yearsCalled at h
  unfold F_X6_yearsCalled_e at h
  refine lv_aload_n hx hb dX6_yearsCalled_0 rfl (lv_at hl 0 rfl) ?_
  refine lv_iload_n hx hb dX6_yearsCalled_1 rfl (lv_at hl 1 rfl) ?_
  refine lv_iconst (v := 0) hx hb dX6_yearsCalled_2 (by decide) ?_
  refine gV_i0 (As := [.int p0, .int (0 : Int32)]) (rest := []) ⟨hx, hb, hml, hown, hts⟩ (c_X6_calledAfter l dC dI cyC cyI cyZ _ a a_reader a_told a_draft a_course a_firstImage a_secondImage a_imageKept a_bestDigs a_heard a_course_rows a_told_seam a_told_yellow a_told_white a_told_fades a_told_worth v_traced v_course_known v_told_seamTold v_told_boundTold v_told_lossTold v_told_bound v_told_loss v_told_things v_course_rows v_told_fades p0 (0 : Int32) h) (cwV 2 hts gX6_yearsCalled_X6_calledAfter rfl rfl rfl hdV_X6_calledAfter ⟨Nat.le_of_ble_eq_true rfl, Nat.le_of_ble_eq_true rfl⟩) hK hN hP hD hS hA [0, 1, 2, 3, 4] (by decide) rfl (ci := 6) rfl rfl rfl hl.1 rfl (Nat.le_of_ble_eq_true rfl) dX6_yearsCalled_3 ⟨Nat.zero_le _, Nat.zero_le _⟩ (fun r_1 H locs h hP hS => ?_)
  refine lv_if_ne (tgt := 11) hx hb dX6_yearsCalled_6 (by decide) (fun c_2 => ?_) (fun c_2 => ?_)
  · replace h := h.1 c_2
    refine lv_aload_n hx hb dX6_yearsCalled_11 rfl (lv_at hl 0 rfl) ?_
    refine va_get (D := (dC, dI)) (ci := 6) (v := .ref a_told) (C := RX6) (T := TX6) (N := 10) hx hb hts iwX6_yearsCalled_X6 hown hK hP 0 rfl rfl 1 (by decide) f19 (fun _ h9 => h9) rfl dX6_yearsCalled_12 ?_
    refine va_getN (host := "LastOchre") (D := (dC, dI)) (ci := 5) (v := .ref a_told_fades) (C := RX5) (T := TX5) (N := 11) hx hb hts iwX6_yearsCalled_X5 hown hK hP 2 rfl rfl 9 (by decide) f123 (fun _ h9 => h9) rfl dX6_yearsCalled_15 ?_
    refine lv_iload_n hx hb dX6_yearsCalled_18 rfl (lv_at hl 1 rfl) ?_
    have g_3 := h.1
    replace h := h.2
    refine va_iald hx hb hK hP 4 0 rfl rfl g_3 dX6_yearsCalled_19 ?_
    refine lv_if_ne (tgt := 26) hx hb dX6_yearsCalled_20 (by decide) (fun c_4 => ?_) (fun c_4 => ?_)
    · replace h := h.1 c_4
      refine lv_aload_n hx hb dX6_yearsCalled_26 rfl (lv_at hl 0 rfl) ?_
      refine lv_iload_n hx hb dX6_yearsCalled_27 rfl (lv_at hl 1 rfl) ?_
      refine gV_i0 (As := [.int p0]) (rest := []) ⟨hx, hb, hml, hown, hts⟩ (c_X6_canSpare l dC dI cyC cyI cyZ _ a a_reader a_told a_draft a_course a_firstImage a_secondImage a_imageKept a_bestDigs a_heard a_course_rows a_told_seam a_told_yellow a_told_white a_told_fades a_told_worth v_traced v_course_known v_told_seamTold v_told_boundTold v_told_lossTold v_told_bound v_told_loss v_told_things v_course_rows v_told_fades p0 h) (cwV 1 hts gX6_yearsCalled_X6_canSpare rfl rfl rfl hdV_X6_canSpare ⟨Nat.le_of_ble_eq_true rfl, Nat.le_of_ble_eq_true rfl⟩) hK hN hP hD hS hA [0, 1, 2, 3, 4] (by decide) rfl (ci := 6) rfl rfl rfl hl.1 rfl (Nat.le_of_ble_eq_true rfl) dX6_yearsCalled_28 ⟨Nat.zero_le _, Nat.zero_le _⟩ (fun r_5 H locs h hP hS => ?_)
      refine lv_aload_n hx hb dX6_yearsCalled_31 rfl (lv_at hl 0 rfl) ?_
      refine va_get (D := (dC, dI)) (ci := 6) (v := .ref a_told) (C := RX6) (T := TX6) (N := 10) hx hb hts iwX6_yearsCalled_X6 hown hK hP 0 rfl rfl 1 (by decide) f19 (fun _ h9 => h9) rfl dX6_yearsCalled_32 ?_
      refine va_getN (host := "LastOchre") (D := (dC, dI)) (ci := 5) (v := .ref a_told_fades) (C := RX5) (T := TX5) (N := 11) hx hb hts iwX6_yearsCalled_X5 hown hK hP 2 rfl rfl 9 (by decide) f123 (fun _ h9 => h9) rfl dX6_yearsCalled_35 ?_
      refine lv_iload_n hx hb dX6_yearsCalled_38 rfl (lv_at hl 1 rfl) ?_
      have g_6 := h.1
      replace h := h.2
      refine va_iald hx hb hK hP 4 0 rfl rfl g_6 dX6_yearsCalled_39 ?_
      refine gS_i0 (As := [.int r_5, .int (v_told_fades (p0).toNatClampNeg)]) (rest := []) ⟨hx, hb, hml, hown, hts⟩ (c_X6_quotient l dC dI cyC cyI cyZ _ r_5 (v_told_fades (p0).toNatClampNeg) h) (va_cwS 2 hts gX6_yearsCalled_X6_quotient rfl rfl rfl hdS_X6_quotient ⟨Nat.le_of_ble_eq_true rfl, Nat.le_of_ble_eq_true rfl⟩) hK hN hP hD hS hA [] (by decide) rfl rfl hl.1 rfl (Nat.le_of_ble_eq_true rfl) dX6_yearsCalled_40 ⟨Nat.zero_le _, Nat.zero_le _⟩ (fun r_7 H locs h hP hS => ?_)
      refine lv_iconst (v := 1) hx hb dX6_yearsCalled_43 (by decide) ?_
      refine lv_iadd hx hb dX6_yearsCalled_44 ?_
      exact gri0 hx hb hr hlocks h hP hD hS dX6_yearsCalled_45
    · replace h := h.2 c_4
      refine lv_bipush (v := -9) hx hb dX6_yearsCalled_23 (by decide) ?_
      exact gri0 hx hb hr hlocks h hP hD hS dX6_yearsCalled_25
  · replace h := h.2 c_2
    refine lv_iconst (v := 0) hx hb dX6_yearsCalled_9 (by decide) ?_
    exact gri0 hx hb hr hlocks h hP hD hS dX6_yearsCalled_10

def F_X6_lasts_e (v_told_bound : Int32) (v_told_things : Int32) (v_course_rows : Nat → Int32) (v_told_fades : Nat → Int32) (p0 : Int32) (Q : Int32 → Prop)  : Prop :=
  q_X6_isThing v_told_things p0 (fun (r_1 : Int32) => (r_1 = 0 → (Q (-1 : Int32))) ∧ (¬ r_1 = 0 → (q_X6_yearsCalled v_told_bound v_course_rows v_told_fades p0 (fun (r_3 : Int32) => Q r_3))))
def q_X6_lasts (v_told_bound : Int32) (v_told_things : Int32) (v_course_rows : Nat → Int32) (v_told_fades : Nat → Int32) (p0 : Int32) (Q : Int32 → Prop) : Prop := F_X6_lasts_e v_told_bound v_told_things v_course_rows v_told_fades p0 Q 
theorem hdV_X6_lasts : yX6_lasts.cls = RX6 ∧ yX6_lasts.cls ≠ "java/lang/invoke/MethodHandle" ∧ yX6_lasts.cls ≠ "java/lang/invoke/VarHandle" ∧ (parseMethodDescriptor yX6_lasts.desc).map (fun d => d.parameters.length) = some 1 := by decide +kernel
set_option maxHeartbeats 4000000 in
set_option maxRecDepth 100000 in
theorem c_X6_lasts (l : Launch) (dC : Nat → ClassId) (dI : Nat → Nat → Nat) (cyC cyI cyZ : ClassId) (sz : Nat) (a a_reader a_told a_draft a_course a_firstImage a_secondImage a_imageKept a_bestDigs a_heard a_told_seam a_told_yellow a_told_white a_told_fades a_told_worth a_course_rows : Nat) (v_traced : Int64) (v_told_seamTold : Int32) (v_told_boundTold : Int32) (v_told_lossTold : Int32) (v_told_bound : Int32) (v_told_loss : Int32) (v_told_things : Int32) (v_course_known : Int32) (v_course_rows : Nat → Int32) (v_told_fades : Nat → Int32) (p0 : Int32) {Q : Int32 → Prop} (h : q_X6_lasts v_told_bound v_told_things v_course_rows v_told_fades p0 Q) : Met l yX6_lasts wsX6_lasts ({ frames := 5, cells := 0, slots := 0, locals := 116 }) (gPc [.ref a, .int p0] (dC, dI) (gTy cyC cyI cyZ) sz [(a, .inr (6, [.ref a_reader, .ref a_told, .ref a_draft, .ref a_course, .ref a_firstImage, .ref a_secondImage, .ref a_imageKept, .ref a_bestDigs, .ref a_heard, .long v_traced])), (a_told, .inr (5, [.ref a_told_seam, .int v_told_seamTold, .int v_told_boundTold, .int v_told_lossTold, .int v_told_bound, .int v_told_loss, .int v_told_things, .ref a_told_yellow, .ref a_told_white, .ref a_told_fades, .ref a_told_worth])), (a_course, .inr (2, [.ref a_course_rows, .int v_course_known])), (a_course_rows, .inl (cyI, 165, .inl v_course_rows)), (a_told_fades, .inl (cyI, 6, .inl v_told_fades))]) (gQi0 Q (dC, dI) (va_A [(a, .inr (6, [.ref a_reader, .ref a_told, .ref a_draft, .ref a_course, .ref a_firstImage, .ref a_secondImage, .ref a_imageKept, .ref a_bestDigs, .ref a_heard, .long v_traced])), (a_told, .inr (5, [.ref a_told_seam, .int v_told_seamTold, .int v_told_boundTold, .int v_told_lossTold, .int v_told_bound, .int v_told_loss, .int v_told_things, .ref a_told_yellow, .ref a_told_white, .ref a_told_fades, .ref a_told_worth])), (a_course, .inr (2, [.ref a_course_rows, .int v_course_known])), (a_course_rows, .inl (cyI, 165, .inl v_course_rows)), (a_told_fades, .inl (cyI, 6, .inl v_told_fades))] sz) [(a, .inr (6, [.ref a_reader, .ref a_told, .ref a_draft, .ref a_course, .ref a_firstImage, .ref a_secondImage, .ref a_imageKept, .ref a_bestDigs, .ref a_heard, .long v_traced])), (a_told, .inr (5, [.ref a_told_seam, .int v_told_seamTold, .int v_told_boundTold, .int v_told_lossTold, .int v_told_bound, .int v_told_loss, .int v_told_things, .ref a_told_yellow, .ref a_told_white, .ref a_told_fades, .ref a_told_worth])), (a_course, .inr (2, [.ref a_course_rows, .int v_course_known])), (a_course_rows, .inl (cyI, 165, .inl v_course_rows)), (a_told_fades, .inl (cyI, 6, .inl v_told_fades))]) 0 0 (va_A [(a, .inr (6, [.ref a_reader, .ref a_told, .ref a_draft, .ref a_course, .ref a_firstImage, .ref a_secondImage, .ref a_imageKept, .ref a_bestDigs, .ref a_heard, .long v_traced])), (a_told, .inr (5, [.ref a_told_seam, .int v_told_seamTold, .int v_told_boundTold, .int v_told_lossTold, .int v_told_bound, .int v_told_loss, .int v_told_things, .ref a_told_yellow, .ref a_told_white, .ref a_told_fades, .ref a_told_worth])), (a_course, .inr (2, [.ref a_course_rows, .int v_course_known])), (a_course_rows, .inl (cyI, 165, .inl v_course_rows)), (a_told_fades, .inl (cyI, 6, .inl v_told_fades))] sz) := by
  refine gMet (cc := cX6_lasts) (maxL := 2) (ret := (some .int)) (own := RX6) (fun A => gQi0 Q (dC, dI) A [(a, .inr (6, [.ref a_reader, .ref a_told, .ref a_draft, .ref a_course, .ref a_firstImage, .ref a_secondImage, .ref a_imageKept, .ref a_bestDigs, .ref a_heard, .long v_traced])), (a_told, .inr (5, [.ref a_told_seam, .int v_told_seamTold, .int v_told_boundTold, .int v_told_lossTold, .int v_told_bound, .int v_told_loss, .int v_told_things, .ref a_told_yellow, .ref a_told_white, .ref a_told_fades, .ref a_told_worth])), (a_course, .inr (2, [.ref a_course_rows, .int v_course_known])), (a_course_rows, .inl (cyI, 165, .inl v_course_rows)), (a_told_fades, .inl (cyI, 6, .inl v_told_fades))]) (by decide) rfl rfl (Nat.le_of_ble_eq_true rfl) ?_
  intro p e s m below meth c A ls C0 _ hK hN hP hD hA hl
  obtain ⟨hx, hb, hr, hml, hown, hts, hlocks⟩ := id C0
  have hS : va_S A s.heap s.heap [] := va_S.rf
  replace hl : lv_has ls 2 [(0, .ref a), (1, .int p0)] := hl
  unfold q_X6_lasts at h
  unfold F_X6_lasts_e at h
  refine lv_aload_n hx hb dX6_lasts_0 rfl (lv_at hl 0 rfl) ?_
  refine lv_iload_n hx hb dX6_lasts_1 rfl (lv_at hl 1 rfl) ?_
  refine gV_i0 (As := [.int p0]) (rest := []) ⟨hx, hb, hml, hown, hts⟩ (c_X6_isThing l dC dI cyC cyI cyZ _ a a_reader a_told a_draft a_course a_firstImage a_secondImage a_imageKept a_bestDigs a_heard a_told_seam a_told_yellow a_told_white a_told_fades a_told_worth v_traced v_told_seamTold v_told_boundTold v_told_lossTold v_told_bound v_told_loss v_told_things p0 h) (cwV 1 hts gX6_lasts_X6_isThing rfl rfl rfl hdV_X6_isThing ⟨Nat.le_of_ble_eq_true rfl, Nat.le_of_ble_eq_true rfl⟩) hK hN hP hD hS hA [0, 1] (by decide) rfl (ci := 6) rfl rfl rfl hl.1 rfl (Nat.le_of_ble_eq_true rfl) dX6_lasts_2 ⟨Nat.zero_le _, Nat.zero_le _⟩ (fun r_1 H locs h hP hS => ?_)
  refine lv_if_eq (tgt := 16) hx hb dX6_lasts_5 (by decide) (fun c_2 => ?_) (fun c_2 => ?_)
  · replace h := h.1 c_2
    refine lv_iconst (v := -1) hx hb dX6_lasts_16 (by decide) ?_
    exact gri0 hx hb hr hlocks h hP hD hS dX6_lasts_17
  · replace h := h.2 c_2
    refine lv_aload_n hx hb dX6_lasts_8 rfl (lv_at hl 0 rfl) ?_
    refine lv_iload_n hx hb dX6_lasts_9 rfl (lv_at hl 1 rfl) ?_
    refine gV_i0 (As := [.int p0]) (rest := []) ⟨hx, hb, hml, hown, hts⟩ (c_X6_yearsCalled l dC dI cyC cyI cyZ _ a a_reader a_told a_draft a_course a_firstImage a_secondImage a_imageKept a_bestDigs a_heard a_course_rows a_told_seam a_told_yellow a_told_white a_told_fades a_told_worth v_traced v_course_known v_told_seamTold v_told_boundTold v_told_lossTold v_told_bound v_told_loss v_told_things v_course_rows v_told_fades p0 h) (cwV 1 hts gX6_lasts_X6_yearsCalled rfl rfl rfl hdV_X6_yearsCalled ⟨Nat.le_of_ble_eq_true rfl, Nat.le_of_ble_eq_true rfl⟩) hK hN hP hD hS hA [0, 2, 1, 3, 4] (by decide) rfl (ci := 6) rfl rfl rfl hl.1 rfl (Nat.le_of_ble_eq_true rfl) dX6_lasts_10 ⟨Nat.zero_le _, Nat.zero_le _⟩ (fun r_3 H locs h hP hS => ?_)
    refine lv_goto (tgt := 17) hx hb dX6_lasts_13 (by decide) ?_
    exact gri0 hx hb hr hlocks h hP hD hS dX6_lasts_17

def F_X6_first_e (v_told_bound : Int32) (v_told_things : Int32) (v_course_rows : Nat → Int32) (v_told_fades : Nat → Int32) (Q : Int32 → Prop) (rec : Nat → Int32 → Int32 → Int32 → Int32 → Prop)  : Prop :=
  rec 7 (-9 : Int32) (0 : Int32) (0 : Int32) 0
def F_X6_first_7 (v_told_bound : Int32) (v_told_things : Int32) (v_course_rows : Nat → Int32) (v_told_fades : Nat → Int32) (Q : Int32 → Prop) (rec : Nat → Int32 → Int32 → Int32 → Int32 → Prop) (x1 : Int32) (x2 : Int32) (x3 : Int32) (x4 : Int32) : Prop :=
  (v_told_things ≤ x3 → (Q x1)) ∧ (¬ v_told_things ≤ x3 → (q_X6_yearsCalled v_told_bound v_course_rows v_told_fades x3 (fun (r_2 : Int32) => (r_2 ≤ 0 → (∀ x3_4 : Int32, x3_4 = (x3 + (1 : Int32)) → (rec 7 x1 x2 x3_4 0))) ∧ (¬ r_2 ≤ 0 → ((x1 = (-9 : Int32) → (rec 42 0 0 x3 r_2)) ∧ (¬ x1 = (-9 : Int32) → ((x2 ≤ r_2 → (∀ x3_8 : Int32, x3_8 = (x3 + (1 : Int32)) → (rec 7 x1 x2 x3_8 0))) ∧ (¬ x2 ≤ r_2 → (rec 42 0 0 x3 r_2)))))))))
def F_X6_first_42 (v_told_bound : Int32) (v_told_things : Int32) (v_course_rows : Nat → Int32) (v_told_fades : Nat → Int32) (Q : Int32 → Prop) (rec : Nat → Int32 → Int32 → Int32 → Int32 → Prop) (x1 : Int32) (x2 : Int32) (x3 : Int32) (x4 : Int32) : Prop :=
  ∀ x3_10 : Int32, x3_10 = (x3 + (1 : Int32)) → (rec 7 x3 x4 x3_10 0)
def wp_X6_first (v_told_bound : Int32) (v_told_things : Int32) (v_course_rows : Nat → Int32) (v_told_fades : Nat → Int32) (Q : Int32 → Prop) : Nat → Nat → Int32 → Int32 → Int32 → Int32 → Prop
  | 0 => fun _ _ _ _ _ => False
  | n + 1 => fun t x1 x2 x3 x4 => if t = 7 then F_X6_first_7 v_told_bound v_told_things v_course_rows v_told_fades Q (wp_X6_first v_told_bound v_told_things v_course_rows v_told_fades Q n) x1 x2 x3 x4 else if t = 42 then F_X6_first_42 v_told_bound v_told_things v_course_rows v_told_fades Q (wp_X6_first v_told_bound v_told_things v_course_rows v_told_fades Q n) x1 x2 x3 x4 else False
def q_X6_first (v_told_bound : Int32) (v_told_things : Int32) (v_course_rows : Nat → Int32) (v_told_fades : Nat → Int32) (Q : Int32 → Prop) : Prop := ∃ n, F_X6_first_e v_told_bound v_told_things v_course_rows v_told_fades Q (wp_X6_first v_told_bound v_told_things v_course_rows v_told_fades Q n) 
theorem iwX6_first_X5 : ∀ w ∈ wsX50, w ∈ wsX6_first := by decide +kernel
theorem iwX6_first_X6 : ∀ w ∈ wsX60, w ∈ wsX6_first := by decide +kernel
theorem hdV_X6_first : yX6_first.cls = RX6 ∧ yX6_first.cls ≠ "java/lang/invoke/MethodHandle" ∧ yX6_first.cls ≠ "java/lang/invoke/VarHandle" ∧ (parseMethodDescriptor yX6_first.desc).map (fun d => d.parameters.length) = some 0 := by decide +kernel
set_option maxHeartbeats 4000000 in
set_option maxRecDepth 100000 in
theorem w_X6_first {p : Program} {l : Launch} {e : Env} {s : State} {m : MethodId} {args : Array Value} {below : List Frame} {meth : Method} {c : Code} {A : Nat → Prop} (dC : Nat → ClassId) (dI : Nat → Nat → Nat) (cyC cyI cyZ : ClassId) (a a_reader a_told a_draft a_course a_firstImage a_secondImage a_imageKept a_bestDigs a_heard a_told_seam a_told_yellow a_told_white a_told_fades a_told_worth a_course_rows : Nat) (v_traced : Int64) (v_told_seamTold : Int32) (v_told_boundTold : Int32) (v_told_lossTold : Int32) (v_told_bound : Int32) (v_told_loss : Int32) (v_told_things : Int32) (v_course_known : Int32) (v_course_rows : Nat → Int32) (v_told_fades : Nat → Int32) (Q : Int32 → Prop) (C0 : gAt cX6_first (some .int) 5 RX6 wsX6_first p s m meth c args) (hK : va_K (dC, dI) vwCl (gTy cyC cyI cyZ) s) (hN : nU s) (hA : ∀ q, s.heap.size ≤ q → A q) : ∀ n : Nat, (∀ (x1 : Int32) (x2 : Int32) (x3 : Int32) (x4 : Int32) (H : Heap) (locs : List Loc) (ls : Array Slot), wp_X6_first v_told_bound v_told_things v_course_rows v_told_fades Q n 7 x1 x2 x3 x4 → va_P (dC, dI) vwCl [(a, .inr (6, [.ref a_reader, .ref a_told, .ref a_draft, .ref a_course, .ref a_firstImage, .ref a_secondImage, .ref a_imageKept, .ref a_bestDigs, .ref a_heard, .long v_traced])), (a_told, .inr (5, [.ref a_told_seam, .int v_told_seamTold, .int v_told_boundTold, .int v_told_lossTold, .int v_told_bound, .int v_told_loss, .int v_told_things, .ref a_told_yellow, .ref a_told_white, .ref a_told_fades, .ref a_told_worth])), (a_course, .inr (2, [.ref a_course_rows, .int v_course_known])), (a_course_rows, .inl (cyI, 165, .inl v_course_rows)), (a_told_fades, .inl (cyI, 6, .inl v_told_fades))] H → va_D A [(a, .inr (6, [.ref a_reader, .ref a_told, .ref a_draft, .ref a_course, .ref a_firstImage, .ref a_secondImage, .ref a_imageKept, .ref a_bestDigs, .ref a_heard, .long v_traced])), (a_told, .inr (5, [.ref a_told_seam, .int v_told_seamTold, .int v_told_boundTold, .int v_told_lossTold, .int v_told_bound, .int v_told_loss, .int v_told_things, .ref a_told_yellow, .ref a_told_white, .ref a_told_fades, .ref a_told_worth])), (a_course, .inr (2, [.ref a_course_rows, .int v_course_known])), (a_course_rows, .inl (cyI, 165, .inl v_course_rows)), (a_told_fades, .inl (cyI, 6, .inl v_told_fades))] → va_S A s.heap H locs → lv_has ls 5 [(0, .ref a), (1, .int x1), (2, .int x2), (3, .int x3)] → W p l e { frames := 5, cells := 0, slots := 0, locals := 116 } s m args below meth c H locs 0 0 (MQ below (gQi0 Q (dC, dI) A [(a, .inr (6, [.ref a_reader, .ref a_told, .ref a_draft, .ref a_course, .ref a_firstImage, .ref a_secondImage, .ref a_imageKept, .ref a_bestDigs, .ref a_heard, .long v_traced])), (a_told, .inr (5, [.ref a_told_seam, .int v_told_seamTold, .int v_told_boundTold, .int v_told_lossTold, .int v_told_bound, .int v_told_loss, .int v_told_things, .ref a_told_yellow, .ref a_told_white, .ref a_told_fades, .ref a_told_worth])), (a_course, .inr (2, [.ref a_course_rows, .int v_course_known])), (a_course_rows, .inl (cyI, 165, .inl v_course_rows)), (a_told_fades, .inl (cyI, 6, .inl v_told_fades))]) args s 0 0 A) (F0 m 7 ls [])) ∧ (∀ (x1 : Int32) (x2 : Int32) (x3 : Int32) (x4 : Int32) (H : Heap) (locs : List Loc) (ls : Array Slot), wp_X6_first v_told_bound v_told_things v_course_rows v_told_fades Q n 42 x1 x2 x3 x4 → va_P (dC, dI) vwCl [(a, .inr (6, [.ref a_reader, .ref a_told, .ref a_draft, .ref a_course, .ref a_firstImage, .ref a_secondImage, .ref a_imageKept, .ref a_bestDigs, .ref a_heard, .long v_traced])), (a_told, .inr (5, [.ref a_told_seam, .int v_told_seamTold, .int v_told_boundTold, .int v_told_lossTold, .int v_told_bound, .int v_told_loss, .int v_told_things, .ref a_told_yellow, .ref a_told_white, .ref a_told_fades, .ref a_told_worth])), (a_course, .inr (2, [.ref a_course_rows, .int v_course_known])), (a_course_rows, .inl (cyI, 165, .inl v_course_rows)), (a_told_fades, .inl (cyI, 6, .inl v_told_fades))] H → va_D A [(a, .inr (6, [.ref a_reader, .ref a_told, .ref a_draft, .ref a_course, .ref a_firstImage, .ref a_secondImage, .ref a_imageKept, .ref a_bestDigs, .ref a_heard, .long v_traced])), (a_told, .inr (5, [.ref a_told_seam, .int v_told_seamTold, .int v_told_boundTold, .int v_told_lossTold, .int v_told_bound, .int v_told_loss, .int v_told_things, .ref a_told_yellow, .ref a_told_white, .ref a_told_fades, .ref a_told_worth])), (a_course, .inr (2, [.ref a_course_rows, .int v_course_known])), (a_course_rows, .inl (cyI, 165, .inl v_course_rows)), (a_told_fades, .inl (cyI, 6, .inl v_told_fades))] → va_S A s.heap H locs → lv_has ls 5 [(0, .ref a), (3, .int x3), (4, .int x4)] → W p l e { frames := 5, cells := 0, slots := 0, locals := 116 } s m args below meth c H locs 0 0 (MQ below (gQi0 Q (dC, dI) A [(a, .inr (6, [.ref a_reader, .ref a_told, .ref a_draft, .ref a_course, .ref a_firstImage, .ref a_secondImage, .ref a_imageKept, .ref a_bestDigs, .ref a_heard, .long v_traced])), (a_told, .inr (5, [.ref a_told_seam, .int v_told_seamTold, .int v_told_boundTold, .int v_told_lossTold, .int v_told_bound, .int v_told_loss, .int v_told_things, .ref a_told_yellow, .ref a_told_white, .ref a_told_fades, .ref a_told_worth])), (a_course, .inr (2, [.ref a_course_rows, .int v_course_known])), (a_course_rows, .inl (cyI, 165, .inl v_course_rows)), (a_told_fades, .inl (cyI, 6, .inl v_told_fades))]) args s 0 0 A) (F0 m 42 ls [])) := by
  obtain ⟨hx, hb, hr, hml, hown, hts, hlocks⟩ := id C0
  have f159 := hN.link (args := (args)) (w := .fieldLinkNest RX6 159 "LastOchre$Told" "things" "I" "LastOchre") 19 rfl
  have f19 := hts (.fieldLink RX6 19 "LastOchre" "told" "LLastOchre$Told;") (by decide +kernel)
  intro n
  induction n with
  | zero => exact ⟨fun _ _ _ _ _ _ _ h => absurd h id, fun _ _ _ _ _ _ _ h => absurd h id⟩
  | succ n ih =>
    obtain ⟨ih7, ih42⟩ := ih
    refine ⟨?_, ?_⟩
    · intro x1 x2 x3 x4 H locs ls h hP hD hS hl
      replace h : F_X6_first_7 v_told_bound v_told_things v_course_rows v_told_fades Q (wp_X6_first v_told_bound v_told_things v_course_rows v_told_fades Q n) x1 x2 x3 x4 := h
      unfold F_X6_first_7 at h
      refine lv_iload_n hx hb dX6_first_7 rfl (lv_at hl 3 rfl) ?_
      refine lv_aload_n hx hb dX6_first_8 rfl (lv_at hl 0 rfl) ?_
      refine va_get (D := (dC, dI)) (ci := 6) (v := .ref a_told) (C := RX6) (T := TX6) (N := 10) hx hb hts iwX6_first_X6 hown hK hP 0 rfl rfl 1 (by decide) f19 (fun _ h9 => h9) rfl dX6_first_9 ?_
      refine va_getN (host := "LastOchre") (D := (dC, dI)) (ci := 5) (v := .int v_told_things) (C := RX5) (T := TX5) (N := 11) hx hb hts iwX6_first_X5 hown hK hP 1 rfl rfl 6 (by decide) f159 (fun _ h9 => h9) rfl dX6_first_12 ?_
      refine lv_icmp_ge (tgt := 53) hx hb dX6_first_15 (by decide) (fun c_1 => ?_) (fun c_1 => ?_)
      · replace h := h.1 c_1
        refine lv_iload_n hx hb dX6_first_53 rfl (lv_at hl 1 rfl) ?_
        exact gri0 hx hb hr hlocks h hP hD hS dX6_first_54
      · replace h := h.2 c_1
        refine lv_aload_n hx hb dX6_first_18 rfl (lv_at hl 0 rfl) ?_
        refine lv_iload_n hx hb dX6_first_19 rfl (lv_at hl 3 rfl) ?_
        refine gV_i0 (As := [.int x3]) (rest := []) ⟨hx, hb, hml, hown, hts⟩ (c_X6_yearsCalled l dC dI cyC cyI cyZ _ a a_reader a_told a_draft a_course a_firstImage a_secondImage a_imageKept a_bestDigs a_heard a_course_rows a_told_seam a_told_yellow a_told_white a_told_fades a_told_worth v_traced v_course_known v_told_seamTold v_told_boundTold v_told_lossTold v_told_bound v_told_loss v_told_things v_course_rows v_told_fades x3 h) (cwV 1 hts gX6_first_X6_yearsCalled rfl rfl rfl hdV_X6_yearsCalled ⟨Nat.le_of_ble_eq_true rfl, Nat.le_of_ble_eq_true rfl⟩) hK hN hP hD hS hA [0, 2, 1, 3, 4] (by decide) rfl (ci := 6) rfl rfl rfl hl.1 rfl (Nat.le_of_ble_eq_true rfl) dX6_first_20 ⟨Nat.zero_le _, Nat.zero_le _⟩ (fun r_2 H locs h hP hS => ?_)
        refine lv_istore (lv' := [(4, .int r_2), (0, .ref a), (1, .int x1), (2, .int x2), (3, .int x3)]) hx hb dX6_first_23 hl (by decide) rfl (fun ls hl => ?_)
        refine lv_iload hx hb dX6_first_25 (lv_at hl 0 rfl) ?_
        refine lv_if_le (tgt := 47) hx hb dX6_first_27 (by decide) (fun c_3 => ?_) (fun c_3 => ?_)
        · replace h := h.1 c_3
          obtain ⟨x3_4, e_5⟩ : ∃ y : Int32, y = (x3 + (1 : Int32)) := ⟨_, rfl⟩
          replace h := h x3_4 e_5
          refine lv_iinc (v := x3_4) (lv' := [(3, .int x3_4), (4, .int r_2), (0, .ref a), (1, .int x1), (2, .int x2)]) hx hb dX6_first_47 hl (k := 4) rfl (by rw [e_5]; rfl) (by decide) rfl (fun ls hl => ?_)
          refine lv_goto (tgt := 7) hx hb dX6_first_50 (by decide) ?_
          exact ih7 x1 x2 x3_4 0 _ _ _ h hP hD hS (lv_sub hl [2, 3, 4, 0] rfl)
        · replace h := h.2 c_3
          refine lv_iload_n hx hb dX6_first_30 rfl (lv_at hl 2 rfl) ?_
          refine lv_bipush (v := -9) hx hb dX6_first_31 (by decide) ?_
          refine lv_icmp_eq (tgt := 42) hx hb dX6_first_33 (by decide) (fun c_6 => ?_) (fun c_6 => ?_)
          · replace h := h.1 c_6
            exact ih42 0 0 x3 r_2 _ _ _ h hP hD hS (lv_sub hl [1, 4, 0] rfl)
          · replace h := h.2 c_6
            refine lv_iload hx hb dX6_first_36 (lv_at hl 0 rfl) ?_
            refine lv_iload_n hx hb dX6_first_38 rfl (lv_at hl 3 rfl) ?_
            refine lv_icmp_ge (tgt := 47) hx hb dX6_first_39 (by decide) (fun c_7 => ?_) (fun c_7 => ?_)
            · replace h := h.1 c_7
              obtain ⟨x3_8, e_9⟩ : ∃ y : Int32, y = (x3 + (1 : Int32)) := ⟨_, rfl⟩
              replace h := h x3_8 e_9
              refine lv_iinc (v := x3_8) (lv' := [(3, .int x3_8), (4, .int r_2), (0, .ref a), (1, .int x1), (2, .int x2)]) hx hb dX6_first_47 hl (k := 4) rfl (by rw [e_9]; rfl) (by decide) rfl (fun ls hl => ?_)
              refine lv_goto (tgt := 7) hx hb dX6_first_50 (by decide) ?_
              exact ih7 x1 x2 x3_8 0 _ _ _ h hP hD hS (lv_sub hl [2, 3, 4, 0] rfl)
            · replace h := h.2 c_7
              exact ih42 0 0 x3 r_2 _ _ _ h hP hD hS (lv_sub hl [1, 4, 0] rfl)
    · intro x1 x2 x3 x4 H locs ls h hP hD hS hl
      replace h : F_X6_first_42 v_told_bound v_told_things v_course_rows v_told_fades Q (wp_X6_first v_told_bound v_told_things v_course_rows v_told_fades Q n) x1 x2 x3 x4 := h
      unfold F_X6_first_42 at h
      refine lv_iload_n hx hb dX6_first_42 rfl (lv_at hl 1 rfl) ?_
      refine lv_istore_n (lv' := [(1, .int x3), (0, .ref a), (3, .int x3), (4, .int x4)]) hx hb dX6_first_43 rfl hl (by decide) rfl (fun ls hl => ?_)
      refine lv_iload hx hb dX6_first_44 (lv_at hl 3 rfl) ?_
      refine lv_istore_n (lv' := [(2, .int x4), (1, .int x3), (0, .ref a), (3, .int x3), (4, .int x4)]) hx hb dX6_first_46 rfl hl (by decide) rfl (fun ls hl => ?_)
      obtain ⟨x3_10, e_11⟩ : ∃ y : Int32, y = (x3 + (1 : Int32)) := ⟨_, rfl⟩
      replace h := h x3_10 e_11
      refine lv_iinc (v := x3_10) (lv' := [(3, .int x3_10), (2, .int x4), (1, .int x3), (0, .ref a), (4, .int x4)]) hx hb dX6_first_47 hl (k := 3) rfl (by rw [e_11]; rfl) (by decide) rfl (fun ls hl => ?_)
      refine lv_goto (tgt := 7) hx hb dX6_first_50 (by decide) ?_
      exact ih7 x3 x4 x3_10 0 _ _ _ h hP hD hS (lv_sub hl [3, 2, 1, 0] rfl)
set_option maxHeartbeats 4000000 in
set_option maxRecDepth 100000 in
theorem c_X6_first (l : Launch) (dC : Nat → ClassId) (dI : Nat → Nat → Nat) (cyC cyI cyZ : ClassId) (sz : Nat) (a a_reader a_told a_draft a_course a_firstImage a_secondImage a_imageKept a_bestDigs a_heard a_told_seam a_told_yellow a_told_white a_told_fades a_told_worth a_course_rows : Nat) (v_traced : Int64) (v_told_seamTold : Int32) (v_told_boundTold : Int32) (v_told_lossTold : Int32) (v_told_bound : Int32) (v_told_loss : Int32) (v_told_things : Int32) (v_course_known : Int32) (v_course_rows : Nat → Int32) (v_told_fades : Nat → Int32) {Q : Int32 → Prop} (h : q_X6_first v_told_bound v_told_things v_course_rows v_told_fades Q) : Met l yX6_first wsX6_first ({ frames := 5, cells := 0, slots := 0, locals := 116 }) (gPc [.ref a] (dC, dI) (gTy cyC cyI cyZ) sz [(a, .inr (6, [.ref a_reader, .ref a_told, .ref a_draft, .ref a_course, .ref a_firstImage, .ref a_secondImage, .ref a_imageKept, .ref a_bestDigs, .ref a_heard, .long v_traced])), (a_told, .inr (5, [.ref a_told_seam, .int v_told_seamTold, .int v_told_boundTold, .int v_told_lossTold, .int v_told_bound, .int v_told_loss, .int v_told_things, .ref a_told_yellow, .ref a_told_white, .ref a_told_fades, .ref a_told_worth])), (a_course, .inr (2, [.ref a_course_rows, .int v_course_known])), (a_course_rows, .inl (cyI, 165, .inl v_course_rows)), (a_told_fades, .inl (cyI, 6, .inl v_told_fades))]) (gQi0 Q (dC, dI) (va_A [(a, .inr (6, [.ref a_reader, .ref a_told, .ref a_draft, .ref a_course, .ref a_firstImage, .ref a_secondImage, .ref a_imageKept, .ref a_bestDigs, .ref a_heard, .long v_traced])), (a_told, .inr (5, [.ref a_told_seam, .int v_told_seamTold, .int v_told_boundTold, .int v_told_lossTold, .int v_told_bound, .int v_told_loss, .int v_told_things, .ref a_told_yellow, .ref a_told_white, .ref a_told_fades, .ref a_told_worth])), (a_course, .inr (2, [.ref a_course_rows, .int v_course_known])), (a_course_rows, .inl (cyI, 165, .inl v_course_rows)), (a_told_fades, .inl (cyI, 6, .inl v_told_fades))] sz) [(a, .inr (6, [.ref a_reader, .ref a_told, .ref a_draft, .ref a_course, .ref a_firstImage, .ref a_secondImage, .ref a_imageKept, .ref a_bestDigs, .ref a_heard, .long v_traced])), (a_told, .inr (5, [.ref a_told_seam, .int v_told_seamTold, .int v_told_boundTold, .int v_told_lossTold, .int v_told_bound, .int v_told_loss, .int v_told_things, .ref a_told_yellow, .ref a_told_white, .ref a_told_fades, .ref a_told_worth])), (a_course, .inr (2, [.ref a_course_rows, .int v_course_known])), (a_course_rows, .inl (cyI, 165, .inl v_course_rows)), (a_told_fades, .inl (cyI, 6, .inl v_told_fades))]) 0 0 (va_A [(a, .inr (6, [.ref a_reader, .ref a_told, .ref a_draft, .ref a_course, .ref a_firstImage, .ref a_secondImage, .ref a_imageKept, .ref a_bestDigs, .ref a_heard, .long v_traced])), (a_told, .inr (5, [.ref a_told_seam, .int v_told_seamTold, .int v_told_boundTold, .int v_told_lossTold, .int v_told_bound, .int v_told_loss, .int v_told_things, .ref a_told_yellow, .ref a_told_white, .ref a_told_fades, .ref a_told_worth])), (a_course, .inr (2, [.ref a_course_rows, .int v_course_known])), (a_course_rows, .inl (cyI, 165, .inl v_course_rows)), (a_told_fades, .inl (cyI, 6, .inl v_told_fades))] sz) := by
  refine gMet (cc := cX6_first) (maxL := 5) (ret := (some .int)) (own := RX6) (fun A => gQi0 Q (dC, dI) A [(a, .inr (6, [.ref a_reader, .ref a_told, .ref a_draft, .ref a_course, .ref a_firstImage, .ref a_secondImage, .ref a_imageKept, .ref a_bestDigs, .ref a_heard, .long v_traced])), (a_told, .inr (5, [.ref a_told_seam, .int v_told_seamTold, .int v_told_boundTold, .int v_told_lossTold, .int v_told_bound, .int v_told_loss, .int v_told_things, .ref a_told_yellow, .ref a_told_white, .ref a_told_fades, .ref a_told_worth])), (a_course, .inr (2, [.ref a_course_rows, .int v_course_known])), (a_course_rows, .inl (cyI, 165, .inl v_course_rows)), (a_told_fades, .inl (cyI, 6, .inl v_told_fades))]) (by decide) rfl rfl (Nat.le_of_ble_eq_true rfl) ?_
  intro p e s m below meth c A ls C0 _ hK hN hP hD hA hl
  obtain ⟨hx, hb, hr, hml, hown, hts, hlocks⟩ := id C0
  have f159 := hN.link (args := ([.ref a].toArray)) (w := .fieldLinkNest RX6 159 "LastOchre$Told" "things" "I" "LastOchre") 19 rfl
  have f19 := hts (.fieldLink RX6 19 "LastOchre" "told" "LLastOchre$Told;") (by decide +kernel)
  have hS : va_S A s.heap s.heap [] := va_S.rf
  replace hl : lv_has ls 5 [(0, .ref a)] := hl
  unfold q_X6_first at h
  obtain ⟨n, h⟩ := h
  obtain ⟨ih7, ih42⟩ := w_X6_first (l := l) (e := e) (below := below) dC dI cyC cyI cyZ a a_reader a_told a_draft a_course a_firstImage a_secondImage a_imageKept a_bestDigs a_heard a_told_seam a_told_yellow a_told_white a_told_fades a_told_worth a_course_rows v_traced v_told_seamTold v_told_boundTold v_told_lossTold v_told_bound v_told_loss v_told_things v_course_known v_course_rows v_told_fades Q C0 hK hN hA n
  unfold F_X6_first_e at h
  refine lv_bipush (v := -9) hx hb dX6_first_0 (by decide) ?_
  refine lv_istore_n (lv' := [(1, .int (-9 : Int32)), (0, .ref a)]) hx hb dX6_first_2 rfl hl (by decide) rfl (fun ls hl => ?_)
  refine lv_iconst (v := 0) hx hb dX6_first_3 (by decide) ?_
  refine lv_istore_n (lv' := [(2, .int (0 : Int32)), (1, .int (-9 : Int32)), (0, .ref a)]) hx hb dX6_first_4 rfl hl (by decide) rfl (fun ls hl => ?_)
  refine lv_iconst (v := 0) hx hb dX6_first_5 (by decide) ?_
  refine lv_istore_n (lv' := [(3, .int (0 : Int32)), (2, .int (0 : Int32)), (1, .int (-9 : Int32)), (0, .ref a)]) hx hb dX6_first_6 rfl hl (by decide) rfl (fun ls hl => ?_)
  exact ih7 (-9 : Int32) (0 : Int32) (0 : Int32) 0 _ _ _ h hP hD hS (lv_sub hl [3, 2, 1, 0] rfl)

def F_X6_paintFor_e (v_course_rows : Nat → Int32) (v_told_bound : Int32) (v_told_fades : Nat → Int32) (p0 : Int32) (p1 : Int32) (Q : Int32 → Prop)  : Prop :=
  q_X6_leastYellow v_course_rows v_told_bound p0 (fun (r_1 : Int32) => (¬ r_1 = (-9 : Int32) → (q_X2_yellow v_course_rows p0 (fun (r_3 : Int32) => vp_in p0 6 ∧ (∀ x5_5 : Int32, x5_5 = (if (0 : Int32) < ((r_1 + (p1 * (v_told_fades (p0).toNatClampNeg))) - r_3) then ((r_1 + (p1 * (v_told_fades (p0).toNatClampNeg))) - r_3) else (0 : Int32)) → (((r_3 + x5_5) ≤ (999 : Int32) → (Q x5_5)) ∧ (¬ (r_3 + x5_5) ≤ (999 : Int32) → (Q (-9 : Int32)))))))) ∧ (r_1 = (-9 : Int32) → (Q (-9 : Int32))))
def q_X6_paintFor (v_course_rows : Nat → Int32) (v_told_bound : Int32) (v_told_fades : Nat → Int32) (p0 : Int32) (p1 : Int32) (Q : Int32 → Prop) : Prop := F_X6_paintFor_e v_course_rows v_told_bound v_told_fades p0 p1 Q 
theorem iwX6_paintFor_X5 : ∀ w ∈ wsX50, w ∈ wsX6_paintFor := by decide +kernel
theorem iwX6_paintFor_X6 : ∀ w ∈ wsX60, w ∈ wsX6_paintFor := by decide +kernel
theorem hdV_X6_paintFor : yX6_paintFor.cls = RX6 ∧ yX6_paintFor.cls ≠ "java/lang/invoke/MethodHandle" ∧ yX6_paintFor.cls ≠ "java/lang/invoke/VarHandle" ∧ (parseMethodDescriptor yX6_paintFor.desc).map (fun d => d.parameters.length) = some 2 := by decide +kernel
set_option maxHeartbeats 4000000 in
set_option maxRecDepth 100000 in
theorem c_X6_paintFor (l : Launch) (dC : Nat → ClassId) (dI : Nat → Nat → Nat) (cyC cyI cyZ : ClassId) (sz : Nat) (a a_reader a_told a_draft a_course a_firstImage a_secondImage a_imageKept a_bestDigs a_heard a_course_rows a_told_seam a_told_yellow a_told_white a_told_fades a_told_worth : Nat) (v_traced : Int64) (v_course_known : Int32) (v_course_rows : Nat → Int32) (v_told_seamTold : Int32) (v_told_boundTold : Int32) (v_told_lossTold : Int32) (v_told_bound : Int32) (v_told_loss : Int32) (v_told_things : Int32) (v_told_fades : Nat → Int32) (p0 : Int32) (p1 : Int32) {Q : Int32 → Prop} (h : q_X6_paintFor v_course_rows v_told_bound v_told_fades p0 p1 Q) : Met l yX6_paintFor wsX6_paintFor ({ frames := 2, cells := 0, slots := 0, locals := 54 }) (gPc [.ref a, .int p0, .int p1] (dC, dI) (gTy cyC cyI cyZ) sz [(a, .inr (6, [.ref a_reader, .ref a_told, .ref a_draft, .ref a_course, .ref a_firstImage, .ref a_secondImage, .ref a_imageKept, .ref a_bestDigs, .ref a_heard, .long v_traced])), (a_course, .inr (2, [.ref a_course_rows, .int v_course_known])), (a_course_rows, .inl (cyI, 165, .inl v_course_rows)), (a_told, .inr (5, [.ref a_told_seam, .int v_told_seamTold, .int v_told_boundTold, .int v_told_lossTold, .int v_told_bound, .int v_told_loss, .int v_told_things, .ref a_told_yellow, .ref a_told_white, .ref a_told_fades, .ref a_told_worth])), (a_told_fades, .inl (cyI, 6, .inl v_told_fades))]) (gQi0 Q (dC, dI) (va_A [(a, .inr (6, [.ref a_reader, .ref a_told, .ref a_draft, .ref a_course, .ref a_firstImage, .ref a_secondImage, .ref a_imageKept, .ref a_bestDigs, .ref a_heard, .long v_traced])), (a_course, .inr (2, [.ref a_course_rows, .int v_course_known])), (a_course_rows, .inl (cyI, 165, .inl v_course_rows)), (a_told, .inr (5, [.ref a_told_seam, .int v_told_seamTold, .int v_told_boundTold, .int v_told_lossTold, .int v_told_bound, .int v_told_loss, .int v_told_things, .ref a_told_yellow, .ref a_told_white, .ref a_told_fades, .ref a_told_worth])), (a_told_fades, .inl (cyI, 6, .inl v_told_fades))] sz) [(a, .inr (6, [.ref a_reader, .ref a_told, .ref a_draft, .ref a_course, .ref a_firstImage, .ref a_secondImage, .ref a_imageKept, .ref a_bestDigs, .ref a_heard, .long v_traced])), (a_course, .inr (2, [.ref a_course_rows, .int v_course_known])), (a_course_rows, .inl (cyI, 165, .inl v_course_rows)), (a_told, .inr (5, [.ref a_told_seam, .int v_told_seamTold, .int v_told_boundTold, .int v_told_lossTold, .int v_told_bound, .int v_told_loss, .int v_told_things, .ref a_told_yellow, .ref a_told_white, .ref a_told_fades, .ref a_told_worth])), (a_told_fades, .inl (cyI, 6, .inl v_told_fades))]) 0 0 (va_A [(a, .inr (6, [.ref a_reader, .ref a_told, .ref a_draft, .ref a_course, .ref a_firstImage, .ref a_secondImage, .ref a_imageKept, .ref a_bestDigs, .ref a_heard, .long v_traced])), (a_course, .inr (2, [.ref a_course_rows, .int v_course_known])), (a_course_rows, .inl (cyI, 165, .inl v_course_rows)), (a_told, .inr (5, [.ref a_told_seam, .int v_told_seamTold, .int v_told_boundTold, .int v_told_lossTold, .int v_told_bound, .int v_told_loss, .int v_told_things, .ref a_told_yellow, .ref a_told_white, .ref a_told_fades, .ref a_told_worth])), (a_told_fades, .inl (cyI, 6, .inl v_told_fades))] sz) := by
  refine gMet (cc := cX6_paintFor) (maxL := 6) (ret := (some .int)) (own := RX6) (fun A => gQi0 Q (dC, dI) A [(a, .inr (6, [.ref a_reader, .ref a_told, .ref a_draft, .ref a_course, .ref a_firstImage, .ref a_secondImage, .ref a_imageKept, .ref a_bestDigs, .ref a_heard, .long v_traced])), (a_course, .inr (2, [.ref a_course_rows, .int v_course_known])), (a_course_rows, .inl (cyI, 165, .inl v_course_rows)), (a_told, .inr (5, [.ref a_told_seam, .int v_told_seamTold, .int v_told_boundTold, .int v_told_lossTold, .int v_told_bound, .int v_told_loss, .int v_told_things, .ref a_told_yellow, .ref a_told_white, .ref a_told_fades, .ref a_told_worth])), (a_told_fades, .inl (cyI, 6, .inl v_told_fades))]) (by decide) rfl rfl (Nat.le_of_ble_eq_true rfl) ?_
  intro p e s m below meth c A ls C0 _ hK hN hP hD hA hl
  obtain ⟨hx, hb, hr, hml, hown, hts, hlocks⟩ := id C0
  have f123 := hN.link (args := ([.ref a, .int p0, .int p1].toArray)) (w := .fieldLinkNest RX6 123 "LastOchre$Told" "fades" "[I" "LastOchre") 25 rfl
  have f19 := hts (.fieldLink RX6 19 "LastOchre" "told" "LLastOchre$Told;") (by decide +kernel)
  have f29 := hts (.fieldLink RX6 29 "LastOchre" "course" "LLastOchre$Course;") (by decide +kernel)
  have hS : va_S A s.heap s.heap [] := va_S.rf
  replace hl : lv_has ls 6 [(0, .ref a), (1, .int p0), (2, .int p1)] := hl
  unfold q_X6_paintFor at h
  unfold F_X6_paintFor_e at h
  refine lv_aload_n hx hb dX6_paintFor_0 rfl (lv_at hl 0 rfl) ?_
  refine lv_iload_n hx hb dX6_paintFor_1 rfl (lv_at hl 1 rfl) ?_
  refine gV_i0 (As := [.int p0]) (rest := []) ⟨hx, hb, hml, hown, hts⟩ (c_X6_leastYellow l dC dI cyC cyI cyZ _ a a_reader a_told a_draft a_course a_firstImage a_secondImage a_imageKept a_bestDigs a_heard a_course_rows a_told_seam a_told_yellow a_told_white a_told_fades a_told_worth v_traced v_course_known v_course_rows v_told_seamTold v_told_boundTold v_told_lossTold v_told_bound v_told_loss v_told_things p0 h) (cwV 1 hts gX6_paintFor_X6_leastYellow rfl rfl rfl hdV_X6_leastYellow ⟨Nat.le_of_ble_eq_true rfl, Nat.le_of_ble_eq_true rfl⟩) hK hN hP hD hS hA [0, 1, 2, 3] (by decide) rfl (ci := 6) rfl rfl rfl hl.1 rfl (Nat.le_of_ble_eq_true rfl) dX6_paintFor_2 ⟨Nat.zero_le _, Nat.zero_le _⟩ (fun r_1 H locs h hP hS => ?_)
  refine lv_istore_n (lv' := [(3, .int r_1), (0, .ref a), (1, .int p0), (2, .int p1)]) hx hb dX6_paintFor_5 rfl hl (by decide) rfl (fun ls hl => ?_)
  refine lv_iload_n hx hb dX6_paintFor_6 rfl (lv_at hl 0 rfl) ?_
  refine lv_bipush (v := -9) hx hb dX6_paintFor_7 (by decide) ?_
  refine lv_icmp_ne (tgt := 15) hx hb dX6_paintFor_9 (by decide) (fun c_2 => ?_) (fun c_2 => ?_)
  · replace h := h.1 c_2
    refine lv_aload_n hx hb dX6_paintFor_15 rfl (lv_at hl 1 rfl) ?_
    refine va_get (D := (dC, dI)) (ci := 6) (v := .ref a_course) (C := RX6) (T := TX6) (N := 10) hx hb hts iwX6_paintFor_X6 hown hK hP 0 rfl rfl 3 (by decide) f29 (fun _ h9 => h9) rfl dX6_paintFor_16 ?_
    refine lv_iload_n hx hb dX6_paintFor_19 rfl (lv_at hl 2 rfl) ?_
    refine gV_i0 (As := [.int p0]) (rest := []) ⟨hx, hb, hml, hown, hts⟩ (c_X2_yellow l dC dI cyC cyI cyZ _ a_course a_course_rows v_course_known v_course_rows p0 h) (cwV 1 hts gX6_paintFor_X2_yellow rfl rfl rfl hdV_X2_yellow ⟨Nat.le_of_ble_eq_true rfl, Nat.le_of_ble_eq_true rfl⟩) hK hN hP hD hS hA [1, 2] (by decide) rfl (ci := 2) rfl rfl rfl hl.1 rfl (Nat.le_of_ble_eq_true rfl) dX6_paintFor_20 ⟨Nat.zero_le _, Nat.zero_le _⟩ (fun r_3 H locs h hP hS => ?_)
    refine lv_istore (lv' := [(4, .int r_3), (3, .int r_1), (0, .ref a), (1, .int p0), (2, .int p1)]) hx hb dX6_paintFor_23 hl (by decide) rfl (fun ls hl => ?_)
    refine lv_iconst (v := 0) hx hb dX6_paintFor_25 (by decide) ?_
    refine lv_iload_n hx hb dX6_paintFor_26 rfl (lv_at hl 1 rfl) ?_
    refine lv_iload_n hx hb dX6_paintFor_27 rfl (lv_at hl 4 rfl) ?_
    refine lv_aload_n hx hb dX6_paintFor_28 rfl (lv_at hl 2 rfl) ?_
    refine va_get (D := (dC, dI)) (ci := 6) (v := .ref a_told) (C := RX6) (T := TX6) (N := 10) hx hb hts iwX6_paintFor_X6 hown hK hP 0 rfl rfl 1 (by decide) f19 (fun _ h9 => h9) rfl dX6_paintFor_29 ?_
    refine va_getN (host := "LastOchre") (D := (dC, dI)) (ci := 5) (v := .ref a_told_fades) (C := RX5) (T := TX5) (N := 11) hx hb hts iwX6_paintFor_X5 hown hK hP 3 rfl rfl 9 (by decide) f123 (fun _ h9 => h9) rfl dX6_paintFor_32 ?_
    refine lv_iload_n hx hb dX6_paintFor_35 rfl (lv_at hl 3 rfl) ?_
    have g_4 := h.1
    replace h := h.2
    refine va_iald hx hb hK hP 4 0 rfl rfl g_4 dX6_paintFor_36 ?_
    refine lv_imul hx hb dX6_paintFor_37 ?_
    refine lv_iadd hx hb dX6_paintFor_38 ?_
    refine lv_iload hx hb dX6_paintFor_39 (lv_at hl 0 rfl) ?_
    refine lv_isub hx hb dX6_paintFor_41 ?_
    refine va_mmax hx hb (by rw [hml]; exact hl.1.symm) hown (hts (.methodLink RX6 293 Lib.Math.max.name) (by decide +kernel)) (hts (.static Lib.Math.max.name) (by decide +kernel)) (hts (.initialized "java/lang/Math") (by decide +kernel)) (hts (.code Lib.Math.max.name Lib.Math.max.code 2 (some .int)) (by decide +kernel)) (Nat.le_of_ble_eq_true rfl) (Nat.le_of_ble_eq_true rfl) (Nat.zero_le _) (Nat.zero_le _) dX6_paintFor_42 ?_
    refine lv_topi (fun x5_5 e_6 => ?_)
    replace h := h x5_5 e_6
    refine lv_istore (lv' := [(5, .int x5_5), (4, .int r_3), (3, .int r_1), (0, .ref a), (1, .int p0), (2, .int p1)]) hx hb dX6_paintFor_45 hl (by decide) rfl (fun ls hl => ?_)
    refine lv_iload hx hb dX6_paintFor_47 (lv_at hl 1 rfl) ?_
    refine lv_iload hx hb dX6_paintFor_49 (lv_at hl 0 rfl) ?_
    refine lv_iadd hx hb dX6_paintFor_51 ?_
    refine lv_sipush (v := 999) hx hb dX6_paintFor_52 (by decide) ?_
    refine lv_icmp_le (tgt := 63) hx hb dX6_paintFor_55 (by decide) (fun c_7 => ?_) (fun c_7 => ?_)
    · replace h := h.1 c_7
      refine lv_iload hx hb dX6_paintFor_63 (lv_at hl 0 rfl) ?_
      exact gri0 hx hb hr hlocks h hP hD hS dX6_paintFor_65
    · replace h := h.2 c_7
      refine lv_bipush (v := -9) hx hb dX6_paintFor_58 (by decide) ?_
      refine lv_goto (tgt := 65) hx hb dX6_paintFor_60 (by decide) ?_
      exact gri0 hx hb hr hlocks h hP hD hS dX6_paintFor_65
  · replace h := h.2 c_2
    refine lv_bipush (v := -9) hx hb dX6_paintFor_12 (by decide) ?_
    exact gri0 hx hb hr hlocks h hP hD hS dX6_paintFor_14

def F_X6_needs_e (v_told_bound : Int32) (v_told_things : Int32) (v_course_rows : Nat → Int32) (v_told_fades : Nat → Int32) (p0 : Int32) (p1 : Int32) (Q : Int32 → Prop)  : Prop :=
  q_X6_isThing v_told_things p0 (fun (r_1 : Int32) => (r_1 = 0 → (Q (-1 : Int32))) ∧ (¬ r_1 = 0 → (q_X6_within p1 (0 : Int32) (99 : Int32) (fun (r_3 : Int32) => (¬ r_3 = 0 → (q_X6_paintFor v_course_rows v_told_bound v_told_fades p0 p1 (fun (r_5 : Int32) => Q r_5))) ∧ (r_3 = 0 → (Q (-1 : Int32)))))))
def q_X6_needs (v_told_bound : Int32) (v_told_things : Int32) (v_course_rows : Nat → Int32) (v_told_fades : Nat → Int32) (p0 : Int32) (p1 : Int32) (Q : Int32 → Prop) : Prop := F_X6_needs_e v_told_bound v_told_things v_course_rows v_told_fades p0 p1 Q 
theorem hdV_X6_needs : yX6_needs.cls = RX6 ∧ yX6_needs.cls ≠ "java/lang/invoke/MethodHandle" ∧ yX6_needs.cls ≠ "java/lang/invoke/VarHandle" ∧ (parseMethodDescriptor yX6_needs.desc).map (fun d => d.parameters.length) = some 2 := by decide +kernel
set_option maxHeartbeats 4000000 in
set_option maxRecDepth 100000 in
theorem c_X6_needs (l : Launch) (dC : Nat → ClassId) (dI : Nat → Nat → Nat) (cyC cyI cyZ : ClassId) (sz : Nat) (a a_reader a_told a_draft a_course a_firstImage a_secondImage a_imageKept a_bestDigs a_heard a_told_seam a_told_yellow a_told_white a_told_fades a_told_worth a_course_rows : Nat) (v_traced : Int64) (v_told_seamTold : Int32) (v_told_boundTold : Int32) (v_told_lossTold : Int32) (v_told_bound : Int32) (v_told_loss : Int32) (v_told_things : Int32) (v_course_known : Int32) (v_course_rows : Nat → Int32) (v_told_fades : Nat → Int32) (p0 : Int32) (p1 : Int32) {Q : Int32 → Prop} (h : q_X6_needs v_told_bound v_told_things v_course_rows v_told_fades p0 p1 Q) : Met l yX6_needs wsX6_needs ({ frames := 3, cells := 0, slots := 0, locals := 79 }) (gPc [.ref a, .int p0, .int p1] (dC, dI) (gTy cyC cyI cyZ) sz [(a, .inr (6, [.ref a_reader, .ref a_told, .ref a_draft, .ref a_course, .ref a_firstImage, .ref a_secondImage, .ref a_imageKept, .ref a_bestDigs, .ref a_heard, .long v_traced])), (a_told, .inr (5, [.ref a_told_seam, .int v_told_seamTold, .int v_told_boundTold, .int v_told_lossTold, .int v_told_bound, .int v_told_loss, .int v_told_things, .ref a_told_yellow, .ref a_told_white, .ref a_told_fades, .ref a_told_worth])), (a_course, .inr (2, [.ref a_course_rows, .int v_course_known])), (a_course_rows, .inl (cyI, 165, .inl v_course_rows)), (a_told_fades, .inl (cyI, 6, .inl v_told_fades))]) (gQi0 Q (dC, dI) (va_A [(a, .inr (6, [.ref a_reader, .ref a_told, .ref a_draft, .ref a_course, .ref a_firstImage, .ref a_secondImage, .ref a_imageKept, .ref a_bestDigs, .ref a_heard, .long v_traced])), (a_told, .inr (5, [.ref a_told_seam, .int v_told_seamTold, .int v_told_boundTold, .int v_told_lossTold, .int v_told_bound, .int v_told_loss, .int v_told_things, .ref a_told_yellow, .ref a_told_white, .ref a_told_fades, .ref a_told_worth])), (a_course, .inr (2, [.ref a_course_rows, .int v_course_known])), (a_course_rows, .inl (cyI, 165, .inl v_course_rows)), (a_told_fades, .inl (cyI, 6, .inl v_told_fades))] sz) [(a, .inr (6, [.ref a_reader, .ref a_told, .ref a_draft, .ref a_course, .ref a_firstImage, .ref a_secondImage, .ref a_imageKept, .ref a_bestDigs, .ref a_heard, .long v_traced])), (a_told, .inr (5, [.ref a_told_seam, .int v_told_seamTold, .int v_told_boundTold, .int v_told_lossTold, .int v_told_bound, .int v_told_loss, .int v_told_things, .ref a_told_yellow, .ref a_told_white, .ref a_told_fades, .ref a_told_worth])), (a_course, .inr (2, [.ref a_course_rows, .int v_course_known])), (a_course_rows, .inl (cyI, 165, .inl v_course_rows)), (a_told_fades, .inl (cyI, 6, .inl v_told_fades))]) 0 0 (va_A [(a, .inr (6, [.ref a_reader, .ref a_told, .ref a_draft, .ref a_course, .ref a_firstImage, .ref a_secondImage, .ref a_imageKept, .ref a_bestDigs, .ref a_heard, .long v_traced])), (a_told, .inr (5, [.ref a_told_seam, .int v_told_seamTold, .int v_told_boundTold, .int v_told_lossTold, .int v_told_bound, .int v_told_loss, .int v_told_things, .ref a_told_yellow, .ref a_told_white, .ref a_told_fades, .ref a_told_worth])), (a_course, .inr (2, [.ref a_course_rows, .int v_course_known])), (a_course_rows, .inl (cyI, 165, .inl v_course_rows)), (a_told_fades, .inl (cyI, 6, .inl v_told_fades))] sz) := by
  refine gMet (cc := cX6_needs) (maxL := 3) (ret := (some .int)) (own := RX6) (fun A => gQi0 Q (dC, dI) A [(a, .inr (6, [.ref a_reader, .ref a_told, .ref a_draft, .ref a_course, .ref a_firstImage, .ref a_secondImage, .ref a_imageKept, .ref a_bestDigs, .ref a_heard, .long v_traced])), (a_told, .inr (5, [.ref a_told_seam, .int v_told_seamTold, .int v_told_boundTold, .int v_told_lossTold, .int v_told_bound, .int v_told_loss, .int v_told_things, .ref a_told_yellow, .ref a_told_white, .ref a_told_fades, .ref a_told_worth])), (a_course, .inr (2, [.ref a_course_rows, .int v_course_known])), (a_course_rows, .inl (cyI, 165, .inl v_course_rows)), (a_told_fades, .inl (cyI, 6, .inl v_told_fades))]) (by decide) rfl rfl (Nat.le_of_ble_eq_true rfl) ?_
  intro p e s m below meth c A ls C0 _ hK hN hP hD hA hl
  obtain ⟨hx, hb, hr, hml, hown, hts, hlocks⟩ := id C0
  have hS : va_S A s.heap s.heap [] := va_S.rf
  replace hl : lv_has ls 3 [(0, .ref a), (1, .int p0), (2, .int p1)] := hl
  unfold q_X6_needs at h
  unfold F_X6_needs_e at h
  refine lv_aload_n hx hb dX6_needs_0 rfl (lv_at hl 0 rfl) ?_
  refine lv_iload_n hx hb dX6_needs_1 rfl (lv_at hl 1 rfl) ?_
  refine gV_i0 (As := [.int p0]) (rest := []) ⟨hx, hb, hml, hown, hts⟩ (c_X6_isThing l dC dI cyC cyI cyZ _ a a_reader a_told a_draft a_course a_firstImage a_secondImage a_imageKept a_bestDigs a_heard a_told_seam a_told_yellow a_told_white a_told_fades a_told_worth v_traced v_told_seamTold v_told_boundTold v_told_lossTold v_told_bound v_told_loss v_told_things p0 h) (cwV 1 hts gX6_needs_X6_isThing rfl rfl rfl hdV_X6_isThing ⟨Nat.le_of_ble_eq_true rfl, Nat.le_of_ble_eq_true rfl⟩) hK hN hP hD hS hA [0, 1] (by decide) rfl (ci := 6) rfl rfl rfl hl.1 rfl (Nat.le_of_ble_eq_true rfl) dX6_needs_2 ⟨Nat.zero_le _, Nat.zero_le _⟩ (fun r_1 H locs h hP hS => ?_)
  refine lv_if_eq (tgt := 18) hx hb dX6_needs_5 (by decide) (fun c_2 => ?_) (fun c_2 => ?_)
  · replace h := h.1 c_2
    refine lv_iconst (v := -1) hx hb dX6_needs_18 (by decide) ?_
    exact gri0 hx hb hr hlocks h hP hD hS dX6_needs_19
  · replace h := h.2 c_2
    refine lv_iload_n hx hb dX6_needs_8 rfl (lv_at hl 2 rfl) ?_
    refine lv_iconst (v := 0) hx hb dX6_needs_9 (by decide) ?_
    refine lv_bipush (v := 99) hx hb dX6_needs_10 (by decide) ?_
    refine gS_i0 (As := [.int p1, .int (0 : Int32), .int (99 : Int32)]) (rest := []) ⟨hx, hb, hml, hown, hts⟩ (c_X6_within l dC dI cyC cyI cyZ _ p1 (0 : Int32) (99 : Int32) h) (va_cwS 3 hts gX6_needs_X6_within rfl rfl rfl hdS_X6_within ⟨Nat.le_of_ble_eq_true rfl, Nat.le_of_ble_eq_true rfl⟩) hK hN hP hD hS hA [] (by decide) rfl rfl hl.1 rfl (Nat.le_of_ble_eq_true rfl) dX6_needs_12 ⟨Nat.zero_le _, Nat.zero_le _⟩ (fun r_3 H locs h hP hS => ?_)
    refine lv_if_ne (tgt := 20) hx hb dX6_needs_15 (by decide) (fun c_4 => ?_) (fun c_4 => ?_)
    · replace h := h.1 c_4
      refine lv_aload_n hx hb dX6_needs_20 rfl (lv_at hl 0 rfl) ?_
      refine lv_iload_n hx hb dX6_needs_21 rfl (lv_at hl 1 rfl) ?_
      refine lv_iload_n hx hb dX6_needs_22 rfl (lv_at hl 2 rfl) ?_
      refine gV_i0 (As := [.int p0, .int p1]) (rest := []) ⟨hx, hb, hml, hown, hts⟩ (c_X6_paintFor l dC dI cyC cyI cyZ _ a a_reader a_told a_draft a_course a_firstImage a_secondImage a_imageKept a_bestDigs a_heard a_course_rows a_told_seam a_told_yellow a_told_white a_told_fades a_told_worth v_traced v_course_known v_course_rows v_told_seamTold v_told_boundTold v_told_lossTold v_told_bound v_told_loss v_told_things v_told_fades p0 p1 h) (cwV 2 hts gX6_needs_X6_paintFor rfl rfl rfl hdV_X6_paintFor ⟨Nat.le_of_ble_eq_true rfl, Nat.le_of_ble_eq_true rfl⟩) hK hN hP hD hS hA [0, 2, 3, 1, 4] (by decide) rfl (ci := 6) rfl rfl rfl hl.1 rfl (Nat.le_of_ble_eq_true rfl) dX6_needs_23 ⟨Nat.zero_le _, Nat.zero_le _⟩ (fun r_5 H locs h hP hS => ?_)
      exact gri0 hx hb hr hlocks h hP hD hS dX6_needs_26
    · replace h := h.2 c_4
      refine lv_iconst (v := -1) hx hb dX6_needs_18 (by decide) ?_
      exact gri0 hx hb hr hlocks h hP hD hS dX6_needs_19

def F_X6_leftOver_e (v_course_rows : Nat → Int32) (v_told_bound : Int32) (v_told_loss : Int32) (v_told_things : Int32) (v_told_fades : Nat → Int32) (p0 : Int32) (p1 : Int32) (Q : Int32 → Prop) (rec : Nat → Int32 → Int32 → Prop)  : Prop :=
  q_X2_store v_course_rows (fun (r_1 : Int32) => rec 11 r_1 (0 : Int32))
def F_X6_leftOver_11 (v_course_rows : Nat → Int32) (v_told_bound : Int32) (v_told_loss : Int32) (v_told_things : Int32) (v_told_fades : Nat → Int32) (p0 : Int32) (p1 : Int32) (Q : Int32 → Prop) (rec : Nat → Int32 → Int32 → Prop) (x3 : Int32) (x4 : Int32) : Prop :=
  (v_told_things ≤ x4 → (Q x3)) ∧ (¬ v_told_things ≤ x4 → ((¬ ((p0 >>> (x4 &&& 31)) &&& (1 : Int32)) = 0 → (q_X6_paintFor v_course_rows v_told_bound v_told_fades x4 p1 (fun (r_4 : Int32) => ∀ x3_5 : Int32, x3_5 = (x3 - r_4) → (∀ x4_7 : Int32, x4_7 = (x4 + (1 : Int32)) → (rec 11 x3_5 x4_7))))) ∧ (((p0 >>> (x4 &&& 31)) &&& (1 : Int32)) = 0 → (q_X6_scrapedFrom v_course_rows v_told_loss x4 (fun (r_9 : Int32) => ∀ x3_10 : Int32, x3_10 = (x3 + r_9) → (∀ x4_12 : Int32, x4_12 = (x4 + (1 : Int32)) → (rec 11 x3_10 x4_12)))))))
def wp_X6_leftOver (v_course_rows : Nat → Int32) (v_told_bound : Int32) (v_told_loss : Int32) (v_told_things : Int32) (v_told_fades : Nat → Int32) (p0 : Int32) (p1 : Int32) (Q : Int32 → Prop) : Nat → Nat → Int32 → Int32 → Prop
  | 0 => fun _ _ _ => False
  | n + 1 => fun t x3 x4 => if t = 11 then F_X6_leftOver_11 v_course_rows v_told_bound v_told_loss v_told_things v_told_fades p0 p1 Q (wp_X6_leftOver v_course_rows v_told_bound v_told_loss v_told_things v_told_fades p0 p1 Q n) x3 x4 else False
def q_X6_leftOver (v_course_rows : Nat → Int32) (v_told_bound : Int32) (v_told_loss : Int32) (v_told_things : Int32) (v_told_fades : Nat → Int32) (p0 : Int32) (p1 : Int32) (Q : Int32 → Prop) : Prop := ∃ n, F_X6_leftOver_e v_course_rows v_told_bound v_told_loss v_told_things v_told_fades p0 p1 Q (wp_X6_leftOver v_course_rows v_told_bound v_told_loss v_told_things v_told_fades p0 p1 Q n) 
theorem iwX6_leftOver_X5 : ∀ w ∈ wsX50, w ∈ wsX6_leftOver := by decide +kernel
theorem iwX6_leftOver_X6 : ∀ w ∈ wsX60, w ∈ wsX6_leftOver := by decide +kernel
theorem hdV_X6_leftOver : yX6_leftOver.cls = RX6 ∧ yX6_leftOver.cls ≠ "java/lang/invoke/MethodHandle" ∧ yX6_leftOver.cls ≠ "java/lang/invoke/VarHandle" ∧ (parseMethodDescriptor yX6_leftOver.desc).map (fun d => d.parameters.length) = some 2 := by decide +kernel
set_option maxHeartbeats 4000000 in
set_option maxRecDepth 100000 in
theorem w_X6_leftOver {p : Program} {l : Launch} {e : Env} {s : State} {m : MethodId} {args : Array Value} {below : List Frame} {meth : Method} {c : Code} {A : Nat → Prop} (dC : Nat → ClassId) (dI : Nat → Nat → Nat) (cyC cyI cyZ : ClassId) (a a_reader a_told a_draft a_course a_firstImage a_secondImage a_imageKept a_bestDigs a_heard a_course_rows a_told_seam a_told_yellow a_told_white a_told_fades a_told_worth : Nat) (v_traced : Int64) (v_course_known : Int32) (v_course_rows : Nat → Int32) (v_told_seamTold : Int32) (v_told_boundTold : Int32) (v_told_lossTold : Int32) (v_told_bound : Int32) (v_told_loss : Int32) (v_told_things : Int32) (v_told_fades : Nat → Int32) (p0 : Int32) (p1 : Int32) (Q : Int32 → Prop) (C0 : gAt cX6_leftOver (some .int) 5 RX6 wsX6_leftOver p s m meth c args) (hK : va_K (dC, dI) vwCl (gTy cyC cyI cyZ) s) (hN : nU s) (hA : ∀ q, s.heap.size ≤ q → A q) : ∀ n : Nat, (∀ (x3 : Int32) (x4 : Int32) (H : Heap) (locs : List Loc) (ls : Array Slot), wp_X6_leftOver v_course_rows v_told_bound v_told_loss v_told_things v_told_fades p0 p1 Q n 11 x3 x4 → va_P (dC, dI) vwCl [(a, .inr (6, [.ref a_reader, .ref a_told, .ref a_draft, .ref a_course, .ref a_firstImage, .ref a_secondImage, .ref a_imageKept, .ref a_bestDigs, .ref a_heard, .long v_traced])), (a_course, .inr (2, [.ref a_course_rows, .int v_course_known])), (a_course_rows, .inl (cyI, 165, .inl v_course_rows)), (a_told, .inr (5, [.ref a_told_seam, .int v_told_seamTold, .int v_told_boundTold, .int v_told_lossTold, .int v_told_bound, .int v_told_loss, .int v_told_things, .ref a_told_yellow, .ref a_told_white, .ref a_told_fades, .ref a_told_worth])), (a_told_fades, .inl (cyI, 6, .inl v_told_fades))] H → va_D A [(a, .inr (6, [.ref a_reader, .ref a_told, .ref a_draft, .ref a_course, .ref a_firstImage, .ref a_secondImage, .ref a_imageKept, .ref a_bestDigs, .ref a_heard, .long v_traced])), (a_course, .inr (2, [.ref a_course_rows, .int v_course_known])), (a_course_rows, .inl (cyI, 165, .inl v_course_rows)), (a_told, .inr (5, [.ref a_told_seam, .int v_told_seamTold, .int v_told_boundTold, .int v_told_lossTold, .int v_told_bound, .int v_told_loss, .int v_told_things, .ref a_told_yellow, .ref a_told_white, .ref a_told_fades, .ref a_told_worth])), (a_told_fades, .inl (cyI, 6, .inl v_told_fades))] → va_S A s.heap H locs → lv_has ls 5 [(0, .ref a), (1, .int p0), (2, .int p1), (3, .int x3), (4, .int x4)] → W p l e { frames := 3, cells := 0, slots := 0, locals := 79 } s m args below meth c H locs 0 0 (MQ below (gQi0 Q (dC, dI) A [(a, .inr (6, [.ref a_reader, .ref a_told, .ref a_draft, .ref a_course, .ref a_firstImage, .ref a_secondImage, .ref a_imageKept, .ref a_bestDigs, .ref a_heard, .long v_traced])), (a_course, .inr (2, [.ref a_course_rows, .int v_course_known])), (a_course_rows, .inl (cyI, 165, .inl v_course_rows)), (a_told, .inr (5, [.ref a_told_seam, .int v_told_seamTold, .int v_told_boundTold, .int v_told_lossTold, .int v_told_bound, .int v_told_loss, .int v_told_things, .ref a_told_yellow, .ref a_told_white, .ref a_told_fades, .ref a_told_worth])), (a_told_fades, .inl (cyI, 6, .inl v_told_fades))]) args s 0 0 A) (F0 m 11 ls [])) := by
  obtain ⟨hx, hb, hr, hml, hown, hts, hlocks⟩ := id C0
  have f159 := hN.link (args := (args)) (w := .fieldLinkNest RX6 159 "LastOchre$Told" "things" "I" "LastOchre") 19 rfl
  have f19 := hts (.fieldLink RX6 19 "LastOchre" "told" "LLastOchre$Told;") (by decide +kernel)
  have f29 := hts (.fieldLink RX6 29 "LastOchre" "course" "LLastOchre$Course;") (by decide +kernel)
  intro n
  induction n with
  | zero => exact fun _ _ _ _ _ h => absurd h id
  | succ n ih =>
    have ih11 := ih
    · intro x3 x4 H locs ls h hP hD hS hl
      replace h : F_X6_leftOver_11 v_course_rows v_told_bound v_told_loss v_told_things v_told_fades p0 p1 Q (wp_X6_leftOver v_course_rows v_told_bound v_told_loss v_told_things v_told_fades p0 p1 Q n) x3 x4 := h
      unfold F_X6_leftOver_11 at h
      refine lv_iload hx hb dX6_leftOver_11 (lv_at hl 4 rfl) ?_
      refine lv_aload_n hx hb dX6_leftOver_13 rfl (lv_at hl 0 rfl) ?_
      refine va_get (D := (dC, dI)) (ci := 6) (v := .ref a_told) (C := RX6) (T := TX6) (N := 10) hx hb hts iwX6_leftOver_X6 hown hK hP 0 rfl rfl 1 (by decide) f19 (fun _ h9 => h9) rfl dX6_leftOver_14 ?_
      refine va_getN (host := "LastOchre") (D := (dC, dI)) (ci := 5) (v := .int v_told_things) (C := RX5) (T := TX5) (N := 11) hx hb hts iwX6_leftOver_X5 hown hK hP 3 rfl rfl 6 (by decide) f159 (fun _ h9 => h9) rfl dX6_leftOver_17 ?_
      refine lv_icmp_ge (tgt := 60) hx hb dX6_leftOver_20 (by decide) (fun c_2 => ?_) (fun c_2 => ?_)
      · replace h := h.1 c_2
        refine lv_iload_n hx hb dX6_leftOver_60 rfl (lv_at hl 3 rfl) ?_
        exact gri0 hx hb hr hlocks h hP hD hS dX6_leftOver_61
      · replace h := h.2 c_2
        refine lv_iload_n hx hb dX6_leftOver_23 rfl (lv_at hl 1 rfl) ?_
        refine lv_iload hx hb dX6_leftOver_24 (lv_at hl 4 rfl) ?_
        refine lv_ishr hx hb dX6_leftOver_26 ?_
        refine lv_iconst (v := 1) hx hb dX6_leftOver_27 (by decide) ?_
        refine lv_iand hx hb dX6_leftOver_28 ?_
        refine lv_if_ne (tgt := 44) hx hb dX6_leftOver_29 (by decide) (fun c_3 => ?_) (fun c_3 => ?_)
        · replace h := h.1 c_3
          refine lv_iload_n hx hb dX6_leftOver_44 rfl (lv_at hl 3 rfl) ?_
          refine lv_aload_n hx hb dX6_leftOver_45 rfl (lv_at hl 0 rfl) ?_
          refine lv_iload hx hb dX6_leftOver_46 (lv_at hl 4 rfl) ?_
          refine lv_iload_n hx hb dX6_leftOver_48 rfl (lv_at hl 2 rfl) ?_
          refine gV_i0 (As := [.int x4, .int p1]) (rest := [.int x3]) ⟨hx, hb, hml, hown, hts⟩ (c_X6_paintFor l dC dI cyC cyI cyZ _ a a_reader a_told a_draft a_course a_firstImage a_secondImage a_imageKept a_bestDigs a_heard a_course_rows a_told_seam a_told_yellow a_told_white a_told_fades a_told_worth v_traced v_course_known v_course_rows v_told_seamTold v_told_boundTold v_told_lossTold v_told_bound v_told_loss v_told_things v_told_fades x4 p1 h) (cwV 2 hts gX6_leftOver_X6_paintFor rfl rfl rfl hdV_X6_paintFor ⟨Nat.le_of_ble_eq_true rfl, Nat.le_of_ble_eq_true rfl⟩) hK hN hP hD hS hA [0, 1, 2, 3, 4] (by decide) rfl (ci := 6) rfl rfl rfl hl.1 rfl (Nat.le_of_ble_eq_true rfl) dX6_leftOver_49 ⟨Nat.zero_le _, Nat.zero_le _⟩ (fun r_4 H locs h hP hS => ?_)
          refine lv_isub hx hb dX6_leftOver_52 ?_
          refine lv_topi (fun x3_5 e_6 => ?_)
          replace h := h x3_5 e_6
          refine lv_istore_n (lv' := [(3, .int x3_5), (0, .ref a), (1, .int p0), (2, .int p1), (4, .int x4)]) hx hb dX6_leftOver_53 rfl hl (by decide) rfl (fun ls hl => ?_)
          obtain ⟨x4_7, e_8⟩ : ∃ y : Int32, y = (x4 + (1 : Int32)) := ⟨_, rfl⟩
          replace h := h x4_7 e_8
          refine lv_iinc (v := x4_7) (lv' := [(4, .int x4_7), (3, .int x3_5), (0, .ref a), (1, .int p0), (2, .int p1)]) hx hb dX6_leftOver_54 hl (k := 4) rfl (by rw [e_8]; rfl) (by decide) rfl (fun ls hl => ?_)
          refine lv_goto (tgt := 11) hx hb dX6_leftOver_57 (by decide) ?_
          exact ih11 x3_5 x4_7 _ _ _ h hP hD hS (lv_sub hl [2, 3, 4, 1, 0] rfl)
        · replace h := h.2 c_3
          refine lv_iload_n hx hb dX6_leftOver_32 rfl (lv_at hl 3 rfl) ?_
          refine lv_aload_n hx hb dX6_leftOver_33 rfl (lv_at hl 0 rfl) ?_
          refine lv_iload hx hb dX6_leftOver_34 (lv_at hl 4 rfl) ?_
          refine gV_i0 (As := [.int x4]) (rest := [.int x3]) ⟨hx, hb, hml, hown, hts⟩ (c_X6_scrapedFrom l dC dI cyC cyI cyZ _ a a_reader a_told a_draft a_course a_firstImage a_secondImage a_imageKept a_bestDigs a_heard a_course_rows a_told_seam a_told_yellow a_told_white a_told_fades a_told_worth v_traced v_course_known v_course_rows v_told_seamTold v_told_boundTold v_told_lossTold v_told_bound v_told_loss v_told_things x4 h) (cwV 1 hts gX6_leftOver_X6_scrapedFrom rfl rfl rfl hdV_X6_scrapedFrom ⟨Nat.le_of_ble_eq_true rfl, Nat.le_of_ble_eq_true rfl⟩) hK hN hP hD hS hA [0, 1, 2, 3] (by decide) rfl (ci := 6) rfl rfl rfl hl.1 rfl (Nat.le_of_ble_eq_true rfl) dX6_leftOver_36 ⟨Nat.zero_le _, Nat.zero_le _⟩ (fun r_9 H locs h hP hS => ?_)
          refine lv_iadd hx hb dX6_leftOver_39 ?_
          refine lv_topi (fun x3_10 e_11 => ?_)
          replace h := h x3_10 e_11
          refine lv_istore_n (lv' := [(3, .int x3_10), (0, .ref a), (1, .int p0), (2, .int p1), (4, .int x4)]) hx hb dX6_leftOver_40 rfl hl (by decide) rfl (fun ls hl => ?_)
          refine lv_goto (tgt := 54) hx hb dX6_leftOver_41 (by decide) ?_
          obtain ⟨x4_12, e_13⟩ : ∃ y : Int32, y = (x4 + (1 : Int32)) := ⟨_, rfl⟩
          replace h := h x4_12 e_13
          refine lv_iinc (v := x4_12) (lv' := [(4, .int x4_12), (3, .int x3_10), (0, .ref a), (1, .int p0), (2, .int p1)]) hx hb dX6_leftOver_54 hl (k := 4) rfl (by rw [e_13]; rfl) (by decide) rfl (fun ls hl => ?_)
          refine lv_goto (tgt := 11) hx hb dX6_leftOver_57 (by decide) ?_
          exact ih11 x3_10 x4_12 _ _ _ h hP hD hS (lv_sub hl [2, 3, 4, 1, 0] rfl)
set_option maxHeartbeats 4000000 in
set_option maxRecDepth 100000 in
theorem c_X6_leftOver (l : Launch) (dC : Nat → ClassId) (dI : Nat → Nat → Nat) (cyC cyI cyZ : ClassId) (sz : Nat) (a a_reader a_told a_draft a_course a_firstImage a_secondImage a_imageKept a_bestDigs a_heard a_course_rows a_told_seam a_told_yellow a_told_white a_told_fades a_told_worth : Nat) (v_traced : Int64) (v_course_known : Int32) (v_course_rows : Nat → Int32) (v_told_seamTold : Int32) (v_told_boundTold : Int32) (v_told_lossTold : Int32) (v_told_bound : Int32) (v_told_loss : Int32) (v_told_things : Int32) (v_told_fades : Nat → Int32) (p0 : Int32) (p1 : Int32) {Q : Int32 → Prop} (h : q_X6_leftOver v_course_rows v_told_bound v_told_loss v_told_things v_told_fades p0 p1 Q) : Met l yX6_leftOver wsX6_leftOver ({ frames := 3, cells := 0, slots := 0, locals := 79 }) (gPc [.ref a, .int p0, .int p1] (dC, dI) (gTy cyC cyI cyZ) sz [(a, .inr (6, [.ref a_reader, .ref a_told, .ref a_draft, .ref a_course, .ref a_firstImage, .ref a_secondImage, .ref a_imageKept, .ref a_bestDigs, .ref a_heard, .long v_traced])), (a_course, .inr (2, [.ref a_course_rows, .int v_course_known])), (a_course_rows, .inl (cyI, 165, .inl v_course_rows)), (a_told, .inr (5, [.ref a_told_seam, .int v_told_seamTold, .int v_told_boundTold, .int v_told_lossTold, .int v_told_bound, .int v_told_loss, .int v_told_things, .ref a_told_yellow, .ref a_told_white, .ref a_told_fades, .ref a_told_worth])), (a_told_fades, .inl (cyI, 6, .inl v_told_fades))]) (gQi0 Q (dC, dI) (va_A [(a, .inr (6, [.ref a_reader, .ref a_told, .ref a_draft, .ref a_course, .ref a_firstImage, .ref a_secondImage, .ref a_imageKept, .ref a_bestDigs, .ref a_heard, .long v_traced])), (a_course, .inr (2, [.ref a_course_rows, .int v_course_known])), (a_course_rows, .inl (cyI, 165, .inl v_course_rows)), (a_told, .inr (5, [.ref a_told_seam, .int v_told_seamTold, .int v_told_boundTold, .int v_told_lossTold, .int v_told_bound, .int v_told_loss, .int v_told_things, .ref a_told_yellow, .ref a_told_white, .ref a_told_fades, .ref a_told_worth])), (a_told_fades, .inl (cyI, 6, .inl v_told_fades))] sz) [(a, .inr (6, [.ref a_reader, .ref a_told, .ref a_draft, .ref a_course, .ref a_firstImage, .ref a_secondImage, .ref a_imageKept, .ref a_bestDigs, .ref a_heard, .long v_traced])), (a_course, .inr (2, [.ref a_course_rows, .int v_course_known])), (a_course_rows, .inl (cyI, 165, .inl v_course_rows)), (a_told, .inr (5, [.ref a_told_seam, .int v_told_seamTold, .int v_told_boundTold, .int v_told_lossTold, .int v_told_bound, .int v_told_loss, .int v_told_things, .ref a_told_yellow, .ref a_told_white, .ref a_told_fades, .ref a_told_worth])), (a_told_fades, .inl (cyI, 6, .inl v_told_fades))]) 0 0 (va_A [(a, .inr (6, [.ref a_reader, .ref a_told, .ref a_draft, .ref a_course, .ref a_firstImage, .ref a_secondImage, .ref a_imageKept, .ref a_bestDigs, .ref a_heard, .long v_traced])), (a_course, .inr (2, [.ref a_course_rows, .int v_course_known])), (a_course_rows, .inl (cyI, 165, .inl v_course_rows)), (a_told, .inr (5, [.ref a_told_seam, .int v_told_seamTold, .int v_told_boundTold, .int v_told_lossTold, .int v_told_bound, .int v_told_loss, .int v_told_things, .ref a_told_yellow, .ref a_told_white, .ref a_told_fades, .ref a_told_worth])), (a_told_fades, .inl (cyI, 6, .inl v_told_fades))] sz) := by
  refine gMet (cc := cX6_leftOver) (maxL := 5) (ret := (some .int)) (own := RX6) (fun A => gQi0 Q (dC, dI) A [(a, .inr (6, [.ref a_reader, .ref a_told, .ref a_draft, .ref a_course, .ref a_firstImage, .ref a_secondImage, .ref a_imageKept, .ref a_bestDigs, .ref a_heard, .long v_traced])), (a_course, .inr (2, [.ref a_course_rows, .int v_course_known])), (a_course_rows, .inl (cyI, 165, .inl v_course_rows)), (a_told, .inr (5, [.ref a_told_seam, .int v_told_seamTold, .int v_told_boundTold, .int v_told_lossTold, .int v_told_bound, .int v_told_loss, .int v_told_things, .ref a_told_yellow, .ref a_told_white, .ref a_told_fades, .ref a_told_worth])), (a_told_fades, .inl (cyI, 6, .inl v_told_fades))]) (by decide) rfl rfl (Nat.le_of_ble_eq_true rfl) ?_
  intro p e s m below meth c A ls C0 _ hK hN hP hD hA hl
  obtain ⟨hx, hb, hr, hml, hown, hts, hlocks⟩ := id C0
  have f159 := hN.link (args := ([.ref a, .int p0, .int p1].toArray)) (w := .fieldLinkNest RX6 159 "LastOchre$Told" "things" "I" "LastOchre") 19 rfl
  have f19 := hts (.fieldLink RX6 19 "LastOchre" "told" "LLastOchre$Told;") (by decide +kernel)
  have f29 := hts (.fieldLink RX6 29 "LastOchre" "course" "LLastOchre$Course;") (by decide +kernel)
  have hS : va_S A s.heap s.heap [] := va_S.rf
  replace hl : lv_has ls 5 [(0, .ref a), (1, .int p0), (2, .int p1)] := hl
  unfold q_X6_leftOver at h
  obtain ⟨n, h⟩ := h
  have ih11 := w_X6_leftOver (l := l) (e := e) (below := below) dC dI cyC cyI cyZ a a_reader a_told a_draft a_course a_firstImage a_secondImage a_imageKept a_bestDigs a_heard a_course_rows a_told_seam a_told_yellow a_told_white a_told_fades a_told_worth v_traced v_course_known v_course_rows v_told_seamTold v_told_boundTold v_told_lossTold v_told_bound v_told_loss v_told_things v_told_fades p0 p1 Q C0 hK hN hA n
  unfold F_X6_leftOver_e at h
  refine lv_aload_n hx hb dX6_leftOver_0 rfl (lv_at hl 0 rfl) ?_
  refine va_get (D := (dC, dI)) (ci := 6) (v := .ref a_course) (C := RX6) (T := TX6) (N := 10) hx hb hts iwX6_leftOver_X6 hown hK hP 0 rfl rfl 3 (by decide) f29 (fun _ h9 => h9) rfl dX6_leftOver_1 ?_
  refine gV_i0 (As := []) (rest := []) ⟨hx, hb, hml, hown, hts⟩ (c_X2_store l dC dI cyC cyI cyZ _ a_course a_course_rows v_course_known v_course_rows h) (cwV 0 hts gX6_leftOver_X2_store rfl rfl rfl hdV_X2_store ⟨Nat.le_of_ble_eq_true rfl, Nat.le_of_ble_eq_true rfl⟩) hK hN hP hD hS hA [1, 2] (by decide) rfl (ci := 2) rfl rfl rfl hl.1 rfl (Nat.le_of_ble_eq_true rfl) dX6_leftOver_4 ⟨Nat.zero_le _, Nat.zero_le _⟩ (fun r_1 H locs h hP hS => ?_)
  refine lv_istore_n (lv' := [(3, .int r_1), (0, .ref a), (1, .int p0), (2, .int p1)]) hx hb dX6_leftOver_7 rfl hl (by decide) rfl (fun ls hl => ?_)
  refine lv_iconst (v := 0) hx hb dX6_leftOver_8 (by decide) ?_
  refine lv_istore (lv' := [(4, .int (0 : Int32)), (3, .int r_1), (0, .ref a), (1, .int p0), (2, .int p1)]) hx hb dX6_leftOver_9 hl (by decide) rfl (fun ls hl => ?_)
  exact ih11 r_1 (0 : Int32) _ _ _ h hP hD hS (lv_sub hl [2, 3, 4, 1, 0] rfl)

def F_X6_canBeKept_e (v_told_bound : Int32) (v_told_loss : Int32) (v_told_things : Int32) (v_course_rows : Nat → Int32) (v_told_fades : Nat → Int32) (p0 : Int32) (p1 : Int32) (Q : Int32 → Prop) (rec : Nat → Int32 → Prop)  : Prop :=
  rec 2 (0 : Int32)
def F_X6_canBeKept_2 (v_told_bound : Int32) (v_told_loss : Int32) (v_told_things : Int32) (v_course_rows : Nat → Int32) (v_told_fades : Nat → Int32) (p0 : Int32) (p1 : Int32) (Q : Int32 → Prop) (rec : Nat → Int32 → Prop) (x3 : Int32) : Prop :=
  (v_told_things ≤ x3 → (q_X6_leftOver v_course_rows v_told_bound v_told_loss v_told_things v_told_fades p0 p1 (fun (r_2 : Int32) => (r_2 < 0 → (Q (0 : Int32))) ∧ (¬ r_2 < 0 → (Q (1 : Int32)))))) ∧ (¬ v_told_things ≤ x3 → ((((p0 >>> (x3 &&& 31)) &&& (1 : Int32)) = 0 → (∀ x3_5 : Int32, x3_5 = (x3 + (1 : Int32)) → (rec 2 x3_5))) ∧ (¬ ((p0 >>> (x3 &&& 31)) &&& (1 : Int32)) = 0 → (q_X6_paintFor v_course_rows v_told_bound v_told_fades x3 p1 (fun (r_7 : Int32) => (¬ r_7 = (-9 : Int32) → (∀ x3_9 : Int32, x3_9 = (x3 + (1 : Int32)) → (rec 2 x3_9))) ∧ (r_7 = (-9 : Int32) → (Q (0 : Int32))))))))
def wp_X6_canBeKept (v_told_bound : Int32) (v_told_loss : Int32) (v_told_things : Int32) (v_course_rows : Nat → Int32) (v_told_fades : Nat → Int32) (p0 : Int32) (p1 : Int32) (Q : Int32 → Prop) : Nat → Nat → Int32 → Prop
  | 0 => fun _ _ => False
  | n + 1 => fun t x3 => if t = 2 then F_X6_canBeKept_2 v_told_bound v_told_loss v_told_things v_course_rows v_told_fades p0 p1 Q (wp_X6_canBeKept v_told_bound v_told_loss v_told_things v_course_rows v_told_fades p0 p1 Q n) x3 else False
def q_X6_canBeKept (v_told_bound : Int32) (v_told_loss : Int32) (v_told_things : Int32) (v_course_rows : Nat → Int32) (v_told_fades : Nat → Int32) (p0 : Int32) (p1 : Int32) (Q : Int32 → Prop) : Prop := ∃ n, F_X6_canBeKept_e v_told_bound v_told_loss v_told_things v_course_rows v_told_fades p0 p1 Q (wp_X6_canBeKept v_told_bound v_told_loss v_told_things v_course_rows v_told_fades p0 p1 Q n) 
theorem iwX6_canBeKept_X5 : ∀ w ∈ wsX50, w ∈ wsX6_canBeKept := by decide +kernel
theorem iwX6_canBeKept_X6 : ∀ w ∈ wsX60, w ∈ wsX6_canBeKept := by decide +kernel
theorem hdV_X6_canBeKept : yX6_canBeKept.cls = RX6 ∧ yX6_canBeKept.cls ≠ "java/lang/invoke/MethodHandle" ∧ yX6_canBeKept.cls ≠ "java/lang/invoke/VarHandle" ∧ (parseMethodDescriptor yX6_canBeKept.desc).map (fun d => d.parameters.length) = some 2 := by decide +kernel
set_option maxHeartbeats 4000000 in
set_option maxRecDepth 100000 in
theorem w_X6_canBeKept {p : Program} {l : Launch} {e : Env} {s : State} {m : MethodId} {args : Array Value} {below : List Frame} {meth : Method} {c : Code} {A : Nat → Prop} (dC : Nat → ClassId) (dI : Nat → Nat → Nat) (cyC cyI cyZ : ClassId) (a a_reader a_told a_draft a_course a_firstImage a_secondImage a_imageKept a_bestDigs a_heard a_told_seam a_told_yellow a_told_white a_told_fades a_told_worth a_course_rows : Nat) (v_traced : Int64) (v_told_seamTold : Int32) (v_told_boundTold : Int32) (v_told_lossTold : Int32) (v_told_bound : Int32) (v_told_loss : Int32) (v_told_things : Int32) (v_course_known : Int32) (v_course_rows : Nat → Int32) (v_told_fades : Nat → Int32) (p0 : Int32) (p1 : Int32) (Q : Int32 → Prop) (C0 : gAt cX6_canBeKept (some .boolean) 4 RX6 wsX6_canBeKept p s m meth c args) (hK : va_K (dC, dI) vwCl (gTy cyC cyI cyZ) s) (hN : nU s) (hA : ∀ q, s.heap.size ≤ q → A q) : ∀ n : Nat, (∀ (x3 : Int32) (H : Heap) (locs : List Loc) (ls : Array Slot), wp_X6_canBeKept v_told_bound v_told_loss v_told_things v_course_rows v_told_fades p0 p1 Q n 2 x3 → va_P (dC, dI) vwCl [(a, .inr (6, [.ref a_reader, .ref a_told, .ref a_draft, .ref a_course, .ref a_firstImage, .ref a_secondImage, .ref a_imageKept, .ref a_bestDigs, .ref a_heard, .long v_traced])), (a_told, .inr (5, [.ref a_told_seam, .int v_told_seamTold, .int v_told_boundTold, .int v_told_lossTold, .int v_told_bound, .int v_told_loss, .int v_told_things, .ref a_told_yellow, .ref a_told_white, .ref a_told_fades, .ref a_told_worth])), (a_course, .inr (2, [.ref a_course_rows, .int v_course_known])), (a_course_rows, .inl (cyI, 165, .inl v_course_rows)), (a_told_fades, .inl (cyI, 6, .inl v_told_fades))] H → va_D A [(a, .inr (6, [.ref a_reader, .ref a_told, .ref a_draft, .ref a_course, .ref a_firstImage, .ref a_secondImage, .ref a_imageKept, .ref a_bestDigs, .ref a_heard, .long v_traced])), (a_told, .inr (5, [.ref a_told_seam, .int v_told_seamTold, .int v_told_boundTold, .int v_told_lossTold, .int v_told_bound, .int v_told_loss, .int v_told_things, .ref a_told_yellow, .ref a_told_white, .ref a_told_fades, .ref a_told_worth])), (a_course, .inr (2, [.ref a_course_rows, .int v_course_known])), (a_course_rows, .inl (cyI, 165, .inl v_course_rows)), (a_told_fades, .inl (cyI, 6, .inl v_told_fades))] → va_S A s.heap H locs → lv_has ls 4 [(0, .ref a), (1, .int p0), (2, .int p1), (3, .int x3)] → W p l e { frames := 4, cells := 0, slots := 0, locals := 103 } s m args below meth c H locs 0 0 (MQ below (gQi0 Q (dC, dI) A [(a, .inr (6, [.ref a_reader, .ref a_told, .ref a_draft, .ref a_course, .ref a_firstImage, .ref a_secondImage, .ref a_imageKept, .ref a_bestDigs, .ref a_heard, .long v_traced])), (a_told, .inr (5, [.ref a_told_seam, .int v_told_seamTold, .int v_told_boundTold, .int v_told_lossTold, .int v_told_bound, .int v_told_loss, .int v_told_things, .ref a_told_yellow, .ref a_told_white, .ref a_told_fades, .ref a_told_worth])), (a_course, .inr (2, [.ref a_course_rows, .int v_course_known])), (a_course_rows, .inl (cyI, 165, .inl v_course_rows)), (a_told_fades, .inl (cyI, 6, .inl v_told_fades))]) args s 0 0 A) (F0 m 2 ls [])) := by
  obtain ⟨hx, hb, hr, hml, hown, hts, hlocks⟩ := id C0
  have f159 := hN.link (args := (args)) (w := .fieldLinkNest RX6 159 "LastOchre$Told" "things" "I" "LastOchre") 19 rfl
  have f19 := hts (.fieldLink RX6 19 "LastOchre" "told" "LLastOchre$Told;") (by decide +kernel)
  intro n
  induction n with
  | zero => exact fun _ _ _ _ h => absurd h id
  | succ n ih =>
    have ih2 := ih
    · intro x3 H locs ls h hP hD hS hl
      replace h : F_X6_canBeKept_2 v_told_bound v_told_loss v_told_things v_course_rows v_told_fades p0 p1 Q (wp_X6_canBeKept v_told_bound v_told_loss v_told_things v_course_rows v_told_fades p0 p1 Q n) x3 := h
      unfold F_X6_canBeKept_2 at h
      refine lv_iload_n hx hb dX6_canBeKept_2 rfl (lv_at hl 3 rfl) ?_
      refine lv_aload_n hx hb dX6_canBeKept_3 rfl (lv_at hl 0 rfl) ?_
      refine va_get (D := (dC, dI)) (ci := 6) (v := .ref a_told) (C := RX6) (T := TX6) (N := 10) hx hb hts iwX6_canBeKept_X6 hown hK hP 0 rfl rfl 1 (by decide) f19 (fun _ h9 => h9) rfl dX6_canBeKept_4 ?_
      refine va_getN (host := "LastOchre") (D := (dC, dI)) (ci := 5) (v := .int v_told_things) (C := RX5) (T := TX5) (N := 11) hx hb hts iwX6_canBeKept_X5 hown hK hP 1 rfl rfl 6 (by decide) f159 (fun _ h9 => h9) rfl dX6_canBeKept_7 ?_
      refine lv_icmp_ge (tgt := 40) hx hb dX6_canBeKept_10 (by decide) (fun c_1 => ?_) (fun c_1 => ?_)
      · replace h := h.1 c_1
        refine lv_aload_n hx hb dX6_canBeKept_40 rfl (lv_at hl 0 rfl) ?_
        refine lv_iload_n hx hb dX6_canBeKept_41 rfl (lv_at hl 1 rfl) ?_
        refine lv_iload_n hx hb dX6_canBeKept_42 rfl (lv_at hl 2 rfl) ?_
        refine gV_i0 (As := [.int p0, .int p1]) (rest := []) ⟨hx, hb, hml, hown, hts⟩ (c_X6_leftOver l dC dI cyC cyI cyZ _ a a_reader a_told a_draft a_course a_firstImage a_secondImage a_imageKept a_bestDigs a_heard a_course_rows a_told_seam a_told_yellow a_told_white a_told_fades a_told_worth v_traced v_course_known v_course_rows v_told_seamTold v_told_boundTold v_told_lossTold v_told_bound v_told_loss v_told_things v_told_fades p0 p1 h) (cwV 2 hts gX6_canBeKept_X6_leftOver rfl rfl rfl hdV_X6_leftOver ⟨Nat.le_of_ble_eq_true rfl, Nat.le_of_ble_eq_true rfl⟩) hK hN hP hD hS hA [0, 2, 3, 1, 4] (by decide) rfl (ci := 6) rfl rfl rfl hl.1 rfl (Nat.le_of_ble_eq_true rfl) dX6_canBeKept_43 ⟨Nat.zero_le _, Nat.zero_le _⟩ (fun r_2 H locs h hP hS => ?_)
        refine lv_if_lt (tgt := 53) hx hb dX6_canBeKept_46 (by decide) (fun c_3 => ?_) (fun c_3 => ?_)
        · replace h := h.1 c_3
          refine lv_iconst (v := 0) hx hb dX6_canBeKept_53 (by decide) ?_
          exact grz0 hx hb hr hlocks rfl h hP hD hS dX6_canBeKept_54
        · replace h := h.2 c_3
          refine lv_iconst (v := 1) hx hb dX6_canBeKept_49 (by decide) ?_
          refine lv_goto (tgt := 54) hx hb dX6_canBeKept_50 (by decide) ?_
          exact grz0 hx hb hr hlocks rfl h hP hD hS dX6_canBeKept_54
      · replace h := h.2 c_1
        refine lv_iload_n hx hb dX6_canBeKept_13 rfl (lv_at hl 1 rfl) ?_
        refine lv_iload_n hx hb dX6_canBeKept_14 rfl (lv_at hl 3 rfl) ?_
        refine lv_ishr hx hb dX6_canBeKept_15 ?_
        refine lv_iconst (v := 1) hx hb dX6_canBeKept_16 (by decide) ?_
        refine lv_iand hx hb dX6_canBeKept_17 ?_
        refine lv_if_eq (tgt := 34) hx hb dX6_canBeKept_18 (by decide) (fun c_4 => ?_) (fun c_4 => ?_)
        · replace h := h.1 c_4
          obtain ⟨x3_5, e_6⟩ : ∃ y : Int32, y = (x3 + (1 : Int32)) := ⟨_, rfl⟩
          replace h := h x3_5 e_6
          refine lv_iinc (v := x3_5) (lv' := [(3, .int x3_5), (0, .ref a), (1, .int p0), (2, .int p1)]) hx hb dX6_canBeKept_34 hl (k := 3) rfl (by rw [e_6]; rfl) (by decide) rfl (fun ls hl => ?_)
          refine lv_goto (tgt := 2) hx hb dX6_canBeKept_37 (by decide) ?_
          exact ih2 x3_5 _ _ _ h hP hD hS (lv_sub hl [1, 2, 3, 0] rfl)
        · replace h := h.2 c_4
          refine lv_aload_n hx hb dX6_canBeKept_21 rfl (lv_at hl 0 rfl) ?_
          refine lv_iload_n hx hb dX6_canBeKept_22 rfl (lv_at hl 3 rfl) ?_
          refine lv_iload_n hx hb dX6_canBeKept_23 rfl (lv_at hl 2 rfl) ?_
          refine gV_i0 (As := [.int x3, .int p1]) (rest := []) ⟨hx, hb, hml, hown, hts⟩ (c_X6_paintFor l dC dI cyC cyI cyZ _ a a_reader a_told a_draft a_course a_firstImage a_secondImage a_imageKept a_bestDigs a_heard a_course_rows a_told_seam a_told_yellow a_told_white a_told_fades a_told_worth v_traced v_course_known v_course_rows v_told_seamTold v_told_boundTold v_told_lossTold v_told_bound v_told_loss v_told_things v_told_fades x3 p1 h) (cwV 2 hts gX6_canBeKept_X6_paintFor rfl rfl rfl hdV_X6_paintFor ⟨Nat.le_of_ble_eq_true rfl, Nat.le_of_ble_eq_true rfl⟩) hK hN hP hD hS hA [0, 2, 3, 1, 4] (by decide) rfl (ci := 6) rfl rfl rfl hl.1 rfl (Nat.le_of_ble_eq_true rfl) dX6_canBeKept_24 ⟨Nat.zero_le _, Nat.zero_le _⟩ (fun r_7 H locs h hP hS => ?_)
          refine lv_bipush (v := -9) hx hb dX6_canBeKept_27 (by decide) ?_
          refine lv_icmp_ne (tgt := 34) hx hb dX6_canBeKept_29 (by decide) (fun c_8 => ?_) (fun c_8 => ?_)
          · replace h := h.1 c_8
            obtain ⟨x3_9, e_10⟩ : ∃ y : Int32, y = (x3 + (1 : Int32)) := ⟨_, rfl⟩
            replace h := h x3_9 e_10
            refine lv_iinc (v := x3_9) (lv' := [(3, .int x3_9), (0, .ref a), (1, .int p0), (2, .int p1)]) hx hb dX6_canBeKept_34 hl (k := 3) rfl (by rw [e_10]; rfl) (by decide) rfl (fun ls hl => ?_)
            refine lv_goto (tgt := 2) hx hb dX6_canBeKept_37 (by decide) ?_
            exact ih2 x3_9 _ _ _ h hP hD hS (lv_sub hl [1, 2, 3, 0] rfl)
          · replace h := h.2 c_8
            refine lv_iconst (v := 0) hx hb dX6_canBeKept_32 (by decide) ?_
            exact grz0 hx hb hr hlocks rfl h hP hD hS dX6_canBeKept_33
set_option maxHeartbeats 4000000 in
set_option maxRecDepth 100000 in
theorem c_X6_canBeKept (l : Launch) (dC : Nat → ClassId) (dI : Nat → Nat → Nat) (cyC cyI cyZ : ClassId) (sz : Nat) (a a_reader a_told a_draft a_course a_firstImage a_secondImage a_imageKept a_bestDigs a_heard a_told_seam a_told_yellow a_told_white a_told_fades a_told_worth a_course_rows : Nat) (v_traced : Int64) (v_told_seamTold : Int32) (v_told_boundTold : Int32) (v_told_lossTold : Int32) (v_told_bound : Int32) (v_told_loss : Int32) (v_told_things : Int32) (v_course_known : Int32) (v_course_rows : Nat → Int32) (v_told_fades : Nat → Int32) (p0 : Int32) (p1 : Int32) {Q : Int32 → Prop} (h : q_X6_canBeKept v_told_bound v_told_loss v_told_things v_course_rows v_told_fades p0 p1 Q) : Met l yX6_canBeKept wsX6_canBeKept ({ frames := 4, cells := 0, slots := 0, locals := 103 }) (gPc [.ref a, .int p0, .int p1] (dC, dI) (gTy cyC cyI cyZ) sz [(a, .inr (6, [.ref a_reader, .ref a_told, .ref a_draft, .ref a_course, .ref a_firstImage, .ref a_secondImage, .ref a_imageKept, .ref a_bestDigs, .ref a_heard, .long v_traced])), (a_told, .inr (5, [.ref a_told_seam, .int v_told_seamTold, .int v_told_boundTold, .int v_told_lossTold, .int v_told_bound, .int v_told_loss, .int v_told_things, .ref a_told_yellow, .ref a_told_white, .ref a_told_fades, .ref a_told_worth])), (a_course, .inr (2, [.ref a_course_rows, .int v_course_known])), (a_course_rows, .inl (cyI, 165, .inl v_course_rows)), (a_told_fades, .inl (cyI, 6, .inl v_told_fades))]) (gQi0 Q (dC, dI) (va_A [(a, .inr (6, [.ref a_reader, .ref a_told, .ref a_draft, .ref a_course, .ref a_firstImage, .ref a_secondImage, .ref a_imageKept, .ref a_bestDigs, .ref a_heard, .long v_traced])), (a_told, .inr (5, [.ref a_told_seam, .int v_told_seamTold, .int v_told_boundTold, .int v_told_lossTold, .int v_told_bound, .int v_told_loss, .int v_told_things, .ref a_told_yellow, .ref a_told_white, .ref a_told_fades, .ref a_told_worth])), (a_course, .inr (2, [.ref a_course_rows, .int v_course_known])), (a_course_rows, .inl (cyI, 165, .inl v_course_rows)), (a_told_fades, .inl (cyI, 6, .inl v_told_fades))] sz) [(a, .inr (6, [.ref a_reader, .ref a_told, .ref a_draft, .ref a_course, .ref a_firstImage, .ref a_secondImage, .ref a_imageKept, .ref a_bestDigs, .ref a_heard, .long v_traced])), (a_told, .inr (5, [.ref a_told_seam, .int v_told_seamTold, .int v_told_boundTold, .int v_told_lossTold, .int v_told_bound, .int v_told_loss, .int v_told_things, .ref a_told_yellow, .ref a_told_white, .ref a_told_fades, .ref a_told_worth])), (a_course, .inr (2, [.ref a_course_rows, .int v_course_known])), (a_course_rows, .inl (cyI, 165, .inl v_course_rows)), (a_told_fades, .inl (cyI, 6, .inl v_told_fades))]) 0 0 (va_A [(a, .inr (6, [.ref a_reader, .ref a_told, .ref a_draft, .ref a_course, .ref a_firstImage, .ref a_secondImage, .ref a_imageKept, .ref a_bestDigs, .ref a_heard, .long v_traced])), (a_told, .inr (5, [.ref a_told_seam, .int v_told_seamTold, .int v_told_boundTold, .int v_told_lossTold, .int v_told_bound, .int v_told_loss, .int v_told_things, .ref a_told_yellow, .ref a_told_white, .ref a_told_fades, .ref a_told_worth])), (a_course, .inr (2, [.ref a_course_rows, .int v_course_known])), (a_course_rows, .inl (cyI, 165, .inl v_course_rows)), (a_told_fades, .inl (cyI, 6, .inl v_told_fades))] sz) := by
  refine gMet (cc := cX6_canBeKept) (maxL := 4) (ret := (some .boolean)) (own := RX6) (fun A => gQi0 Q (dC, dI) A [(a, .inr (6, [.ref a_reader, .ref a_told, .ref a_draft, .ref a_course, .ref a_firstImage, .ref a_secondImage, .ref a_imageKept, .ref a_bestDigs, .ref a_heard, .long v_traced])), (a_told, .inr (5, [.ref a_told_seam, .int v_told_seamTold, .int v_told_boundTold, .int v_told_lossTold, .int v_told_bound, .int v_told_loss, .int v_told_things, .ref a_told_yellow, .ref a_told_white, .ref a_told_fades, .ref a_told_worth])), (a_course, .inr (2, [.ref a_course_rows, .int v_course_known])), (a_course_rows, .inl (cyI, 165, .inl v_course_rows)), (a_told_fades, .inl (cyI, 6, .inl v_told_fades))]) (by decide) rfl rfl (Nat.le_of_ble_eq_true rfl) ?_
  intro p e s m below meth c A ls C0 _ hK hN hP hD hA hl
  obtain ⟨hx, hb, hr, hml, hown, hts, hlocks⟩ := id C0
  have f159 := hN.link (args := ([.ref a, .int p0, .int p1].toArray)) (w := .fieldLinkNest RX6 159 "LastOchre$Told" "things" "I" "LastOchre") 19 rfl
  have f19 := hts (.fieldLink RX6 19 "LastOchre" "told" "LLastOchre$Told;") (by decide +kernel)
  have hS : va_S A s.heap s.heap [] := va_S.rf
  replace hl : lv_has ls 4 [(0, .ref a), (1, .int p0), (2, .int p1)] := hl
  unfold q_X6_canBeKept at h
  obtain ⟨n, h⟩ := h
  have ih2 := w_X6_canBeKept (l := l) (e := e) (below := below) dC dI cyC cyI cyZ a a_reader a_told a_draft a_course a_firstImage a_secondImage a_imageKept a_bestDigs a_heard a_told_seam a_told_yellow a_told_white a_told_fades a_told_worth a_course_rows v_traced v_told_seamTold v_told_boundTold v_told_lossTold v_told_bound v_told_loss v_told_things v_course_known v_course_rows v_told_fades p0 p1 Q C0 hK hN hA n
  unfold F_X6_canBeKept_e at h
  refine lv_iconst (v := 0) hx hb dX6_canBeKept_0 (by decide) ?_
  refine lv_istore_n (lv' := [(3, .int (0 : Int32)), (0, .ref a), (1, .int p0), (2, .int p1)]) hx hb dX6_canBeKept_1 rfl hl (by decide) rfl (fun ls hl => ?_)
  exact ih2 (0 : Int32) _ _ _ h hP hD hS (lv_sub hl [1, 2, 3, 0] rfl)

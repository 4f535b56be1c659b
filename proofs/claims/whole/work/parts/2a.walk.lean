theorem iwX6_imageOf_X6 : ∀ w ∈ wsX60, w ∈ wsX6_imageOf := by decide +kernel
theorem hdV_X6_imageOf : yX6_imageOf.cls = RX6 ∧ yX6_imageOf.cls ≠ "java/lang/invoke/MethodHandle" ∧ yX6_imageOf.cls ≠ "java/lang/invoke/VarHandle" ∧ (parseMethodDescriptor yX6_imageOf.desc).map (fun d => d.parameters.length) = some 1 := by decide +kernel
set_option maxHeartbeats 4000000 in
set_option maxRecDepth 100000 in
theorem c_X6_imageOf (l : Launch) (dC : Nat → ClassId) (dI : Nat → Nat → Nat) (cyC cyI cyZ : ClassId) (sz : Nat) (a a_reader a_told a_draft a_course a_firstImage a_secondImage a_imageKept a_bestDigs a_heard : Nat) (v_traced : Int64) (p0 : Int32) : Met l yX6_imageOf wsX6_imageOf ({ frames := 0, cells := 0, slots := 0, locals := 0 }) (gPc [.ref a, .int p0] (dC, dI) (gTy cyC cyI cyZ) sz [(a, .inr (6, [.ref a_reader, .ref a_told, .ref a_draft, .ref a_course, .ref a_firstImage, .ref a_secondImage, .ref a_imageKept, .ref a_bestDigs, .ref a_heard, .long v_traced]))]) (gQr0 (fun ra => (p0 = 0 ∧ ra = a_firstImage) ∨ (¬ p0 = 0 ∧ ra = a_secondImage)) (dC, dI) (va_A [(a, .inr (6, [.ref a_reader, .ref a_told, .ref a_draft, .ref a_course, .ref a_firstImage, .ref a_secondImage, .ref a_imageKept, .ref a_bestDigs, .ref a_heard, .long v_traced]))] sz) [(a, .inr (6, [.ref a_reader, .ref a_told, .ref a_draft, .ref a_course, .ref a_firstImage, .ref a_secondImage, .ref a_imageKept, .ref a_bestDigs, .ref a_heard, .long v_traced]))]) 0 0 (va_A [(a, .inr (6, [.ref a_reader, .ref a_told, .ref a_draft, .ref a_course, .ref a_firstImage, .ref a_secondImage, .ref a_imageKept, .ref a_bestDigs, .ref a_heard, .long v_traced]))] sz) := by
  refine gMet (cc := cX6_imageOf) (maxL := 2) (ret := (some (.object "LastOchre$Course"))) (own := RX6) (fun A => gQr0 (fun ra => (p0 = 0 ∧ ra = a_firstImage) ∨ (¬ p0 = 0 ∧ ra = a_secondImage)) (dC, dI) A [(a, .inr (6, [.ref a_reader, .ref a_told, .ref a_draft, .ref a_course, .ref a_firstImage, .ref a_secondImage, .ref a_imageKept, .ref a_bestDigs, .ref a_heard, .long v_traced]))]) (by decide) rfl rfl (Nat.le_of_ble_eq_true rfl) ?_
  intro p e s m below meth c A ls C0 _ hK hN hP hD hA hl
  obtain ⟨hx, hb, hr, hml, hown, hts, hlocks⟩ := id C0
  have f33 := hts (.fieldLink RX6 33 "LastOchre" "firstImage" "LLastOchre$Course;") (by decide +kernel)
  have f36 := hts (.fieldLink RX6 36 "LastOchre" "secondImage" "LLastOchre$Course;") (by decide +kernel)
  have hS : va_S A s.heap s.heap [] := va_S.rf
  replace hl : lv_has ls 2 [(0, .ref a), (1, .int p0)] := hl
  refine lv_iload_n hx hb dX6_imageOf_0 rfl (lv_at hl 1 rfl) ?_
  refine lv_if_ne (tgt := 11) hx hb dX6_imageOf_1 (by decide) (fun c_1 => ?_) (fun c_1 => ?_)
  · refine lv_aload_n hx hb dX6_imageOf_11 rfl (lv_at hl 0 rfl) ?_
    refine va_get (D := (dC, dI)) (ci := 6) (v := .ref a_secondImage) (C := RX6) (T := TX6) (N := 10) hx hb hts iwX6_imageOf_X6 hown hK hP 0 rfl rfl 5 (by decide) f36 (fun _ h9 => h9) rfl dX6_imageOf_12 ?_
    exact grr0 hx hb hr hlocks (Or.inl ⟨_, rfl⟩) (Or.inr ⟨c_1, rfl⟩) hP hD hS dX6_imageOf_15
  · refine lv_aload_n hx hb dX6_imageOf_4 rfl (lv_at hl 0 rfl) ?_
    refine va_get (D := (dC, dI)) (ci := 6) (v := .ref a_firstImage) (C := RX6) (T := TX6) (N := 10) hx hb hts iwX6_imageOf_X6 hown hK hP 0 rfl rfl 4 (by decide) f33 (fun _ h9 => h9) rfl dX6_imageOf_5 ?_
    refine lv_goto (tgt := 15) hx hb dX6_imageOf_8 (by decide) ?_
    exact grr0 hx hb hr hlocks (Or.inl ⟨_, rfl⟩) (Or.inl ⟨c_1, rfl⟩) hP hD hS dX6_imageOf_15

def F_X0_wipe_e  (Q : Int32 → Prop) (v_lookedFrom : Int32) : Prop :=
  Q (-1 : Int32)
def q_X0_wipe (v_lookedFrom : Int32) (Q : Int32 → Prop) : Prop := F_X0_wipe_e  Q v_lookedFrom
theorem iwX0_wipe_X0 : ∀ w ∈ wsX00, w ∈ wsX0_wipe := by decide +kernel
theorem hdV_X0_wipe : yX0_wipe.cls = RX0 ∧ yX0_wipe.cls ≠ "java/lang/invoke/MethodHandle" ∧ yX0_wipe.cls ≠ "java/lang/invoke/VarHandle" ∧ (parseMethodDescriptor yX0_wipe.desc).map (fun d => d.parameters.length) = some 0 := by decide +kernel
set_option maxHeartbeats 4000000 in
set_option maxRecDepth 100000 in
theorem c_X0_wipe (l : Launch) (dC : Nat → ClassId) (dI : Nat → Nat → Nat) (cyC cyI cyZ : ClassId) (sz : Nat) (a a_sets a_sums a_lowSums a_highSums : Nat) (v_lookedFrom : Int32) {Q : Int32 → Prop} (h : q_X0_wipe v_lookedFrom Q) : Met l yX0_wipe wsX0_wipe ({ frames := 0, cells := 0, slots := 0, locals := 0 }) (gPc [.ref a] (dC, dI) (gTy cyC cyI cyZ) sz [(a, .inr (0, [.ref a_sets, .ref a_sums, .ref a_lowSums, .ref a_highSums, .int v_lookedFrom]))]) (gQv1 Q (dC, dI) (va_A [(a, .inr (0, [.ref a_sets, .ref a_sums, .ref a_lowSums, .ref a_highSums, .int v_lookedFrom]))] sz) (fun (u1 : Int32) => [(a, .inr (0, [.ref a_sets, .ref a_sums, .ref a_lowSums, .ref a_highSums, .int u1]))])) 0 0 (va_A [(a, .inr (0, [.ref a_sets, .ref a_sums, .ref a_lowSums, .ref a_highSums, .int v_lookedFrom]))] sz) := by
  refine gMet (cc := cX0_wipe) (maxL := 1) (ret := none) (own := RX0) (fun A => gQv1 Q (dC, dI) A (fun (u1 : Int32) => [(a, .inr (0, [.ref a_sets, .ref a_sums, .ref a_lowSums, .ref a_highSums, .int u1]))])) (by decide) rfl rfl (Nat.le_of_ble_eq_true rfl) ?_
  intro p e s m below meth c A ls C0 _ hK hN hP hD hA hl
  obtain ⟨hx, hb, hr, hml, hown, hts, hlocks⟩ := id C0
  have f24 := hts (.fieldLink RX0 24 "LastOchre$BestDigs" "lookedFrom" "I") (by decide +kernel)
  have hS : va_S A s.heap s.heap [] := va_S.rf
  replace hl : lv_has ls 1 [(0, .ref a)] := hl
  unfold q_X0_wipe at h
  unfold F_X0_wipe_e at h
  refine lv_aload_n hx hb dX0_wipe_0 rfl (lv_at hl 0 rfl) ?_
  refine lv_iconst (v := -1) hx hb dX0_wipe_1 (by decide) ?_
  refine va_put (D := (dC, dI)) (ci := 0) (v := .int (-1 : Int32)) (ty := .int) (C := RX0) (T := TX0) (N := 5) hx hb hts iwX0_wipe_X0 tyX0 tyX0_ok nmX0 hown hK hP hD hS 0 rfl rfl 4 (by decide) f24 (fun _ h9 => h9) rfl (by decide +kernel) rfl rfl (Nat.le_of_ble_eq_true rfl) dX0_wipe_2 (fun H locs hP hD hS => ?_)
  replace hP : va_P (dC, dI) vwCl [(a, .inr (0, [.ref a_sets, .ref a_sums, .ref a_lowSums, .ref a_highSums, .int (-1 : Int32)]))] H := hP
  replace hD : va_D A [(a, .inr (0, [.ref a_sets, .ref a_sums, .ref a_lowSums, .ref a_highSums, .int (-1 : Int32)]))] := hD
  exact grv1 hx hb hr hlocks h hP hD hS dX0_wipe_5

def F_X0_addUp_e (w0 : Nat → Int32) (p1 : Int32) (Q : (Nat → Int32) → Prop) (rec : Nat → Int32 → Int32 → Int32 → (Nat → Int32) → Prop) (w2 : Nat → Int32) : Prop :=
  ∀ f_1 : Nat → Int32, f_1 = upd w2 ((0 : Int32)).toNatClampNeg (0 : Int32) → (rec 6 (0 : Int32) 0 0 f_1)
def F_X0_addUp_6 (w0 : Nat → Int32) (p1 : Int32) (Q : (Nat → Int32) → Prop) (rec : Nat → Int32 → Int32 → Int32 → (Nat → Int32) → Prop) (x3 : Int32) (x4 : Int32) (x5 : Int32) (w2 : Nat → Int32) : Prop :=
  ((8 : Int32) ≤ x3 → (Q w2)) ∧ (¬ (8 : Int32) ≤ x3 → (((16 : Int32) ≤ (p1 + x3) → (Q w2)) ∧ (¬ (16 : Int32) ≤ (p1 + x3) → (∀ x4_5 : Int32, x4_5 = ((1 : Int32) <<< (x3 &&& 31)) → (rec 28 x3 x4_5 (0 : Int32) w2)))))
def F_X0_addUp_28 (w0 : Nat → Int32) (p1 : Int32) (Q : (Nat → Int32) → Prop) (rec : Nat → Int32 → Int32 → Int32 → (Nat → Int32) → Prop) (x3 : Int32) (x4 : Int32) (x5 : Int32) (w2 : Nat → Int32) : Prop :=
  (x4 ≤ x5 → (∀ x3_8 : Int32, x3_8 = (x3 + (1 : Int32)) → (rec 6 x3_8 0 0 w2))) ∧ (¬ x4 ≤ x5 → (((256 : Int32) ≤ (x4 + x5) → (∀ x3_11 : Int32, x3_11 = (x3 + (1 : Int32)) → (rec 6 x3_11 0 0 w2))) ∧ (¬ (256 : Int32) ≤ (x4 + x5) → (vp_in x5 256 ∧ (vp_in (p1 + x3) 16 ∧ (vp_in (x4 + x5) 256 ∧ (∀ f_16 : Nat → Int32, f_16 = upd w2 ((x4 + x5)).toNatClampNeg ((w2 (x5).toNatClampNeg) + (w0 ((p1 + x3)).toNatClampNeg)) → (∀ x5_18 : Int32, x5_18 = (x5 + (1 : Int32)) → (rec 28 x3 x4 x5_18 f_16)))))))))
def wp_X0_addUp (w0 : Nat → Int32) (p1 : Int32) (Q : (Nat → Int32) → Prop) : Nat → Nat → Int32 → Int32 → Int32 → (Nat → Int32) → Prop
  | 0 => fun _ _ _ _ _ => False
  | n + 1 => fun t x3 x4 x5 w2 => if t = 6 then F_X0_addUp_6 w0 p1 Q (wp_X0_addUp w0 p1 Q n) x3 x4 x5 w2 else if t = 28 then F_X0_addUp_28 w0 p1 Q (wp_X0_addUp w0 p1 Q n) x3 x4 x5 w2 else False
def q_X0_addUp (w2 : Nat → Int32) (w0 : Nat → Int32) (p1 : Int32) (Q : (Nat → Int32) → Prop) : Prop := ∃ n, F_X0_addUp_e w0 p1 Q (wp_X0_addUp w0 p1 Q n) w2
theorem hdS_X0_addUp : yX0_addUp.cls ≠ "java/lang/invoke/MethodHandle" ∧ yX0_addUp.cls ≠ "java/lang/invoke/VarHandle" ∧ (parseMethodDescriptor yX0_addUp.desc).map (fun d => d.parameters.length) = some 3 := by decide +kernel
set_option maxHeartbeats 4000000 in
set_option maxRecDepth 100000 in
theorem w_X0_addUp {p : Program} {l : Launch} {e : Env} {s : State} {m : MethodId} {args : Array Value} {below : List Frame} {meth : Method} {c : Code} {A : Nat → Prop} (dC : Nat → ClassId) (dI : Nat → Nat → Nat) (cyC cyI cyZ : ClassId) (b2 b0 : Nat) (w0 : Nat → Int32) (p1 : Int32) (Q : (Nat → Int32) → Prop) (C0 : gAt cX0_addUp none 6 RX0 wsX0_addUp p s m meth c args) (hK : va_K (dC, dI) vwCl (gTy cyC cyI cyZ) s) (hN : nU s) (hA : ∀ q, s.heap.size ≤ q → A q) : ∀ n : Nat, (∀ (x3 : Int32) (x4 : Int32) (x5 : Int32) (w2 : Nat → Int32) (H : Heap) (locs : List Loc) (ls : Array Slot), wp_X0_addUp w0 p1 Q n 6 x3 x4 x5 w2 → va_P (dC, dI) vwCl [(b2, .inl (cyI, 256, .inl w2)), (b0, .inl (cyI, 16, .inl w0))] H → va_D A [(b2, .inl (cyI, 256, .inl w2)), (b0, .inl (cyI, 16, .inl w0))] → va_S A s.heap H locs → lv_has ls 6 [(0, .ref b0), (1, .int p1), (2, .ref b2), (3, .int x3)] → W p l e { frames := 0, cells := 0, slots := 0, locals := 0 } s m args below meth c H locs 0 0 (MQ below (gQv1 Q (dC, dI) A (fun (u1 : Nat → Int32) => [(b2, .inl (cyI, 256, .inl u1)), (b0, .inl (cyI, 16, .inl w0))])) args s 0 0 A) (F0 m 6 ls [])) ∧ (∀ (x3 : Int32) (x4 : Int32) (x5 : Int32) (w2 : Nat → Int32) (H : Heap) (locs : List Loc) (ls : Array Slot), wp_X0_addUp w0 p1 Q n 28 x3 x4 x5 w2 → va_P (dC, dI) vwCl [(b2, .inl (cyI, 256, .inl w2)), (b0, .inl (cyI, 16, .inl w0))] H → va_D A [(b2, .inl (cyI, 256, .inl w2)), (b0, .inl (cyI, 16, .inl w0))] → va_S A s.heap H locs → lv_has ls 6 [(0, .ref b0), (1, .int p1), (2, .ref b2), (3, .int x3), (4, .int x4), (5, .int x5)] → W p l e { frames := 0, cells := 0, slots := 0, locals := 0 } s m args below meth c H locs 0 0 (MQ below (gQv1 Q (dC, dI) A (fun (u1 : Nat → Int32) => [(b2, .inl (cyI, 256, .inl u1)), (b0, .inl (cyI, 16, .inl w0))])) args s 0 0 A) (F0 m 28 ls [])) := by
  obtain ⟨hx, hb, hr, hml, hown, hts, hlocks⟩ := id C0
  intro n
  induction n with
  | zero => exact ⟨fun _ _ _ _ _ _ _ h => absurd h id, fun _ _ _ _ _ _ _ h => absurd h id⟩
  | succ n ih =>
    obtain ⟨ih6, ih28⟩ := ih
    refine ⟨?_, ?_⟩
    · intro x3 x4 x5 w2 H locs ls h hP hD hS hl
      replace h : F_X0_addUp_6 w0 p1 Q (wp_X0_addUp w0 p1 Q n) x3 x4 x5 w2 := h
      unfold F_X0_addUp_6 at h
      refine lv_iload_n hx hb dX0_addUp_6 rfl (lv_at hl 3 rfl) ?_
      refine lv_bipush (v := 8) hx hb dX0_addUp_7 (by decide) ?_
      refine lv_icmp_ge (tgt := 74) hx hb dX0_addUp_9 (by decide) (fun c_3 => ?_) (fun c_3 => ?_)
      · replace h := h.1 c_3
        exact grv1 hx hb hr hlocks h hP hD hS dX0_addUp_74
      · replace h := h.2 c_3
        refine lv_iload_n hx hb dX0_addUp_12 rfl (lv_at hl 1 rfl) ?_
        refine lv_iload_n hx hb dX0_addUp_13 rfl (lv_at hl 3 rfl) ?_
        refine lv_iadd hx hb dX0_addUp_14 ?_
        refine lv_aload_n hx hb dX0_addUp_15 rfl (lv_at hl 0 rfl) ?_
        refine va_alen hx hb hK hP 1 0 rfl rfl (v := 16) rfl dX0_addUp_16 ?_
        refine lv_icmp_ge (tgt := 74) hx hb dX0_addUp_17 (by decide) (fun c_4 => ?_) (fun c_4 => ?_)
        · replace h := h.1 c_4
          exact grv1 hx hb hr hlocks h hP hD hS dX0_addUp_74
        · replace h := h.2 c_4
          refine lv_iconst (v := 1) hx hb dX0_addUp_20 (by decide) ?_
          refine lv_iload_n hx hb dX0_addUp_21 rfl (lv_at hl 3 rfl) ?_
          refine lv_ishl hx hb dX0_addUp_22 ?_
          refine lv_topi (fun x4_5 e_6 => ?_)
          replace h := h x4_5 e_6
          refine lv_istore (lv' := [(4, .int x4_5), (0, .ref b0), (1, .int p1), (2, .ref b2), (3, .int x3)]) hx hb dX0_addUp_23 hl (by decide) rfl (fun ls hl => ?_)
          refine lv_iconst (v := 0) hx hb dX0_addUp_25 (by decide) ?_
          refine lv_istore (lv' := [(5, .int (0 : Int32)), (4, .int x4_5), (0, .ref b0), (1, .int p1), (2, .ref b2), (3, .int x3)]) hx hb dX0_addUp_26 hl (by decide) rfl (fun ls hl => ?_)
          exact ih28 x3 x4_5 (0 : Int32) w2 _ _ _ h hP hD hS (lv_sub hl [2, 3, 4, 5, 1, 0] rfl)
    · intro x3 x4 x5 w2 H locs ls h hP hD hS hl
      replace h : F_X0_addUp_28 w0 p1 Q (wp_X0_addUp w0 p1 Q n) x3 x4 x5 w2 := h
      unfold F_X0_addUp_28 at h
      refine lv_iload hx hb dX0_addUp_28 (lv_at hl 5 rfl) ?_
      refine lv_iload hx hb dX0_addUp_30 (lv_at hl 4 rfl) ?_
      refine lv_icmp_ge (tgt := 68) hx hb dX0_addUp_32 (by decide) (fun c_7 => ?_) (fun c_7 => ?_)
      · replace h := h.1 c_7
        obtain ⟨x3_8, e_9⟩ : ∃ y : Int32, y = (x3 + (1 : Int32)) := ⟨_, rfl⟩
        replace h := h x3_8 e_9
        refine lv_iinc (v := x3_8) (lv' := [(3, .int x3_8), (0, .ref b0), (1, .int p1), (2, .ref b2), (4, .int x4), (5, .int x5)]) hx hb dX0_addUp_68 hl (k := 3) rfl (by rw [e_9]; rfl) (by decide) rfl (fun ls hl => ?_)
        refine lv_goto (tgt := 6) hx hb dX0_addUp_71 (by decide) ?_
        exact ih6 x3_8 0 0 w2 _ _ _ h hP hD hS (lv_sub hl [1, 2, 3, 0] rfl)
      · replace h := h.2 c_7
        refine lv_iload hx hb dX0_addUp_35 (lv_at hl 4 rfl) ?_
        refine lv_iload hx hb dX0_addUp_37 (lv_at hl 5 rfl) ?_
        refine lv_iadd hx hb dX0_addUp_39 ?_
        refine lv_aload_n hx hb dX0_addUp_40 rfl (lv_at hl 2 rfl) ?_
        refine va_alen hx hb hK hP 0 0 rfl rfl (v := 256) rfl dX0_addUp_41 ?_
        refine lv_icmp_ge (tgt := 68) hx hb dX0_addUp_42 (by decide) (fun c_10 => ?_) (fun c_10 => ?_)
        · replace h := h.1 c_10
          obtain ⟨x3_11, e_12⟩ : ∃ y : Int32, y = (x3 + (1 : Int32)) := ⟨_, rfl⟩
          replace h := h x3_11 e_12
          refine lv_iinc (v := x3_11) (lv' := [(3, .int x3_11), (0, .ref b0), (1, .int p1), (2, .ref b2), (4, .int x4), (5, .int x5)]) hx hb dX0_addUp_68 hl (k := 3) rfl (by rw [e_12]; rfl) (by decide) rfl (fun ls hl => ?_)
          refine lv_goto (tgt := 6) hx hb dX0_addUp_71 (by decide) ?_
          exact ih6 x3_11 0 0 w2 _ _ _ h hP hD hS (lv_sub hl [1, 2, 3, 0] rfl)
        · replace h := h.2 c_10
          refine lv_aload_n hx hb dX0_addUp_45 rfl (lv_at hl 2 rfl) ?_
          refine lv_iload hx hb dX0_addUp_46 (lv_at hl 4 rfl) ?_
          refine lv_iload hx hb dX0_addUp_48 (lv_at hl 5 rfl) ?_
          refine lv_iadd hx hb dX0_addUp_50 ?_
          refine lv_aload_n hx hb dX0_addUp_51 rfl (lv_at hl 2 rfl) ?_
          refine lv_iload hx hb dX0_addUp_52 (lv_at hl 5 rfl) ?_
          have g_13 := h.1
          replace h := h.2
          refine va_iald hx hb hK hP 0 0 rfl rfl g_13 dX0_addUp_54 ?_
          refine lv_aload_n hx hb dX0_addUp_55 rfl (lv_at hl 0 rfl) ?_
          refine lv_iload_n hx hb dX0_addUp_56 rfl (lv_at hl 1 rfl) ?_
          refine lv_iload_n hx hb dX0_addUp_57 rfl (lv_at hl 3 rfl) ?_
          refine lv_iadd hx hb dX0_addUp_58 ?_
          have g_14 := h.1
          replace h := h.2
          refine va_iald hx hb hK hP 1 0 rfl rfl g_14 dX0_addUp_59 ?_
          refine lv_iadd hx hb dX0_addUp_60 ?_
          have g_15 := h.1
          replace h := h.2
          refine va_iast hx hb hK hP hD hS 0 0 rfl rfl g_15 dX0_addUp_61 (fun H locs hP hD hS => ?_)
          obtain ⟨f_16, e_17⟩ : ∃ y : Nat → Int32, y = upd w2 ((x4 + x5)).toNatClampNeg ((w2 (x5).toNatClampNeg) + (w0 ((p1 + x3)).toNatClampNeg)) := ⟨_, rfl⟩
          replace h := h f_16 e_17
          replace hP : va_P (dC, dI) vwCl [(b2, .inl (cyI, 256, .inl f_16)), (b0, .inl (cyI, 16, .inl w0))] H := by rw [e_17]; exact hP
          replace hD : va_D A [(b2, .inl (cyI, 256, .inl f_16)), (b0, .inl (cyI, 16, .inl w0))] := by rw [e_17]; exact hD
          obtain ⟨x5_18, e_19⟩ : ∃ y : Int32, y = (x5 + (1 : Int32)) := ⟨_, rfl⟩
          replace h := h x5_18 e_19
          refine lv_iinc (v := x5_18) (lv' := [(5, .int x5_18), (0, .ref b0), (1, .int p1), (2, .ref b2), (3, .int x3), (4, .int x4)]) hx hb dX0_addUp_62 hl (k := 5) rfl (by rw [e_19]; rfl) (by decide) rfl (fun ls hl => ?_)
          refine lv_goto (tgt := 28) hx hb dX0_addUp_65 (by decide) ?_
          exact ih28 x3 x4 x5_18 f_16 _ _ _ h hP hD hS (lv_sub hl [1, 2, 3, 4, 5, 0] rfl)
set_option maxHeartbeats 4000000 in
set_option maxRecDepth 100000 in
theorem c_X0_addUp (l : Launch) (dC : Nat → ClassId) (dI : Nat → Nat → Nat) (cyC cyI cyZ : ClassId) (sz : Nat) (b2 b0 : Nat) (w2 : Nat → Int32) (w0 : Nat → Int32) (p1 : Int32) {Q : (Nat → Int32) → Prop} (h : q_X0_addUp w2 w0 p1 Q) : Met l yX0_addUp wsX0_addUp ({ frames := 0, cells := 0, slots := 0, locals := 0 }) (gPc [.ref b0, .int p1, .ref b2] (dC, dI) (gTy cyC cyI cyZ) sz [(b2, .inl (cyI, 256, .inl w2)), (b0, .inl (cyI, 16, .inl w0))]) (gQv1 Q (dC, dI) (va_A [(b2, .inl (cyI, 256, .inl w2)), (b0, .inl (cyI, 16, .inl w0))] sz) (fun (u1 : Nat → Int32) => [(b2, .inl (cyI, 256, .inl u1)), (b0, .inl (cyI, 16, .inl w0))])) 0 0 (va_A [(b2, .inl (cyI, 256, .inl w2)), (b0, .inl (cyI, 16, .inl w0))] sz) := by
  refine gMet (cc := cX0_addUp) (maxL := 6) (ret := none) (own := RX0) (fun A => gQv1 Q (dC, dI) A (fun (u1 : Nat → Int32) => [(b2, .inl (cyI, 256, .inl u1)), (b0, .inl (cyI, 16, .inl w0))])) (by decide) rfl rfl (Nat.le_of_ble_eq_true rfl) ?_
  intro p e s m below meth c A ls C0 _ hK hN hP hD hA hl
  obtain ⟨hx, hb, hr, hml, hown, hts, hlocks⟩ := id C0
  have hS : va_S A s.heap s.heap [] := va_S.rf
  replace hl : lv_has ls 6 [(0, .ref b0), (1, .int p1), (2, .ref b2)] := hl
  unfold q_X0_addUp at h
  obtain ⟨n, h⟩ := h
  obtain ⟨ih6, ih28⟩ := w_X0_addUp (l := l) (e := e) (below := below) dC dI cyC cyI cyZ b2 b0 w0 p1 Q C0 hK hN hA n
  unfold F_X0_addUp_e at h
  refine lv_aload_n hx hb dX0_addUp_0 rfl (lv_at hl 2 rfl) ?_
  refine lv_iconst (v := 0) hx hb dX0_addUp_1 (by decide) ?_
  refine lv_iconst (v := 0) hx hb dX0_addUp_2 (by decide) ?_
  refine va_iast hx hb hK hP hD hS 0 0 rfl rfl (by unfold vp_in; decide) dX0_addUp_3 (fun H locs hP hD hS => ?_)
  obtain ⟨f_1, e_2⟩ : ∃ y : Nat → Int32, y = upd w2 ((0 : Int32)).toNatClampNeg (0 : Int32) := ⟨_, rfl⟩
  replace h := h f_1 e_2
  replace hP : va_P (dC, dI) vwCl [(b2, .inl (cyI, 256, .inl f_1)), (b0, .inl (cyI, 16, .inl w0))] H := by rw [e_2]; exact hP
  replace hD : va_D A [(b2, .inl (cyI, 256, .inl f_1)), (b0, .inl (cyI, 16, .inl w0))] := by rw [e_2]; exact hD
  refine lv_iconst (v := 0) hx hb dX0_addUp_4 (by decide) ?_
  refine lv_istore_n (lv' := [(3, .int (0 : Int32)), (0, .ref b0), (1, .int p1), (2, .ref b2)]) hx hb dX0_addUp_5 rfl hl (by decide) rfl (fun ls hl => ?_)
  exact ih6 (0 : Int32) 0 0 f_1 _ _ _ h hP hD hS (lv_sub hl [1, 2, 3, 0] rfl)

def F_J6_bitCount_0f7a4_e  (Q : Int32 → Prop) (p0 : Int32) : Prop :=
  ∀ x0_1 : Int32, x0_1 = (p0 - (((p0).toUInt32 >>> (((1 : Int32)).toUInt32 &&& Int32.toUInt32 31)).toInt32 &&& (1431655765 : Int32))) → (∀ x0_3 : Int32, x0_3 = ((x0_1 &&& (858993459 : Int32)) + (((x0_1).toUInt32 >>> (((2 : Int32)).toUInt32 &&& Int32.toUInt32 31)).toInt32 &&& (858993459 : Int32))) → (∀ x0_5 : Int32, x0_5 = ((x0_3 + ((x0_3).toUInt32 >>> (((4 : Int32)).toUInt32 &&& Int32.toUInt32 31)).toInt32) &&& (252645135 : Int32)) → (∀ x0_7 : Int32, x0_7 = (x0_5 + ((x0_5).toUInt32 >>> (((8 : Int32)).toUInt32 &&& Int32.toUInt32 31)).toInt32) → (∀ x0_9 : Int32, x0_9 = (x0_7 + ((x0_7).toUInt32 >>> (((16 : Int32)).toUInt32 &&& Int32.toUInt32 31)).toInt32) → (Q (x0_9 &&& (63 : Int32)))))))
def q_J6_bitCount_0f7a4 (p0 : Int32) (Q : Int32 → Prop) : Prop := F_J6_bitCount_0f7a4_e  Q p0
theorem hdS_J6_bitCount_0f7a4 : yJ6_bitCount_0f7a4.cls ≠ "java/lang/invoke/MethodHandle" ∧ yJ6_bitCount_0f7a4.cls ≠ "java/lang/invoke/VarHandle" ∧ (parseMethodDescriptor yJ6_bitCount_0f7a4.desc).map (fun d => d.parameters.length) = some 1 := by decide +kernel
set_option maxHeartbeats 4000000 in
set_option maxRecDepth 100000 in
theorem c_J6_bitCount_0f7a4 (l : Launch) (dC : Nat → ClassId) (dI : Nat → Nat → Nat) (cyC cyI cyZ : ClassId) (sz : Nat) (p0 : Int32) {Q : Int32 → Prop} (h : q_J6_bitCount_0f7a4 p0 Q) : Met l yJ6_bitCount_0f7a4 wsJ6_bitCount_0f7a4 ({ frames := 0, cells := 0, slots := 0, locals := 0 }) (gPc [.int p0] (dC, dI) (gTy cyC cyI cyZ) sz []) (gQi0 Q (dC, dI) (va_A [] sz) []) 0 0 (va_A [] sz) := by
  refine gMet (cc := cJ6_bitCount_0f7a4) (maxL := 1) (ret := (some .int)) (own := RJ6) (fun A => gQi0 Q (dC, dI) A []) (by decide) rfl rfl (Nat.le_of_ble_eq_true rfl) ?_
  intro p e s m below meth c A ls C0 _ hK hN hP hD hA hl
  obtain ⟨hx, hb, hr, hml, hown, hts, hlocks⟩ := id C0
  have hS : va_S A s.heap s.heap [] := va_S.rf
  replace hl : lv_has ls 1 [(0, .int p0)] := hl
  unfold q_J6_bitCount_0f7a4 at h
  unfold F_J6_bitCount_0f7a4_e at h
  refine lv_iload_n hx hb dJ6_bitCount_0f7a4_0 rfl (lv_at hl 0 rfl) ?_
  refine lv_iload_n hx hb dJ6_bitCount_0f7a4_1 rfl (lv_at hl 0 rfl) ?_
  refine lv_iconst (v := 1) hx hb dJ6_bitCount_0f7a4_2 (by decide) ?_
  refine lv_iushr hx hb dJ6_bitCount_0f7a4_3 rfl ?_
  refine lv_ldcw (v := 1431655765) hx hb hown (hts (.constant RJ6 265 (1431655765)) (by decide +kernel)) dJ6_bitCount_0f7a4_4 ?_
  refine lv_iand hx hb dJ6_bitCount_0f7a4_7 ?_
  refine lv_isub hx hb dJ6_bitCount_0f7a4_8 ?_
  refine lv_topi (fun x0_1 e_2 => ?_)
  replace h := h x0_1 e_2
  refine lv_istore_n (lv' := [(0, .int x0_1)]) hx hb dJ6_bitCount_0f7a4_9 rfl hl (by decide) rfl (fun ls hl => ?_)
  refine lv_iload_n hx hb dJ6_bitCount_0f7a4_10 rfl (lv_at hl 0 rfl) ?_
  refine lv_ldcw (v := 858993459) hx hb hown (hts (.constant RJ6 266 (858993459)) (by decide +kernel)) dJ6_bitCount_0f7a4_11 ?_
  refine lv_iand hx hb dJ6_bitCount_0f7a4_14 ?_
  refine lv_iload_n hx hb dJ6_bitCount_0f7a4_15 rfl (lv_at hl 0 rfl) ?_
  refine lv_iconst (v := 2) hx hb dJ6_bitCount_0f7a4_16 (by decide) ?_
  refine lv_iushr hx hb dJ6_bitCount_0f7a4_17 rfl ?_
  refine lv_ldcw (v := 858993459) hx hb hown (hts (.constant RJ6 266 (858993459)) (by decide +kernel)) dJ6_bitCount_0f7a4_18 ?_
  refine lv_iand hx hb dJ6_bitCount_0f7a4_21 ?_
  refine lv_iadd hx hb dJ6_bitCount_0f7a4_22 ?_
  refine lv_topi (fun x0_3 e_4 => ?_)
  replace h := h x0_3 e_4
  refine lv_istore_n (lv' := [(0, .int x0_3)]) hx hb dJ6_bitCount_0f7a4_23 rfl hl (by decide) rfl (fun ls hl => ?_)
  refine lv_iload_n hx hb dJ6_bitCount_0f7a4_24 rfl (lv_at hl 0 rfl) ?_
  refine lv_iload_n hx hb dJ6_bitCount_0f7a4_25 rfl (lv_at hl 0 rfl) ?_
  refine lv_iconst (v := 4) hx hb dJ6_bitCount_0f7a4_26 (by decide) ?_
  refine lv_iushr hx hb dJ6_bitCount_0f7a4_27 rfl ?_
  refine lv_iadd hx hb dJ6_bitCount_0f7a4_28 ?_
  refine lv_ldcw (v := 252645135) hx hb hown (hts (.constant RJ6 267 (252645135)) (by decide +kernel)) dJ6_bitCount_0f7a4_29 ?_
  refine lv_iand hx hb dJ6_bitCount_0f7a4_32 ?_
  refine lv_topi (fun x0_5 e_6 => ?_)
  replace h := h x0_5 e_6
  refine lv_istore_n (lv' := [(0, .int x0_5)]) hx hb dJ6_bitCount_0f7a4_33 rfl hl (by decide) rfl (fun ls hl => ?_)
  refine lv_iload_n hx hb dJ6_bitCount_0f7a4_34 rfl (lv_at hl 0 rfl) ?_
  refine lv_iload_n hx hb dJ6_bitCount_0f7a4_35 rfl (lv_at hl 0 rfl) ?_
  refine lv_bipush (v := 8) hx hb dJ6_bitCount_0f7a4_36 (by decide) ?_
  refine lv_iushr hx hb dJ6_bitCount_0f7a4_38 rfl ?_
  refine lv_iadd hx hb dJ6_bitCount_0f7a4_39 ?_
  refine lv_topi (fun x0_7 e_8 => ?_)
  replace h := h x0_7 e_8
  refine lv_istore_n (lv' := [(0, .int x0_7)]) hx hb dJ6_bitCount_0f7a4_40 rfl hl (by decide) rfl (fun ls hl => ?_)
  refine lv_iload_n hx hb dJ6_bitCount_0f7a4_41 rfl (lv_at hl 0 rfl) ?_
  refine lv_iload_n hx hb dJ6_bitCount_0f7a4_42 rfl (lv_at hl 0 rfl) ?_
  refine lv_bipush (v := 16) hx hb dJ6_bitCount_0f7a4_43 (by decide) ?_
  refine lv_iushr hx hb dJ6_bitCount_0f7a4_45 rfl ?_
  refine lv_iadd hx hb dJ6_bitCount_0f7a4_46 ?_
  refine lv_topi (fun x0_9 e_10 => ?_)
  replace h := h x0_9 e_10
  refine lv_istore_n (lv' := [(0, .int x0_9)]) hx hb dJ6_bitCount_0f7a4_47 rfl hl (by decide) rfl (fun ls hl => ?_)
  refine lv_iload_n hx hb dJ6_bitCount_0f7a4_48 rfl (lv_at hl 0 rfl) ?_
  refine lv_bipush (v := 63) hx hb dJ6_bitCount_0f7a4_49 (by decide) ?_
  refine lv_iand hx hb dJ6_bitCount_0f7a4_51 ?_
  exact gri0 hx hb hr hlocks h hP hD hS dJ6_bitCount_0f7a4_52

def F_X4_beside_e (v_w : Int32) (v_all : Int32) (v_left : Int32) (v_right : Int32) (p0 : Int32) (Q : Int32 → Prop)  : Prop :=
  ∀ x2_1 : Int32, x2_1 = (((p0 &&& (v_left ^^^ (-1 : Int32))) >>> ((1 : Int32) &&& 31)) ||| ((p0 &&& (v_right ^^^ (-1 : Int32))) <<< ((1 : Int32) &&& 31))) → (Q (v_all &&& (((p0 >>> (v_w &&& 31)) ||| (p0 <<< (v_w &&& 31))) ||| x2_1)))
def q_X4_beside (v_w : Int32) (v_all : Int32) (v_left : Int32) (v_right : Int32) (p0 : Int32) (Q : Int32 → Prop) : Prop := F_X4_beside_e v_w v_all v_left v_right p0 Q 
theorem iwX4_beside_X4 : ∀ w ∈ wsX40, w ∈ wsX4_beside := by decide +kernel
theorem hdV_X4_beside : yX4_beside.cls = RX4 ∧ yX4_beside.cls ≠ "java/lang/invoke/MethodHandle" ∧ yX4_beside.cls ≠ "java/lang/invoke/VarHandle" ∧ (parseMethodDescriptor yX4_beside.desc).map (fun d => d.parameters.length) = some 1 := by decide +kernel
set_option maxHeartbeats 4000000 in
set_option maxRecDepth 100000 in
theorem c_X4_beside (l : Launch) (dC : Nat → ClassId) (dI : Nat → Nat → Nat) (cyC cyI cyZ : ClassId) (sz : Nat) (a a_parts : Nat) (v_w : Int32) (v_h : Int32) (v_all : Int32) (v_top : Int32) (v_left : Int32) (v_right : Int32) (p0 : Int32) {Q : Int32 → Prop} (h : q_X4_beside v_w v_all v_left v_right p0 Q) : Met l yX4_beside wsX4_beside ({ frames := 0, cells := 0, slots := 0, locals := 0 }) (gPc [.ref a, .int p0] (dC, dI) (gTy cyC cyI cyZ) sz [(a, .inr (4, [.int v_w, .int v_h, .ref a_parts, .int v_all, .int v_top, .int v_left, .int v_right]))]) (gQi0 Q (dC, dI) (va_A [(a, .inr (4, [.int v_w, .int v_h, .ref a_parts, .int v_all, .int v_top, .int v_left, .int v_right]))] sz) [(a, .inr (4, [.int v_w, .int v_h, .ref a_parts, .int v_all, .int v_top, .int v_left, .int v_right]))]) 0 0 (va_A [(a, .inr (4, [.int v_w, .int v_h, .ref a_parts, .int v_all, .int v_top, .int v_left, .int v_right]))] sz) := by
  refine gMet (cc := cX4_beside) (maxL := 3) (ret := (some .int)) (own := RX4) (fun A => gQi0 Q (dC, dI) A [(a, .inr (4, [.int v_w, .int v_h, .ref a_parts, .int v_all, .int v_top, .int v_left, .int v_right]))]) (by decide) rfl rfl (Nat.le_of_ble_eq_true rfl) ?_
  intro p e s m below meth c A ls C0 _ hK hN hP hD hA hl
  obtain ⟨hx, hb, hr, hml, hown, hts, hlocks⟩ := id C0
  have f15 := hts (.fieldLink RX4 15 "LastOchre$Seam" "w" "I") (by decide +kernel)
  have f22 := hts (.fieldLink RX4 22 "LastOchre$Seam" "all" "I") (by decide +kernel)
  have f28 := hts (.fieldLink RX4 28 "LastOchre$Seam" "left" "I") (by decide +kernel)
  have f31 := hts (.fieldLink RX4 31 "LastOchre$Seam" "right" "I") (by decide +kernel)
  have hS : va_S A s.heap s.heap [] := va_S.rf
  replace hl : lv_has ls 3 [(0, .ref a), (1, .int p0)] := hl
  unfold q_X4_beside at h
  unfold F_X4_beside_e at h
  refine lv_iload_n hx hb dX4_beside_0 rfl (lv_at hl 1 rfl) ?_
  refine lv_aload_n hx hb dX4_beside_1 rfl (lv_at hl 0 rfl) ?_
  refine va_get (D := (dC, dI)) (ci := 4) (v := .int v_left) (C := RX4) (T := TX4) (N := 7) hx hb hts iwX4_beside_X4 hown hK hP 0 rfl rfl 5 (by decide) f28 (fun _ h9 => h9) rfl dX4_beside_2 ?_
  refine lv_iconst (v := -1) hx hb dX4_beside_5 (by decide) ?_
  refine lv_ixor hx hb dX4_beside_6 ?_
  refine lv_iand hx hb dX4_beside_7 ?_
  refine lv_iconst (v := 1) hx hb dX4_beside_8 (by decide) ?_
  refine lv_ishr hx hb dX4_beside_9 ?_
  refine lv_iload_n hx hb dX4_beside_10 rfl (lv_at hl 1 rfl) ?_
  refine lv_aload_n hx hb dX4_beside_11 rfl (lv_at hl 0 rfl) ?_
  refine va_get (D := (dC, dI)) (ci := 4) (v := .int v_right) (C := RX4) (T := TX4) (N := 7) hx hb hts iwX4_beside_X4 hown hK hP 0 rfl rfl 6 (by decide) f31 (fun _ h9 => h9) rfl dX4_beside_12 ?_
  refine lv_iconst (v := -1) hx hb dX4_beside_15 (by decide) ?_
  refine lv_ixor hx hb dX4_beside_16 ?_
  refine lv_iand hx hb dX4_beside_17 ?_
  refine lv_iconst (v := 1) hx hb dX4_beside_18 (by decide) ?_
  refine lv_ishl hx hb dX4_beside_19 ?_
  refine lv_ior hx hb dX4_beside_20 ?_
  refine lv_topi (fun x2_1 e_2 => ?_)
  replace h := h x2_1 e_2
  refine lv_istore_n (lv' := [(2, .int x2_1), (0, .ref a), (1, .int p0)]) hx hb dX4_beside_21 rfl hl (by decide) rfl (fun ls hl => ?_)
  refine lv_aload_n hx hb dX4_beside_22 rfl (lv_at hl 1 rfl) ?_
  refine va_get (D := (dC, dI)) (ci := 4) (v := .int v_all) (C := RX4) (T := TX4) (N := 7) hx hb hts iwX4_beside_X4 hown hK hP 0 rfl rfl 3 (by decide) f22 (fun _ h9 => h9) rfl dX4_beside_23 ?_
  refine lv_iload_n hx hb dX4_beside_26 rfl (lv_at hl 2 rfl) ?_
  refine lv_aload_n hx hb dX4_beside_27 rfl (lv_at hl 1 rfl) ?_
  refine va_get (D := (dC, dI)) (ci := 4) (v := .int v_w) (C := RX4) (T := TX4) (N := 7) hx hb hts iwX4_beside_X4 hown hK hP 0 rfl rfl 0 (by decide) f15 (fun _ h9 => h9) rfl dX4_beside_28 ?_
  refine lv_ishr hx hb dX4_beside_31 ?_
  refine lv_iload_n hx hb dX4_beside_32 rfl (lv_at hl 2 rfl) ?_
  refine lv_aload_n hx hb dX4_beside_33 rfl (lv_at hl 1 rfl) ?_
  refine va_get (D := (dC, dI)) (ci := 4) (v := .int v_w) (C := RX4) (T := TX4) (N := 7) hx hb hts iwX4_beside_X4 hown hK hP 0 rfl rfl 0 (by decide) f15 (fun _ h9 => h9) rfl dX4_beside_34 ?_
  refine lv_ishl hx hb dX4_beside_37 ?_
  refine lv_ior hx hb dX4_beside_38 ?_
  refine lv_iload_n hx hb dX4_beside_39 rfl (lv_at hl 0 rfl) ?_
  refine lv_ior hx hb dX4_beside_40 ?_
  refine lv_iand hx hb dX4_beside_41 ?_
  exact gri0 hx hb hr hlocks h hP hD hS dX4_beside_42

def F_X4_openFrom_e (v_w : Int32) (v_all : Int32) (v_top : Int32) (v_left : Int32) (v_right : Int32) (p0 : Int32) (Q : Int32 → Prop)  : Prop :=
  q_X4_beside v_w v_all v_left v_right p0 (fun (r_1 : Int32) => Q ((v_all &&& (p0 ^^^ (-1 : Int32))) &&& (v_top ||| r_1)))
def q_X4_openFrom (v_w : Int32) (v_all : Int32) (v_top : Int32) (v_left : Int32) (v_right : Int32) (p0 : Int32) (Q : Int32 → Prop) : Prop := F_X4_openFrom_e v_w v_all v_top v_left v_right p0 Q 
theorem iwX4_openFrom_X4 : ∀ w ∈ wsX40, w ∈ wsX4_openFrom := by decide +kernel
theorem hdV_X4_openFrom : yX4_openFrom.cls = RX4 ∧ yX4_openFrom.cls ≠ "java/lang/invoke/MethodHandle" ∧ yX4_openFrom.cls ≠ "java/lang/invoke/VarHandle" ∧ (parseMethodDescriptor yX4_openFrom.desc).map (fun d => d.parameters.length) = some 1 := by decide +kernel
set_option maxHeartbeats 4000000 in
set_option maxRecDepth 100000 in
theorem c_X4_openFrom (l : Launch) (dC : Nat → ClassId) (dI : Nat → Nat → Nat) (cyC cyI cyZ : ClassId) (sz : Nat) (a a_parts : Nat) (v_w : Int32) (v_h : Int32) (v_all : Int32) (v_top : Int32) (v_left : Int32) (v_right : Int32) (p0 : Int32) {Q : Int32 → Prop} (h : q_X4_openFrom v_w v_all v_top v_left v_right p0 Q) : Met l yX4_openFrom wsX4_openFrom ({ frames := 1, cells := 0, slots := 0, locals := 22 }) (gPc [.ref a, .int p0] (dC, dI) (gTy cyC cyI cyZ) sz [(a, .inr (4, [.int v_w, .int v_h, .ref a_parts, .int v_all, .int v_top, .int v_left, .int v_right]))]) (gQi0 Q (dC, dI) (va_A [(a, .inr (4, [.int v_w, .int v_h, .ref a_parts, .int v_all, .int v_top, .int v_left, .int v_right]))] sz) [(a, .inr (4, [.int v_w, .int v_h, .ref a_parts, .int v_all, .int v_top, .int v_left, .int v_right]))]) 0 0 (va_A [(a, .inr (4, [.int v_w, .int v_h, .ref a_parts, .int v_all, .int v_top, .int v_left, .int v_right]))] sz) := by
  refine gMet (cc := cX4_openFrom) (maxL := 2) (ret := (some .int)) (own := RX4) (fun A => gQi0 Q (dC, dI) A [(a, .inr (4, [.int v_w, .int v_h, .ref a_parts, .int v_all, .int v_top, .int v_left, .int v_right]))]) (by decide) rfl rfl (Nat.le_of_ble_eq_true rfl) ?_
  intro p e s m below meth c A ls C0 _ hK hN hP hD hA hl
  obtain ⟨hx, hb, hr, hml, hown, hts, hlocks⟩ := id C0
  have f22 := hts (.fieldLink RX4 22 "LastOchre$Seam" "all" "I") (by decide +kernel)
  have f25 := hts (.fieldLink RX4 25 "LastOchre$Seam" "top" "I") (by decide +kernel)
  have hS : va_S A s.heap s.heap [] := va_S.rf
  replace hl : lv_has ls 2 [(0, .ref a), (1, .int p0)] := hl
  unfold q_X4_openFrom at h
  unfold F_X4_openFrom_e at h
  refine lv_aload_n hx hb dX4_openFrom_0 rfl (lv_at hl 0 rfl) ?_
  refine va_get (D := (dC, dI)) (ci := 4) (v := .int v_all) (C := RX4) (T := TX4) (N := 7) hx hb hts iwX4_openFrom_X4 hown hK hP 0 rfl rfl 3 (by decide) f22 (fun _ h9 => h9) rfl dX4_openFrom_1 ?_
  refine lv_iload_n hx hb dX4_openFrom_4 rfl (lv_at hl 1 rfl) ?_
  refine lv_iconst (v := -1) hx hb dX4_openFrom_5 (by decide) ?_
  refine lv_ixor hx hb dX4_openFrom_6 ?_
  refine lv_iand hx hb dX4_openFrom_7 ?_
  refine lv_aload_n hx hb dX4_openFrom_8 rfl (lv_at hl 0 rfl) ?_
  refine va_get (D := (dC, dI)) (ci := 4) (v := .int v_top) (C := RX4) (T := TX4) (N := 7) hx hb hts iwX4_openFrom_X4 hown hK hP 0 rfl rfl 4 (by decide) f25 (fun _ h9 => h9) rfl dX4_openFrom_9 ?_
  refine lv_aload_n hx hb dX4_openFrom_12 rfl (lv_at hl 0 rfl) ?_
  refine lv_iload_n hx hb dX4_openFrom_13 rfl (lv_at hl 1 rfl) ?_
  refine gV_i0 (As := [.int p0]) (rest := [.int v_top, .int (v_all &&& (p0 ^^^ (-1 : Int32)))]) ⟨hx, hb, hml, hown, hts⟩ (c_X4_beside l dC dI cyC cyI cyZ _ a a_parts v_w v_h v_all v_top v_left v_right p0 h) (cwV 1 hts gX4_openFrom_X4_beside rfl rfl rfl hdV_X4_beside ⟨Nat.le_of_ble_eq_true rfl, Nat.le_of_ble_eq_true rfl⟩) hK hN hP hD hS hA [0] (by decide) rfl (ci := 4) rfl rfl rfl hl.1 rfl (Nat.le_of_ble_eq_true rfl) dX4_openFrom_14 ⟨Nat.zero_le _, Nat.zero_le _⟩ (fun r_1 H locs h hP hS => ?_)
  refine lv_ior hx hb dX4_openFrom_17 ?_
  refine lv_iand hx hb dX4_openFrom_18 ?_
  exact gri0 hx hb hr hlocks h hP hD hS dX4_openFrom_19

def F_X4_canAllBeDug_e (v_w : Int32) (v_all : Int32) (v_top : Int32) (v_left : Int32) (v_right : Int32) (p0 : Int32) (p1 : Int32) (Q : Int32 → Prop) (rec : Nat → Int32 → Int32 → Prop)  : Prop :=
  q_X4_openFrom v_w v_all v_top v_left v_right p1 (fun (r_1 : Int32) => ∀ x3_2 : Int32, x3_2 = (p0 &&& r_1) → (rec 11 x3_2 (0 : Int32)))
def F_X4_canAllBeDug_11 (v_w : Int32) (v_all : Int32) (v_top : Int32) (v_left : Int32) (v_right : Int32) (p0 : Int32) (p1 : Int32) (Q : Int32 → Prop) (rec : Nat → Int32 → Int32 → Prop) (x3 : Int32) (x4 : Int32) : Prop :=
  ((16 : Int32) ≤ x4 → (rec 47 x3 0)) ∧ (¬ (16 : Int32) ≤ x4 → (q_X4_beside v_w v_all v_left v_right x3 (fun (r_5 : Int32) => ∀ x5_6 : Int32, x5_6 = (x3 ||| (p0 &&& r_5)) → ((¬ x5_6 = x3 → (∀ x4_9 : Int32, x4_9 = (x4 + (1 : Int32)) → (rec 11 x5_6 x4_9))) ∧ (x5_6 = x3 → (rec 47 x3 0))))))
def F_X4_canAllBeDug_47 (v_w : Int32) (v_all : Int32) (v_top : Int32) (v_left : Int32) (v_right : Int32) (p0 : Int32) (p1 : Int32) (Q : Int32 → Prop) (rec : Nat → Int32 → Int32 → Prop) (x3 : Int32) (x4 : Int32) : Prop :=
  (¬ x3 = p0 → (Q (0 : Int32))) ∧ (x3 = p0 → (Q (1 : Int32)))
def wp_X4_canAllBeDug (v_w : Int32) (v_all : Int32) (v_top : Int32) (v_left : Int32) (v_right : Int32) (p0 : Int32) (p1 : Int32) (Q : Int32 → Prop) : Nat → Nat → Int32 → Int32 → Prop
  | 0 => fun _ _ _ => False
  | n + 1 => fun t x3 x4 => if t = 11 then F_X4_canAllBeDug_11 v_w v_all v_top v_left v_right p0 p1 Q (wp_X4_canAllBeDug v_w v_all v_top v_left v_right p0 p1 Q n) x3 x4 else if t = 47 then F_X4_canAllBeDug_47 v_w v_all v_top v_left v_right p0 p1 Q (wp_X4_canAllBeDug v_w v_all v_top v_left v_right p0 p1 Q n) x3 x4 else False
def q_X4_canAllBeDug (v_w : Int32) (v_all : Int32) (v_top : Int32) (v_left : Int32) (v_right : Int32) (p0 : Int32) (p1 : Int32) (Q : Int32 → Prop) : Prop := ∃ n, F_X4_canAllBeDug_e v_w v_all v_top v_left v_right p0 p1 Q (wp_X4_canAllBeDug v_w v_all v_top v_left v_right p0 p1 Q n) 
theorem hdV_X4_canAllBeDug : yX4_canAllBeDug.cls = RX4 ∧ yX4_canAllBeDug.cls ≠ "java/lang/invoke/MethodHandle" ∧ yX4_canAllBeDug.cls ≠ "java/lang/invoke/VarHandle" ∧ (parseMethodDescriptor yX4_canAllBeDug.desc).map (fun d => d.parameters.length) = some 2 := by decide +kernel
set_option maxHeartbeats 4000000 in
set_option maxRecDepth 100000 in
theorem w_X4_canAllBeDug {p : Program} {l : Launch} {e : Env} {s : State} {m : MethodId} {args : Array Value} {below : List Frame} {meth : Method} {c : Code} {A : Nat → Prop} (dC : Nat → ClassId) (dI : Nat → Nat → Nat) (cyC cyI cyZ : ClassId) (a a_parts : Nat) (v_w : Int32) (v_h : Int32) (v_all : Int32) (v_top : Int32) (v_left : Int32) (v_right : Int32) (p0 : Int32) (p1 : Int32) (Q : Int32 → Prop) (C0 : gAt cX4_canAllBeDug (some .boolean) 6 RX4 wsX4_canAllBeDug p s m meth c args) (hK : va_K (dC, dI) vwCl (gTy cyC cyI cyZ) s) (hN : nU s) (hA : ∀ q, s.heap.size ≤ q → A q) : ∀ n : Nat, (∀ (x3 : Int32) (x4 : Int32) (H : Heap) (locs : List Loc) (ls : Array Slot), wp_X4_canAllBeDug v_w v_all v_top v_left v_right p0 p1 Q n 11 x3 x4 → va_P (dC, dI) vwCl [(a, .inr (4, [.int v_w, .int v_h, .ref a_parts, .int v_all, .int v_top, .int v_left, .int v_right]))] H → va_D A [(a, .inr (4, [.int v_w, .int v_h, .ref a_parts, .int v_all, .int v_top, .int v_left, .int v_right]))] → va_S A s.heap H locs → lv_has ls 6 [(0, .ref a), (1, .int p0), (3, .int x3), (4, .int x4)] → W p l e { frames := 2, cells := 0, slots := 0, locals := 43 } s m args below meth c H locs 0 0 (MQ below (gQi0 Q (dC, dI) A [(a, .inr (4, [.int v_w, .int v_h, .ref a_parts, .int v_all, .int v_top, .int v_left, .int v_right]))]) args s 0 0 A) (F0 m 11 ls [])) ∧ (∀ (x3 : Int32) (x4 : Int32) (H : Heap) (locs : List Loc) (ls : Array Slot), wp_X4_canAllBeDug v_w v_all v_top v_left v_right p0 p1 Q n 47 x3 x4 → va_P (dC, dI) vwCl [(a, .inr (4, [.int v_w, .int v_h, .ref a_parts, .int v_all, .int v_top, .int v_left, .int v_right]))] H → va_D A [(a, .inr (4, [.int v_w, .int v_h, .ref a_parts, .int v_all, .int v_top, .int v_left, .int v_right]))] → va_S A s.heap H locs → lv_has ls 6 [(1, .int p0), (3, .int x3)] → W p l e { frames := 2, cells := 0, slots := 0, locals := 43 } s m args below meth c H locs 0 0 (MQ below (gQi0 Q (dC, dI) A [(a, .inr (4, [.int v_w, .int v_h, .ref a_parts, .int v_all, .int v_top, .int v_left, .int v_right]))]) args s 0 0 A) (F0 m 47 ls [])) := by
  obtain ⟨hx, hb, hr, hml, hown, hts, hlocks⟩ := id C0
  intro n
  induction n with
  | zero => exact ⟨fun _ _ _ _ _ h => absurd h id, fun _ _ _ _ _ h => absurd h id⟩
  | succ n ih =>
    obtain ⟨ih11, ih47⟩ := ih
    refine ⟨?_, ?_⟩
    · intro x3 x4 H locs ls h hP hD hS hl
      replace h : F_X4_canAllBeDug_11 v_w v_all v_top v_left v_right p0 p1 Q (wp_X4_canAllBeDug v_w v_all v_top v_left v_right p0 p1 Q n) x3 x4 := h
      unfold F_X4_canAllBeDug_11 at h
      refine lv_iload hx hb dX4_canAllBeDug_11 (lv_at hl 3 rfl) ?_
      refine lv_bipush (v := 16) hx hb dX4_canAllBeDug_13 (by decide) ?_
      refine lv_icmp_ge (tgt := 47) hx hb dX4_canAllBeDug_15 (by decide) (fun c_4 => ?_) (fun c_4 => ?_)
      · replace h := h.1 c_4
        exact ih47 x3 0 _ _ _ h hP hD hS (lv_sub hl [1, 2] rfl)
      · replace h := h.2 c_4
        refine lv_iload_n hx hb dX4_canAllBeDug_18 rfl (lv_at hl 2 rfl) ?_
        refine lv_iload_n hx hb dX4_canAllBeDug_19 rfl (lv_at hl 1 rfl) ?_
        refine lv_aload_n hx hb dX4_canAllBeDug_20 rfl (lv_at hl 0 rfl) ?_
        refine lv_iload_n hx hb dX4_canAllBeDug_21 rfl (lv_at hl 2 rfl) ?_
        refine gV_i0 (As := [.int x3]) (rest := [.int p0, .int x3]) ⟨hx, hb, hml, hown, hts⟩ (c_X4_beside l dC dI cyC cyI cyZ _ a a_parts v_w v_h v_all v_top v_left v_right x3 h) (cwV 1 hts gX4_canAllBeDug_X4_beside rfl rfl rfl hdV_X4_beside ⟨Nat.le_of_ble_eq_true rfl, Nat.le_of_ble_eq_true rfl⟩) hK hN hP hD hS hA [0] (by decide) rfl (ci := 4) rfl rfl rfl hl.1 rfl (Nat.le_of_ble_eq_true rfl) dX4_canAllBeDug_22 ⟨Nat.zero_le _, Nat.zero_le _⟩ (fun r_5 H locs h hP hS => ?_)
        refine lv_iand hx hb dX4_canAllBeDug_25 ?_
        refine lv_ior hx hb dX4_canAllBeDug_26 ?_
        refine lv_topi (fun x5_6 e_7 => ?_)
        replace h := h x5_6 e_7
        refine lv_istore (lv' := [(5, .int x5_6), (0, .ref a), (1, .int p0), (3, .int x3), (4, .int x4)]) hx hb dX4_canAllBeDug_27 hl (by decide) rfl (fun ls hl => ?_)
        refine lv_iload hx hb dX4_canAllBeDug_29 (lv_at hl 0 rfl) ?_
        refine lv_iload_n hx hb dX4_canAllBeDug_31 rfl (lv_at hl 3 rfl) ?_
        refine lv_icmp_ne (tgt := 38) hx hb dX4_canAllBeDug_32 (by decide) (fun c_8 => ?_) (fun c_8 => ?_)
        · replace h := h.1 c_8
          refine lv_iload hx hb dX4_canAllBeDug_38 (lv_at hl 0 rfl) ?_
          refine lv_istore_n (lv' := [(3, .int x5_6), (5, .int x5_6), (0, .ref a), (1, .int p0), (4, .int x4)]) hx hb dX4_canAllBeDug_40 rfl hl (by decide) rfl (fun ls hl => ?_)
          obtain ⟨x4_9, e_10⟩ : ∃ y : Int32, y = (x4 + (1 : Int32)) := ⟨_, rfl⟩
          replace h := h x4_9 e_10
          refine lv_iinc (v := x4_9) (lv' := [(4, .int x4_9), (3, .int x5_6), (5, .int x5_6), (0, .ref a), (1, .int p0)]) hx hb dX4_canAllBeDug_41 hl (k := 4) rfl (by rw [e_10]; rfl) (by decide) rfl (fun ls hl => ?_)
          refine lv_goto (tgt := 11) hx hb dX4_canAllBeDug_44 (by decide) ?_
          exact ih11 x5_6 x4_9 _ _ _ h hP hD hS (lv_sub hl [3, 4, 1, 0] rfl)
        · replace h := h.2 c_8
          refine lv_goto (tgt := 47) hx hb dX4_canAllBeDug_35 (by decide) ?_
          exact ih47 x3 0 _ _ _ h hP hD hS (lv_sub hl [2, 3] rfl)
    · intro x3 x4 H locs ls h hP hD hS hl
      replace h : F_X4_canAllBeDug_47 v_w v_all v_top v_left v_right p0 p1 Q (wp_X4_canAllBeDug v_w v_all v_top v_left v_right p0 p1 Q n) x3 x4 := h
      unfold F_X4_canAllBeDug_47 at h
      refine lv_iload_n hx hb dX4_canAllBeDug_47 rfl (lv_at hl 1 rfl) ?_
      refine lv_iload_n hx hb dX4_canAllBeDug_48 rfl (lv_at hl 0 rfl) ?_
      refine lv_icmp_ne (tgt := 56) hx hb dX4_canAllBeDug_49 (by decide) (fun c_11 => ?_) (fun c_11 => ?_)
      · replace h := h.1 c_11
        refine lv_iconst (v := 0) hx hb dX4_canAllBeDug_56 (by decide) ?_
        exact grz0 hx hb hr hlocks rfl h hP hD hS dX4_canAllBeDug_57
      · replace h := h.2 c_11
        refine lv_iconst (v := 1) hx hb dX4_canAllBeDug_52 (by decide) ?_
        refine lv_goto (tgt := 57) hx hb dX4_canAllBeDug_53 (by decide) ?_
        exact grz0 hx hb hr hlocks rfl h hP hD hS dX4_canAllBeDug_57
set_option maxHeartbeats 4000000 in
set_option maxRecDepth 100000 in
theorem c_X4_canAllBeDug (l : Launch) (dC : Nat → ClassId) (dI : Nat → Nat → Nat) (cyC cyI cyZ : ClassId) (sz : Nat) (a a_parts : Nat) (v_w : Int32) (v_h : Int32) (v_all : Int32) (v_top : Int32) (v_left : Int32) (v_right : Int32) (p0 : Int32) (p1 : Int32) {Q : Int32 → Prop} (h : q_X4_canAllBeDug v_w v_all v_top v_left v_right p0 p1 Q) : Met l yX4_canAllBeDug wsX4_canAllBeDug ({ frames := 2, cells := 0, slots := 0, locals := 43 }) (gPc [.ref a, .int p0, .int p1] (dC, dI) (gTy cyC cyI cyZ) sz [(a, .inr (4, [.int v_w, .int v_h, .ref a_parts, .int v_all, .int v_top, .int v_left, .int v_right]))]) (gQi0 Q (dC, dI) (va_A [(a, .inr (4, [.int v_w, .int v_h, .ref a_parts, .int v_all, .int v_top, .int v_left, .int v_right]))] sz) [(a, .inr (4, [.int v_w, .int v_h, .ref a_parts, .int v_all, .int v_top, .int v_left, .int v_right]))]) 0 0 (va_A [(a, .inr (4, [.int v_w, .int v_h, .ref a_parts, .int v_all, .int v_top, .int v_left, .int v_right]))] sz) := by
  refine gMet (cc := cX4_canAllBeDug) (maxL := 6) (ret := (some .boolean)) (own := RX4) (fun A => gQi0 Q (dC, dI) A [(a, .inr (4, [.int v_w, .int v_h, .ref a_parts, .int v_all, .int v_top, .int v_left, .int v_right]))]) (by decide) rfl rfl (Nat.le_of_ble_eq_true rfl) ?_
  intro p e s m below meth c A ls C0 _ hK hN hP hD hA hl
  obtain ⟨hx, hb, hr, hml, hown, hts, hlocks⟩ := id C0
  have hS : va_S A s.heap s.heap [] := va_S.rf
  replace hl : lv_has ls 6 [(0, .ref a), (1, .int p0), (2, .int p1)] := hl
  unfold q_X4_canAllBeDug at h
  obtain ⟨n, h⟩ := h
  obtain ⟨ih11, ih47⟩ := w_X4_canAllBeDug (l := l) (e := e) (below := below) dC dI cyC cyI cyZ a a_parts v_w v_h v_all v_top v_left v_right p0 p1 Q C0 hK hN hA n
  unfold F_X4_canAllBeDug_e at h
  refine lv_iload_n hx hb dX4_canAllBeDug_0 rfl (lv_at hl 1 rfl) ?_
  refine lv_aload_n hx hb dX4_canAllBeDug_1 rfl (lv_at hl 0 rfl) ?_
  refine lv_iload_n hx hb dX4_canAllBeDug_2 rfl (lv_at hl 2 rfl) ?_
  refine gV_i0 (As := [.int p1]) (rest := [.int p0]) ⟨hx, hb, hml, hown, hts⟩ (c_X4_openFrom l dC dI cyC cyI cyZ _ a a_parts v_w v_h v_all v_top v_left v_right p1 h) (cwV 1 hts gX4_canAllBeDug_X4_openFrom rfl rfl rfl hdV_X4_openFrom ⟨Nat.le_of_ble_eq_true rfl, Nat.le_of_ble_eq_true rfl⟩) hK hN hP hD hS hA [0] (by decide) rfl (ci := 4) rfl rfl rfl hl.1 rfl (Nat.le_of_ble_eq_true rfl) dX4_canAllBeDug_3 ⟨Nat.zero_le _, Nat.zero_le _⟩ (fun r_1 H locs h hP hS => ?_)
  refine lv_iand hx hb dX4_canAllBeDug_6 ?_
  refine lv_topi (fun x3_2 e_3 => ?_)
  replace h := h x3_2 e_3
  refine lv_istore_n (lv' := [(3, .int x3_2), (0, .ref a), (1, .int p0), (2, .int p1)]) hx hb dX4_canAllBeDug_7 rfl hl (by decide) rfl (fun ls hl => ?_)
  refine lv_iconst (v := 0) hx hb dX4_canAllBeDug_8 (by decide) ?_
  refine lv_istore (lv' := [(4, .int (0 : Int32)), (3, .int x3_2), (0, .ref a), (1, .int p0), (2, .int p1)]) hx hb dX4_canAllBeDug_9 hl (by decide) rfl (fun ls hl => ?_)
  exact ih11 x3_2 (0 : Int32) _ _ _ h hP hD hS (lv_sub hl [2, 3, 1, 0] rfl)

def F_X0_weigh_e (v_lowSums : Nat → Int32) (v_highSums : Nat → Int32) (w0_w : Int32) (w0_all : Int32) (w0_top : Int32) (w0_left : Int32) (w0_right : Int32) (p1 : Int32) (p2 : Int32) (Q : (Nat → Int32) → (Nat → Int32) → Prop) (v_sums : Nat → Int32) (v_sets : Nat → Int32) : Prop :=
  q_J6_bitCount_0f7a4 p2 (fun (r_1 : Int32) => vp_in (p2 &&& (255 : Int32)) 256 ∧ (vp_in ((p2 >>> ((8 : Int32) &&& 31)) &&& (255 : Int32)) 256 ∧ (∀ x5_4 : Int32, x5_4 = ((v_lowSums ((p2 &&& (255 : Int32))).toNatClampNeg) + (v_highSums (((p2 >>> ((8 : Int32) &&& 31)) &&& (255 : Int32))).toNatClampNeg)) → (((16 : Int32) < r_1 → (Q v_sums v_sets)) ∧ (¬ (16 : Int32) < r_1 → (vp_in r_1 17 ∧ ((x5_4 ≤ (v_sums (r_1).toNatClampNeg) → (Q v_sums v_sets)) ∧ (¬ x5_4 ≤ (v_sums (r_1).toNatClampNeg) → (q_X4_canAllBeDug w0_w w0_all w0_top w0_left w0_right p2 p1 (fun (r_9 : Int32) => (r_9 = 0 → (Q v_sums v_sets)) ∧ (¬ r_9 = 0 → (vp_in r_1 17 ∧ (∀ f_12 : Nat → Int32, f_12 = upd v_sums (r_1).toNatClampNeg x5_4 → (vp_in r_1 17 ∧ (∀ f_15 : Nat → Int32, f_15 = upd v_sets (r_1).toNatClampNeg p2 → (Q f_12 f_15))))))))))))))))
def q_X0_weigh (v_lowSums : Nat → Int32) (v_highSums : Nat → Int32) (v_sums : Nat → Int32) (w0_w : Int32) (w0_all : Int32) (w0_top : Int32) (w0_left : Int32) (w0_right : Int32) (v_sets : Nat → Int32) (p1 : Int32) (p2 : Int32) (Q : (Nat → Int32) → (Nat → Int32) → Prop) : Prop := F_X0_weigh_e v_lowSums v_highSums w0_w w0_all w0_top w0_left w0_right p1 p2 Q v_sums v_sets
theorem iwX0_weigh_X0 : ∀ w ∈ wsX00, w ∈ wsX0_weigh := by decide +kernel
theorem hdV_X0_weigh : yX0_weigh.cls = RX0 ∧ yX0_weigh.cls ≠ "java/lang/invoke/MethodHandle" ∧ yX0_weigh.cls ≠ "java/lang/invoke/VarHandle" ∧ (parseMethodDescriptor yX0_weigh.desc).map (fun d => d.parameters.length) = some 3 := by decide +kernel
set_option maxHeartbeats 4000000 in
set_option maxRecDepth 100000 in
theorem c_X0_weigh (l : Launch) (dC : Nat → ClassId) (dI : Nat → Nat → Nat) (cyC cyI cyZ : ClassId) (sz : Nat) (a a_sets a_sums a_lowSums a_highSums b0 b0_parts : Nat) (v_lookedFrom : Int32) (v_lowSums : Nat → Int32) (v_highSums : Nat → Int32) (v_sums : Nat → Int32) (w0_w : Int32) (w0_h : Int32) (w0_all : Int32) (w0_top : Int32) (w0_left : Int32) (w0_right : Int32) (v_sets : Nat → Int32) (p1 : Int32) (p2 : Int32) {Q : (Nat → Int32) → (Nat → Int32) → Prop} (h : q_X0_weigh v_lowSums v_highSums v_sums w0_w w0_all w0_top w0_left w0_right v_sets p1 p2 Q) : Met l yX0_weigh wsX0_weigh ({ frames := 3, cells := 0, slots := 0, locals := 68 }) (gPc [.ref a, .ref b0, .int p1, .int p2] (dC, dI) (gTy cyC cyI cyZ) sz [(a, .inr (0, [.ref a_sets, .ref a_sums, .ref a_lowSums, .ref a_highSums, .int v_lookedFrom])), (a_lowSums, .inl (cyI, 256, .inl v_lowSums)), (a_highSums, .inl (cyI, 256, .inl v_highSums)), (a_sums, .inl (cyI, 17, .inl v_sums)), (b0, .inr (4, [.int w0_w, .int w0_h, .ref b0_parts, .int w0_all, .int w0_top, .int w0_left, .int w0_right])), (a_sets, .inl (cyI, 17, .inl v_sets))]) (gQv2 Q (dC, dI) (va_A [(a, .inr (0, [.ref a_sets, .ref a_sums, .ref a_lowSums, .ref a_highSums, .int v_lookedFrom])), (a_lowSums, .inl (cyI, 256, .inl v_lowSums)), (a_highSums, .inl (cyI, 256, .inl v_highSums)), (a_sums, .inl (cyI, 17, .inl v_sums)), (b0, .inr (4, [.int w0_w, .int w0_h, .ref b0_parts, .int w0_all, .int w0_top, .int w0_left, .int w0_right])), (a_sets, .inl (cyI, 17, .inl v_sets))] sz) (fun (u1 : Nat → Int32) (u2 : Nat → Int32) => [(a, .inr (0, [.ref a_sets, .ref a_sums, .ref a_lowSums, .ref a_highSums, .int v_lookedFrom])), (a_lowSums, .inl (cyI, 256, .inl v_lowSums)), (a_highSums, .inl (cyI, 256, .inl v_highSums)), (a_sums, .inl (cyI, 17, .inl u1)), (b0, .inr (4, [.int w0_w, .int w0_h, .ref b0_parts, .int w0_all, .int w0_top, .int w0_left, .int w0_right])), (a_sets, .inl (cyI, 17, .inl u2))])) 0 0 (va_A [(a, .inr (0, [.ref a_sets, .ref a_sums, .ref a_lowSums, .ref a_highSums, .int v_lookedFrom])), (a_lowSums, .inl (cyI, 256, .inl v_lowSums)), (a_highSums, .inl (cyI, 256, .inl v_highSums)), (a_sums, .inl (cyI, 17, .inl v_sums)), (b0, .inr (4, [.int w0_w, .int w0_h, .ref b0_parts, .int w0_all, .int w0_top, .int w0_left, .int w0_right])), (a_sets, .inl (cyI, 17, .inl v_sets))] sz) := by
  refine gMet (cc := cX0_weigh) (maxL := 6) (ret := none) (own := RX0) (fun A => gQv2 Q (dC, dI) A (fun (u1 : Nat → Int32) (u2 : Nat → Int32) => [(a, .inr (0, [.ref a_sets, .ref a_sums, .ref a_lowSums, .ref a_highSums, .int v_lookedFrom])), (a_lowSums, .inl (cyI, 256, .inl v_lowSums)), (a_highSums, .inl (cyI, 256, .inl v_highSums)), (a_sums, .inl (cyI, 17, .inl u1)), (b0, .inr (4, [.int w0_w, .int w0_h, .ref b0_parts, .int w0_all, .int w0_top, .int w0_left, .int w0_right])), (a_sets, .inl (cyI, 17, .inl u2))])) (by decide) rfl rfl (Nat.le_of_ble_eq_true rfl) ?_
  intro p e s m below meth c A ls C0 _ hK hN hP hD hA hl
  obtain ⟨hx, hb, hr, hml, hown, hts, hlocks⟩ := id C0
  have f15 := hts (.fieldLink RX0 15 "LastOchre$BestDigs" "sums" "[I") (by decide +kernel)
  have f18 := hts (.fieldLink RX0 18 "LastOchre$BestDigs" "lowSums" "[I") (by decide +kernel)
  have f21 := hts (.fieldLink RX0 21 "LastOchre$BestDigs" "highSums" "[I") (by decide +kernel)
  have f9 := hts (.fieldLink RX0 9 "LastOchre$BestDigs" "sets" "[I") (by decide +kernel)
  have hS : va_S A s.heap s.heap [] := va_S.rf
  replace hl : lv_has ls 6 [(0, .ref a), (1, .ref b0), (2, .int p1), (3, .int p2)] := hl
  unfold q_X0_weigh at h
  unfold F_X0_weigh_e at h
  refine lv_iload_n hx hb dX0_weigh_0 rfl (lv_at hl 3 rfl) ?_
  refine gS_i0 (As := [.int p2]) (rest := []) ⟨hx, hb, hml, hown, hts⟩ (c_J6_bitCount_0f7a4 l dC dI cyC cyI cyZ _ p2 h) (va_cwS 1 hts gX0_weigh_J6_bitCount_0f7a4 rfl rfl rfl hdS_J6_bitCount_0f7a4 ⟨Nat.le_of_ble_eq_true rfl, Nat.le_of_ble_eq_true rfl⟩) hK hN hP hD hS hA [] (by decide) rfl rfl hl.1 rfl (Nat.le_of_ble_eq_true rfl) dX0_weigh_1 ⟨Nat.zero_le _, Nat.zero_le _⟩ (fun r_1 H locs h hP hS => ?_)
  refine lv_istore (lv' := [(4, .int r_1), (0, .ref a), (1, .ref b0), (2, .int p1), (3, .int p2)]) hx hb dX0_weigh_4 hl (by decide) rfl (fun ls hl => ?_)
  refine lv_aload_n hx hb dX0_weigh_6 rfl (lv_at hl 1 rfl) ?_
  refine va_get (D := (dC, dI)) (ci := 0) (v := .ref a_lowSums) (C := RX0) (T := TX0) (N := 5) hx hb hts iwX0_weigh_X0 hown hK hP 0 rfl rfl 2 (by decide) f18 (fun _ h9 => h9) rfl dX0_weigh_7 ?_
  refine lv_iload_n hx hb dX0_weigh_10 rfl (lv_at hl 4 rfl) ?_
  refine lv_sipush (v := 255) hx hb dX0_weigh_11 (by decide) ?_
  refine lv_iand hx hb dX0_weigh_14 ?_
  have g_2 := h.1
  replace h := h.2
  refine va_iald hx hb hK hP 1 0 rfl rfl g_2 dX0_weigh_15 ?_
  refine lv_aload_n hx hb dX0_weigh_16 rfl (lv_at hl 1 rfl) ?_
  refine va_get (D := (dC, dI)) (ci := 0) (v := .ref a_highSums) (C := RX0) (T := TX0) (N := 5) hx hb hts iwX0_weigh_X0 hown hK hP 0 rfl rfl 3 (by decide) f21 (fun _ h9 => h9) rfl dX0_weigh_17 ?_
  refine lv_iload_n hx hb dX0_weigh_20 rfl (lv_at hl 4 rfl) ?_
  refine lv_bipush (v := 8) hx hb dX0_weigh_21 (by decide) ?_
  refine lv_ishr hx hb dX0_weigh_23 ?_
  refine lv_sipush (v := 255) hx hb dX0_weigh_24 (by decide) ?_
  refine lv_iand hx hb dX0_weigh_27 ?_
  have g_3 := h.1
  replace h := h.2
  refine va_iald hx hb hK hP 2 0 rfl rfl g_3 dX0_weigh_28 ?_
  refine lv_iadd hx hb dX0_weigh_29 ?_
  refine lv_topi (fun x5_4 e_5 => ?_)
  replace h := h x5_4 e_5
  refine lv_istore (lv' := [(5, .int x5_4), (4, .int r_1), (0, .ref a), (1, .ref b0), (2, .int p1), (3, .int p2)]) hx hb dX0_weigh_30 hl (by decide) rfl (fun ls hl => ?_)
  refine lv_iload hx hb dX0_weigh_32 (lv_at hl 1 rfl) ?_
  refine lv_bipush (v := 16) hx hb dX0_weigh_34 (by decide) ?_
  refine lv_icmp_gt (tgt := 77) hx hb dX0_weigh_36 (by decide) (fun c_6 => ?_) (fun c_6 => ?_)
  · replace h := h.1 c_6
    exact grv2 hx hb hr hlocks h hP hD hS dX0_weigh_77
  · replace h := h.2 c_6
    refine lv_iload hx hb dX0_weigh_39 (lv_at hl 0 rfl) ?_
    refine lv_aload_n hx hb dX0_weigh_41 rfl (lv_at hl 2 rfl) ?_
    refine va_get (D := (dC, dI)) (ci := 0) (v := .ref a_sums) (C := RX0) (T := TX0) (N := 5) hx hb hts iwX0_weigh_X0 hown hK hP 0 rfl rfl 1 (by decide) f15 (fun _ h9 => h9) rfl dX0_weigh_42 ?_
    refine lv_iload hx hb dX0_weigh_45 (lv_at hl 1 rfl) ?_
    have g_7 := h.1
    replace h := h.2
    refine va_iald hx hb hK hP 3 0 rfl rfl g_7 dX0_weigh_47 ?_
    refine lv_icmp_le (tgt := 77) hx hb dX0_weigh_48 (by decide) (fun c_8 => ?_) (fun c_8 => ?_)
    · replace h := h.1 c_8
      exact grv2 hx hb hr hlocks h hP hD hS dX0_weigh_77
    · replace h := h.2 c_8
      refine lv_aload_n hx hb dX0_weigh_51 rfl (lv_at hl 3 rfl) ?_
      refine lv_iload_n hx hb dX0_weigh_52 rfl (lv_at hl 5 rfl) ?_
      refine lv_iload_n hx hb dX0_weigh_53 rfl (lv_at hl 4 rfl) ?_
      refine gV_i0 (As := [.int p2, .int p1]) (rest := []) ⟨hx, hb, hml, hown, hts⟩ (c_X4_canAllBeDug l dC dI cyC cyI cyZ _ b0 b0_parts w0_w w0_h w0_all w0_top w0_left w0_right p2 p1 h) (cwV 2 hts gX0_weigh_X4_canAllBeDug rfl rfl rfl hdV_X4_canAllBeDug ⟨Nat.le_of_ble_eq_true rfl, Nat.le_of_ble_eq_true rfl⟩) hK hN hP hD hS hA [4] (by decide) rfl (ci := 4) rfl rfl rfl hl.1 rfl (Nat.le_of_ble_eq_true rfl) dX0_weigh_54 ⟨Nat.zero_le _, Nat.zero_le _⟩ (fun r_9 H locs h hP hS => ?_)
      refine lv_if_eq (tgt := 77) hx hb dX0_weigh_57 (by decide) (fun c_10 => ?_) (fun c_10 => ?_)
      · replace h := h.1 c_10
        exact grv2 hx hb hr hlocks h hP hD hS dX0_weigh_77
      · replace h := h.2 c_10
        refine lv_aload_n hx hb dX0_weigh_60 rfl (lv_at hl 2 rfl) ?_
        refine va_get (D := (dC, dI)) (ci := 0) (v := .ref a_sums) (C := RX0) (T := TX0) (N := 5) hx hb hts iwX0_weigh_X0 hown hK hP 0 rfl rfl 1 (by decide) f15 (fun _ h9 => h9) rfl dX0_weigh_61 ?_
        refine lv_iload hx hb dX0_weigh_64 (lv_at hl 1 rfl) ?_
        refine lv_iload hx hb dX0_weigh_66 (lv_at hl 0 rfl) ?_
        have g_11 := h.1
        replace h := h.2
        refine va_iast hx hb hK hP hD hS 3 0 rfl rfl g_11 dX0_weigh_68 (fun H locs hP hD hS => ?_)
        obtain ⟨f_12, e_13⟩ : ∃ y : Nat → Int32, y = upd v_sums (r_1).toNatClampNeg x5_4 := ⟨_, rfl⟩
        replace h := h f_12 e_13
        replace hP : va_P (dC, dI) vwCl [(a, .inr (0, [.ref a_sets, .ref a_sums, .ref a_lowSums, .ref a_highSums, .int v_lookedFrom])), (a_lowSums, .inl (cyI, 256, .inl v_lowSums)), (a_highSums, .inl (cyI, 256, .inl v_highSums)), (a_sums, .inl (cyI, 17, .inl f_12)), (b0, .inr (4, [.int w0_w, .int w0_h, .ref b0_parts, .int w0_all, .int w0_top, .int w0_left, .int w0_right])), (a_sets, .inl (cyI, 17, .inl v_sets))] H := by rw [e_13]; exact hP
        replace hD : va_D A [(a, .inr (0, [.ref a_sets, .ref a_sums, .ref a_lowSums, .ref a_highSums, .int v_lookedFrom])), (a_lowSums, .inl (cyI, 256, .inl v_lowSums)), (a_highSums, .inl (cyI, 256, .inl v_highSums)), (a_sums, .inl (cyI, 17, .inl f_12)), (b0, .inr (4, [.int w0_w, .int w0_h, .ref b0_parts, .int w0_all, .int w0_top, .int w0_left, .int w0_right])), (a_sets, .inl (cyI, 17, .inl v_sets))] := by rw [e_13]; exact hD
        refine lv_aload_n hx hb dX0_weigh_69 rfl (lv_at hl 2 rfl) ?_
        refine va_get (D := (dC, dI)) (ci := 0) (v := .ref a_sets) (C := RX0) (T := TX0) (N := 5) hx hb hts iwX0_weigh_X0 hown hK hP 0 rfl rfl 0 (by decide) f9 (fun _ h9 => h9) rfl dX0_weigh_70 ?_
        refine lv_iload hx hb dX0_weigh_73 (lv_at hl 1 rfl) ?_
        refine lv_iload_n hx hb dX0_weigh_75 rfl (lv_at hl 5 rfl) ?_
        have g_14 := h.1
        replace h := h.2
        refine va_iast hx hb hK hP hD hS 5 0 rfl rfl g_14 dX0_weigh_76 (fun H locs hP hD hS => ?_)
        obtain ⟨f_15, e_16⟩ : ∃ y : Nat → Int32, y = upd v_sets (r_1).toNatClampNeg p2 := ⟨_, rfl⟩
        replace h := h f_15 e_16
        replace hP : va_P (dC, dI) vwCl [(a, .inr (0, [.ref a_sets, .ref a_sums, .ref a_lowSums, .ref a_highSums, .int v_lookedFrom])), (a_lowSums, .inl (cyI, 256, .inl v_lowSums)), (a_highSums, .inl (cyI, 256, .inl v_highSums)), (a_sums, .inl (cyI, 17, .inl f_12)), (b0, .inr (4, [.int w0_w, .int w0_h, .ref b0_parts, .int w0_all, .int w0_top, .int w0_left, .int w0_right])), (a_sets, .inl (cyI, 17, .inl f_15))] H := by rw [e_16]; exact hP
        replace hD : va_D A [(a, .inr (0, [.ref a_sets, .ref a_sums, .ref a_lowSums, .ref a_highSums, .int v_lookedFrom])), (a_lowSums, .inl (cyI, 256, .inl v_lowSums)), (a_highSums, .inl (cyI, 256, .inl v_highSums)), (a_sums, .inl (cyI, 17, .inl f_12)), (b0, .inr (4, [.int w0_w, .int w0_h, .ref b0_parts, .int w0_all, .int w0_top, .int w0_left, .int w0_right])), (a_sets, .inl (cyI, 17, .inl f_15))] := by rw [e_16]; exact hD
        exact grv2 hx hb hr hlocks h hP hD hS dX0_weigh_77

def F_X0_lookFrom_e (w0_w : Int32) (w0_all : Int32) (w0_top : Int32) (w0_left : Int32) (w0_right : Int32) (w0_parts : Nat → Int32) (p1 : Int32) (Q : Int32 → (Nat → Int32) → (Nat → Int32) → (Nat → Int32) → (Nat → Int32) → Prop) (rec : Nat → Int32 → Int32 → Int32 → Int32 → (Nat → Int32) → (Nat → Int32) → (Nat → Int32) → (Nat → Int32) → Prop) (v_lookedFrom : Int32) (v_lowSums : Nat → Int32) (v_highSums : Nat → Int32) (v_sets : Nat → Int32) (v_sums : Nat → Int32) : Prop :=
  (¬ v_lookedFrom = p1 → (q_X0_addUp v_lowSums w0_parts (0 : Int32) (fun (u_2 : Nat → Int32) => q_X0_addUp v_highSums w0_parts (8 : Int32) (fun (u_3 : Nat → Int32) => rec 41 (0 : Int32) 0 0 p1 u_2 u_3 v_sets v_sums)))) ∧ (v_lookedFrom = p1 → (Q v_lookedFrom v_lowSums v_highSums v_sets v_sums))
def F_X0_lookFrom_41 (w0_w : Int32) (w0_all : Int32) (w0_top : Int32) (w0_left : Int32) (w0_right : Int32) (w0_parts : Nat → Int32) (p1 : Int32) (Q : Int32 → (Nat → Int32) → (Nat → Int32) → (Nat → Int32) → (Nat → Int32) → Prop) (rec : Nat → Int32 → Int32 → Int32 → Int32 → (Nat → Int32) → (Nat → Int32) → (Nat → Int32) → (Nat → Int32) → Prop) (x3 : Int32) (x4 : Int32) (x5 : Int32) (v_lookedFrom : Int32) (v_lowSums : Nat → Int32) (v_highSums : Nat → Int32) (v_sets : Nat → Int32) (v_sums : Nat → Int32) : Prop :=
  ((16 : Int32) < x3 → (∀ x3_5 : Int32, x3_5 = (w0_all &&& (p1 ^^^ (-1 : Int32))) → (rec 82 x3_5 (0 : Int32) (0 : Int32) v_lookedFrom v_lowSums v_highSums v_sets v_sums))) ∧ (¬ (16 : Int32) < x3 → (vp_in x3 17 ∧ (∀ f_8 : Nat → Int32, f_8 = upd v_sets (x3).toNatClampNeg (0 : Int32) → (vp_in x3 17 ∧ (∀ f_11 : Nat → Int32, f_11 = upd v_sums (x3).toNatClampNeg (-1 : Int32) → (∀ x3_13 : Int32, x3_13 = (x3 + (1 : Int32)) → (rec 41 x3_13 0 0 v_lookedFrom v_lowSums v_highSums f_8 f_11)))))))
def F_X0_lookFrom_82 (w0_w : Int32) (w0_all : Int32) (w0_top : Int32) (w0_left : Int32) (w0_right : Int32) (w0_parts : Nat → Int32) (p1 : Int32) (Q : Int32 → (Nat → Int32) → (Nat → Int32) → (Nat → Int32) → (Nat → Int32) → Prop) (rec : Nat → Int32 → Int32 → Int32 → Int32 → (Nat → Int32) → (Nat → Int32) → (Nat → Int32) → (Nat → Int32) → Prop) (x3 : Int32) (x4 : Int32) (x5 : Int32) (v_lookedFrom : Int32) (v_lowSums : Nat → Int32) (v_highSums : Nat → Int32) (v_sets : Nat → Int32) (v_sums : Nat → Int32) : Prop :=
  ((65536 : Int32) ≤ x5 → (Q v_lookedFrom v_lowSums v_highSums v_sets v_sums)) ∧ (¬ (65536 : Int32) ≤ x5 → (q_X0_weigh v_lowSums v_highSums v_sums w0_w w0_all w0_top w0_left w0_right v_sets p1 x4 (fun (u_16 : Nat → Int32) (u_17 : Nat → Int32) => ∀ x4_18 : Int32, x4_18 = ((x4 - x3) &&& x3) → ((¬ x4_18 = 0 → (∀ x5_21 : Int32, x5_21 = (x5 + (1 : Int32)) → (rec 82 x3 x4_18 x5_21 v_lookedFrom v_lowSums v_highSums u_17 u_16))) ∧ (x4_18 = 0 → (Q v_lookedFrom v_lowSums v_highSums u_17 u_16))))))
def wp_X0_lookFrom (w0_w : Int32) (w0_all : Int32) (w0_top : Int32) (w0_left : Int32) (w0_right : Int32) (w0_parts : Nat → Int32) (p1 : Int32) (Q : Int32 → (Nat → Int32) → (Nat → Int32) → (Nat → Int32) → (Nat → Int32) → Prop) : Nat → Nat → Int32 → Int32 → Int32 → Int32 → (Nat → Int32) → (Nat → Int32) → (Nat → Int32) → (Nat → Int32) → Prop
  | 0 => fun _ _ _ _ _ _ _ _ _ => False
  | n + 1 => fun t x3 x4 x5 v_lookedFrom v_lowSums v_highSums v_sets v_sums => if t = 41 then F_X0_lookFrom_41 w0_w w0_all w0_top w0_left w0_right w0_parts p1 Q (wp_X0_lookFrom w0_w w0_all w0_top w0_left w0_right w0_parts p1 Q n) x3 x4 x5 v_lookedFrom v_lowSums v_highSums v_sets v_sums else if t = 82 then F_X0_lookFrom_82 w0_w w0_all w0_top w0_left w0_right w0_parts p1 Q (wp_X0_lookFrom w0_w w0_all w0_top w0_left w0_right w0_parts p1 Q n) x3 x4 x5 v_lookedFrom v_lowSums v_highSums v_sets v_sums else False
def q_X0_lookFrom (v_lookedFrom : Int32) (w0_w : Int32) (w0_all : Int32) (w0_top : Int32) (w0_left : Int32) (w0_right : Int32) (v_lowSums : Nat → Int32) (w0_parts : Nat → Int32) (v_highSums : Nat → Int32) (v_sets : Nat → Int32) (v_sums : Nat → Int32) (p1 : Int32) (Q : Int32 → (Nat → Int32) → (Nat → Int32) → (Nat → Int32) → (Nat → Int32) → Prop) : Prop := ∃ n, F_X0_lookFrom_e w0_w w0_all w0_top w0_left w0_right w0_parts p1 Q (wp_X0_lookFrom w0_w w0_all w0_top w0_left w0_right w0_parts p1 Q n) v_lookedFrom v_lowSums v_highSums v_sets v_sums
theorem iwX0_lookFrom_X0 : ∀ w ∈ wsX00, w ∈ wsX0_lookFrom := by decide +kernel
theorem iwX0_lookFrom_X4 : ∀ w ∈ wsX40, w ∈ wsX0_lookFrom := by decide +kernel
theorem hdV_X0_lookFrom : yX0_lookFrom.cls = RX0 ∧ yX0_lookFrom.cls ≠ "java/lang/invoke/MethodHandle" ∧ yX0_lookFrom.cls ≠ "java/lang/invoke/VarHandle" ∧ (parseMethodDescriptor yX0_lookFrom.desc).map (fun d => d.parameters.length) = some 2 := by decide +kernel
set_option maxHeartbeats 4000000 in
set_option maxRecDepth 100000 in
theorem w_X0_lookFrom {p : Program} {l : Launch} {e : Env} {s : State} {m : MethodId} {args : Array Value} {below : List Frame} {meth : Method} {c : Code} {A : Nat → Prop} (dC : Nat → ClassId) (dI : Nat → Nat → Nat) (cyC cyI cyZ : ClassId) (a a_sets a_sums a_lowSums a_highSums b0 b0_parts : Nat) (w0_w : Int32) (w0_h : Int32) (w0_all : Int32) (w0_top : Int32) (w0_left : Int32) (w0_right : Int32) (w0_parts : Nat → Int32) (p1 : Int32) (Q : Int32 → (Nat → Int32) → (Nat → Int32) → (Nat → Int32) → (Nat → Int32) → Prop) (C0 : gAt cX0_lookFrom none 6 RX0 wsX0_lookFrom p s m meth c args) (hK : va_K (dC, dI) vwCl (gTy cyC cyI cyZ) s) (hN : nU s) (hA : ∀ q, s.heap.size ≤ q → A q) : ∀ n : Nat, (∀ (x3 : Int32) (x4 : Int32) (x5 : Int32) (v_lookedFrom : Int32) (v_lowSums : Nat → Int32) (v_highSums : Nat → Int32) (v_sets : Nat → Int32) (v_sums : Nat → Int32) (H : Heap) (locs : List Loc) (ls : Array Slot), wp_X0_lookFrom w0_w w0_all w0_top w0_left w0_right w0_parts p1 Q n 41 x3 x4 x5 v_lookedFrom v_lowSums v_highSums v_sets v_sums → va_P (dC, dI) vwCl [(a, .inr (0, [.ref a_sets, .ref a_sums, .ref a_lowSums, .ref a_highSums, .int v_lookedFrom])), (b0, .inr (4, [.int w0_w, .int w0_h, .ref b0_parts, .int w0_all, .int w0_top, .int w0_left, .int w0_right])), (a_lowSums, .inl (cyI, 256, .inl v_lowSums)), (b0_parts, .inl (cyI, 16, .inl w0_parts)), (a_highSums, .inl (cyI, 256, .inl v_highSums)), (a_sets, .inl (cyI, 17, .inl v_sets)), (a_sums, .inl (cyI, 17, .inl v_sums))] H → va_D A [(a, .inr (0, [.ref a_sets, .ref a_sums, .ref a_lowSums, .ref a_highSums, .int v_lookedFrom])), (b0, .inr (4, [.int w0_w, .int w0_h, .ref b0_parts, .int w0_all, .int w0_top, .int w0_left, .int w0_right])), (a_lowSums, .inl (cyI, 256, .inl v_lowSums)), (b0_parts, .inl (cyI, 16, .inl w0_parts)), (a_highSums, .inl (cyI, 256, .inl v_highSums)), (a_sets, .inl (cyI, 17, .inl v_sets)), (a_sums, .inl (cyI, 17, .inl v_sums))] → va_S A s.heap H locs → lv_has ls 6 [(0, .ref a), (1, .ref b0), (2, .int p1), (3, .int x3)] → W p l e { frames := 4, cells := 0, slots := 0, locals := 93 } s m args below meth c H locs 0 0 (MQ below (gQv5 Q (dC, dI) A (fun (u1 : Int32) (u2 : Nat → Int32) (u3 : Nat → Int32) (u4 : Nat → Int32) (u5 : Nat → Int32) => [(a, .inr (0, [.ref a_sets, .ref a_sums, .ref a_lowSums, .ref a_highSums, .int u1])), (b0, .inr (4, [.int w0_w, .int w0_h, .ref b0_parts, .int w0_all, .int w0_top, .int w0_left, .int w0_right])), (a_lowSums, .inl (cyI, 256, .inl u2)), (b0_parts, .inl (cyI, 16, .inl w0_parts)), (a_highSums, .inl (cyI, 256, .inl u3)), (a_sets, .inl (cyI, 17, .inl u4)), (a_sums, .inl (cyI, 17, .inl u5))])) args s 0 0 A) (F0 m 41 ls [])) ∧ (∀ (x3 : Int32) (x4 : Int32) (x5 : Int32) (v_lookedFrom : Int32) (v_lowSums : Nat → Int32) (v_highSums : Nat → Int32) (v_sets : Nat → Int32) (v_sums : Nat → Int32) (H : Heap) (locs : List Loc) (ls : Array Slot), wp_X0_lookFrom w0_w w0_all w0_top w0_left w0_right w0_parts p1 Q n 82 x3 x4 x5 v_lookedFrom v_lowSums v_highSums v_sets v_sums → va_P (dC, dI) vwCl [(a, .inr (0, [.ref a_sets, .ref a_sums, .ref a_lowSums, .ref a_highSums, .int v_lookedFrom])), (b0, .inr (4, [.int w0_w, .int w0_h, .ref b0_parts, .int w0_all, .int w0_top, .int w0_left, .int w0_right])), (a_lowSums, .inl (cyI, 256, .inl v_lowSums)), (b0_parts, .inl (cyI, 16, .inl w0_parts)), (a_highSums, .inl (cyI, 256, .inl v_highSums)), (a_sets, .inl (cyI, 17, .inl v_sets)), (a_sums, .inl (cyI, 17, .inl v_sums))] H → va_D A [(a, .inr (0, [.ref a_sets, .ref a_sums, .ref a_lowSums, .ref a_highSums, .int v_lookedFrom])), (b0, .inr (4, [.int w0_w, .int w0_h, .ref b0_parts, .int w0_all, .int w0_top, .int w0_left, .int w0_right])), (a_lowSums, .inl (cyI, 256, .inl v_lowSums)), (b0_parts, .inl (cyI, 16, .inl w0_parts)), (a_highSums, .inl (cyI, 256, .inl v_highSums)), (a_sets, .inl (cyI, 17, .inl v_sets)), (a_sums, .inl (cyI, 17, .inl v_sums))] → va_S A s.heap H locs → lv_has ls 6 [(0, .ref a), (1, .ref b0), (2, .int p1), (3, .int x3), (4, .int x4), (5, .int x5)] → W p l e { frames := 4, cells := 0, slots := 0, locals := 93 } s m args below meth c H locs 0 0 (MQ below (gQv5 Q (dC, dI) A (fun (u1 : Int32) (u2 : Nat → Int32) (u3 : Nat → Int32) (u4 : Nat → Int32) (u5 : Nat → Int32) => [(a, .inr (0, [.ref a_sets, .ref a_sums, .ref a_lowSums, .ref a_highSums, .int u1])), (b0, .inr (4, [.int w0_w, .int w0_h, .ref b0_parts, .int w0_all, .int w0_top, .int w0_left, .int w0_right])), (a_lowSums, .inl (cyI, 256, .inl u2)), (b0_parts, .inl (cyI, 16, .inl w0_parts)), (a_highSums, .inl (cyI, 256, .inl u3)), (a_sets, .inl (cyI, 17, .inl u4)), (a_sums, .inl (cyI, 17, .inl u5))])) args s 0 0 A) (F0 m 82 ls [])) := by
  obtain ⟨hx, hb, hr, hml, hown, hts, hlocks⟩ := id C0
  have f15 := hts (.fieldLink RX0 15 "LastOchre$BestDigs" "sums" "[I") (by decide +kernel)
  have f18 := hts (.fieldLink RX0 18 "LastOchre$BestDigs" "lowSums" "[I") (by decide +kernel)
  have f21 := hts (.fieldLink RX0 21 "LastOchre$BestDigs" "highSums" "[I") (by decide +kernel)
  have f24 := hts (.fieldLink RX0 24 "LastOchre$BestDigs" "lookedFrom" "I") (by decide +kernel)
  have f28 := hN.link (args := (args)) (w := .fieldLinkNest RX0 28 "LastOchre$Seam" "parts" "[I" "LastOchre") 3 rfl
  have f37 := hN.link (args := (args)) (w := .fieldLinkNest RX0 37 "LastOchre$Seam" "all" "I" "LastOchre") 6 rfl
  have f9 := hts (.fieldLink RX0 9 "LastOchre$BestDigs" "sets" "[I") (by decide +kernel)
  intro n
  induction n with
  | zero => exact ⟨fun _ _ _ _ _ _ _ _ _ _ _ h => absurd h id, fun _ _ _ _ _ _ _ _ _ _ _ h => absurd h id⟩
  | succ n ih =>
    obtain ⟨ih41, ih82⟩ := ih
    refine ⟨?_, ?_⟩
    · intro x3 x4 x5 v_lookedFrom v_lowSums v_highSums v_sets v_sums H locs ls h hP hD hS hl
      replace h : F_X0_lookFrom_41 w0_w w0_all w0_top w0_left w0_right w0_parts p1 Q (wp_X0_lookFrom w0_w w0_all w0_top w0_left w0_right w0_parts p1 Q n) x3 x4 x5 v_lookedFrom v_lowSums v_highSums v_sets v_sums := h
      unfold F_X0_lookFrom_41 at h
      refine lv_iload_n hx hb dX0_lookFrom_41 rfl (lv_at hl 3 rfl) ?_
      refine lv_bipush (v := 16) hx hb dX0_lookFrom_42 (by decide) ?_
      refine lv_icmp_gt (tgt := 67) hx hb dX0_lookFrom_44 (by decide) (fun c_4 => ?_) (fun c_4 => ?_)
      · replace h := h.1 c_4
        refine lv_aload_n hx hb dX0_lookFrom_67 rfl (lv_at hl 1 rfl) ?_
        refine va_getN (host := "LastOchre") (D := (dC, dI)) (ci := 4) (v := .int w0_all) (C := RX4) (T := TX4) (N := 7) hx hb hts iwX0_lookFrom_X4 hown hK hP 1 rfl rfl 3 (by decide) f37 (fun _ h9 => h9) rfl dX0_lookFrom_68 ?_
        refine lv_iload_n hx hb dX0_lookFrom_71 rfl (lv_at hl 2 rfl) ?_
        refine lv_iconst (v := -1) hx hb dX0_lookFrom_72 (by decide) ?_
        refine lv_ixor hx hb dX0_lookFrom_73 ?_
        refine lv_iand hx hb dX0_lookFrom_74 ?_
        refine lv_topi (fun x3_5 e_6 => ?_)
        replace h := h x3_5 e_6
        refine lv_istore_n (lv' := [(3, .int x3_5), (0, .ref a), (1, .ref b0), (2, .int p1)]) hx hb dX0_lookFrom_75 rfl hl (by decide) rfl (fun ls hl => ?_)
        refine lv_iconst (v := 0) hx hb dX0_lookFrom_76 (by decide) ?_
        refine lv_istore (lv' := [(4, .int (0 : Int32)), (3, .int x3_5), (0, .ref a), (1, .ref b0), (2, .int p1)]) hx hb dX0_lookFrom_77 hl (by decide) rfl (fun ls hl => ?_)
        refine lv_iconst (v := 0) hx hb dX0_lookFrom_79 (by decide) ?_
        refine lv_istore (lv' := [(5, .int (0 : Int32)), (4, .int (0 : Int32)), (3, .int x3_5), (0, .ref a), (1, .ref b0), (2, .int p1)]) hx hb dX0_lookFrom_80 hl (by decide) rfl (fun ls hl => ?_)
        exact ih82 x3_5 (0 : Int32) (0 : Int32) v_lookedFrom v_lowSums v_highSums v_sets v_sums _ _ _ h hP hD hS (lv_sub hl [3, 4, 5, 2, 1, 0] rfl)
      · replace h := h.2 c_4
        refine lv_aload_n hx hb dX0_lookFrom_47 rfl (lv_at hl 0 rfl) ?_
        refine va_get (D := (dC, dI)) (ci := 0) (v := .ref a_sets) (C := RX0) (T := TX0) (N := 5) hx hb hts iwX0_lookFrom_X0 hown hK hP 0 rfl rfl 0 (by decide) f9 (fun _ h9 => h9) rfl dX0_lookFrom_48 ?_
        refine lv_iload_n hx hb dX0_lookFrom_51 rfl (lv_at hl 3 rfl) ?_
        refine lv_iconst (v := 0) hx hb dX0_lookFrom_52 (by decide) ?_
        have g_7 := h.1
        replace h := h.2
        refine va_iast hx hb hK hP hD hS 5 0 rfl rfl g_7 dX0_lookFrom_53 (fun H locs hP hD hS => ?_)
        obtain ⟨f_8, e_9⟩ : ∃ y : Nat → Int32, y = upd v_sets (x3).toNatClampNeg (0 : Int32) := ⟨_, rfl⟩
        replace h := h f_8 e_9
        replace hP : va_P (dC, dI) vwCl [(a, .inr (0, [.ref a_sets, .ref a_sums, .ref a_lowSums, .ref a_highSums, .int v_lookedFrom])), (b0, .inr (4, [.int w0_w, .int w0_h, .ref b0_parts, .int w0_all, .int w0_top, .int w0_left, .int w0_right])), (a_lowSums, .inl (cyI, 256, .inl v_lowSums)), (b0_parts, .inl (cyI, 16, .inl w0_parts)), (a_highSums, .inl (cyI, 256, .inl v_highSums)), (a_sets, .inl (cyI, 17, .inl f_8)), (a_sums, .inl (cyI, 17, .inl v_sums))] H := by rw [e_9]; exact hP
        replace hD : va_D A [(a, .inr (0, [.ref a_sets, .ref a_sums, .ref a_lowSums, .ref a_highSums, .int v_lookedFrom])), (b0, .inr (4, [.int w0_w, .int w0_h, .ref b0_parts, .int w0_all, .int w0_top, .int w0_left, .int w0_right])), (a_lowSums, .inl (cyI, 256, .inl v_lowSums)), (b0_parts, .inl (cyI, 16, .inl w0_parts)), (a_highSums, .inl (cyI, 256, .inl v_highSums)), (a_sets, .inl (cyI, 17, .inl f_8)), (a_sums, .inl (cyI, 17, .inl v_sums))] := by rw [e_9]; exact hD
        refine lv_aload_n hx hb dX0_lookFrom_54 rfl (lv_at hl 0 rfl) ?_
        refine va_get (D := (dC, dI)) (ci := 0) (v := .ref a_sums) (C := RX0) (T := TX0) (N := 5) hx hb hts iwX0_lookFrom_X0 hown hK hP 0 rfl rfl 1 (by decide) f15 (fun _ h9 => h9) rfl dX0_lookFrom_55 ?_
        refine lv_iload_n hx hb dX0_lookFrom_58 rfl (lv_at hl 3 rfl) ?_
        refine lv_iconst (v := -1) hx hb dX0_lookFrom_59 (by decide) ?_
        have g_10 := h.1
        replace h := h.2
        refine va_iast hx hb hK hP hD hS 6 0 rfl rfl g_10 dX0_lookFrom_60 (fun H locs hP hD hS => ?_)
        obtain ⟨f_11, e_12⟩ : ∃ y : Nat → Int32, y = upd v_sums (x3).toNatClampNeg (-1 : Int32) := ⟨_, rfl⟩
        replace h := h f_11 e_12
        replace hP : va_P (dC, dI) vwCl [(a, .inr (0, [.ref a_sets, .ref a_sums, .ref a_lowSums, .ref a_highSums, .int v_lookedFrom])), (b0, .inr (4, [.int w0_w, .int w0_h, .ref b0_parts, .int w0_all, .int w0_top, .int w0_left, .int w0_right])), (a_lowSums, .inl (cyI, 256, .inl v_lowSums)), (b0_parts, .inl (cyI, 16, .inl w0_parts)), (a_highSums, .inl (cyI, 256, .inl v_highSums)), (a_sets, .inl (cyI, 17, .inl f_8)), (a_sums, .inl (cyI, 17, .inl f_11))] H := by rw [e_12]; exact hP
        replace hD : va_D A [(a, .inr (0, [.ref a_sets, .ref a_sums, .ref a_lowSums, .ref a_highSums, .int v_lookedFrom])), (b0, .inr (4, [.int w0_w, .int w0_h, .ref b0_parts, .int w0_all, .int w0_top, .int w0_left, .int w0_right])), (a_lowSums, .inl (cyI, 256, .inl v_lowSums)), (b0_parts, .inl (cyI, 16, .inl w0_parts)), (a_highSums, .inl (cyI, 256, .inl v_highSums)), (a_sets, .inl (cyI, 17, .inl f_8)), (a_sums, .inl (cyI, 17, .inl f_11))] := by rw [e_12]; exact hD
        obtain ⟨x3_13, e_14⟩ : ∃ y : Int32, y = (x3 + (1 : Int32)) := ⟨_, rfl⟩
        replace h := h x3_13 e_14
        refine lv_iinc (v := x3_13) (lv' := [(3, .int x3_13), (0, .ref a), (1, .ref b0), (2, .int p1)]) hx hb dX0_lookFrom_61 hl (k := 3) rfl (by rw [e_14]; rfl) (by decide) rfl (fun ls hl => ?_)
        refine lv_goto (tgt := 41) hx hb dX0_lookFrom_64 (by decide) ?_
        exact ih41 x3_13 0 0 v_lookedFrom v_lowSums v_highSums f_8 f_11 _ _ _ h hP hD hS (lv_sub hl [1, 2, 3, 0] rfl)
    · intro x3 x4 x5 v_lookedFrom v_lowSums v_highSums v_sets v_sums H locs ls h hP hD hS hl
      replace h : F_X0_lookFrom_82 w0_w w0_all w0_top w0_left w0_right w0_parts p1 Q (wp_X0_lookFrom w0_w w0_all w0_top w0_left w0_right w0_parts p1 Q n) x3 x4 x5 v_lookedFrom v_lowSums v_highSums v_sets v_sums := h
      unfold F_X0_lookFrom_82 at h
      refine lv_iload hx hb dX0_lookFrom_82 (lv_at hl 5 rfl) ?_
      refine lv_ldc (v := 65536) hx hb hown (hts (.constant RX0 40 (65536)) (by decide +kernel)) dX0_lookFrom_84 ?_
      refine lv_icmp_ge (tgt := 119) hx hb dX0_lookFrom_86 (by decide) (fun c_15 => ?_) (fun c_15 => ?_)
      · replace h := h.1 c_15
        exact grv5 hx hb hr hlocks h hP hD hS dX0_lookFrom_119
      · replace h := h.2 c_15
        refine lv_aload_n hx hb dX0_lookFrom_89 rfl (lv_at hl 0 rfl) ?_
        refine lv_aload_n hx hb dX0_lookFrom_90 rfl (lv_at hl 1 rfl) ?_
        refine lv_iload_n hx hb dX0_lookFrom_91 rfl (lv_at hl 2 rfl) ?_
        refine lv_iload hx hb dX0_lookFrom_92 (lv_at hl 4 rfl) ?_
        refine gV_v2 (As := [.ref b0, .int p1, .int x4]) (rest := []) ⟨hx, hb, hml, hown, hts⟩ (c_X0_weigh l dC dI cyC cyI cyZ _ a a_sets a_sums a_lowSums a_highSums b0 b0_parts v_lookedFrom v_lowSums v_highSums v_sums w0_w w0_h w0_all w0_top w0_left w0_right v_sets p1 x4 h) (cwV 3 hts gX0_lookFrom_X0_weigh rfl rfl rfl hdV_X0_weigh ⟨Nat.le_of_ble_eq_true rfl, Nat.le_of_ble_eq_true rfl⟩) hK hN hP hD hS hA [0, 2, 4, 6, 1, 5] (by decide) rfl (ci := 0) rfl rfl rfl hl.1 rfl (Nat.le_of_ble_eq_true rfl) dX0_lookFrom_94 ⟨Nat.zero_le _, Nat.zero_le _⟩ (wr := [(b0_parts, .inl (cyI, 16, .inl w0_parts))]) [3] rfl (by decide) (by decide) (fun u_16 u_17 H locs h hP hD hS => ?_)
        replace hP : va_P (dC, dI) vwCl [(b0_parts, .inl (cyI, 16, .inl w0_parts)), (a, .inr (0, [.ref a_sets, .ref a_sums, .ref a_lowSums, .ref a_highSums, .int v_lookedFrom])), (a_lowSums, .inl (cyI, 256, .inl v_lowSums)), (a_highSums, .inl (cyI, 256, .inl v_highSums)), (a_sums, .inl (cyI, 17, .inl u_16)), (b0, .inr (4, [.int w0_w, .int w0_h, .ref b0_parts, .int w0_all, .int w0_top, .int w0_left, .int w0_right])), (a_sets, .inl (cyI, 17, .inl u_17))] H := hP
        replace hD : va_D A [(b0_parts, .inl (cyI, 16, .inl w0_parts)), (a, .inr (0, [.ref a_sets, .ref a_sums, .ref a_lowSums, .ref a_highSums, .int v_lookedFrom])), (a_lowSums, .inl (cyI, 256, .inl v_lowSums)), (a_highSums, .inl (cyI, 256, .inl v_highSums)), (a_sums, .inl (cyI, 17, .inl u_16)), (b0, .inr (4, [.int w0_w, .int w0_h, .ref b0_parts, .int w0_all, .int w0_top, .int w0_left, .int w0_right])), (a_sets, .inl (cyI, 17, .inl u_17))] := hD
        refine lv_iload hx hb dX0_lookFrom_97 (lv_at hl 4 rfl) ?_
        refine lv_iload_n hx hb dX0_lookFrom_99 rfl (lv_at hl 3 rfl) ?_
        refine lv_isub hx hb dX0_lookFrom_100 ?_
        refine lv_iload_n hx hb dX0_lookFrom_101 rfl (lv_at hl 3 rfl) ?_
        refine lv_iand hx hb dX0_lookFrom_102 ?_
        refine lv_topi (fun x4_18 e_19 => ?_)
        replace h := h x4_18 e_19
        refine lv_istore (lv' := [(4, .int x4_18), (0, .ref a), (1, .ref b0), (2, .int p1), (3, .int x3), (5, .int x5)]) hx hb dX0_lookFrom_103 hl (by decide) rfl (fun ls hl => ?_)
        refine lv_iload hx hb dX0_lookFrom_105 (lv_at hl 0 rfl) ?_
        refine lv_if_ne (tgt := 113) hx hb dX0_lookFrom_107 (by decide) (fun c_20 => ?_) (fun c_20 => ?_)
        · replace h := h.1 c_20
          obtain ⟨x5_21, e_22⟩ : ∃ y : Int32, y = (x5 + (1 : Int32)) := ⟨_, rfl⟩
          replace h := h x5_21 e_22
          refine lv_iinc (v := x5_21) (lv' := [(5, .int x5_21), (4, .int x4_18), (0, .ref a), (1, .ref b0), (2, .int p1), (3, .int x3)]) hx hb dX0_lookFrom_113 hl (k := 5) rfl (by rw [e_22]; rfl) (by decide) rfl (fun ls hl => ?_)
          refine lv_goto (tgt := 82) hx hb dX0_lookFrom_116 (by decide) ?_
          exact ih82 x3 x4_18 x5_21 v_lookedFrom v_lowSums v_highSums u_17 u_16 _ _ _ h (hP.sub (ws' := [(a, .inr (0, [.ref a_sets, .ref a_sums, .ref a_lowSums, .ref a_highSums, .int v_lookedFrom])), (b0, .inr (4, [.int w0_w, .int w0_h, .ref b0_parts, .int w0_all, .int w0_top, .int w0_left, .int w0_right])), (a_lowSums, .inl (cyI, 256, .inl v_lowSums)), (b0_parts, .inl (cyI, 16, .inl w0_parts)), (a_highSums, .inl (cyI, 256, .inl v_highSums)), (a_sets, .inl (cyI, 17, .inl u_17)), (a_sums, .inl (cyI, 17, .inl u_16))]) [1, 5, 2, 0, 3, 6, 4] rfl) (hD.sub (ws' := [(a, .inr (0, [.ref a_sets, .ref a_sums, .ref a_lowSums, .ref a_highSums, .int v_lookedFrom])), (b0, .inr (4, [.int w0_w, .int w0_h, .ref b0_parts, .int w0_all, .int w0_top, .int w0_left, .int w0_right])), (a_lowSums, .inl (cyI, 256, .inl v_lowSums)), (b0_parts, .inl (cyI, 16, .inl w0_parts)), (a_highSums, .inl (cyI, 256, .inl v_highSums)), (a_sets, .inl (cyI, 17, .inl u_17)), (a_sums, .inl (cyI, 17, .inl u_16))]) [1, 5, 2, 0, 3, 6, 4] (by decide) rfl) hS (lv_sub hl [2, 3, 4, 5, 1, 0] rfl)
        · replace h := h.2 c_20
          refine lv_goto (tgt := 119) hx hb dX0_lookFrom_110 (by decide) ?_
          exact grv5 hx hb hr hlocks h (hP.sub (ws' := [(a, .inr (0, [.ref a_sets, .ref a_sums, .ref a_lowSums, .ref a_highSums, .int v_lookedFrom])), (b0, .inr (4, [.int w0_w, .int w0_h, .ref b0_parts, .int w0_all, .int w0_top, .int w0_left, .int w0_right])), (a_lowSums, .inl (cyI, 256, .inl v_lowSums)), (b0_parts, .inl (cyI, 16, .inl w0_parts)), (a_highSums, .inl (cyI, 256, .inl v_highSums)), (a_sets, .inl (cyI, 17, .inl u_17)), (a_sums, .inl (cyI, 17, .inl u_16))]) [1, 5, 2, 0, 3, 6, 4] rfl) (hD.sub (ws' := [(a, .inr (0, [.ref a_sets, .ref a_sums, .ref a_lowSums, .ref a_highSums, .int v_lookedFrom])), (b0, .inr (4, [.int w0_w, .int w0_h, .ref b0_parts, .int w0_all, .int w0_top, .int w0_left, .int w0_right])), (a_lowSums, .inl (cyI, 256, .inl v_lowSums)), (b0_parts, .inl (cyI, 16, .inl w0_parts)), (a_highSums, .inl (cyI, 256, .inl v_highSums)), (a_sets, .inl (cyI, 17, .inl u_17)), (a_sums, .inl (cyI, 17, .inl u_16))]) [1, 5, 2, 0, 3, 6, 4] (by decide) rfl) hS dX0_lookFrom_119
set_option maxHeartbeats 4000000 in
set_option maxRecDepth 100000 in
theorem c_X0_lookFrom (l : Launch) (dC : Nat → ClassId) (dI : Nat → Nat → Nat) (cyC cyI cyZ : ClassId) (sz : Nat) (a a_sets a_sums a_lowSums a_highSums b0 b0_parts : Nat) (v_lookedFrom : Int32) (w0_w : Int32) (w0_h : Int32) (w0_all : Int32) (w0_top : Int32) (w0_left : Int32) (w0_right : Int32) (v_lowSums : Nat → Int32) (w0_parts : Nat → Int32) (v_highSums : Nat → Int32) (v_sets : Nat → Int32) (v_sums : Nat → Int32) (p1 : Int32) {Q : Int32 → (Nat → Int32) → (Nat → Int32) → (Nat → Int32) → (Nat → Int32) → Prop} (h : q_X0_lookFrom v_lookedFrom w0_w w0_all w0_top w0_left w0_right v_lowSums w0_parts v_highSums v_sets v_sums p1 Q) : Met l yX0_lookFrom wsX0_lookFrom ({ frames := 4, cells := 0, slots := 0, locals := 93 }) (gPc [.ref a, .ref b0, .int p1] (dC, dI) (gTy cyC cyI cyZ) sz [(a, .inr (0, [.ref a_sets, .ref a_sums, .ref a_lowSums, .ref a_highSums, .int v_lookedFrom])), (b0, .inr (4, [.int w0_w, .int w0_h, .ref b0_parts, .int w0_all, .int w0_top, .int w0_left, .int w0_right])), (a_lowSums, .inl (cyI, 256, .inl v_lowSums)), (b0_parts, .inl (cyI, 16, .inl w0_parts)), (a_highSums, .inl (cyI, 256, .inl v_highSums)), (a_sets, .inl (cyI, 17, .inl v_sets)), (a_sums, .inl (cyI, 17, .inl v_sums))]) (gQv5 Q (dC, dI) (va_A [(a, .inr (0, [.ref a_sets, .ref a_sums, .ref a_lowSums, .ref a_highSums, .int v_lookedFrom])), (b0, .inr (4, [.int w0_w, .int w0_h, .ref b0_parts, .int w0_all, .int w0_top, .int w0_left, .int w0_right])), (a_lowSums, .inl (cyI, 256, .inl v_lowSums)), (b0_parts, .inl (cyI, 16, .inl w0_parts)), (a_highSums, .inl (cyI, 256, .inl v_highSums)), (a_sets, .inl (cyI, 17, .inl v_sets)), (a_sums, .inl (cyI, 17, .inl v_sums))] sz) (fun (u1 : Int32) (u2 : Nat → Int32) (u3 : Nat → Int32) (u4 : Nat → Int32) (u5 : Nat → Int32) => [(a, .inr (0, [.ref a_sets, .ref a_sums, .ref a_lowSums, .ref a_highSums, .int u1])), (b0, .inr (4, [.int w0_w, .int w0_h, .ref b0_parts, .int w0_all, .int w0_top, .int w0_left, .int w0_right])), (a_lowSums, .inl (cyI, 256, .inl u2)), (b0_parts, .inl (cyI, 16, .inl w0_parts)), (a_highSums, .inl (cyI, 256, .inl u3)), (a_sets, .inl (cyI, 17, .inl u4)), (a_sums, .inl (cyI, 17, .inl u5))])) 0 0 (va_A [(a, .inr (0, [.ref a_sets, .ref a_sums, .ref a_lowSums, .ref a_highSums, .int v_lookedFrom])), (b0, .inr (4, [.int w0_w, .int w0_h, .ref b0_parts, .int w0_all, .int w0_top, .int w0_left, .int w0_right])), (a_lowSums, .inl (cyI, 256, .inl v_lowSums)), (b0_parts, .inl (cyI, 16, .inl w0_parts)), (a_highSums, .inl (cyI, 256, .inl v_highSums)), (a_sets, .inl (cyI, 17, .inl v_sets)), (a_sums, .inl (cyI, 17, .inl v_sums))] sz) := by
  refine gMet (cc := cX0_lookFrom) (maxL := 6) (ret := none) (own := RX0) (fun A => gQv5 Q (dC, dI) A (fun (u1 : Int32) (u2 : Nat → Int32) (u3 : Nat → Int32) (u4 : Nat → Int32) (u5 : Nat → Int32) => [(a, .inr (0, [.ref a_sets, .ref a_sums, .ref a_lowSums, .ref a_highSums, .int u1])), (b0, .inr (4, [.int w0_w, .int w0_h, .ref b0_parts, .int w0_all, .int w0_top, .int w0_left, .int w0_right])), (a_lowSums, .inl (cyI, 256, .inl u2)), (b0_parts, .inl (cyI, 16, .inl w0_parts)), (a_highSums, .inl (cyI, 256, .inl u3)), (a_sets, .inl (cyI, 17, .inl u4)), (a_sums, .inl (cyI, 17, .inl u5))])) (by decide) rfl rfl (Nat.le_of_ble_eq_true rfl) ?_
  intro p e s m below meth c A ls C0 _ hK hN hP hD hA hl
  obtain ⟨hx, hb, hr, hml, hown, hts, hlocks⟩ := id C0
  have f15 := hts (.fieldLink RX0 15 "LastOchre$BestDigs" "sums" "[I") (by decide +kernel)
  have f18 := hts (.fieldLink RX0 18 "LastOchre$BestDigs" "lowSums" "[I") (by decide +kernel)
  have f21 := hts (.fieldLink RX0 21 "LastOchre$BestDigs" "highSums" "[I") (by decide +kernel)
  have f24 := hts (.fieldLink RX0 24 "LastOchre$BestDigs" "lookedFrom" "I") (by decide +kernel)
  have f28 := hN.link (args := ([.ref a, .ref b0, .int p1].toArray)) (w := .fieldLinkNest RX0 28 "LastOchre$Seam" "parts" "[I" "LastOchre") 3 rfl
  have f37 := hN.link (args := ([.ref a, .ref b0, .int p1].toArray)) (w := .fieldLinkNest RX0 37 "LastOchre$Seam" "all" "I" "LastOchre") 6 rfl
  have f9 := hts (.fieldLink RX0 9 "LastOchre$BestDigs" "sets" "[I") (by decide +kernel)
  have hS : va_S A s.heap s.heap [] := va_S.rf
  replace hl : lv_has ls 6 [(0, .ref a), (1, .ref b0), (2, .int p1)] := hl
  unfold q_X0_lookFrom at h
  obtain ⟨n, h⟩ := h
  obtain ⟨ih41, ih82⟩ := w_X0_lookFrom (l := l) (e := e) (below := below) dC dI cyC cyI cyZ a a_sets a_sums a_lowSums a_highSums b0 b0_parts w0_w w0_h w0_all w0_top w0_left w0_right w0_parts p1 Q C0 hK hN hA n
  unfold F_X0_lookFrom_e at h
  refine lv_aload_n hx hb dX0_lookFrom_0 rfl (lv_at hl 0 rfl) ?_
  refine va_get (D := (dC, dI)) (ci := 0) (v := .int v_lookedFrom) (C := RX0) (T := TX0) (N := 5) hx hb hts iwX0_lookFrom_X0 hown hK hP 0 rfl rfl 4 (by decide) f24 (fun _ h9 => h9) rfl dX0_lookFrom_1 ?_
  refine lv_iload_n hx hb dX0_lookFrom_4 rfl (lv_at hl 2 rfl) ?_
  refine lv_icmp_ne (tgt := 9) hx hb dX0_lookFrom_5 (by decide) (fun c_1 => ?_) (fun c_1 => ?_)
  · replace h := h.1 c_1
    refine lv_aload_n hx hb dX0_lookFrom_9 rfl (lv_at hl 0 rfl) ?_
    refine lv_iload_n hx hb dX0_lookFrom_10 rfl (lv_at hl 2 rfl) ?_
    refine va_put (D := (dC, dI)) (ci := 0) (v := .int p1) (ty := .int) (C := RX0) (T := TX0) (N := 5) hx hb hts iwX0_lookFrom_X0 tyX0 tyX0_ok nmX0 hown hK hP hD hS 0 rfl rfl 4 (by decide) f24 (fun _ h9 => h9) rfl (by decide +kernel) rfl rfl (Nat.le_of_ble_eq_true rfl) dX0_lookFrom_11 (fun H locs hP hD hS => ?_)
    replace hP : va_P (dC, dI) vwCl [(a, .inr (0, [.ref a_sets, .ref a_sums, .ref a_lowSums, .ref a_highSums, .int p1])), (b0, .inr (4, [.int w0_w, .int w0_h, .ref b0_parts, .int w0_all, .int w0_top, .int w0_left, .int w0_right])), (a_lowSums, .inl (cyI, 256, .inl v_lowSums)), (b0_parts, .inl (cyI, 16, .inl w0_parts)), (a_highSums, .inl (cyI, 256, .inl v_highSums)), (a_sets, .inl (cyI, 17, .inl v_sets)), (a_sums, .inl (cyI, 17, .inl v_sums))] H := hP
    replace hD : va_D A [(a, .inr (0, [.ref a_sets, .ref a_sums, .ref a_lowSums, .ref a_highSums, .int p1])), (b0, .inr (4, [.int w0_w, .int w0_h, .ref b0_parts, .int w0_all, .int w0_top, .int w0_left, .int w0_right])), (a_lowSums, .inl (cyI, 256, .inl v_lowSums)), (b0_parts, .inl (cyI, 16, .inl w0_parts)), (a_highSums, .inl (cyI, 256, .inl v_highSums)), (a_sets, .inl (cyI, 17, .inl v_sets)), (a_sums, .inl (cyI, 17, .inl v_sums))] := hD
    refine lv_aload_n hx hb dX0_lookFrom_14 rfl (lv_at hl 1 rfl) ?_
    refine va_getN (host := "LastOchre") (D := (dC, dI)) (ci := 4) (v := .ref b0_parts) (C := RX4) (T := TX4) (N := 7) hx hb hts iwX0_lookFrom_X4 hown hK hP 1 rfl rfl 2 (by decide) f28 (fun _ h9 => h9) rfl dX0_lookFrom_15 ?_
    refine lv_iconst (v := 0) hx hb dX0_lookFrom_18 (by decide) ?_
    refine lv_aload_n hx hb dX0_lookFrom_19 rfl (lv_at hl 0 rfl) ?_
    refine va_get (D := (dC, dI)) (ci := 0) (v := .ref a_lowSums) (C := RX0) (T := TX0) (N := 5) hx hb hts iwX0_lookFrom_X0 hown hK hP 0 rfl rfl 2 (by decide) f18 (fun _ h9 => h9) rfl dX0_lookFrom_20 ?_
    refine gS_v1 (As := [.ref b0_parts, .int (0 : Int32), .ref a_lowSums]) (rest := []) ⟨hx, hb, hml, hown, hts⟩ (c_X0_addUp l dC dI cyC cyI cyZ _ a_lowSums b0_parts v_lowSums w0_parts (0 : Int32) h) (va_cwS 3 hts gX0_lookFrom_X0_addUp rfl rfl rfl hdS_X0_addUp ⟨Nat.le_of_ble_eq_true rfl, Nat.le_of_ble_eq_true rfl⟩) hK hN hP hD hS hA [2, 3] (by decide) rfl rfl hl.1 rfl (Nat.le_of_ble_eq_true rfl) dX0_lookFrom_23 ⟨Nat.zero_le _, Nat.zero_le _⟩ (wr := [(a, .inr (0, [.ref a_sets, .ref a_sums, .ref a_lowSums, .ref a_highSums, .int p1])), (b0, .inr (4, [.int w0_w, .int w0_h, .ref b0_parts, .int w0_all, .int w0_top, .int w0_left, .int w0_right])), (a_highSums, .inl (cyI, 256, .inl v_highSums)), (a_sets, .inl (cyI, 17, .inl v_sets)), (a_sums, .inl (cyI, 17, .inl v_sums))]) [0, 1, 4, 5, 6] rfl (by decide) (by decide) (fun u_2 H locs h hP hD hS => ?_)
    replace hP : va_P (dC, dI) vwCl [(a, .inr (0, [.ref a_sets, .ref a_sums, .ref a_lowSums, .ref a_highSums, .int p1])), (b0, .inr (4, [.int w0_w, .int w0_h, .ref b0_parts, .int w0_all, .int w0_top, .int w0_left, .int w0_right])), (a_highSums, .inl (cyI, 256, .inl v_highSums)), (a_sets, .inl (cyI, 17, .inl v_sets)), (a_sums, .inl (cyI, 17, .inl v_sums)), (a_lowSums, .inl (cyI, 256, .inl u_2)), (b0_parts, .inl (cyI, 16, .inl w0_parts))] H := hP
    replace hD : va_D A [(a, .inr (0, [.ref a_sets, .ref a_sums, .ref a_lowSums, .ref a_highSums, .int p1])), (b0, .inr (4, [.int w0_w, .int w0_h, .ref b0_parts, .int w0_all, .int w0_top, .int w0_left, .int w0_right])), (a_highSums, .inl (cyI, 256, .inl v_highSums)), (a_sets, .inl (cyI, 17, .inl v_sets)), (a_sums, .inl (cyI, 17, .inl v_sums)), (a_lowSums, .inl (cyI, 256, .inl u_2)), (b0_parts, .inl (cyI, 16, .inl w0_parts))] := hD
    refine lv_aload_n hx hb dX0_lookFrom_26 rfl (lv_at hl 1 rfl) ?_
    refine va_getN (host := "LastOchre") (D := (dC, dI)) (ci := 4) (v := .ref b0_parts) (C := RX4) (T := TX4) (N := 7) hx hb hts iwX0_lookFrom_X4 hown hK hP 1 rfl rfl 2 (by decide) f28 (fun _ h9 => h9) rfl dX0_lookFrom_27 ?_
    refine lv_bipush (v := 8) hx hb dX0_lookFrom_30 (by decide) ?_
    refine lv_aload_n hx hb dX0_lookFrom_32 rfl (lv_at hl 0 rfl) ?_
    refine va_get (D := (dC, dI)) (ci := 0) (v := .ref a_highSums) (C := RX0) (T := TX0) (N := 5) hx hb hts iwX0_lookFrom_X0 hown hK hP 0 rfl rfl 3 (by decide) f21 (fun _ h9 => h9) rfl dX0_lookFrom_33 ?_
    refine gS_v1 (As := [.ref b0_parts, .int (8 : Int32), .ref a_highSums]) (rest := []) ⟨hx, hb, hml, hown, hts⟩ (c_X0_addUp l dC dI cyC cyI cyZ _ a_highSums b0_parts v_highSums w0_parts (8 : Int32) h) (va_cwS 3 hts gX0_lookFrom_X0_addUp rfl rfl rfl hdS_X0_addUp ⟨Nat.le_of_ble_eq_true rfl, Nat.le_of_ble_eq_true rfl⟩) hK hN hP hD hS hA [2, 6] (by decide) rfl rfl hl.1 rfl (Nat.le_of_ble_eq_true rfl) dX0_lookFrom_36 ⟨Nat.zero_le _, Nat.zero_le _⟩ (wr := [(a, .inr (0, [.ref a_sets, .ref a_sums, .ref a_lowSums, .ref a_highSums, .int p1])), (b0, .inr (4, [.int w0_w, .int w0_h, .ref b0_parts, .int w0_all, .int w0_top, .int w0_left, .int w0_right])), (a_sets, .inl (cyI, 17, .inl v_sets)), (a_sums, .inl (cyI, 17, .inl v_sums)), (a_lowSums, .inl (cyI, 256, .inl u_2))]) [0, 1, 3, 4, 5] rfl (by decide) (by decide) (fun u_3 H locs h hP hD hS => ?_)
    replace hP : va_P (dC, dI) vwCl [(a, .inr (0, [.ref a_sets, .ref a_sums, .ref a_lowSums, .ref a_highSums, .int p1])), (b0, .inr (4, [.int w0_w, .int w0_h, .ref b0_parts, .int w0_all, .int w0_top, .int w0_left, .int w0_right])), (a_sets, .inl (cyI, 17, .inl v_sets)), (a_sums, .inl (cyI, 17, .inl v_sums)), (a_lowSums, .inl (cyI, 256, .inl u_2)), (a_highSums, .inl (cyI, 256, .inl u_3)), (b0_parts, .inl (cyI, 16, .inl w0_parts))] H := hP
    replace hD : va_D A [(a, .inr (0, [.ref a_sets, .ref a_sums, .ref a_lowSums, .ref a_highSums, .int p1])), (b0, .inr (4, [.int w0_w, .int w0_h, .ref b0_parts, .int w0_all, .int w0_top, .int w0_left, .int w0_right])), (a_sets, .inl (cyI, 17, .inl v_sets)), (a_sums, .inl (cyI, 17, .inl v_sums)), (a_lowSums, .inl (cyI, 256, .inl u_2)), (a_highSums, .inl (cyI, 256, .inl u_3)), (b0_parts, .inl (cyI, 16, .inl w0_parts))] := hD
    refine lv_iconst (v := 0) hx hb dX0_lookFrom_39 (by decide) ?_
    refine lv_istore_n (lv' := [(3, .int (0 : Int32)), (0, .ref a), (1, .ref b0), (2, .int p1)]) hx hb dX0_lookFrom_40 rfl hl (by decide) rfl (fun ls hl => ?_)
    exact ih41 (0 : Int32) 0 0 p1 u_2 u_3 v_sets v_sums _ _ _ h (hP.sub (ws' := [(a, .inr (0, [.ref a_sets, .ref a_sums, .ref a_lowSums, .ref a_highSums, .int p1])), (b0, .inr (4, [.int w0_w, .int w0_h, .ref b0_parts, .int w0_all, .int w0_top, .int w0_left, .int w0_right])), (a_lowSums, .inl (cyI, 256, .inl u_2)), (b0_parts, .inl (cyI, 16, .inl w0_parts)), (a_highSums, .inl (cyI, 256, .inl u_3)), (a_sets, .inl (cyI, 17, .inl v_sets)), (a_sums, .inl (cyI, 17, .inl v_sums))]) [0, 1, 4, 6, 5, 2, 3] rfl) (hD.sub (ws' := [(a, .inr (0, [.ref a_sets, .ref a_sums, .ref a_lowSums, .ref a_highSums, .int p1])), (b0, .inr (4, [.int w0_w, .int w0_h, .ref b0_parts, .int w0_all, .int w0_top, .int w0_left, .int w0_right])), (a_lowSums, .inl (cyI, 256, .inl u_2)), (b0_parts, .inl (cyI, 16, .inl w0_parts)), (a_highSums, .inl (cyI, 256, .inl u_3)), (a_sets, .inl (cyI, 17, .inl v_sets)), (a_sums, .inl (cyI, 17, .inl v_sums))]) [0, 1, 4, 6, 5, 2, 3] (by decide) rfl) hS (lv_sub hl [1, 2, 3, 0] rfl)
  · replace h := h.2 c_1
    exact grv5 hx hb hr hlocks h hP hD hS dX0_lookFrom_8

def F_X0_bestSize_e (v_sums : Nat → Int32) (p0 : Int32) (Q : Int32 → Prop) (rec : Nat → Int32 → Int32 → Prop)  : Prop :=
  rec 4 (0 : Int32) (1 : Int32)
def F_X0_bestSize_4 (v_sums : Nat → Int32) (p0 : Int32) (Q : Int32 → Prop) (rec : Nat → Int32 → Int32 → Prop) (x2 : Int32) (x3 : Int32) : Prop :=
  (p0 < x3 → (Q x2)) ∧ (¬ p0 < x3 → (((16 : Int32) < x3 → (Q x2)) ∧ (¬ (16 : Int32) < x3 → (vp_in x3 17 ∧ (vp_in x2 17 ∧ (((v_sums (x3).toNatClampNeg) ≤ (v_sums (x2).toNatClampNeg) → (∀ x3_6 : Int32, x3_6 = (x3 + (1 : Int32)) → (rec 4 x2 x3_6))) ∧ (¬ (v_sums (x3).toNatClampNeg) ≤ (v_sums (x2).toNatClampNeg) → (∀ x3_8 : Int32, x3_8 = (x3 + (1 : Int32)) → (rec 4 x3 x3_8)))))))))
def wp_X0_bestSize (v_sums : Nat → Int32) (p0 : Int32) (Q : Int32 → Prop) : Nat → Nat → Int32 → Int32 → Prop
  | 0 => fun _ _ _ => False
  | n + 1 => fun t x2 x3 => if t = 4 then F_X0_bestSize_4 v_sums p0 Q (wp_X0_bestSize v_sums p0 Q n) x2 x3 else False
def q_X0_bestSize (v_sums : Nat → Int32) (p0 : Int32) (Q : Int32 → Prop) : Prop := ∃ n, F_X0_bestSize_e v_sums p0 Q (wp_X0_bestSize v_sums p0 Q n) 
theorem iwX0_bestSize_X0 : ∀ w ∈ wsX00, w ∈ wsX0_bestSize := by decide +kernel
theorem hdV_X0_bestSize : yX0_bestSize.cls = RX0 ∧ yX0_bestSize.cls ≠ "java/lang/invoke/MethodHandle" ∧ yX0_bestSize.cls ≠ "java/lang/invoke/VarHandle" ∧ (parseMethodDescriptor yX0_bestSize.desc).map (fun d => d.parameters.length) = some 1 := by decide +kernel
set_option maxHeartbeats 4000000 in
set_option maxRecDepth 100000 in
theorem w_X0_bestSize {p : Program} {l : Launch} {e : Env} {s : State} {m : MethodId} {args : Array Value} {below : List Frame} {meth : Method} {c : Code} {A : Nat → Prop} (dC : Nat → ClassId) (dI : Nat → Nat → Nat) (cyC cyI cyZ : ClassId) (a a_sets a_sums a_lowSums a_highSums : Nat) (v_lookedFrom : Int32) (v_sums : Nat → Int32) (p0 : Int32) (Q : Int32 → Prop) (C0 : gAt cX0_bestSize (some .int) 4 RX0 wsX0_bestSize p s m meth c args) (hK : va_K (dC, dI) vwCl (gTy cyC cyI cyZ) s) (hN : nU s) (hA : ∀ q, s.heap.size ≤ q → A q) : ∀ n : Nat, (∀ (x2 : Int32) (x3 : Int32) (H : Heap) (locs : List Loc) (ls : Array Slot), wp_X0_bestSize v_sums p0 Q n 4 x2 x3 → va_P (dC, dI) vwCl [(a, .inr (0, [.ref a_sets, .ref a_sums, .ref a_lowSums, .ref a_highSums, .int v_lookedFrom])), (a_sums, .inl (cyI, 17, .inl v_sums))] H → va_D A [(a, .inr (0, [.ref a_sets, .ref a_sums, .ref a_lowSums, .ref a_highSums, .int v_lookedFrom])), (a_sums, .inl (cyI, 17, .inl v_sums))] → va_S A s.heap H locs → lv_has ls 4 [(0, .ref a), (1, .int p0), (2, .int x2), (3, .int x3)] → W p l e { frames := 0, cells := 0, slots := 0, locals := 0 } s m args below meth c H locs 0 0 (MQ below (gQi0 Q (dC, dI) A [(a, .inr (0, [.ref a_sets, .ref a_sums, .ref a_lowSums, .ref a_highSums, .int v_lookedFrom])), (a_sums, .inl (cyI, 17, .inl v_sums))]) args s 0 0 A) (F0 m 4 ls [])) := by
  obtain ⟨hx, hb, hr, hml, hown, hts, hlocks⟩ := id C0
  have f15 := hts (.fieldLink RX0 15 "LastOchre$BestDigs" "sums" "[I") (by decide +kernel)
  intro n
  induction n with
  | zero => exact fun _ _ _ _ _ h => absurd h id
  | succ n ih =>
    have ih4 := ih
    · intro x2 x3 H locs ls h hP hD hS hl
      replace h : F_X0_bestSize_4 v_sums p0 Q (wp_X0_bestSize v_sums p0 Q n) x2 x3 := h
      unfold F_X0_bestSize_4 at h
      refine lv_iload_n hx hb dX0_bestSize_4 rfl (lv_at hl 3 rfl) ?_
      refine lv_iload_n hx hb dX0_bestSize_5 rfl (lv_at hl 1 rfl) ?_
      refine lv_icmp_gt (tgt := 38) hx hb dX0_bestSize_6 (by decide) (fun c_1 => ?_) (fun c_1 => ?_)
      · replace h := h.1 c_1
        refine lv_iload_n hx hb dX0_bestSize_38 rfl (lv_at hl 2 rfl) ?_
        exact gri0 hx hb hr hlocks h hP hD hS dX0_bestSize_39
      · replace h := h.2 c_1
        refine lv_iload_n hx hb dX0_bestSize_9 rfl (lv_at hl 3 rfl) ?_
        refine lv_bipush (v := 16) hx hb dX0_bestSize_10 (by decide) ?_
        refine lv_icmp_gt (tgt := 38) hx hb dX0_bestSize_12 (by decide) (fun c_2 => ?_) (fun c_2 => ?_)
        · replace h := h.1 c_2
          refine lv_iload_n hx hb dX0_bestSize_38 rfl (lv_at hl 2 rfl) ?_
          exact gri0 hx hb hr hlocks h hP hD hS dX0_bestSize_39
        · replace h := h.2 c_2
          refine lv_aload_n hx hb dX0_bestSize_15 rfl (lv_at hl 0 rfl) ?_
          refine va_get (D := (dC, dI)) (ci := 0) (v := .ref a_sums) (C := RX0) (T := TX0) (N := 5) hx hb hts iwX0_bestSize_X0 hown hK hP 0 rfl rfl 1 (by decide) f15 (fun _ h9 => h9) rfl dX0_bestSize_16 ?_
          refine lv_iload_n hx hb dX0_bestSize_19 rfl (lv_at hl 3 rfl) ?_
          have g_3 := h.1
          replace h := h.2
          refine va_iald hx hb hK hP 1 0 rfl rfl g_3 dX0_bestSize_20 ?_
          refine lv_aload_n hx hb dX0_bestSize_21 rfl (lv_at hl 0 rfl) ?_
          refine va_get (D := (dC, dI)) (ci := 0) (v := .ref a_sums) (C := RX0) (T := TX0) (N := 5) hx hb hts iwX0_bestSize_X0 hown hK hP 0 rfl rfl 1 (by decide) f15 (fun _ h9 => h9) rfl dX0_bestSize_22 ?_
          refine lv_iload_n hx hb dX0_bestSize_25 rfl (lv_at hl 2 rfl) ?_
          have g_4 := h.1
          replace h := h.2
          refine va_iald hx hb hK hP 1 0 rfl rfl g_4 dX0_bestSize_26 ?_
          refine lv_icmp_le (tgt := 32) hx hb dX0_bestSize_27 (by decide) (fun c_5 => ?_) (fun c_5 => ?_)
          · replace h := h.1 c_5
            obtain ⟨x3_6, e_7⟩ : ∃ y : Int32, y = (x3 + (1 : Int32)) := ⟨_, rfl⟩
            replace h := h x3_6 e_7
            refine lv_iinc (v := x3_6) (lv' := [(3, .int x3_6), (0, .ref a), (1, .int p0), (2, .int x2)]) hx hb dX0_bestSize_32 hl (k := 3) rfl (by rw [e_7]; rfl) (by decide) rfl (fun ls hl => ?_)
            refine lv_goto (tgt := 4) hx hb dX0_bestSize_35 (by decide) ?_
            exact ih4 x2 x3_6 _ _ _ h hP hD hS (lv_sub hl [1, 2, 3, 0] rfl)
          · replace h := h.2 c_5
            refine lv_iload_n hx hb dX0_bestSize_30 rfl (lv_at hl 3 rfl) ?_
            refine lv_istore_n (lv' := [(2, .int x3), (0, .ref a), (1, .int p0), (3, .int x3)]) hx hb dX0_bestSize_31 rfl hl (by decide) rfl (fun ls hl => ?_)
            obtain ⟨x3_8, e_9⟩ : ∃ y : Int32, y = (x3 + (1 : Int32)) := ⟨_, rfl⟩
            replace h := h x3_8 e_9
            refine lv_iinc (v := x3_8) (lv' := [(3, .int x3_8), (2, .int x3), (0, .ref a), (1, .int p0)]) hx hb dX0_bestSize_32 hl (k := 3) rfl (by rw [e_9]; rfl) (by decide) rfl (fun ls hl => ?_)
            refine lv_goto (tgt := 4) hx hb dX0_bestSize_35 (by decide) ?_
            exact ih4 x3 x3_8 _ _ _ h hP hD hS (lv_sub hl [2, 3, 1, 0] rfl)
set_option maxHeartbeats 4000000 in
set_option maxRecDepth 100000 in
theorem c_X0_bestSize (l : Launch) (dC : Nat → ClassId) (dI : Nat → Nat → Nat) (cyC cyI cyZ : ClassId) (sz : Nat) (a a_sets a_sums a_lowSums a_highSums : Nat) (v_lookedFrom : Int32) (v_sums : Nat → Int32) (p0 : Int32) {Q : Int32 → Prop} (h : q_X0_bestSize v_sums p0 Q) : Met l yX0_bestSize wsX0_bestSize ({ frames := 0, cells := 0, slots := 0, locals := 0 }) (gPc [.ref a, .int p0] (dC, dI) (gTy cyC cyI cyZ) sz [(a, .inr (0, [.ref a_sets, .ref a_sums, .ref a_lowSums, .ref a_highSums, .int v_lookedFrom])), (a_sums, .inl (cyI, 17, .inl v_sums))]) (gQi0 Q (dC, dI) (va_A [(a, .inr (0, [.ref a_sets, .ref a_sums, .ref a_lowSums, .ref a_highSums, .int v_lookedFrom])), (a_sums, .inl (cyI, 17, .inl v_sums))] sz) [(a, .inr (0, [.ref a_sets, .ref a_sums, .ref a_lowSums, .ref a_highSums, .int v_lookedFrom])), (a_sums, .inl (cyI, 17, .inl v_sums))]) 0 0 (va_A [(a, .inr (0, [.ref a_sets, .ref a_sums, .ref a_lowSums, .ref a_highSums, .int v_lookedFrom])), (a_sums, .inl (cyI, 17, .inl v_sums))] sz) := by
  refine gMet (cc := cX0_bestSize) (maxL := 4) (ret := (some .int)) (own := RX0) (fun A => gQi0 Q (dC, dI) A [(a, .inr (0, [.ref a_sets, .ref a_sums, .ref a_lowSums, .ref a_highSums, .int v_lookedFrom])), (a_sums, .inl (cyI, 17, .inl v_sums))]) (by decide) rfl rfl (Nat.le_of_ble_eq_true rfl) ?_
  intro p e s m below meth c A ls C0 _ hK hN hP hD hA hl
  obtain ⟨hx, hb, hr, hml, hown, hts, hlocks⟩ := id C0
  have f15 := hts (.fieldLink RX0 15 "LastOchre$BestDigs" "sums" "[I") (by decide +kernel)
  have hS : va_S A s.heap s.heap [] := va_S.rf
  replace hl : lv_has ls 4 [(0, .ref a), (1, .int p0)] := hl
  unfold q_X0_bestSize at h
  obtain ⟨n, h⟩ := h
  have ih4 := w_X0_bestSize (l := l) (e := e) (below := below) dC dI cyC cyI cyZ a a_sets a_sums a_lowSums a_highSums v_lookedFrom v_sums p0 Q C0 hK hN hA n
  unfold F_X0_bestSize_e at h
  refine lv_iconst (v := 0) hx hb dX0_bestSize_0 (by decide) ?_
  refine lv_istore_n (lv' := [(2, .int (0 : Int32)), (0, .ref a), (1, .int p0)]) hx hb dX0_bestSize_1 rfl hl (by decide) rfl (fun ls hl => ?_)
  refine lv_iconst (v := 1) hx hb dX0_bestSize_2 (by decide) ?_
  refine lv_istore_n (lv' := [(3, .int (1 : Int32)), (2, .int (0 : Int32)), (0, .ref a), (1, .int p0)]) hx hb dX0_bestSize_3 rfl hl (by decide) rfl (fun ls hl => ?_)
  exact ih4 (0 : Int32) (1 : Int32) _ _ _ h hP hD hS (lv_sub hl [2, 3, 1, 0] rfl)

def F_X1_add_e (p0 : Int32) (Q : Int32 → Int32 → Int32 → (Nat → Int32) → Prop) (v_length : Int32) (v_lookedFrom : Int32) (v_parts : Nat → Int32) : Prop :=
  (v_length < (5 : Int32) → (vp_in v_length 5 ∧ (∀ f_3 : Nat → Int32, f_3 = upd v_parts (v_length).toNatClampNeg p0 → (∀ n_5 : Int32, n_5 = (v_length + (1 : Int32)) → (Q (1 : Int32) n_5 (-1 : Int32) f_3))))) ∧ (¬ v_length < (5 : Int32) → (Q (0 : Int32) v_length v_lookedFrom v_parts))
def q_X1_add (v_length : Int32) (v_lookedFrom : Int32) (v_parts : Nat → Int32) (p0 : Int32) (Q : Int32 → Int32 → Int32 → (Nat → Int32) → Prop) : Prop := F_X1_add_e p0 Q v_length v_lookedFrom v_parts
theorem iwX1_add_X1 : ∀ w ∈ wsX10, w ∈ wsX1_add := by decide +kernel
theorem hdV_X1_add : yX1_add.cls = RX1 ∧ yX1_add.cls ≠ "java/lang/invoke/MethodHandle" ∧ yX1_add.cls ≠ "java/lang/invoke/VarHandle" ∧ (parseMethodDescriptor yX1_add.desc).map (fun d => d.parameters.length) = some 1 := by decide +kernel
set_option maxHeartbeats 4000000 in
set_option maxRecDepth 100000 in
theorem c_X1_add (l : Launch) (dC : Nat → ClassId) (dI : Nat → Nat → Nat) (cyC cyI cyZ : ClassId) (sz : Nat) (a a_parts a_path a_firstRow : Nat) (v_length : Int32) (v_found : Int32) (v_inEach : Int32) (v_lookedFrom : Int32) (v_parts : Nat → Int32) (p0 : Int32) {Q : Int32 → Int32 → Int32 → (Nat → Int32) → Prop} (h : q_X1_add v_length v_lookedFrom v_parts p0 Q) : Met l yX1_add wsX1_add ({ frames := 0, cells := 0, slots := 0, locals := 0 }) (gPc [.ref a, .int p0] (dC, dI) (gTy cyC cyI cyZ) sz [(a, .inr (1, [.ref a_parts, .int v_length, .ref a_path, .ref a_firstRow, .int v_found, .int v_inEach, .int v_lookedFrom])), (a_parts, .inl (cyI, 5, .inl v_parts))]) (gQi3 Q (dC, dI) (va_A [(a, .inr (1, [.ref a_parts, .int v_length, .ref a_path, .ref a_firstRow, .int v_found, .int v_inEach, .int v_lookedFrom])), (a_parts, .inl (cyI, 5, .inl v_parts))] sz) (fun (u1 : Int32) (u2 : Int32) (u3 : Nat → Int32) => [(a, .inr (1, [.ref a_parts, .int u1, .ref a_path, .ref a_firstRow, .int v_found, .int v_inEach, .int u2])), (a_parts, .inl (cyI, 5, .inl u3))])) 0 0 (va_A [(a, .inr (1, [.ref a_parts, .int v_length, .ref a_path, .ref a_firstRow, .int v_found, .int v_inEach, .int v_lookedFrom])), (a_parts, .inl (cyI, 5, .inl v_parts))] sz) := by
  refine gMet (cc := cX1_add) (maxL := 2) (ret := (some .boolean)) (own := RX1) (fun A => gQi3 Q (dC, dI) A (fun (u1 : Int32) (u2 : Int32) (u3 : Nat → Int32) => [(a, .inr (1, [.ref a_parts, .int u1, .ref a_path, .ref a_firstRow, .int v_found, .int v_inEach, .int u2])), (a_parts, .inl (cyI, 5, .inl u3))])) (by decide) rfl rfl (Nat.le_of_ble_eq_true rfl) ?_
  intro p e s m below meth c A ls C0 _ hK hN hP hD hA hl
  obtain ⟨hx, hb, hr, hml, hown, hts, hlocks⟩ := id C0
  have f21 := hts (.fieldLink RX1 21 "LastOchre$Came" "lookedFrom" "I") (by decide +kernel)
  have f25 := hts (.fieldLink RX1 25 "LastOchre$Came" "length" "I") (by decide +kernel)
  have f9 := hts (.fieldLink RX1 9 "LastOchre$Came" "parts" "[I") (by decide +kernel)
  have hS : va_S A s.heap s.heap [] := va_S.rf
  replace hl : lv_has ls 2 [(0, .ref a), (1, .int p0)] := hl
  unfold q_X1_add at h
  unfold F_X1_add_e at h
  refine lv_aload_n hx hb dX1_add_0 rfl (lv_at hl 0 rfl) ?_
  refine va_get (D := (dC, dI)) (ci := 1) (v := .int v_length) (C := RX1) (T := TX1) (N := 7) hx hb hts iwX1_add_X1 hown hK hP 0 rfl rfl 1 (by decide) f25 (fun _ h9 => h9) rfl dX1_add_1 ?_
  refine lv_iconst (v := 5) hx hb dX1_add_4 (by decide) ?_
  refine lv_icmp_lt (tgt := 10) hx hb dX1_add_5 (by decide) (fun c_1 => ?_) (fun c_1 => ?_)
  · replace h := h.1 c_1
    refine lv_aload_n hx hb dX1_add_10 rfl (lv_at hl 0 rfl) ?_
    refine va_get (D := (dC, dI)) (ci := 1) (v := .ref a_parts) (C := RX1) (T := TX1) (N := 7) hx hb hts iwX1_add_X1 hown hK hP 0 rfl rfl 0 (by decide) f9 (fun _ h9 => h9) rfl dX1_add_11 ?_
    refine lv_aload_n hx hb dX1_add_14 rfl (lv_at hl 0 rfl) ?_
    refine va_get (D := (dC, dI)) (ci := 1) (v := .int v_length) (C := RX1) (T := TX1) (N := 7) hx hb hts iwX1_add_X1 hown hK hP 0 rfl rfl 1 (by decide) f25 (fun _ h9 => h9) rfl dX1_add_15 ?_
    refine lv_iload_n hx hb dX1_add_18 rfl (lv_at hl 1 rfl) ?_
    have g_2 := h.1
    replace h := h.2
    refine va_iast hx hb hK hP hD hS 1 0 rfl rfl g_2 dX1_add_19 (fun H locs hP hD hS => ?_)
    obtain ⟨f_3, e_4⟩ : ∃ y : Nat → Int32, y = upd v_parts (v_length).toNatClampNeg p0 := ⟨_, rfl⟩
    replace h := h f_3 e_4
    replace hP : va_P (dC, dI) vwCl [(a, .inr (1, [.ref a_parts, .int v_length, .ref a_path, .ref a_firstRow, .int v_found, .int v_inEach, .int v_lookedFrom])), (a_parts, .inl (cyI, 5, .inl f_3))] H := by rw [e_4]; exact hP
    replace hD : va_D A [(a, .inr (1, [.ref a_parts, .int v_length, .ref a_path, .ref a_firstRow, .int v_found, .int v_inEach, .int v_lookedFrom])), (a_parts, .inl (cyI, 5, .inl f_3))] := by rw [e_4]; exact hD
    refine lv_aload_n hx hb dX1_add_20 rfl (lv_at hl 0 rfl) ?_
    refine lv_dup hx hb dX1_add_21 rfl ?_
    refine va_get (D := (dC, dI)) (ci := 1) (v := .int v_length) (C := RX1) (T := TX1) (N := 7) hx hb hts iwX1_add_X1 hown hK hP 0 rfl rfl 1 (by decide) f25 (fun _ h9 => h9) rfl dX1_add_22 ?_
    refine lv_iconst (v := 1) hx hb dX1_add_25 (by decide) ?_
    refine lv_iadd hx hb dX1_add_26 ?_
    refine lv_topi (fun n_5 e_6 => ?_)
    replace h := h n_5 e_6
    refine va_put (D := (dC, dI)) (ci := 1) (v := .int n_5) (ty := .int) (C := RX1) (T := TX1) (N := 7) hx hb hts iwX1_add_X1 tyX1 tyX1_ok nmX1 hown hK hP hD hS 0 rfl rfl 1 (by decide) f25 (fun _ h9 => h9) rfl (by decide +kernel) rfl rfl (Nat.le_of_ble_eq_true rfl) dX1_add_27 (fun H locs hP hD hS => ?_)
    replace hP : va_P (dC, dI) vwCl [(a, .inr (1, [.ref a_parts, .int n_5, .ref a_path, .ref a_firstRow, .int v_found, .int v_inEach, .int v_lookedFrom])), (a_parts, .inl (cyI, 5, .inl f_3))] H := hP
    replace hD : va_D A [(a, .inr (1, [.ref a_parts, .int n_5, .ref a_path, .ref a_firstRow, .int v_found, .int v_inEach, .int v_lookedFrom])), (a_parts, .inl (cyI, 5, .inl f_3))] := hD
    refine lv_aload_n hx hb dX1_add_30 rfl (lv_at hl 0 rfl) ?_
    refine lv_iconst (v := -1) hx hb dX1_add_31 (by decide) ?_
    refine va_put (D := (dC, dI)) (ci := 1) (v := .int (-1 : Int32)) (ty := .int) (C := RX1) (T := TX1) (N := 7) hx hb hts iwX1_add_X1 tyX1 tyX1_ok nmX1 hown hK hP hD hS 0 rfl rfl 6 (by decide) f21 (fun _ h9 => h9) rfl (by decide +kernel) rfl rfl (Nat.le_of_ble_eq_true rfl) dX1_add_32 (fun H locs hP hD hS => ?_)
    replace hP : va_P (dC, dI) vwCl [(a, .inr (1, [.ref a_parts, .int n_5, .ref a_path, .ref a_firstRow, .int v_found, .int v_inEach, .int (-1 : Int32)])), (a_parts, .inl (cyI, 5, .inl f_3))] H := hP
    replace hD : va_D A [(a, .inr (1, [.ref a_parts, .int n_5, .ref a_path, .ref a_firstRow, .int v_found, .int v_inEach, .int (-1 : Int32)])), (a_parts, .inl (cyI, 5, .inl f_3))] := hD
    refine lv_iconst (v := 1) hx hb dX1_add_35 (by decide) ?_
    exact grz3 hx hb hr hlocks rfl h hP hD hS dX1_add_36
  · replace h := h.2 c_1
    refine lv_iconst (v := 0) hx hb dX1_add_8 (by decide) ?_
    exact grz3 hx hb hr hlocks rfl h hP hD hS dX1_add_9

def F_X1_wipe_e  (Q : Int32 → Int32 → Prop) (v_length : Int32) (v_lookedFrom : Int32) : Prop :=
  Q (0 : Int32) (-1 : Int32)
def q_X1_wipe (v_length : Int32) (v_lookedFrom : Int32) (Q : Int32 → Int32 → Prop) : Prop := F_X1_wipe_e  Q v_length v_lookedFrom
theorem iwX1_wipe_X1 : ∀ w ∈ wsX10, w ∈ wsX1_wipe := by decide +kernel
theorem hdV_X1_wipe : yX1_wipe.cls = RX1 ∧ yX1_wipe.cls ≠ "java/lang/invoke/MethodHandle" ∧ yX1_wipe.cls ≠ "java/lang/invoke/VarHandle" ∧ (parseMethodDescriptor yX1_wipe.desc).map (fun d => d.parameters.length) = some 0 := by decide +kernel
set_option maxHeartbeats 4000000 in
set_option maxRecDepth 100000 in
theorem c_X1_wipe (l : Launch) (dC : Nat → ClassId) (dI : Nat → Nat → Nat) (cyC cyI cyZ : ClassId) (sz : Nat) (a a_parts a_path a_firstRow : Nat) (v_length : Int32) (v_found : Int32) (v_inEach : Int32) (v_lookedFrom : Int32) {Q : Int32 → Int32 → Prop} (h : q_X1_wipe v_length v_lookedFrom Q) : Met l yX1_wipe wsX1_wipe ({ frames := 0, cells := 0, slots := 0, locals := 0 }) (gPc [.ref a] (dC, dI) (gTy cyC cyI cyZ) sz [(a, .inr (1, [.ref a_parts, .int v_length, .ref a_path, .ref a_firstRow, .int v_found, .int v_inEach, .int v_lookedFrom]))]) (gQv2 Q (dC, dI) (va_A [(a, .inr (1, [.ref a_parts, .int v_length, .ref a_path, .ref a_firstRow, .int v_found, .int v_inEach, .int v_lookedFrom]))] sz) (fun (u1 : Int32) (u2 : Int32) => [(a, .inr (1, [.ref a_parts, .int u1, .ref a_path, .ref a_firstRow, .int v_found, .int v_inEach, .int u2]))])) 0 0 (va_A [(a, .inr (1, [.ref a_parts, .int v_length, .ref a_path, .ref a_firstRow, .int v_found, .int v_inEach, .int v_lookedFrom]))] sz) := by
  refine gMet (cc := cX1_wipe) (maxL := 1) (ret := none) (own := RX1) (fun A => gQv2 Q (dC, dI) A (fun (u1 : Int32) (u2 : Int32) => [(a, .inr (1, [.ref a_parts, .int u1, .ref a_path, .ref a_firstRow, .int v_found, .int v_inEach, .int u2]))])) (by decide) rfl rfl (Nat.le_of_ble_eq_true rfl) ?_
  intro p e s m below meth c A ls C0 _ hK hN hP hD hA hl
  obtain ⟨hx, hb, hr, hml, hown, hts, hlocks⟩ := id C0
  have f21 := hts (.fieldLink RX1 21 "LastOchre$Came" "lookedFrom" "I") (by decide +kernel)
  have f25 := hts (.fieldLink RX1 25 "LastOchre$Came" "length" "I") (by decide +kernel)
  have hS : va_S A s.heap s.heap [] := va_S.rf
  replace hl : lv_has ls 1 [(0, .ref a)] := hl
  unfold q_X1_wipe at h
  unfold F_X1_wipe_e at h
  refine lv_aload_n hx hb dX1_wipe_0 rfl (lv_at hl 0 rfl) ?_
  refine lv_iconst (v := 0) hx hb dX1_wipe_1 (by decide) ?_
  refine va_put (D := (dC, dI)) (ci := 1) (v := .int (0 : Int32)) (ty := .int) (C := RX1) (T := TX1) (N := 7) hx hb hts iwX1_wipe_X1 tyX1 tyX1_ok nmX1 hown hK hP hD hS 0 rfl rfl 1 (by decide) f25 (fun _ h9 => h9) rfl (by decide +kernel) rfl rfl (Nat.le_of_ble_eq_true rfl) dX1_wipe_2 (fun H locs hP hD hS => ?_)
  replace hP : va_P (dC, dI) vwCl [(a, .inr (1, [.ref a_parts, .int (0 : Int32), .ref a_path, .ref a_firstRow, .int v_found, .int v_inEach, .int v_lookedFrom]))] H := hP
  replace hD : va_D A [(a, .inr (1, [.ref a_parts, .int (0 : Int32), .ref a_path, .ref a_firstRow, .int v_found, .int v_inEach, .int v_lookedFrom]))] := hD
  refine lv_aload_n hx hb dX1_wipe_5 rfl (lv_at hl 0 rfl) ?_
  refine lv_iconst (v := -1) hx hb dX1_wipe_6 (by decide) ?_
  refine va_put (D := (dC, dI)) (ci := 1) (v := .int (-1 : Int32)) (ty := .int) (C := RX1) (T := TX1) (N := 7) hx hb hts iwX1_wipe_X1 tyX1 tyX1_ok nmX1 hown hK hP hD hS 0 rfl rfl 6 (by decide) f21 (fun _ h9 => h9) rfl (by decide +kernel) rfl rfl (Nat.le_of_ble_eq_true rfl) dX1_wipe_7 (fun H locs hP hD hS => ?_)
  replace hP : va_P (dC, dI) vwCl [(a, .inr (1, [.ref a_parts, .int (0 : Int32), .ref a_path, .ref a_firstRow, .int v_found, .int v_inEach, .int (-1 : Int32)]))] H := hP
  replace hD : va_D A [(a, .inr (1, [.ref a_parts, .int (0 : Int32), .ref a_path, .ref a_firstRow, .int v_found, .int v_inEach, .int (-1 : Int32)]))] := hD
  exact grv2 hx hb hr hlocks h hP hD hS dX1_wipe_10

def F_X1_take_e (v_path : Nat → Int32) (p0 : Int32) (Q : Int32 → Int32 → (Nat → Int32) → Prop) (rec : Nat → Int32 → Int32 → (Nat → Int32) → Prop) (v_found : Int32) (v_inEach : Int32) (v_firstRow : Nat → Int32) : Prop :=
  (¬ v_found = 0 → (rec 26 v_found v_inEach v_firstRow)) ∧ (v_found = 0 → (∀ f_2 : Nat → Int32, f_2 = va_cpy v_path v_firstRow ((0 : Int32)).toNatClampNeg ((0 : Int32)).toNatClampNeg ((5 : Int32)).toNatClampNeg → (rec 26 v_found p0 f_2)))
def F_X1_take_26 (v_path : Nat → Int32) (p0 : Int32) (Q : Int32 → Int32 → (Nat → Int32) → Prop) (rec : Nat → Int32 → Int32 → (Nat → Int32) → Prop) (v_found : Int32) (v_inEach : Int32) (v_firstRow : Nat → Int32) : Prop :=
  ∀ n_4 : Int32, n_4 = (v_inEach &&& p0) → (∀ n_6 : Int32, n_6 = (v_found + (1 : Int32)) → (Q n_6 n_4 v_firstRow))
def wp_X1_take (v_path : Nat → Int32) (p0 : Int32) (Q : Int32 → Int32 → (Nat → Int32) → Prop) : Nat → Nat → Int32 → Int32 → (Nat → Int32) → Prop
  | 0 => fun _ _ _ _ => False
  | n + 1 => fun t v_found v_inEach v_firstRow => if t = 26 then F_X1_take_26 v_path p0 Q (wp_X1_take v_path p0 Q n) v_found v_inEach v_firstRow else False
def q_X1_take (v_found : Int32) (v_inEach : Int32) (v_path : Nat → Int32) (v_firstRow : Nat → Int32) (p0 : Int32) (Q : Int32 → Int32 → (Nat → Int32) → Prop) : Prop := ∃ n, F_X1_take_e v_path p0 Q (wp_X1_take v_path p0 Q n) v_found v_inEach v_firstRow
theorem iwX1_take_X1 : ∀ w ∈ wsX10, w ∈ wsX1_take := by decide +kernel
theorem hdV_X1_take : yX1_take.cls = RX1 ∧ yX1_take.cls ≠ "java/lang/invoke/MethodHandle" ∧ yX1_take.cls ≠ "java/lang/invoke/VarHandle" ∧ (parseMethodDescriptor yX1_take.desc).map (fun d => d.parameters.length) = some 1 := by decide +kernel
set_option maxHeartbeats 4000000 in
set_option maxRecDepth 100000 in
theorem w_X1_take {p : Program} {l : Launch} {e : Env} {s : State} {m : MethodId} {args : Array Value} {below : List Frame} {meth : Method} {c : Code} {A : Nat → Prop} (dC : Nat → ClassId) (dI : Nat → Nat → Nat) (cyC cyI cyZ : ClassId) (a a_parts a_path a_firstRow : Nat) (v_length : Int32) (v_lookedFrom : Int32) (v_path : Nat → Int32) (p0 : Int32) (Q : Int32 → Int32 → (Nat → Int32) → Prop) (C0 : gAt cX1_take none 2 RX1 wsX1_take p s m meth c args) (hK : va_K (dC, dI) vwCl (gTy cyC cyI cyZ) s) (hN : nU s) (hA : ∀ q, s.heap.size ≤ q → A q) : ∀ n : Nat, (∀ (v_found : Int32) (v_inEach : Int32) (v_firstRow : Nat → Int32) (H : Heap) (locs : List Loc) (ls : Array Slot), wp_X1_take v_path p0 Q n 26 v_found v_inEach v_firstRow → va_P (dC, dI) vwCl [(a, .inr (1, [.ref a_parts, .int v_length, .ref a_path, .ref a_firstRow, .int v_found, .int v_inEach, .int v_lookedFrom])), (a_path, .inl (cyI, 5, .inl v_path)), (a_firstRow, .inl (cyI, 5, .inl v_firstRow))] H → va_D A [(a, .inr (1, [.ref a_parts, .int v_length, .ref a_path, .ref a_firstRow, .int v_found, .int v_inEach, .int v_lookedFrom])), (a_path, .inl (cyI, 5, .inl v_path)), (a_firstRow, .inl (cyI, 5, .inl v_firstRow))] → va_S A s.heap H locs → lv_has ls 2 [(0, .ref a), (1, .int p0)] → W p l e { frames := 1, cells := 0, slots := 0, locals := 40 } s m args below meth c H locs 0 0 (MQ below (gQv3 Q (dC, dI) A (fun (u1 : Int32) (u2 : Int32) (u3 : Nat → Int32) => [(a, .inr (1, [.ref a_parts, .int v_length, .ref a_path, .ref a_firstRow, .int u1, .int u2, .int v_lookedFrom])), (a_path, .inl (cyI, 5, .inl v_path)), (a_firstRow, .inl (cyI, 5, .inl u3))])) args s 0 0 A) (F0 m 26 ls [])) := by
  obtain ⟨hx, hb, hr, hml, hown, hts, hlocks⟩ := id C0
  have f15 := hts (.fieldLink RX1 15 "LastOchre$Came" "path" "[I") (by decide +kernel)
  have f18 := hts (.fieldLink RX1 18 "LastOchre$Came" "firstRow" "[I") (by decide +kernel)
  have f28 := hts (.fieldLink RX1 28 "LastOchre$Came" "found" "I") (by decide +kernel)
  have f31 := hts (.fieldLink RX1 31 "LastOchre$Came" "inEach" "I") (by decide +kernel)
  intro n
  induction n with
  | zero => exact fun _ _ _ _ _ _ h => absurd h id
  | succ n ih =>
    have ih26 := ih
    · intro v_found v_inEach v_firstRow H locs ls h hP hD hS hl
      replace h : F_X1_take_26 v_path p0 Q (wp_X1_take v_path p0 Q n) v_found v_inEach v_firstRow := h
      unfold F_X1_take_26 at h
      refine lv_aload_n hx hb dX1_take_26 rfl (lv_at hl 0 rfl) ?_
      refine lv_dup hx hb dX1_take_27 rfl ?_
      refine va_get (D := (dC, dI)) (ci := 1) (v := .int v_inEach) (C := RX1) (T := TX1) (N := 7) hx hb hts iwX1_take_X1 hown hK hP 0 rfl rfl 5 (by decide) f31 (fun _ h9 => h9) rfl dX1_take_28 ?_
      refine lv_iload_n hx hb dX1_take_31 rfl (lv_at hl 1 rfl) ?_
      refine lv_iand hx hb dX1_take_32 ?_
      refine lv_topi (fun n_4 e_5 => ?_)
      replace h := h n_4 e_5
      refine va_put (D := (dC, dI)) (ci := 1) (v := .int n_4) (ty := .int) (C := RX1) (T := TX1) (N := 7) hx hb hts iwX1_take_X1 tyX1 tyX1_ok nmX1 hown hK hP hD hS 0 rfl rfl 5 (by decide) f31 (fun _ h9 => h9) rfl (by decide +kernel) rfl rfl (Nat.le_of_ble_eq_true rfl) dX1_take_33 (fun H locs hP hD hS => ?_)
      replace hP : va_P (dC, dI) vwCl [(a, .inr (1, [.ref a_parts, .int v_length, .ref a_path, .ref a_firstRow, .int v_found, .int n_4, .int v_lookedFrom])), (a_path, .inl (cyI, 5, .inl v_path)), (a_firstRow, .inl (cyI, 5, .inl v_firstRow))] H := hP
      replace hD : va_D A [(a, .inr (1, [.ref a_parts, .int v_length, .ref a_path, .ref a_firstRow, .int v_found, .int n_4, .int v_lookedFrom])), (a_path, .inl (cyI, 5, .inl v_path)), (a_firstRow, .inl (cyI, 5, .inl v_firstRow))] := hD
      refine lv_aload_n hx hb dX1_take_36 rfl (lv_at hl 0 rfl) ?_
      refine lv_dup hx hb dX1_take_37 rfl ?_
      refine va_get (D := (dC, dI)) (ci := 1) (v := .int v_found) (C := RX1) (T := TX1) (N := 7) hx hb hts iwX1_take_X1 hown hK hP 0 rfl rfl 4 (by decide) f28 (fun _ h9 => h9) rfl dX1_take_38 ?_
      refine lv_iconst (v := 1) hx hb dX1_take_41 (by decide) ?_
      refine lv_iadd hx hb dX1_take_42 ?_
      refine lv_topi (fun n_6 e_7 => ?_)
      replace h := h n_6 e_7
      refine va_put (D := (dC, dI)) (ci := 1) (v := .int n_6) (ty := .int) (C := RX1) (T := TX1) (N := 7) hx hb hts iwX1_take_X1 tyX1 tyX1_ok nmX1 hown hK hP hD hS 0 rfl rfl 4 (by decide) f28 (fun _ h9 => h9) rfl (by decide +kernel) rfl rfl (Nat.le_of_ble_eq_true rfl) dX1_take_43 (fun H locs hP hD hS => ?_)
      replace hP : va_P (dC, dI) vwCl [(a, .inr (1, [.ref a_parts, .int v_length, .ref a_path, .ref a_firstRow, .int n_6, .int n_4, .int v_lookedFrom])), (a_path, .inl (cyI, 5, .inl v_path)), (a_firstRow, .inl (cyI, 5, .inl v_firstRow))] H := hP
      replace hD : va_D A [(a, .inr (1, [.ref a_parts, .int v_length, .ref a_path, .ref a_firstRow, .int n_6, .int n_4, .int v_lookedFrom])), (a_path, .inl (cyI, 5, .inl v_path)), (a_firstRow, .inl (cyI, 5, .inl v_firstRow))] := hD
      exact grv3 hx hb hr hlocks h hP hD hS dX1_take_46
set_option maxHeartbeats 4000000 in
set_option maxRecDepth 100000 in
theorem c_X1_take (l : Launch) (dC : Nat → ClassId) (dI : Nat → Nat → Nat) (cyC cyI cyZ : ClassId) (sz : Nat) (a a_parts a_path a_firstRow : Nat) (v_length : Int32) (v_found : Int32) (v_inEach : Int32) (v_lookedFrom : Int32) (v_path : Nat → Int32) (v_firstRow : Nat → Int32) (p0 : Int32) {Q : Int32 → Int32 → (Nat → Int32) → Prop} (h : q_X1_take v_found v_inEach v_path v_firstRow p0 Q) : Met l yX1_take wsX1_take ({ frames := 1, cells := 0, slots := 0, locals := 40 }) (gPc [.ref a, .int p0] (dC, dI) (gTy cyC cyI cyZ) sz [(a, .inr (1, [.ref a_parts, .int v_length, .ref a_path, .ref a_firstRow, .int v_found, .int v_inEach, .int v_lookedFrom])), (a_path, .inl (cyI, 5, .inl v_path)), (a_firstRow, .inl (cyI, 5, .inl v_firstRow))]) (gQv3 Q (dC, dI) (va_A [(a, .inr (1, [.ref a_parts, .int v_length, .ref a_path, .ref a_firstRow, .int v_found, .int v_inEach, .int v_lookedFrom])), (a_path, .inl (cyI, 5, .inl v_path)), (a_firstRow, .inl (cyI, 5, .inl v_firstRow))] sz) (fun (u1 : Int32) (u2 : Int32) (u3 : Nat → Int32) => [(a, .inr (1, [.ref a_parts, .int v_length, .ref a_path, .ref a_firstRow, .int u1, .int u2, .int v_lookedFrom])), (a_path, .inl (cyI, 5, .inl v_path)), (a_firstRow, .inl (cyI, 5, .inl u3))])) 0 0 (va_A [(a, .inr (1, [.ref a_parts, .int v_length, .ref a_path, .ref a_firstRow, .int v_found, .int v_inEach, .int v_lookedFrom])), (a_path, .inl (cyI, 5, .inl v_path)), (a_firstRow, .inl (cyI, 5, .inl v_firstRow))] sz) := by
  refine gMet (cc := cX1_take) (maxL := 2) (ret := none) (own := RX1) (fun A => gQv3 Q (dC, dI) A (fun (u1 : Int32) (u2 : Int32) (u3 : Nat → Int32) => [(a, .inr (1, [.ref a_parts, .int v_length, .ref a_path, .ref a_firstRow, .int u1, .int u2, .int v_lookedFrom])), (a_path, .inl (cyI, 5, .inl v_path)), (a_firstRow, .inl (cyI, 5, .inl u3))])) (by decide) rfl rfl (Nat.le_of_ble_eq_true rfl) ?_
  intro p e s m below meth c A ls C0 _ hK hN hP hD hA hl
  obtain ⟨hx, hb, hr, hml, hown, hts, hlocks⟩ := id C0
  have f15 := hts (.fieldLink RX1 15 "LastOchre$Came" "path" "[I") (by decide +kernel)
  have f18 := hts (.fieldLink RX1 18 "LastOchre$Came" "firstRow" "[I") (by decide +kernel)
  have f28 := hts (.fieldLink RX1 28 "LastOchre$Came" "found" "I") (by decide +kernel)
  have f31 := hts (.fieldLink RX1 31 "LastOchre$Came" "inEach" "I") (by decide +kernel)
  have hS : va_S A s.heap s.heap [] := va_S.rf
  replace hl : lv_has ls 2 [(0, .ref a), (1, .int p0)] := hl
  unfold q_X1_take at h
  obtain ⟨n, h⟩ := h
  have ih26 := w_X1_take (l := l) (e := e) (below := below) dC dI cyC cyI cyZ a a_parts a_path a_firstRow v_length v_lookedFrom v_path p0 Q C0 hK hN hA n
  unfold F_X1_take_e at h
  refine lv_aload_n hx hb dX1_take_0 rfl (lv_at hl 0 rfl) ?_
  refine va_get (D := (dC, dI)) (ci := 1) (v := .int v_found) (C := RX1) (T := TX1) (N := 7) hx hb hts iwX1_take_X1 hown hK hP 0 rfl rfl 4 (by decide) f28 (fun _ h9 => h9) rfl dX1_take_1 ?_
  refine lv_if_ne (tgt := 26) hx hb dX1_take_4 (by decide) (fun c_1 => ?_) (fun c_1 => ?_)
  · replace h := h.1 c_1
    exact ih26 v_found v_inEach v_firstRow _ _ _ h hP hD hS (lv_sub hl [0, 1] rfl)
  · replace h := h.2 c_1
    refine lv_aload_n hx hb dX1_take_7 rfl (lv_at hl 0 rfl) ?_
    refine lv_iload_n hx hb dX1_take_8 rfl (lv_at hl 1 rfl) ?_
    refine va_put (D := (dC, dI)) (ci := 1) (v := .int p0) (ty := .int) (C := RX1) (T := TX1) (N := 7) hx hb hts iwX1_take_X1 tyX1 tyX1_ok nmX1 hown hK hP hD hS 0 rfl rfl 5 (by decide) f31 (fun _ h9 => h9) rfl (by decide +kernel) rfl rfl (Nat.le_of_ble_eq_true rfl) dX1_take_9 (fun H locs hP hD hS => ?_)
    replace hP : va_P (dC, dI) vwCl [(a, .inr (1, [.ref a_parts, .int v_length, .ref a_path, .ref a_firstRow, .int v_found, .int p0, .int v_lookedFrom])), (a_path, .inl (cyI, 5, .inl v_path)), (a_firstRow, .inl (cyI, 5, .inl v_firstRow))] H := hP
    replace hD : va_D A [(a, .inr (1, [.ref a_parts, .int v_length, .ref a_path, .ref a_firstRow, .int v_found, .int p0, .int v_lookedFrom])), (a_path, .inl (cyI, 5, .inl v_path)), (a_firstRow, .inl (cyI, 5, .inl v_firstRow))] := hD
    refine lv_aload_n hx hb dX1_take_12 rfl (lv_at hl 0 rfl) ?_
    refine va_get (D := (dC, dI)) (ci := 1) (v := .ref a_path) (C := RX1) (T := TX1) (N := 7) hx hb hts iwX1_take_X1 hown hK hP 0 rfl rfl 2 (by decide) f15 (fun _ h9 => h9) rfl dX1_take_13 ?_
    refine lv_iconst (v := 0) hx hb dX1_take_16 (by decide) ?_
    refine lv_aload_n hx hb dX1_take_17 rfl (lv_at hl 0 rfl) ?_
    refine va_get (D := (dC, dI)) (ci := 1) (v := .ref a_firstRow) (C := RX1) (T := TX1) (N := 7) hx hb hts iwX1_take_X1 hown hK hP 0 rfl rfl 3 (by decide) f18 (fun _ h9 => h9) rfl dX1_take_18 ?_
    refine lv_iconst (v := 0) hx hb dX1_take_21 (by decide) ?_
    refine lv_iconst (v := 5) hx hb dX1_take_22 (by decide) ?_
    refine va_copyi hx hb (by rw [hml]; exact hl.1.symm) hown (hts (.methodLink RX1 53 arraycopyName) (by decide +kernel)) (hts (.native arraycopyName) (by decide +kernel)) (hts (.static arraycopyName) (by decide +kernel)) (hts (.initialized "java/lang/System") (by decide +kernel)) hK hP hD hS 1 2 0 0 (ty := .int) rfl rfl rfl rfl rfl (by decide) (by decide) (by decide) (by decide) (by decide) (fun _ _ => rfl) (Nat.le_of_ble_eq_true rfl) (by decide) dX1_take_23 (fun H locs hP hD hS => ?_)
    obtain ⟨f_2, e_3⟩ : ∃ y : Nat → Int32, y = va_cpy v_path v_firstRow ((0 : Int32)).toNatClampNeg ((0 : Int32)).toNatClampNeg ((5 : Int32)).toNatClampNeg := ⟨_, rfl⟩
    replace h := h f_2 e_3
    replace hP : va_P (dC, dI) vwCl [(a, .inr (1, [.ref a_parts, .int v_length, .ref a_path, .ref a_firstRow, .int v_found, .int p0, .int v_lookedFrom])), (a_path, .inl (cyI, 5, .inl v_path)), (a_firstRow, .inl (cyI, 5, .inl f_2))] H := by rw [e_3]; exact hP
    replace hD : va_D A [(a, .inr (1, [.ref a_parts, .int v_length, .ref a_path, .ref a_firstRow, .int v_found, .int p0, .int v_lookedFrom])), (a_path, .inl (cyI, 5, .inl v_path)), (a_firstRow, .inl (cyI, 5, .inl f_2))] := by rw [e_3]; exact hD
    exact ih26 v_found p0 f_2 _ _ _ h hP hD hS (lv_sub hl [0, 1] rfl)

def F_X4_cells_e (v_w : Int32) (v_h : Int32) (Q : Int32 → Prop)  : Prop :=
  Q (v_w * v_h)
def q_X4_cells (v_w : Int32) (v_h : Int32) (Q : Int32 → Prop) : Prop := F_X4_cells_e v_w v_h Q 
theorem iwX4_cells_X4 : ∀ w ∈ wsX40, w ∈ wsX4_cells := by decide +kernel
theorem hdV_X4_cells : yX4_cells.cls = RX4 ∧ yX4_cells.cls ≠ "java/lang/invoke/MethodHandle" ∧ yX4_cells.cls ≠ "java/lang/invoke/VarHandle" ∧ (parseMethodDescriptor yX4_cells.desc).map (fun d => d.parameters.length) = some 0 := by decide +kernel
set_option maxHeartbeats 4000000 in
set_option maxRecDepth 100000 in
theorem c_X4_cells (l : Launch) (dC : Nat → ClassId) (dI : Nat → Nat → Nat) (cyC cyI cyZ : ClassId) (sz : Nat) (a a_parts : Nat) (v_w : Int32) (v_h : Int32) (v_all : Int32) (v_top : Int32) (v_left : Int32) (v_right : Int32) {Q : Int32 → Prop} (h : q_X4_cells v_w v_h Q) : Met l yX4_cells wsX4_cells ({ frames := 0, cells := 0, slots := 0, locals := 0 }) (gPc [.ref a] (dC, dI) (gTy cyC cyI cyZ) sz [(a, .inr (4, [.int v_w, .int v_h, .ref a_parts, .int v_all, .int v_top, .int v_left, .int v_right]))]) (gQi0 Q (dC, dI) (va_A [(a, .inr (4, [.int v_w, .int v_h, .ref a_parts, .int v_all, .int v_top, .int v_left, .int v_right]))] sz) [(a, .inr (4, [.int v_w, .int v_h, .ref a_parts, .int v_all, .int v_top, .int v_left, .int v_right]))]) 0 0 (va_A [(a, .inr (4, [.int v_w, .int v_h, .ref a_parts, .int v_all, .int v_top, .int v_left, .int v_right]))] sz) := by
  refine gMet (cc := cX4_cells) (maxL := 1) (ret := (some .int)) (own := RX4) (fun A => gQi0 Q (dC, dI) A [(a, .inr (4, [.int v_w, .int v_h, .ref a_parts, .int v_all, .int v_top, .int v_left, .int v_right]))]) (by decide) rfl rfl (Nat.le_of_ble_eq_true rfl) ?_
  intro p e s m below meth c A ls C0 _ hK hN hP hD hA hl
  obtain ⟨hx, hb, hr, hml, hown, hts, hlocks⟩ := id C0
  have f15 := hts (.fieldLink RX4 15 "LastOchre$Seam" "w" "I") (by decide +kernel)
  have f19 := hts (.fieldLink RX4 19 "LastOchre$Seam" "h" "I") (by decide +kernel)
  have hS : va_S A s.heap s.heap [] := va_S.rf
  replace hl : lv_has ls 1 [(0, .ref a)] := hl
  unfold q_X4_cells at h
  unfold F_X4_cells_e at h
  refine lv_aload_n hx hb dX4_cells_0 rfl (lv_at hl 0 rfl) ?_
  refine va_get (D := (dC, dI)) (ci := 4) (v := .int v_w) (C := RX4) (T := TX4) (N := 7) hx hb hts iwX4_cells_X4 hown hK hP 0 rfl rfl 0 (by decide) f15 (fun _ h9 => h9) rfl dX4_cells_1 ?_
  refine lv_aload_n hx hb dX4_cells_4 rfl (lv_at hl 0 rfl) ?_
  refine va_get (D := (dC, dI)) (ci := 4) (v := .int v_h) (C := RX4) (T := TX4) (N := 7) hx hb hts iwX4_cells_X4 hown hK hP 0 rfl rfl 1 (by decide) f19 (fun _ h9 => h9) rfl dX4_cells_5 ?_
  refine lv_imul hx hb dX4_cells_8 ?_
  exact gri0 hx hb hr hlocks h hP hD hS dX4_cells_9

/-! ===== thing, mark ===== -/
section XY
variable {th bo : Nat} {fa ye wh wo : Nat → Nat} {bound things : Int32} {fades rows hill now worth : Nat → Int32} {t : Nat} {p p1 p2 p3 : Int32} {Q : Int32 → Prop}
theorem s_oneIf {c : Bool} (h : Q (bI c)) : q_X6_oneIf (bI c) Q := by
  unfold q_X6_oneIf F_X6_oneIf_e
  cases c
  · exact br_t rfl h
  · exact br_f (by decide) h
theorem pr_thing (C : cXY th bo fa ye wh bound things fades rows hill now) (hw : ∀ t, t < th → wo t ≤ 99 ∧ worth t = nI (wo t) ∧ hill (25 + 4 * t) = nI (wo t)) : ∃ r : Int32, (∀ Q : Int32 → Prop, Q r → q_X6_thing bound things rows fades worth p p1 Q) ∧ (∀ Q : Int32 → Prop, Q r → q_X7_thing hill now p p1 Q) := by
  obtain ⟨X, Y⟩ := C
  have h6 := X.1
  by_cases hp : isT p th = true
  · obtain ⟨k, hk, rfl⟩ := isT_t (by omega) hp
    have sX : ∀ Q : Int32 → Prop, ((p1 = 0 → Q (nI (ye k))) ∧ (p1 = 1 → Q (nI (wh k))) ∧ (p1 = 2 → Q (nI (fa k))) ∧ (p1 = 3 → Q (nI (wo k))) ∧ (p1 = 4 → Q (bI (cal bo (ye k) (wh k)))) ∧ ((¬ p1 = 0 ∧ ¬ p1 = 1 ∧ ¬ p1 = 2 ∧ ¬ p1 = 3 ∧ ¬ p1 = 4) → Q (-1))) → q_X6_thing bound things rows fades worth (nI k) p1 Q := by
      intro Q h
      unfold q_X6_thing F_X6_thing_e
      refine s_isThing X.2.2.2.2.1 ?_
      rw [hp]
      obtain ⟨f1, f2⟩ := s_fadesV X hk
      refine p_n (by decide) ⟨fun q => s_yellow X hk (h.1 q), fun q => s_white X hk (h.2.1 q), fun q => ⟨f1, by rw [f2]; exact h.2.2.1 q⟩, fun q => ⟨f1, ?_⟩, fun q => s_called0 X hk (s_oneIf (h.2.2.2.2.1 q)), fun q => h.2.2.2.2.2 q⟩
      rw [nI_clamp (by omega), (hw k hk).2.1]
      exact h.2.2.2.1 q
    have sY : ∀ Q : Int32 → Prop, ((p1 = 0 → Q (nI (ye k))) ∧ (p1 = 1 → Q (nI (wh k))) ∧ (p1 = 2 → Q (nI (fa k))) ∧ (p1 = 3 → Q (nI (wo k))) ∧ (p1 = 4 → Q (bI (cal bo (ye k) (wh k)))) ∧ ((¬ p1 = 0 ∧ ¬ p1 = 1 ∧ ¬ p1 = 2 ∧ ¬ p1 = 3 ∧ ¬ p1 = 4) → Q (-1))) → q_X7_thing hill now (nI k) p1 Q := by
      intro Q h
      unfold q_X7_thing F_X7_thing_e
      refine s_isThing7 Y.2.2.2.1 ?_
      rw [hp]
      refine br_f (by decide) (s_in (b := 0) (c := 4) rfl rfl ?_)
      refine p_y (fun q => ?_) (fun q => ?_)
      · obtain ⟨j, hj, rfl⟩ := inR_t (n := 4) (by decide) q
        refine ⟨fun q => s_yellow7 Y hk (h.1 q), fun q => s_white7 Y hk (h.2.1 q), fun q => s_fades7 Y hk (h.2.2.1 q), fun q => s_worth7 h6 (fun t ht => (hw t ht).2.2) hk (h.2.2.2.1 q), fun q => s_then0 Y hk ?_⟩
        have e4 : nI j = 4 := by
          rcases (show j = 0 ∨ j = 1 ∨ j = 2 ∨ j = 3 ∨ j = 4 by omega) with rfl | rfl | rfl | rfl | rfl
          · exact absurd rfl q.1
          · exact absurd rfl q.2.1
          · exact absurd rfl q.2.2.1
          · exact absurd rfl q.2.2.2
          · rfl
        have := h.2.2.2.2.1 e4
        exact p_z (fun hc => by rw [hc] at this; exact this) (fun hc => by rw [hc] at this; exact this)
      · have q : inR p1 4 = false := q
        have nn : ∀ j : Nat, j ≤ 4 → ¬ p1 = nI j := fun j hj e => by rw [e, inR_nI (by decide) hj] at q; cases q
        exact h.2.2.2.2.2 ⟨nn 0 (by omega), nn 1 (by omega), nn 2 (by omega), nn 3 (by omega), nn 4 (by omega)⟩
    have fin : ∃ r : Int32, ((p1 = 0 → nI (ye k) = r) ∧ (p1 = 1 → nI (wh k) = r) ∧ (p1 = 2 → nI (fa k) = r) ∧ (p1 = 3 → nI (wo k) = r) ∧ (p1 = 4 → bI (cal bo (ye k) (wh k)) = r) ∧ ((¬ p1 = 0 ∧ ¬ p1 = 1 ∧ ¬ p1 = 2 ∧ ¬ p1 = 3 ∧ ¬ p1 = 4) → (-1 : Int32) = r)) := by
      by_cases h0 : p1 = 0
      · subst h0; exact ⟨_, fun _ => rfl, fun q => absurd q (by decide), fun q => absurd q (by decide), fun q => absurd q (by decide), fun q => absurd q (by decide), fun q => absurd rfl q.1⟩
      by_cases h1 : p1 = 1
      · subst h1; exact ⟨_, fun q => absurd q (by decide), fun _ => rfl, fun q => absurd q (by decide), fun q => absurd q (by decide), fun q => absurd q (by decide), fun q => absurd rfl q.2.1⟩
      by_cases h2 : p1 = 2
      · subst h2; exact ⟨_, fun q => absurd q (by decide), fun q => absurd q (by decide), fun _ => rfl, fun q => absurd q (by decide), fun q => absurd q (by decide), fun q => absurd rfl q.2.2.1⟩
      by_cases h3 : p1 = 3
      · subst h3; exact ⟨_, fun q => absurd q (by decide), fun q => absurd q (by decide), fun q => absurd q (by decide), fun _ => rfl, fun q => absurd q (by decide), fun q => absurd rfl q.2.2.2.1⟩
      by_cases h4 : p1 = 4
      · subst h4; exact ⟨_, fun q => absurd q (by decide), fun q => absurd q (by decide), fun q => absurd q (by decide), fun q => absurd q (by decide), fun _ => rfl, fun q => absurd rfl q.2.2.2.2⟩
      exact ⟨_, fun q => absurd q h0, fun q => absurd q h1, fun q => absurd q h2, fun q => absurd q h3, fun q => absurd q h4, fun _ => rfl⟩
    obtain ⟨r, a0, a1, a2, a3, a4, a5⟩ := fin
    exact ⟨r, fun Q h => sX Q ⟨fun q => by rw [a0 q]; exact h, fun q => by rw [a1 q]; exact h, fun q => by rw [a2 q]; exact h, fun q => by rw [a3 q]; exact h, fun q => by rw [a4 q]; exact h, fun q => by rw [a5 q]; exact h⟩, fun Q h => sY Q ⟨fun q => by rw [a0 q]; exact h, fun q => by rw [a1 q]; exact h, fun q => by rw [a2 q]; exact h, fun q => by rw [a3 q]; exact h, fun q => by rw [a4 q]; exact h, fun q => by rw [a5 q]; exact h⟩⟩
  · have hp : isT p th = false := by simpa using hp
    refine ⟨-1, fun Q h => ?_, fun Q h => ?_⟩
    · unfold q_X6_thing F_X6_thing_e
      refine s_isThing X.2.2.2.2.1 ?_
      rw [hp]; exact p_m rfl h
    · unfold q_X7_thing F_X7_thing_e
      refine s_isThing7 Y.2.2.2.1 ?_
      rw [hp]; exact br_t rfl h
theorem pr_mark (C : cXY th bo fa ye wh bound things fades rows hill now) (hw : ∀ t, t < th → wo t ≤ 99 ∧ worth t = nI (wo t) ∧ hill (25 + 4 * t) = nI (wo t)) (hyr : rows 2 = now 0) (tr : Int64) : ∃ (r : Int32) (u : Int64), (∀ Q : Int32 → Int64 → Prop, Q r u → q_X6_mark tr bound things rows worth p p1 Q) ∧ (∀ Q : Int32 → Int64 → Prop, Q r u → q_X7_mark tr hill now p p1 Q) := by
  obtain ⟨X, Y⟩ := C
  have h6 := X.1
  by_cases hp : isT p1 th = true
  · obtain ⟨k, hk, rfl⟩ := isT_t (by omega) hp
    obtain ⟨f1, f2⟩ := s_fadesV X hk
    have w1 : worth (nI k).toNatClampNeg = nI (wo k) := by rw [nI_clamp (by omega)]; exact (hw k hk).2.1
    have mT : ∀ (v : Int64) (Q : Int32 → Int64 → Prop), Q (nI (ye k)) (v + 1) → q_X6_markThing v rows (nI k) Q := by
      intro v Q h
      unfold q_X6_markThing F_X6_markThing_e
      rintro n rfl
      exact s_yellow X hk h
    have mP : ∀ (v : Int64) (Q : Int32 → Int64 → Prop), Q (nI (ye k) + nI (wo k)) (v + 11) → q_X6_markPainting v rows worth (nI k) Q := by
      intro v Q h
      unfold q_X6_markPainting F_X6_markPainting_e
      rintro n rfl
      refine mT _ _ ⟨f1, ?_⟩
      rw [w1, show v + 10 + 1 = v + 11 by rw [Int64.add_assoc]; rfl]; exact h
    have mL : ∀ (v : Int64) (Q : Int32 → Int64 → Prop), Q (nI (ye k) - nI (wh k)) (v + 101) → q_X6_markLemon v rows (nI k) Q := by
      intro v Q h
      unfold q_X6_markLemon F_X6_markLemon_e
      rintro n rfl
      refine mT _ _ (s_white X hk ?_)
      rw [show v + 100 + 1 = v + 101 by rw [Int64.add_assoc]; rfl]; exact h
    have sX : ∀ Q : Int32 → Int64 → Prop, ((p = 0 → Q (nI (ye k)) (tr + 1)) ∧ (p = 1 → Q (nI (ye k) + nI (wo k)) (tr + 11)) ∧ (p = 2 → Q (nI (ye k) - nI (wh k)) (tr + 101)) ∧ (p = 3 → Q (2 * (nI (ye k) + nI (wo k))) (tr + 1011)) ∧ (p = 4 → Q (nI (ye k) - nI (wh k) + nI bo) (tr + 10101)) ∧ (p = 5 → Q (nI (ye k) + now 0) (tr + 100001)) ∧ ((¬ p = 0 ∧ ¬ p = 1 ∧ ¬ p = 2 ∧ ¬ p = 3 ∧ ¬ p = 4 ∧ ¬ p = 5) → Q (-1000000) tr)) → q_X6_mark tr bound things rows worth p (nI k) Q := by
      intro Q ⟨a0, a1, a2, a3, a4, a5, a6⟩
      unfold q_X6_mark F_X6_mark_e
      refine s_isThing X.2.2.2.2.1 ?_
      rw [hp]
      refine p_n (by decide) ⟨fun q => mT _ _ (a0 q), fun q => mP _ _ (a1 q), fun q => mL _ _ (a2 q), fun q => ?_, fun q => ?_, fun q => ?_, a6⟩
      · unfold q_X6_markSun F_X6_markSun_e
        rintro n rfl
        refine mP _ _ ?_
        rw [Int32.mul_comm, show tr + 1000 + 11 = tr + 1011 by rw [Int64.add_assoc]; rfl]; exact a3 q
      · unfold q_X6_markButter F_X6_markButter_e
        rintro n rfl
        refine mL _ _ ?_
        rw [X.2.2.2.1, show tr + 10000 + 101 = tr + 10101 by rw [Int64.add_assoc]; rfl]; exact a4 q
      · unfold q_X6_markBee F_X6_markBee_e
        rintro n rfl
        refine mT _ _ ?_
        unfold q_X2_year F_X2_year_e
        rw [show ((2 : Int32)).toNatClampNeg = 2 from rfl, hyr, show tr + 100000 + 1 = tr + 100001 by rw [Int64.add_assoc]; rfl]; exact a5 q
    have s83 : ∀ (Q : Int32 → Int64 → Prop) (i : Nat) (c : Int64), ((p = 0 → Q (nI (ye k)) (tr + c)) ∧ (p = 1 → Q (nI (ye k) + nI (wo k)) (tr + c)) ∧ (p = 2 → Q (nI (ye k) - nI (wh k)) (tr + c)) ∧ (p = 3 → Q (2 * (nI (ye k) + nI (wo k))) (tr + c)) ∧ (p = 4 → Q (nI (ye k) - nI (wh k) + nI bo) (tr + c)) ∧ ((¬ p = 0 ∧ ¬ p = 1 ∧ ¬ p = 2 ∧ ¬ p = 3 ∧ ¬ p = 4) → Q (nI (ye k) + now 0) (tr + c))) → wp_X7_mark hill now p (nI k) Q (i + 1) 83 c tr 0 tr := by
      intro Q i c ⟨a0, a1, a2, a3, a4, a5⟩
      show F_X7_mark_83 hill now p (nI k) Q (wp_X7_mark hill now p (nI k) Q i) c tr 0 tr
      unfold F_X7_mark_83
      rintro n rfl
      have w7 : ∀ {Q : Int32 → Prop}, Q (nI (wo k)) → q_X7_worth hill (nI k) Q := fun h => s_worth7 h6 (fun t ht => (hw t ht).2.2) hk h
      refine ⟨fun q => s_yellow7 Y hk (a0 q), fun q => s_yellow7 Y hk (w7 (a1 q)), fun q => s_yellow7 Y hk (s_white7 Y hk (a2 q)), fun q => s_yellow7 Y hk (w7 (a3 q)), fun q => s_yellow7 Y hk (s_white7 Y hk ?_), fun q => s_yellow7 Y hk ?_⟩
      · rw [show ((3 : Int32)).toNatClampNeg = 3 from rfl, Y.2.2.2.2.1]; exact a4 q
      · exact a5 q
    have sY : ∀ Q : Int32 → Int64 → Prop, ((p = 0 → Q (nI (ye k)) (tr + 1)) ∧ (p = 1 → Q (nI (ye k) + nI (wo k)) (tr + 11)) ∧ (p = 2 → Q (nI (ye k) - nI (wh k)) (tr + 101)) ∧ (p = 3 → Q (2 * (nI (ye k) + nI (wo k))) (tr + 1011)) ∧ (p = 4 → Q (nI (ye k) - nI (wh k) + nI bo) (tr + 10101)) ∧ (p = 5 → Q (nI (ye k) + now 0) (tr + 100001)) ∧ ((¬ p = 0 ∧ ¬ p = 1 ∧ ¬ p = 2 ∧ ¬ p = 3 ∧ ¬ p = 4 ∧ ¬ p = 5) → Q (-1000000) tr)) → q_X7_mark tr hill now p (nI k) Q := by
      intro Q ⟨a0, a1, a2, a3, a4, a5, a6⟩
      refine ⟨1, ?_⟩
      unfold F_X7_mark_e
      refine s_in (b := 0) (c := 5) rfl rfl (p_z (fun q => ?_) (fun q => ?_))
      · have q : inR p 5 = false := q
        have nn : ∀ j : Nat, j ≤ 5 → ¬ p = nI j := fun j hj e => by rw [e, inR_nI (by decide) hj] at q; cases q
        exact a6 ⟨nn 0 (by omega), nn 1 (by omega), nn 2 (by omega), nn 3 (by omega), nn 4 (by omega), nn 5 (by omega)⟩
      · obtain ⟨j, hj, e⟩ := inR_t (n := 5) (by decide) q
        refine s_isThing7 Y.2.2.2.1 ?_
        rw [hp]
        refine p_n (by decide) ⟨fun n0 => ⟨fun n1 => ⟨fun n2 => ⟨fun n3 => ⟨fun n4 => ?_, fun e4 => ?_⟩, fun e3 => ?_⟩, fun e2 => ?_⟩, fun e1 => ?_⟩, fun e0 => ?_⟩
        · have e5 : p = 5 := by
            rw [e]
            rcases (show j = 0 ∨ j = 1 ∨ j = 2 ∨ j = 3 ∨ j = 4 ∨ j = 5 by omega) with rfl | rfl | rfl | rfl | rfl | rfl
            · exact absurd e n0
            · exact absurd e n1
            · exact absurd e n2
            · exact absurd e n3
            · exact absurd e n4
            · rfl
          exact s83 Q 0 _ ⟨fun q => absurd q n0, fun q => absurd q n1, fun q => absurd q n2, fun q => absurd q n3, fun q => absurd q n4, fun _ => a5 e5⟩
        · exact s83 Q 0 _ ⟨fun q => absurd (e4.symm.trans q) (by decide), fun q => absurd (e4.symm.trans q) (by decide), fun q => absurd (e4.symm.trans q) (by decide), fun q => absurd (e4.symm.trans q) (by decide), a4, fun q => absurd e4 q.2.2.2.2⟩
        · exact s83 Q 0 _ ⟨fun q => absurd (e3.symm.trans q) (by decide), fun q => absurd (e3.symm.trans q) (by decide), fun q => absurd (e3.symm.trans q) (by decide), a3, fun q => absurd (e3.symm.trans q) (by decide), fun q => absurd e3 q.2.2.2.1⟩
        · exact s83 Q 0 _ ⟨fun q => absurd (e2.symm.trans q) (by decide), fun q => absurd (e2.symm.trans q) (by decide), a2, fun q => absurd (e2.symm.trans q) (by decide), fun q => absurd (e2.symm.trans q) (by decide), fun q => absurd e2 q.2.2.1⟩
        · exact s83 Q 0 _ ⟨fun q => absurd (e1.symm.trans q) (by decide), a1, fun q => absurd (e1.symm.trans q) (by decide), fun q => absurd (e1.symm.trans q) (by decide), fun q => absurd (e1.symm.trans q) (by decide), fun q => absurd e1 q.2.1⟩
        · exact s83 Q 0 _ ⟨a0, fun q => absurd (e0.symm.trans q) (by decide), fun q => absurd (e0.symm.trans q) (by decide), fun q => absurd (e0.symm.trans q) (by decide), fun q => absurd (e0.symm.trans q) (by decide), fun q => absurd e0 q.1⟩
    have fin : ∃ (r : Int32) (u : Int64), ∀ Q : Int32 → Int64 → Prop, Q r u → ((p = 0 → Q (nI (ye k)) (tr + 1)) ∧ (p = 1 → Q (nI (ye k) + nI (wo k)) (tr + 11)) ∧ (p = 2 → Q (nI (ye k) - nI (wh k)) (tr + 101)) ∧ (p = 3 → Q (2 * (nI (ye k) + nI (wo k))) (tr + 1011)) ∧ (p = 4 → Q (nI (ye k) - nI (wh k) + nI bo) (tr + 10101)) ∧ (p = 5 → Q (nI (ye k) + now 0) (tr + 100001)) ∧ ((¬ p = 0 ∧ ¬ p = 1 ∧ ¬ p = 2 ∧ ¬ p = 3 ∧ ¬ p = 4 ∧ ¬ p = 5) → Q (-1000000) tr)) := by
      by_cases h0 : p = 0
      · subst h0; exact ⟨_, _, fun Q h => ⟨fun _ => h, fun q => absurd q (by decide), fun q => absurd q (by decide), fun q => absurd q (by decide), fun q => absurd q (by decide), fun q => absurd q (by decide), fun q => absurd rfl q.1⟩⟩
      by_cases h1 : p = 1
      · subst h1; exact ⟨_, _, fun Q h => ⟨fun q => absurd q (by decide), fun _ => h, fun q => absurd q (by decide), fun q => absurd q (by decide), fun q => absurd q (by decide), fun q => absurd q (by decide), fun q => absurd rfl q.2.1⟩⟩
      by_cases h2 : p = 2
      · subst h2; exact ⟨_, _, fun Q h => ⟨fun q => absurd q (by decide), fun q => absurd q (by decide), fun _ => h, fun q => absurd q (by decide), fun q => absurd q (by decide), fun q => absurd q (by decide), fun q => absurd rfl q.2.2.1⟩⟩
      by_cases h3 : p = 3
      · subst h3; exact ⟨_, _, fun Q h => ⟨fun q => absurd q (by decide), fun q => absurd q (by decide), fun q => absurd q (by decide), fun _ => h, fun q => absurd q (by decide), fun q => absurd q (by decide), fun q => absurd rfl q.2.2.2.1⟩⟩
      by_cases h4 : p = 4
      · subst h4; exact ⟨_, _, fun Q h => ⟨fun q => absurd q (by decide), fun q => absurd q (by decide), fun q => absurd q (by decide), fun q => absurd q (by decide), fun _ => h, fun q => absurd q (by decide), fun q => absurd rfl q.2.2.2.2.1⟩⟩
      by_cases h5 : p = 5
      · subst h5; exact ⟨_, _, fun Q h => ⟨fun q => absurd q (by decide), fun q => absurd q (by decide), fun q => absurd q (by decide), fun q => absurd q (by decide), fun q => absurd q (by decide), fun _ => h, fun q => absurd rfl q.2.2.2.2.2⟩⟩
      exact ⟨_, _, fun Q h => ⟨fun q => absurd q h0, fun q => absurd q h1, fun q => absurd q h2, fun q => absurd q h3, fun q => absurd q h4, fun q => absurd q h5, fun _ => h⟩⟩
    obtain ⟨r, u, hf⟩ := fin
    exact ⟨r, u, fun Q h => sX Q (hf Q h), fun Q h => sY Q (hf Q h)⟩
  · have hp : isT p1 th = false := by simpa using hp
    refine ⟨-1000000, tr, fun Q h => ?_, fun Q h => ⟨0, ?_⟩⟩
    · unfold q_X6_mark F_X6_mark_e
      refine s_isThing X.2.2.2.2.1 ?_
      rw [hp]; exact p_m rfl h
    · unfold F_X7_mark_e
      refine s_in (b := 0) (c := 5) rfl rfl (p_z (fun _ => h) (fun _ => ?_))
      refine s_isThing7 Y.2.2.2.1 ?_
      rw [hp]; exact p_m rfl h
end XY

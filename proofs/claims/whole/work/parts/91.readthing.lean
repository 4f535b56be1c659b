/-! ===== a thing is read ===== -/
def hiT (i : Nat) : Nat := if i < 2 then 60 else if i = 2 then 9 else 99
section Rd
variable {n p : Nat} {t : Nat → Nat} {xb yt : Nat → Int32}
theorem s_thg7 {th : Nat} (h6 : th < 6) {Q : Int32 → Int32 → Int32 → Int32 → Int32 → (Nat → Int32) → Prop} {k i : Nat} (hi : i < 4) {p' bg tk td : Int32} {rd : Nat → Int32} (h : q_X7_number (nI n) p' bg tk td yt (nI 0) (nI (hiT i)) (fun (r_15 : Int32) (u_16 : Int32) (u_17 : Int32) (u_18 : Int32) (u_19 : Int32) => (¬ r_15 = 0 → (wp_X7_readThing (nI n) yt Q k 27 (nI (22 + 4 * th)) (nI (i + 1)) 0 0 0 u_16 u_17 u_18 u_19 (upd rd (22 + 4 * th + i) u_19))) ∧ (r_15 = 0 → (Q (0 : Int32) u_16 u_17 u_18 u_19 rd)))) : wp_X7_readThing (nI n) yt Q (k + 2) 27 (nI (22 + 4 * th)) (nI i) 0 0 0 p' bg tk td rd := by
  have key : ∀ hh : Nat, hh = hiT i → wp_X7_readThing (nI n) yt Q (k + 1) 56 (nI (22 + 4 * th)) (nI i) (nI hh) 0 0 p' bg tk td rd := by
    intro hh e
    show F_X7_readThing_56 (nI n) yt Q (wp_X7_readThing (nI n) yt Q k) (nI (22 + 4 * th)) (nI i) (nI hh) 0 0 p' bg tk td rd
    unfold F_X7_readThing_56
    rw [nI_add, e, nI_clamp (by omega)]
    have g : (fun (r_15 : Int32) (u_16 : Int32) (u_17 : Int32) (u_18 : Int32) (u_19 : Int32) => (¬ r_15 = 0 → (vp_in (nI (22 + 4 * th + i)) 46 ∧ (∀ f_22 : Nat → Int32, f_22 = upd rd (22 + 4 * th + i) u_19 → (∀ x2_24 : Int32, x2_24 = (nI i + (1 : Int32)) → (wp_X7_readThing (nI n) yt Q k 27 (nI (22 + 4 * th)) x2_24 0 0 0 u_16 u_17 u_18 u_19 f_22))))) ∧ (r_15 = 0 → (Q (0 : Int32) u_16 u_17 u_18 u_19 rd))) = (fun (r_15 : Int32) (u_16 : Int32) (u_17 : Int32) (u_18 : Int32) (u_19 : Int32) => (¬ r_15 = 0 → (wp_X7_readThing (nI n) yt Q k 27 (nI (22 + 4 * th)) (nI (i + 1)) 0 0 0 u_16 u_17 u_18 u_19 (upd rd (22 + 4 * th + i) u_19))) ∧ (r_15 = 0 → (Q (0 : Int32) u_16 u_17 u_18 u_19 rd))) := by
      funext r u16 u17 u18 u19
      apply propext
      constructor
      · intro ⟨a, b⟩
        refine ⟨fun z => ?_, b⟩
        have := (a z).2 _ rfl _ rfl
        rw [nI_1] at this
        exact this
      · intro ⟨a, b⟩
        refine ⟨fun z => ⟨vp_nI (by omega) (by decide), ?_⟩, b⟩
        rintro f rfl x rfl
        rw [nI_1]; exact a z
    rw [g]
    exact h
  show F_X7_readThing_27 (nI n) yt Q (wp_X7_readThing (nI n) yt Q (k + 1)) (nI (22 + 4 * th)) (nI i) 0 0 0 p' bg tk td rd
  unfold F_X7_readThing_27
  refine br_f (nI_ge (b := 4) hi (by decide)) ?_
  rcases (show i = 0 ∨ i = 1 ∨ i = 2 ∨ i = 3 by omega) with rfl | rfl | rfl | rfl
  · exact br_f (by decide) (key 60 rfl)
  · exact br_f (by decide) (key 60 rfl)
  · exact br_t (by decide) (p_m rfl (key 9 rfl))
  · exact br_t (by decide) (p_n (by decide) (key 99 rfl))
theorem s_thgE {th : Nat} (h6 : th < 6) {Q : Int32 → Int32 → Int32 → Int32 → Int32 → (Nat → Int32) → Prop} {p' bg tk td : Int32} {rd : Nat → Int32} (h2 : rd 2 = nI th) {k : Nat} (h : q_X7_ends (nI n) p' bg tk td yt (fun r u8 u9 u10 u11 => narrow .boolean (.int r) = .int r ∧ Q r u8 u9 u10 u11 (upd rd 2 (nI (th + 1))))) : wp_X7_readThing (nI n) yt Q (k + 1) 27 (nI (22 + 4 * th)) (nI 4) 0 0 0 p' bg tk td rd := by
  show F_X7_readThing_27 (nI n) yt Q (wp_X7_readThing (nI n) yt Q k) (nI (22 + 4 * th)) (nI 4) 0 0 0 p' bg tk td rd
  unfold F_X7_readThing_27
  refine br_t (Int32.le_refl _) ?_
  rw [c2, h2, nI_1]
  rintro f rfl
  exact h
theorem pr_readThing (T6 : tx n t xb) (T7 : tx n t yt) (hp : p ≤ n) {ts bg tk td : Int32} (hts : bad n ts bg) {th : Nat} (h6 : th ≤ 6) {read yl wl fl ol : Nat → Int32} (h2 : read 2 = nI th) : ∃ (r pl ts' th' : Int32) (yl' wl' fl' ol' : Nat → Int32) (a bg' tok td' : Int32) (read' : Nat → Int32), (∀ Q : Int32 → Int32 → Int32 → Int32 → (Nat → Int32) → (Nat → Int32) → (Nat → Int32) → (Nat → Int32) → Prop, Q r pl ts' th' yl' wl' fl' ol' → q_X3_readThing (nI n) (nI p) ts (nI th) xb yl wl fl ol Q) ∧ (∀ Q : Int32 → Int32 → Int32 → Int32 → Int32 → (Nat → Int32) → Prop, Q r a bg' tok td' read' → q_X7_readThing (nI n) (nI p) bg tk td read yt Q) ∧ ((r = 1 ∧ okE n p pl a ∧ th < 6 ∧ th' = nI (th + 1) ∧ ∃ v0 v1 v2 v3, v0 ≤ 60 ∧ v1 ≤ 60 ∧ v2 ≤ 9 ∧ v3 ≤ 99 ∧ yl' = upd yl th (nI v0) ∧ wl' = upd wl th (nI v1) ∧ fl' = upd fl th (nI v2) ∧ ol' = upd ol th (nI v3) ∧ read' = upd (upd (upd (upd (upd read (22 + 4 * th) (nI v0)) (22 + 4 * th + 1) (nI v1)) (22 + 4 * th + 2) (nI v2)) (22 + 4 * th + 3) (nI v3)) 2 (nI (th + 1))) ∨ (r = 0 ∧ bad n ts' bg')) := by
  by_cases z6 : th = 6
  · refine ⟨0, nI p, ts, nI th, yl, wl, fl, ol, nI p, bg, tk, td, read, fun Q hq => ?_, fun Q hq => ⟨0, ?_⟩, .inr ⟨rfl, hts⟩⟩
    · unfold q_X3_readThing F_X3_readThing_e
      exact br_f (by rw [z6]; decide) hq
    · unfold F_X7_readThing_e
      rw [c2, h2, z6]
      exact p_m rfl hq
  have hlt : th < 6 := by omega
  have nn : ∀ (f : Nat → Int32) (v : Nat), v < 200 → ¬ (upd f th (nI v)) th = -1 := fun f v hv => by rw [upd_at, if_pos rfl]; exact not_m1 (by omega)
  have ff : ∀ (f : Nat → Int32), (upd f th (-1)) th = -1 := fun f => by rw [upd_at, if_pos rfl]
  have vpt : vp_in (nI th) 6 := vp_nI hlt (by decide)
  have lt6 : nI th < 6 := nI_lt (b := 6) hlt (by decide)
  have ent : ∀ (Q : Int32 → Int32 → Int32 → Int32 → Int32 → (Nat → Int32) → Prop) k, wp_X7_readThing (nI n) yt Q k 27 (nI (22 + 4 * th)) (nI 0) 0 0 0 (nI p) bg tk td read → q_X7_readThing (nI n) (nI p) bg tk td read yt Q := fun Q k hk => by
    refine ⟨k, ?_⟩
    unfold F_X7_readThing_e
    rw [c2, h2]
    refine p_n (fun g => z6 (nI_inj (b := 6) (by omega) (by decide) g)) ?_
    rw [show (4 : Int32) * nI th = nI (4 * th) from pk_mul 4 th, show (22 : Int32) + nI (4 * th) = nI (22 + 4 * th) from nI_add 22 _]
    rintro x rfl
    exact hk
  rcases pr_num T6 T7 hp (lo := 0) (hi := 60) (by decide) (by decide) ts bg tk td with ⟨v0, e0, q0, -, u0, pe0, en0, hc0, hr0⟩ | ⟨pl, ts', a, bg', tok, td', hbad, hc, hr⟩
  rotate_left
  · refine ⟨0, pl, ts', nI th, upd yl th (-1), wl, fl, ol, a, bg', tok, td', read, fun Q hq => ?_, fun Q hq => ent Q 2 (s_thg7 (k := 0) (i := 0) hlt (by decide) (hr _ (p_m rfl hq))), .inr ⟨rfl, hbad⟩⟩
    unfold q_X3_readThing F_X3_readThing_e
    rw [nI_clamp (n := th) (by omega)]
    refine br_t lt6 (hc _ ⟨vpt, ?_⟩)
    rintro f rfl
    exact ⟨vpt, p_m (ff yl) hq⟩
  have R0 : ∀ (Q : Int32 → Int32 → Int32 → Int32 → Int32 → (Nat → Int32) → Prop) k, wp_X7_readThing (nI n) yt Q k 27 (nI (22 + 4 * th)) (nI 1) 0 0 0 (nI e0) (nI q0) 2 (nI v0) (upd read (22 + 4 * th) (nI v0)) → q_X7_readThing (nI n) (nI p) bg tk td read yt Q := fun Q k hk => ent Q (k + 2) (s_thg7 (i := 0) hlt (by decide) (hr0 _ (p_n (by decide) hk)))
  rcases pr_num T6 T7 en0 (lo := 0) (hi := 60) (by decide) (by decide) (nI q0) (nI q0) 2 (nI v0) with ⟨v1, e1, q1, -, u1, pe1, en1, hc1, hr1⟩ | ⟨pl, ts', a, bg', tok, td', hbad, hc, hr⟩
  rotate_left
  · refine ⟨0, pl, ts', nI th, upd yl th (nI v0), upd wl th (-1), fl, ol, a, bg', tok, td', upd read (22 + 4 * th) (nI v0), fun Q hq => ?_, fun Q hq => R0 Q 2 (s_thg7 (k := 0) (i := 1) hlt (by decide) (hr _ (p_m rfl hq))), .inr ⟨rfl, hbad⟩⟩
    unfold q_X3_readThing F_X3_readThing_e
    rw [nI_clamp (n := th) (by omega)]
    refine br_t lt6 (hc0 _ ⟨vpt, ?_⟩)
    rintro f rfl
    refine ⟨vpt, p_n (nn yl v0 (by omega)) (hc _ ⟨vpt, ?_⟩)⟩
    rintro f rfl
    exact ⟨vpt, p_m (ff wl) hq⟩
  have R1 : ∀ (Q : Int32 → Int32 → Int32 → Int32 → Int32 → (Nat → Int32) → Prop) k, wp_X7_readThing (nI n) yt Q k 27 (nI (22 + 4 * th)) (nI 2) 0 0 0 (nI e1) (nI q1) 2 (nI v1) (upd (upd read (22 + 4 * th) (nI v0)) (22 + 4 * th + 1) (nI v1)) → q_X7_readThing (nI n) (nI p) bg tk td read yt Q := fun Q k hk => R0 Q (k + 2) (s_thg7 (i := 1) hlt (by decide) (hr1 _ (p_n (by decide) hk)))
  rcases pr_num T6 T7 en1 (lo := 0) (hi := 9) (by decide) (by decide) (nI q1) (nI q1) 2 (nI v1) with ⟨v2, e2, q2, -, u2, pe2, en2, hc2, hr2⟩ | ⟨pl, ts', a, bg', tok, td', hbad, hc, hr⟩
  rotate_left
  · refine ⟨0, pl, ts', nI th, upd yl th (nI v0), upd wl th (nI v1), upd fl th (-1), ol, a, bg', tok, td', upd (upd read (22 + 4 * th) (nI v0)) (22 + 4 * th + 1) (nI v1), fun Q hq => ?_, fun Q hq => R1 Q 2 (s_thg7 (k := 0) (i := 2) hlt (by decide) (hr _ (p_m rfl hq))), .inr ⟨rfl, hbad⟩⟩
    unfold q_X3_readThing F_X3_readThing_e
    rw [nI_clamp (n := th) (by omega)]
    refine br_t lt6 (hc0 _ ⟨vpt, ?_⟩)
    rintro f rfl
    refine ⟨vpt, p_n (nn yl v0 (by omega)) (hc1 _ ⟨vpt, ?_⟩)⟩
    rintro f rfl
    refine ⟨vpt, p_n (nn wl v1 (by omega)) (hc _ ⟨vpt, ?_⟩)⟩
    rintro f rfl
    exact ⟨vpt, p_m (ff fl) hq⟩
  have R2 : ∀ (Q : Int32 → Int32 → Int32 → Int32 → Int32 → (Nat → Int32) → Prop) k, wp_X7_readThing (nI n) yt Q k 27 (nI (22 + 4 * th)) (nI 3) 0 0 0 (nI e2) (nI q2) 2 (nI v2) (upd (upd (upd read (22 + 4 * th) (nI v0)) (22 + 4 * th + 1) (nI v1)) (22 + 4 * th + 2) (nI v2)) → q_X7_readThing (nI n) (nI p) bg tk td read yt Q := fun Q k hk => R1 Q (k + 2) (s_thg7 (i := 2) hlt (by decide) (hr2 _ (p_n (by decide) hk)))
  rcases pr_num T6 T7 en2 (lo := 0) (hi := 99) (by decide) (by decide) (nI q2) (nI q2) 2 (nI v2) with ⟨v3, e3, q3, -, u3, pe3, en3, hc3, hr3⟩ | ⟨pl, ts', a, bg', tok, td', hbad, hc, hr⟩
  rotate_left
  · refine ⟨0, pl, ts', nI th, upd yl th (nI v0), upd wl th (nI v1), upd fl th (nI v2), upd ol th (-1), a, bg', tok, td', upd (upd (upd read (22 + 4 * th) (nI v0)) (22 + 4 * th + 1) (nI v1)) (22 + 4 * th + 2) (nI v2), fun Q hq => ?_, fun Q hq => R2 Q 2 (s_thg7 (k := 0) (i := 3) hlt (by decide) (hr _ (p_m rfl hq))), .inr ⟨rfl, hbad⟩⟩
    unfold q_X3_readThing F_X3_readThing_e
    rw [nI_clamp (n := th) (by omega)]
    refine br_t lt6 (hc0 _ ⟨vpt, ?_⟩)
    rintro f rfl
    refine ⟨vpt, p_n (nn yl v0 (by omega)) (hc1 _ ⟨vpt, ?_⟩)⟩
    rintro f rfl
    refine ⟨vpt, p_n (nn wl v1 (by omega)) (hc2 _ ⟨vpt, ?_⟩)⟩
    rintro f rfl
    refine ⟨vpt, p_n (nn fl v2 (by omega)) (hc _ ⟨vpt, ?_⟩)⟩
    rintro f rfl
    exact ⟨vpt, p_m (ff ol) hq⟩
  have R3 : ∀ (Q : Int32 → Int32 → Int32 → Int32 → Int32 → (Nat → Int32) → Prop) k, wp_X7_readThing (nI n) yt Q k 27 (nI (22 + 4 * th)) (nI 4) 0 0 0 (nI e3) (nI q3) 2 (nI v3) (upd (upd (upd (upd read (22 + 4 * th) (nI v0)) (22 + 4 * th + 1) (nI v1)) (22 + 4 * th + 2) (nI v2)) (22 + 4 * th + 3) (nI v3)) → q_X7_readThing (nI n) (nI p) bg tk td read yt Q := fun Q k hk => R2 Q (k + 2) (s_thg7 (i := 3) hlt (by decide) (hr3 _ (p_n (by decide) hk)))
  obtain ⟨r, pl, ts', a, bg', tok, td', hcE, hrE, O⟩ := pr_end T6 T7 en3 (nI q3) (nI q3) 2 (nI v3)
  refine ⟨r, pl, ts', nI (th + 1), upd yl th (nI v0), upd wl th (nI v1), upd fl th (nI v2), upd ol th (nI v3), a, bg', tok, td', upd (upd (upd (upd (upd read (22 + 4 * th) (nI v0)) (22 + 4 * th + 1) (nI v1)) (22 + 4 * th + 2) (nI v2)) (22 + 4 * th + 3) (nI v3)) 2 (nI (th + 1)), fun Q hq => ?_, fun Q hq => R3 Q 1 (s_thgE (k := 0) hlt ?_ (hrE _ ⟨r01 O, hq⟩)), ?_⟩
  · unfold q_X3_readThing F_X3_readThing_e
    rw [nI_clamp (n := th) (by omega)]
    refine br_t lt6 (hc0 _ ⟨vpt, ?_⟩)
    rintro f rfl
    refine ⟨vpt, p_n (nn yl v0 (by omega)) (hc1 _ ⟨vpt, ?_⟩)⟩
    rintro f rfl
    refine ⟨vpt, p_n (nn wl v1 (by omega)) (hc2 _ ⟨vpt, ?_⟩)⟩
    rintro f rfl
    refine ⟨vpt, p_n (nn fl v2 (by omega)) (hc3 _ ⟨vpt, ?_⟩)⟩
    rintro f rfl
    refine ⟨vpt, p_n (nn ol v3 (by omega)) ?_⟩
    rintro x rfl
    rw [nI_1]
    exact hcE _ ⟨r01 O, hq⟩
  · rw [upd_at, if_neg (by omega), upd_at, if_neg (by omega), upd_at, if_neg (by omega), upd_at, if_neg (by omega)]
    exact h2
  · rcases O with ⟨g, ok⟩ | ⟨g, hb⟩
    · exact .inl ⟨g, okE_up (by omega) ok, hlt, rfl, v0, v1, v2, v3, u0, u1, u2, u3, rfl, rfl, rfl, rfl, rfl⟩
    · exact .inr ⟨g, hb⟩
end Rd

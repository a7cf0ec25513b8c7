/-! THE REFERENCE LAYS A DRAFT, TAKES IT, READS -/
def dP (mo : Nat) : Nat → Prop := fun x => x = mo + 3 ∨ x = mo + 7
def tP (mo : Nat) : Nat → Prop := fun x => x = mo + 2 ∨ x = mo + 6 ∨ x = mo + 4
section LB
variable {G : q_G} {X : String → q_H → Prop} {A A0 : q_H} {mo len : Nat} {B : Nat → Nat} {S : s_T} {hh : Nat → s_T} {n : Nat}
theorem v_lays75 {f : q_H → Prop} (h0 : MS A0 mo) (k : ∀ A', xf (dP mo) A0 A' → LY (q_I A' (mo + 3)) (q_I A' (mo + 7)) → f A') :
    ∀ (d i : Nat) (A : q_H), i + d = 8 → xf (dP mo) A0 A → (∀ x, x < 47 → q_I A (mo + 3) x = nI 0) → (∀ x, x < 8 → q_I A (mo + 7) x = nI (s_0 1 x 0)) → (∀ s, s < i → q_I A (mo + 7) (258 + 7 * s) = -1) → (∀ x, 8 ≤ x → x < 788 → (∀ s, s < 8 → x ≠ 258 + 7 * s) → q_I A (mo + 7) x = nI 0) → q_Wp G M_X11_lays (q_KV f) X 0 0 75 [some (.ref mo), some (.int (nI i))] [] A
  | 0, i, A, e, o, h3, h8, hs, hx => by
    have : i = 8 := by omega
    subst this
    exact f_X11_lays_75 ⟨fun _ => k A o ⟨h3, h8, hs, hx⟩, fun c => absurd (nI_le (Nat.le_refl _) (by decide)) c⟩
  | d + 1, i, A, e, o, h3, h8, hs, hx => by
    have ms := o.ms h0
    refine f_X11_lays_75 ⟨fun c => absurd c (nI_ge (by omega) (by decide)), fun _ => ⟨ms.z, _, ms.r7, 788, ms.z7, by decide, 258 + 7 * i, by rw [pk_mul, nI_add, nI_add]; congr 1; omega, by omega, ?_⟩⟩
    rw [nI_add]
    refine v_lays75 h0 k d (i + 1) _ (by omega) (o.set (Or.inr rfl)) (fun x hx' => ?_) (fun x hx' => ?_) (fun s hs' => ?_) (fun x h1 h2 h4 => ?_)
    · rw [I_set (Or.inl (by omega))]; exact h3 x hx'
    · rw [I_set (Or.inr (by omega))]; exact h8 x hx'
    · by_cases c : s = i
      · rw [c, I_set_s]
      · rw [I_set (Or.inr (by omega))]; exact hs s (by omega)
    · have := h4 i (by omega)
      rw [I_set (Or.inr this)]; exact hx x h1 h2 h4
theorem v_lays45 {f : q_H → Prop} (h0 : MS A0 mo) (rg : Rg3 (q_I A0 (mo + 1))) (k : ∀ A', xf (dP mo) A0 A' → LY (q_I A' (mo + 3)) (q_I A' (mo + 7)) → f A') :
    ∀ (d i : Nat) (A : q_H), i + d = 8 → xf (dP mo) A0 A → (∀ x, x < 47 → q_I A (mo + 3) x = nI 0) → (∀ x, x < i → q_I A (mo + 7) x = nI (s_0 1 x 0)) → (∀ x, i ≤ x → x < 788 → q_I A (mo + 7) x = nI 0) → q_Wp G M_X11_lays (q_KV f) X 0 0 45 [some (.ref mo), some (.int (nI i))] [] A
  | 0, i, A, e, o, h3, h8, hx => by
    have : i = 8 := by omega
    subst this
    exact f_X11_lays_45 ⟨fun _ => v_lays75 h0 k 8 0 A (by omega) o h3 h8 (fun s hs => absurd hs (Nat.not_lt_zero _)) (fun x h1 h2 _ => hx x h1 h2), fun c => absurd (nI_le (Nat.le_refl _) (by decide)) c⟩
  | d + 1, i, A, e, o, h3, h8, hx => by
    have ms := o.ms h0
    refine f_X11_lays_45 ⟨fun c => absurd c (nI_ge (by omega) (by decide)), fun _ => ⟨ms.z, _, ms.r7, _, ms.r1, 24, ms.z1, by decide, 3 * i + 2, by rw [pk_mul, nI_add], by omega, 788, ms.z7, by decide, i, rfl, by omega, ?_⟩⟩
    have e1 : q_I A (mo + 1) (3 * i + 2) = nI (s_0 1 i 0) := by
      rw [(o.2.2.2.2 (mo + 1) (by unfold dP; omega)).1]
      exact rg.2 i (by omega)
    rw [nI_add, e1]
    refine v_lays45 h0 rg k d (i + 1) _ (by omega) (o.set (Or.inr rfl)) (fun x hx' => ?_) (fun x hx' => ?_) (fun x h1 h2 => ?_)
    · rw [I_set (Or.inl (by omega))]; exact h3 x hx'
    · by_cases c : x = i
      · rw [c, I_set_s]
      · rw [I_set (Or.inr c)]; exact h8 x (by omega)
    · rw [I_set (Or.inr (by omega))]; exact hx x (by omega) h2
theorem v_lays23 {f : q_H → Prop} (h0 : MS A0 mo) (rg : Rg3 (q_I A0 (mo + 1))) (k : ∀ A', xf (dP mo) A0 A' → LY (q_I A' (mo + 3)) (q_I A' (mo + 7)) → f A') :
    ∀ (d i : Nat) (A : q_H), i + d = 788 → xf (dP mo) A0 A → (∀ x, x < 47 → q_I A (mo + 3) x = nI 0) → (∀ x, x < i → q_I A (mo + 7) x = nI 0) → q_Wp G M_X11_lays (q_KV f) X 0 0 23 [some (.ref mo), some (.int (nI i))] [] A
  | 0, i, A, e, o, h3, hx => by
    have : i = 788 := by omega
    subst this
    exact f_X11_lays_23 ⟨fun _ => v_lays45 h0 rg k 8 0 A (by omega) o h3 (fun x hx' => absurd hx' (Nat.not_lt_zero _)) (fun x _ h2 => hx x h2), fun c => absurd (nI_le (Nat.le_refl _) (by decide)) c⟩
  | d + 1, i, A, e, o, h3, hx => by
    have ms := o.ms h0
    refine f_X11_lays_23 ⟨fun c => absurd c (nI_ge (by omega) (by decide)), fun _ => ⟨ms.z, _, ms.r7, 788, ms.z7, by decide, i, rfl, by omega, ?_⟩⟩
    rw [nI_add]
    refine v_lays23 h0 rg k d (i + 1) _ (by omega) (o.set (Or.inr rfl)) (fun x hx' => ?_) (fun x hx' => ?_)
    · rw [I_set (Or.inl (by omega))]; exact h3 x hx'
    · by_cases c : x = i
      · rw [c, I_set_s]
      · rw [I_set (Or.inr c)]; exact hx x (by omega)
theorem v_lays2 {f : q_H → Prop} (h0 : MS A0 mo) (rg : Rg3 (q_I A0 (mo + 1))) (k : ∀ A', xf (dP mo) A0 A' → LY (q_I A' (mo + 3)) (q_I A' (mo + 7)) → f A') :
    ∀ (d i : Nat) (A : q_H), i + d = 47 → xf (dP mo) A0 A → (∀ x, x < i → q_I A (mo + 3) x = nI 0) → q_Wp G M_X11_lays (q_KV f) X 0 0 2 [some (.ref mo), some (.int (nI i))] [] A
  | 0, i, A, e, o, h3 => by
    have : i = 47 := by omega
    subst this
    exact f_X11_lays_2 ⟨fun _ => v_lays23 h0 rg k 788 0 A (by omega) o h3 (fun x hx' => absurd hx' (Nat.not_lt_zero _)), fun c => absurd (nI_le (Nat.le_refl _) (by decide)) c⟩
  | d + 1, i, A, e, o, h3 => by
    have ms := o.ms h0
    refine f_X11_lays_2 ⟨fun c => absurd c (nI_ge (by omega) (by decide)), fun _ => ⟨ms.z, _, ms.r3, 47, ms.z3, by decide, i, rfl, by omega, ?_⟩⟩
    rw [nI_add]
    refine v_lays2 h0 rg k d (i + 1) _ (by omega) (o.set (Or.inl rfl)) (fun x hx' => ?_)
    by_cases c : x = i
    · rw [c, I_set_s]
    · rw [I_set (Or.inr c)]; exact h3 x (by omega)
theorem M_laysD {f : q_H → Prop} (h : MS A mo) (rg : Rg3 (q_I A (mo + 1))) (k : ∀ A', xf (dP mo) A A' → LY (q_I A' (mo + 3)) (q_I A' (mo + 7)) → f A') : q_Wc G M_X11_lays [.ref mo] A (q_KV f) X :=
  f_X11_lays (v_lays2 h rg k 47 0 A (by omega) (xf.r _ A) fun x hx => absurd hx (Nat.not_lt_zero _))
/-- the draft is taken -/
theorem v_bec55 {f : q_H → Prop} (h0 : MS A0 mo) (k : ∀ A', xf (tP mo) A0 A' → (∀ x, x < 47 → q_I A' (mo + 2) x = q_I A0 (mo + 3) x) → (∀ x, x < 788 → q_I A' (mo + 6) x = q_I A0 (mo + 7) x) → (∀ x, x < 4 → q_L A' (mo + 4) x = q_L A0 (mo + 5) x) → f (q_setI A' mo 10 (nI 0))) :
    ∀ (d i : Nat) (A : q_H), i + d = 4 → xf (tP mo) A0 A → (∀ x, x < 47 → q_I A (mo + 2) x = q_I A0 (mo + 3) x) → (∀ x, x < 788 → q_I A (mo + 6) x = q_I A0 (mo + 7) x) → (∀ x, x < i → q_L A (mo + 4) x = q_L A0 (mo + 5) x) → q_Wp G M_X11_becomes (q_KV f) X 0 0 55 [some (.ref mo), some (.int (nI i))] [] A
  | 0, i, A, e, o, h2, h6, h4 => by
    have : i = 4 := by omega
    subst this
    exact f_X11_becomes_55 ⟨fun _ => ⟨(o.ms h0).z, k A o h2 h6 h4⟩, fun c => absurd (nI_le (Nat.le_refl _) (by decide)) c⟩
  | d + 1, i, A, e, o, h2, h6, h4 => by
    have ms := o.ms h0
    refine f_X11_becomes_55 ⟨fun c => absurd c (nI_ge (by omega) (by decide)), fun _ => ⟨ms.z, _, ms.r4, _, ms.r5, 4, ms.z5, by decide, i, rfl, by omega, 4, ms.z4, by decide, by omega, ?_⟩⟩
    rw [nI_add, (o.2.2.2.2 (mo + 5) (by unfold tP; omega)).2]
    refine v_bec55 h0 k d (i + 1) _ (by omega) (o.setL (Or.inr (Or.inr rfl))) h2 h6 (fun x hx => ?_)
    rw [L_set]
    by_cases c : x = i
    · rw [if_pos c, c]
    · rw [if_neg c]; exact h4 x (by omega)
theorem v_bec28 {f : q_H → Prop} (h0 : MS A0 mo) (k : ∀ A', xf (tP mo) A0 A' → (∀ x, x < 47 → q_I A' (mo + 2) x = q_I A0 (mo + 3) x) → (∀ x, x < 788 → q_I A' (mo + 6) x = q_I A0 (mo + 7) x) → (∀ x, x < 4 → q_L A' (mo + 4) x = q_L A0 (mo + 5) x) → f (q_setI A' mo 10 (nI 0))) :
    ∀ (d i : Nat) (A : q_H), i + d = 788 → xf (tP mo) A0 A → (∀ x, x < 47 → q_I A (mo + 2) x = q_I A0 (mo + 3) x) → (∀ x, x < i → q_I A (mo + 6) x = q_I A0 (mo + 7) x) → q_Wp G M_X11_becomes (q_KV f) X 0 0 28 [some (.ref mo), some (.int (nI i))] [] A
  | 0, i, A, e, o, h2, h6 => by
    have : i = 788 := by omega
    subst this
    exact f_X11_becomes_28 ⟨fun _ => v_bec55 h0 k 4 0 A (by omega) o h2 h6 (fun x hx => absurd hx (Nat.not_lt_zero _)), fun c => absurd (nI_le (Nat.le_refl _) (by decide)) c⟩
  | d + 1, i, A, e, o, h2, h6 => by
    have ms := o.ms h0
    refine f_X11_becomes_28 ⟨fun c => absurd c (nI_ge (by omega) (by decide)), fun _ => ⟨ms.z, _, ms.r6, _, ms.r7, 788, ms.z7, by decide, i, rfl, by omega, 788, ms.z6, by decide, by omega, ?_⟩⟩
    rw [nI_add, (o.2.2.2.2 (mo + 7) (by unfold tP; omega)).1]
    refine v_bec28 h0 k d (i + 1) _ (by omega) (o.set (Or.inr (Or.inl rfl))) (fun x hx => ?_) (fun x hx => ?_)
    · rw [I_set (Or.inl (by omega))]; exact h2 x hx
    · rw [ix_set]
      by_cases c : x = i
      · rw [if_pos c, c]
      · rw [if_neg c]; exact h6 x (by omega)
theorem v_bec2 {f : q_H → Prop} (h0 : MS A0 mo) (k : ∀ A', xf (tP mo) A0 A' → (∀ x, x < 47 → q_I A' (mo + 2) x = q_I A0 (mo + 3) x) → (∀ x, x < 788 → q_I A' (mo + 6) x = q_I A0 (mo + 7) x) → (∀ x, x < 4 → q_L A' (mo + 4) x = q_L A0 (mo + 5) x) → f (q_setI A' mo 10 (nI 0))) :
    ∀ (d i : Nat) (A : q_H), i + d = 47 → xf (tP mo) A0 A → (∀ x, x < i → q_I A (mo + 2) x = q_I A0 (mo + 3) x) → q_Wp G M_X11_becomes (q_KV f) X 0 0 2 [some (.ref mo), some (.int (nI i))] [] A
  | 0, i, A, e, o, h2 => by
    have : i = 47 := by omega
    subst this
    exact f_X11_becomes_2 ⟨fun _ => v_bec28 h0 k 788 0 A (by omega) o h2 (fun x hx => absurd hx (Nat.not_lt_zero _)), fun c => absurd (nI_le (Nat.le_refl _) (by decide)) c⟩
  | d + 1, i, A, e, o, h2 => by
    have ms := o.ms h0
    refine f_X11_becomes_2 ⟨fun c => absurd c (nI_ge (by omega) (by decide)), fun _ => ⟨ms.z, _, ms.r2, _, ms.r3, 47, ms.z3, by decide, i, rfl, by omega, 47, ms.z2, by decide, by omega, ?_⟩⟩
    rw [nI_add, (o.2.2.2.2 (mo + 3) (by unfold tP; omega)).1]
    refine v_bec2 h0 k d (i + 1) _ (by omega) (o.set (Or.inl rfl)) (fun x hx => ?_)
    rw [ix_set]
    by_cases c : x = i
    · rw [if_pos c, c]
    · rw [if_neg c]; exact h2 x (by omega)
theorem TO.cg {V V' : Nat → Int32} (h : TO V S) (b : Lb S) (e : ∀ x, x < 47 → V' x = V x) : TO V' S := by
  unfold Lb at b
  obtain ⟨⟨a0, a1, a2⟩, a3, a4⟩ := h
  refine ⟨⟨by rw [e 0 (by decide)]; exact a0, by rw [e 1 (by decide)]; exact a1, by rw [e 2 (by decide)]; exact a2⟩, fun s j hs hj => by rw [e _ (by omega)]; exact a3 s j hs hj, fun y j hy hj => by rw [e _ (by omega)]; exact a4 y j hy hj⟩
theorem M_becomes {f : q_H → Prop} (h : MS A mo) (d : DR A mo S) (k : ∀ A', xf (bk mo) A A' → MP A' mo S → NM (q_L A' (mo + 4)) S → (∀ j, j ≠ 10 → q_I A' mo j = q_I A mo j) → q_I A' mo 10 = nI 0 → (∀ x, x = mo + 1 ∨ x = mo + 10 → q_I A' x = q_I A x) → f A') : q_Wc G M_X11_becomes [.ref mo] A (q_KV f) X := by
  obtain ⟨d1, d2, d3, d4, d5⟩ := d
  have hb := d1.b
  refine f_X11_becomes (v_bec2 h (fun A1 o h2 h6 h4 => ?_) 47 0 A (by omega) (xf.r _ A) fun x hx => absurd hx (Nat.not_lt_zero _))
  have sb : ∀ x, tP mo x → bk mo x := fun x q => by
    unfold tP at q
    unfold bk
    omega
  have ms1 := o.ms h
  refine k _ ((o.w sb).set (by unfold bk; omega)) ⟨ms1.to rfl rfl, ?_, ?_⟩ ?_ (fun j hj => ?_) (I_set_s _ _ _ _) (fun x hx => ?_)
  · rw [row_set (by omega)]; exact d1.cg h6
  · rw [row_set (by omega)]; exact d2.cg hb h2
  · intro y hy
    unfold Lb at hb
    rw [q_L_setI, h4 y (by omega)]; exact d3 y hy
  · rw [I_set (Or.inr hj), (o.2.2.2.2 mo (by unfold tP; omega)).1]
  · rw [row_set (by omega), (o.2.2.2.2 x (by unfold tP; omega)).1]
theorem MA.to {A' : q_H} (h : MA A mo S hh n len B) (es : q_sh A' = q_sh A) (er : q_R A' = q_R A) (ei : ∀ x, x = mo + 1 ∨ x = mo + 2 ∨ x = mo + 6 ∨ x = mo + 9 ∨ x = mo + 10 → q_I A' x = q_I A x) (e0 : q_I A' mo 10 = q_I A mo 10 ∧ q_I A' mo 12 = q_I A mo 12) (el : q_L A' (mo + 4) = q_L A (mo + 4)) : MA A' mo S hh n len B := by
  obtain ⟨h1, h2, h3, h4, h5⟩ := h
  refine ⟨⟨h1.1.to es er, by rw [ei _ (by omega)]; exact h1.2.1, by rw [ei _ (by omega)]; exact h1.2.2⟩, h2.to e0.1 (ei _ (by omega)), by rw [el]; exact h3, by rw [ei _ (by omega)]; exact h4, ?_⟩
  unfold Bf at h5 ⊢
  rw [e0.2, ei _ (by omega)]; exact h5
theorem M_read {f : Int32 → q_H → Prop} (h : MA A mo S hh n len B) (hB : ∀ j, B j < 256)
    (k0 : ∀ S', p_text B len = .ok S' → ∀ A', xf (bk mo) A A' → (∀ h', MA A' mo S' h' 0 0 B) → f (nI (S' 8 1 0)) A') (k1 : ∀ c, p_text B len = .error c → ∀ A', xf (bk mo) A A' → MA A' mo S hh n 0 B → f (-(nI c)) A') : q_Wc G M_X11_read [.ref mo] A (q_KI f) X := by
  obtain ⟨p, kp, nm, rg, b⟩ := id h
  obtain ⟨b1, b2, b3⟩ := b
  have e12 : q_I (q_setI A mo 0 (nI 0)) mo 12 = nI len := by rw [I_set (Or.inr (by decide))]; exact b1
  obtain ⟨A1, eA1⟩ : ∃ A1, A1 = q_setI (q_setI (q_setI (q_setI A mo 0 (nI 0)) mo 13 (nI len)) mo 12 (nI 0)) mo 14 (nI 0) := ⟨_, rfl⟩
  have o1 : tf A A1 mo := by rw [eA1]; exact ((((tf.r A mo).set (Or.inr ⟨rfl, Or.inl rfl⟩)).set (Or.inr ⟨rfl, Or.inr ⟨by decide, by decide⟩⟩)).set (Or.inr ⟨rfl, Or.inr ⟨by decide, by decide⟩⟩)).set (Or.inr ⟨rfl, Or.inr ⟨by decide, by decide⟩⟩)
  have m1 : MA A1 mo S hh n 0 B := h.tf o1 ⟨by rw [eA1, I_set (Or.inr (by decide)), I_set_s], Nat.zero_le _, fun j hj => absurd hj (Nat.not_lt_zero _)⟩
  have c13 : q_I A1 mo 13 = nI len := by rw [eA1, I_set (Or.inr (by decide)), I_set (Or.inr (by decide)), I_set_s]
  have c14 : q_I A1 mo 14 = nI 0 := by rw [eA1, I_set_s]
  have r10 : q_I A1 (mo + 10) = q_I A (mo + 10) := by rw [eA1, row_set (by omega), row_set (by omega), row_set (by omega), row_set (by omega)]
  refine f_X11_read ⟨p.1.z, ?_⟩
  rw [e12, ← eA1]
  refine M_laysD m1.1.1 m1.2.2.2.1 fun A2 o2 l2 => ?_
  have ms2 := o2.ms m1.1.1
  have q2 : ∀ x, x ≠ mo + 3 ∧ x ≠ mo + 7 → q_I A2 x = q_I A1 x ∧ q_L A2 x = q_L A1 x := fun x hx => o2.2.2.2.2 x (by unfold dP; omega)
  have mb : Mb A2 mo len B := ⟨ms2, by rw [(q2 mo (by omega)).1]; exact c13, b2, fun j hj => ⟨hB j, by rw [(q2 _ (by omega)).1, r10]; exact b3 j hj⟩⟩
  have m2 : MA A2 mo S hh n 0 B := m1.to o2.2.1 o2.2.2.1 (fun x hx => (q2 x (by omega)).1) ⟨by rw [(q2 mo (by omega)).1], by rw [(q2 mo (by omega)).1]⟩ (q2 (mo + 4) (by omega)).2
  have x2 : xf (bk mo) A A2 := o1.xf.t (o2.w fun x q => by
    unfold dP at q
    unfold bk
    omega)
  refine ⟨ms2.z, M_readsAll mb (by rw [(q2 mo (by omega)).1]; exact c14) l2 (by rw [(q2 (mo + 1) (by omega)).1]; exact m1.2.2.2.1.1) (fun S' e A3 o3 d3 => ⟨fun _ => ?_, fun e => (by cases e)⟩) (fun c e A3 o3 r3 => ⟨fun e => (by cases e), fun _ => ?_⟩)⟩
  · have ms3 := o3.ms ms2
    refine ⟨ms3.z, M_becomes ms3 d3 fun A4 o4 p4 n4 j4 t4 r4 => ⟨p4.1.z, M_sts p4.mt (k0 S' e A4 ((x2.t o3.xf).t o4) fun h' => ⟨p4, ⟨t4, by decide, fun j hj => absurd hj (Nat.not_lt_zero _)⟩, n4, ?_, ?_, Nat.zero_le _, fun j hj => absurd hj (Nat.not_lt_zero _)⟩)⟩⟩
    · rw [r4 _ (Or.inl rfl), o3.row (by omega)]; exact m2.2.2.2.1
    · rw [j4 12 (by decide), o3.2.2.2.2.1 _ _ (by omega)]; exact m2.2.2.2.2.1
  · have m3 : MA A3 mo S hh n 0 B := m2.to o3.2.1 o3.2.2.1 (fun x hx => o3.row (by omega)) ⟨o3.2.2.2.2.1 _ _ (by omega), o3.2.2.2.2.1 _ _ (by omega)⟩ (o3.2.2.2.2.2 _ (by omega))
    have kk := k1 c e A3 (x2.t o3.xf) m3
    rw [← r3.1] at kk
    exact ⟨m3.1.1.z, kk⟩
end LB

/-! THE REFERENCE: leaves -/
section RWA
variable {R R' : Nat → Int32} {S S' : s_T}
/-- an empty slot's masses say nothing -/
theorem RW.hE (r : RW R S) {s : Nat} (f : Nat → Nat) (hs : s < 8) (h0 : S 4 s 0 = 0) : RW R (s_h S (11 + s) f) := by
  refine ⟨r.b, fun t i j d => ?_, fun h m q hm => ?_, fun s' hs' => r.rd hs', by rw [s_h_n (by omega)]; exact r.al⟩
  · have d2 : dR S t i j := d
    have ht : t ≠ 0 := by have := d.1; unfold dR0 at this; omega
    rw [s_h_t ht]; exact r.c d2
  · have q2 : lR S h := q
    have hb := r.b
    unfold Lb at hb
    have hne : h ≠ 11 + s := fun e => by
      subst e
      unfold lR at q2
      rw [show 11 + s - 11 = s by omega] at q2
      omega
    rw [s_h_n hne]; exact r.m q2 hm
theorem RW.add (r : RW R S) {f : Nat → Nat} {v : Nat} (hw : S 2 10 0 < 30) (ho : ∀ x, (x < 42 + 7 * S 2 10 0 ∨ 49 + 7 * S 2 10 0 ≤ x) → x ≠ 9 → R' x = R x) (hm : ∀ m, m < 6 → R' (42 + 7 * S 2 10 0 + m) = nI (f m)) (hv : R' (48 + 7 * S 2 10 0) = nI v) (h9 : R' 9 = nI (S 2 10 0 + 1)) : RW R' (o_add S f v) := by
  obtain ⟨n, en⟩ : ∃ n, n = S 2 10 0 := ⟨_, rfl⟩
  have e8 : o_add S f v 8 = S 8 := add_t _ _ _ (by decide) (by decide) (by decide)
  have e4 : o_add S f v 4 = S 4 := add_t _ _ _ (by decide) (by decide) (by decide)
  have e211 : o_add S f v 2 11 0 = S 2 11 0 := add_2 _ _ _ (by decide)
  have e210 := add_w S f v
  have hb := r.b
  unfold Lb at hb
  have hp := hi_par (k := n) (by omega)
  rw [← en] at ho hm hv h9 e210
  have off : ∀ x, (∀ m, m < 6 → x ≠ hi (19 + n) + m) → x ≠ 48 + 7 * n → x ≠ 9 → R' x = R x := fun x h1 h2 h3 => by
    refine ho x ?_ h3
    by_cases c : x < 42 + 7 * n
    · exact Or.inl c
    · refine Or.inr (Nat.le_of_not_lt fun c2 => ?_)
      exact h1 (x - (42 + 7 * n)) (by omega) (by omega)
  refine ⟨by unfold Lb; rw [e8, e210, e211]; omega, fun t i j d => ?_, fun h m q hm' => ?_, fun s hs => ?_, ?_⟩
  · by_cases c3 : t = 3 ∧ i = n ∧ j = 0
    · obtain ⟨rfl, rfl, rfl⟩ := c3
      have e : o_add S f v 3 i 0 = v := by
        unfold o_add
        rw [s_p_t (by decide), ← en, s_p_s]
      rw [e]; exact hv
    · by_cases c2 : t = 2 ∧ i = 10 ∧ j = 0
      · obtain ⟨rfl, rfl, rfl⟩ := c2
        rw [e210]; exact h9
      · have d1 := d.1
        have d2 : dR S t i j := by
          have d4 := d.2
          unfold dR
          rw [e8, e210, e211] at d4
          refine ⟨d1, fun e => ?_, d4.2⟩
          have := d4.1 e
          unfold dR0 at d1
          omega
        have ev : o_add S f v t i j = S t i j := by
          unfold o_add
          have h0 : t ≠ 0 := by unfold dR0 at d1; omega
          have n1 : ¬ (t = 2 ∧ i = 10 ∧ j = 0) := c2
          have n2 : ¬ (t = 3 ∧ i = S 2 10 0 ∧ j = 0) := by rw [← en]; exact c3
          unfold s_p
          rw [if_neg n1, if_neg n2, s_h_t h0]
        rw [ev, off _ (fun m hm => ri_hi d1 (by omega) hm) (fun e => ?_) (fun e => ?_)]
        · exact r.c d2
        · exact ri_ne (t := 3) (i := n) (j := 0) (by unfold dR0; omega) d1 c3 e
        · exact ri_ne (t := 2) (i := 10) (j := 0) (by unfold dR0; omega) d1 c2 e
  · by_cases c : h = 19 + n
    · subst c
      have : o_add S f v 0 (19 + n) = f := by rw [en]; exact add_0 S f v
      rw [this, hp]; exact hm m hm'
    · have q2 : lR S h := by
        unfold lR at q ⊢
        rw [e8, e4, e210, e211] at q
        omega
      have h9' := lR_89 r.b q2
      have : o_add S f v 0 h = S 0 h := add_n S f v (by rw [← en]; exact c)
      rw [this, off _ (fun m2 hm2 => hi_ne h9' (by omega) c hm' hm2) (fun e => ?_) (fun e => ?_)]
      · exact r.m q2 hm'
      · exact ri_hi (t := 3) (i := n) (j := 0) (by unfold dR0; omega) h9' hm' e.symm
      · exact ri_hi (t := 2) (i := 10) (j := 0) (by unfold dR0; omega) h9' hm' e.symm
  · rw [e8] at hs
    rw [e4, off _ (fun m hm => by rw [hp]; omega) (by omega) (by omega)]
    exact r.rd hs
  · have : o_add S f v 0 1 = S 0 1 := add_n S f v (by omega)
    rw [this, off _ (fun m hm => by rw [hp]; omega) (by omega) (by omega)]
    exact r.al
end RWA
section LV
variable {G : q_G} {X : String → q_H → Prop} {A A0 : q_H} {mo : Nat} {S : s_T}
theorem v_waits {f : q_H → Prop} {b v n : Nat} {g : Nat → Nat} (h0 : MS A0 mo) (hb : b + 6 ≤ 788) (hn : n < 30) (hd : b + 6 ≤ 42 + 7 * n ∨ 49 + 7 * n ≤ b) (h9 : b + 6 ≤ 9 ∨ 10 ≤ b) (hg : ∀ m, m < 6 → q_I A0 (mo + 6) (b + m) = nI (g m)) (e9 : q_I A0 (mo + 6) 9 = nI n)
    (k : ∀ A', mg A0 A' mo → (∀ x, (x < 42 + 7 * n ∨ 49 + 7 * n ≤ x) → x ≠ 9 → q_I A' (mo + 6) x = q_I A0 (mo + 6) x) → (∀ m, m < 6 → q_I A' (mo + 6) (42 + 7 * n + m) = nI (g m)) → q_I A' (mo + 6) (48 + 7 * n) = nI v → q_I A' (mo + 6) 9 = nI (n + 1) → f A') :
    ∀ (d i : Nat) (A : q_H), i + d = 6 → mg A0 A mo → (∀ x, (x < 42 + 7 * n ∨ 42 + 7 * n + i ≤ x) → q_I A (mo + 6) x = q_I A0 (mo + 6) x) → (∀ m, m < i → q_I A (mo + 6) (42 + 7 * n + m) = nI (g m)) → q_Wp G M_X11_waits (q_KV f) X 0 0 14 [some (.ref mo), some (.int (nI b)), some (.int (nI v)), some (.int (nI (42 + 7 * n))), some (.int (nI i))] [] A
  | 0, i, A, e, o, h1, h2 => by
    have : i = 6 := by omega
    subst this
    have ms := o.1.ms h0
    refine f_X11_waits_14 ⟨fun _ => ⟨ms.z, _, ms.r6, 788, ms.z6, by decide, 48 + 7 * n, by rw [nI_add]; congr 1; omega, by omega, by decide, ?_⟩, fun c => absurd (nI_le (Nat.le_refl _) (by decide)) c⟩
    rw [I_set (Or.inr (by omega)), h1 9 (by omega), e9, nI_add]
    refine k _ ((o.set (Or.inl rfl)).set (Or.inl rfl)) (fun x hx h9' => ?_) (fun m hm => ?_) ?_ (I_set_s _ _ _ _)
    · rw [I_set (Or.inr h9'), I_set (Or.inr (by omega))]; exact h1 x (by omega)
    · rw [I_set (Or.inr (by omega)), I_set (Or.inr (by omega))]; exact h2 m hm
    · rw [I_set (Or.inr (by omega)), I_set_s]
  | d + 1, i, A, e, o, h1, h2 => by
    have ms := o.1.ms h0
    refine f_X11_waits_14 ⟨fun c => absurd c (nI_ge (by omega) (by decide)), fun _ => ⟨ms.z, _, ms.r6, 788, ms.z6, by decide, b + i, by rw [nI_add], by omega, 42 + 7 * n + i, by rw [nI_add], by omega, ?_⟩⟩
    rw [h1 (b + i) (by omega), hg i (by omega), nI_add]
    refine v_waits h0 hb hn hd h9 hg e9 k d (i + 1) _ (by omega) (o.set (Or.inl rfl)) (fun x hx => ?_) (fun m hm => ?_)
    · rw [I_set (Or.inr (by omega))]; exact h1 x (by omega)
    · by_cases c : m = i
      · subst c
        exact I_set_s _ _ _ _
      · rw [I_set (Or.inr (by omega))]; exact h2 m (by omega)
theorem M_waits {f : q_H → Prop} {b v : Nat} {g : Nat → Nat} (h : MP A mo S) (hw : S 2 10 0 < 30) (hb : b + 6 ≤ 788) (hd : 252 ≤ b) (hg : ∀ m, m < 6 → q_I A (mo + 6) (b + m) = nI (g m)) (k : ∀ A', mg A A' mo → MP A' mo (o_add S g v) → (∀ x, 252 ≤ x → q_I A' (mo + 6) x = q_I A (mo + 6) x) → f A') : q_Wc G M_X11_waits [.ref mo, .int (nI b), .int (nI v)] A (q_KV f) X := by
  have e9 : q_I A (mo + 6) 9 = nI (S 2 10 0) := h.2.1.tal (i := 10) (by decide) (by decide)
  refine f_X11_waits ⟨h.1.z, _, h.1.r6, 788, h.1.z6, by decide, by decide, ?_⟩
  rw [e9]
  refine M_parcelAt (v_waits (A0 := A) (n := S 2 10 0) h.1 hb hw (by omega) (by omega) hg e9 (fun A' o h1 h2 h3 h4 => k A' o ?_ (fun x hx => h1 x (by omega) (by omega))) 6 0 A (by omega) (mg.r A mo) (fun _ _ => rfl) (fun m hm => absurd hm (Nat.not_lt_zero _)))
  exact h.to o.1 (h.2.1.add hw h1 h2 h3 h4) (cf_add _ _ _)
/-- the slot is empty then -/
theorem RW.emp {R R' : Nat → Int32} (r : RW R S) {s : Nat} (hs : s < S 8 1 0) (h' : ∀ x, R' x = if x = 258 + 7 * s then -1 else R x) : RW R' (o_lE S s) := by
  have hs8 : s < 8 := by have := r.b; unfold Lb at this; omega
  have r1 : RW R' (s_p S 4 s 0 0) := r.rn 0 hs (fun x => h' x) (fun c => absurd rfl c)
  have r2 := r1.hE (s := s) (fun _ => 0) hs8 (s_p_s _ _ _ _ _)
  have e : o_lE S s = s_h (s_p S 4 s 0 0) (11 + s) (fun _ => 0) := s_p_h (by decide)
  rw [e]; exact r2
theorem ix_set (A : q_H) (a k : Nat) (v : Int32) (x : Nat) : q_I (q_setI A a k v) a x = if x = k then v else q_I A a x := by
  by_cases c : x = k
  · subst c; rw [I_set_s, if_pos rfl]
  · rw [I_set (Or.inr c), if_neg c]
theorem v_leaves {f : q_H → Prop} {s : Nat} {R : Nat} {B : Nat → Nat} {P : Nat} (h : MP A mo S) (q : iw R B P S) (hs : s + 1 = S 8 1 0) (h0 : S 4 s 0 ≠ 0) (k : ∀ A', mg A A' mo → MP A' mo (o_leave S) → f A') :
    ∀ (d i : Nat), i + d = S 8 0 0 → q_Wp G M_X11_leaves (q_KV f) X 0 0 28 [some (.ref mo), some (.int (nI (252 + 7 * s))), some (.int (nI (sm (fun m => if o_isT S m (S 8 1 0) = true then S 0 (11 + s) m else 0) i))), some (.int (nI i))] [] A
  | 0, i, e => by
    have q1 := q.1
    have q1' := q.1
    unfold iv_c at q1
    have q2 := q.2.1
    unfold iv_s at q2
    have ei : i = S 8 0 0 := by omega
    subst ei
    have hs' : s < S 8 1 0 := by omega
    have hs8 : s < 8 := by omega
    have a := q.2.2.2.1 s hs'
    have hl : lR S (11 + s) := by unfold lR; rw [show 11 + s - 11 = s by omega]; omega
    have hsl := hi_slot hs8
    have hg : ∀ m, m < 6 → q_I A (mo + 6) (252 + 7 * s + m) = nI (S 0 (11 + s) m) := fun m hm => by
      have := h.2.1.m hl hm
      rw [hsl] at this; exact this
    have hw : sm (fun m => if o_isT S m (S 8 1 0) = true then S 0 (11 + s) m else 0) (S 8 0 0) ≤ 200 := by
      have h1 : sm (fun m => if o_isT S m (S 8 1 0) = true then S 0 (11 + s) m else 0) (S 8 0 0) ≤ sm (S 0 (11 + s)) (S 8 0 0) := sm_le fun i _ => by
        show (if o_isT S i (S 8 1 0) = true then S 0 (11 + s) i else 0) ≤ _
        split <;> omega
      have h2 : sm (S 0 (11 + s)) (S 8 0 0) ≤ s6 (S 0 (11 + s)) := sm_s6 (by omega)
      omega
    have es : S 8 1 0 - 1 = s := by omega
    have hw' : o_want S s = sm (fun m => if o_isT S m (S 8 1 0) = true then S 0 (11 + s) m else 0) (S 8 0 0) := rfl
    rw [← hw'] at hw
    have hne : s6 (S 0 (11 + s)) ≠ 0 := fun z => h0 (a.2.2.2.2.mpr z)
    have er : q_I A (mo + 6) (258 + 7 * s) = nI (S 4 s 0 - 1) := by
      have := h.2.1.rd hs'
      rw [rnd, if_neg h0] at this; exact this
    have e4 : q_I A (mo + 6) 4 = nI (S 1 4 0) := h.2.1.set (by decide)
    have e5 : q_I A (mo + 6) 5 = nI (S 1 5 0) := h.2.1.set (by decide)
    have e9 : q_I A (mo + 6) 9 = nI (S 2 10 0) := h.2.1.tal (i := 10) (by decide) (by decide)
    have hres : lR S 0 := Or.inl (by decide)
    have hg0 : ∀ m, m < 6 → q_I A (mo + 6) (24 + m) = nI (S 0 0 m) := fun m hm => h.2.1.m (h := 0) hres hm
    -- it is residue
    have res : ¬ o_again S s → ∀ (f' : q_H → Prop), (∀ A18, mg A A18 mo → (∀ x, q_I A18 (mo + 6) x = q_I A18 (mo + 6) x) → MP (q_setI A18 (mo + 6) (258 + 7 * s) (-1)) mo (o_leave S) → f' A18) → q_Wc G M_X11_joins [.ref mo, .int (nI 24), .int (nI (252 + 7 * s))] A (q_KV f') q_nX := fun ha f' kk => by
      refine M_joins h.1 (by decide) (by omega) (by omega) hg0 hg fun A1 o1 r1 v1 => kk A1 o1 (fun _ => rfl) ?_
      have w1 : RW (q_I A1 (mo + 6)) (o_lR S s) := h.2.1.heap (x := 0) (fun m => S 0 0 m + S 0 (11 + s) m) (by decide) (by decide) (fun y hy => r1 y hy) v1
      have p1 : MP A1 mo (o_lR S s) := h.to o1.1 w1 (cf_lR _ _)
      have w2 : RW (q_I (q_setI A1 (mo + 6) (258 + 7 * s) (-1)) (mo + 6)) (o_lE (o_lR S s) s) := w1.emp (s := s) hs' (fun x => ix_set _ _ _ _ _)
      have p2 := p1.to ((mf.r A1 mo).set (x := mo + 6) (k := 258 + 7 * s) (v := -1) (Or.inl rfl)) w2 (cf_lE _ _)
      have el : o_leave S = o_lE (o_lR S s) s := by unfold o_leave; rw [es, if_neg h0, if_neg ha]
      rw [el]; exact p2
    have e66 : 252 + 7 * s + 6 = 258 + 7 * s := by omega
    refine f_X11_leaves_28 ⟨h.1.z, M_mats h.mt ⟨fun _ => ⟨h.1.z, M_total h.1 (by omega) hg ⟨fun e => hne ((nI_eq (by omega) (by decide)).mp e), h.1.z, _, h.1.r6, 788, h.1.z6, by decide, by decide, ?_⟩⟩, fun c => absurd (nI_le (Nat.le_refl _) (by omega)) c⟩⟩
    rw [← hw', e4, e5, e9, pk_mul, pk_div (by omega) (by omega) (by omega)]
    have hq : o_want S s * 100 / s6 (S 0 (11 + s)) ≤ o_want S s * 100 := Nat.div_le_self _ _
    refine ⟨fun c => ?_, fun c => ⟨fun c2 => ?_, fun c2 => ⟨258 + 7 * s, by rw [nI_add, e66], by omega, by decide, ?_⟩⟩⟩
    · have := (nI_ltI (by omega) (by omega)).mp c
      exact res (fun z => by have := z.1; omega) _ fun A18 o18 _ p18 => ⟨(o18.1.ms h.1).z, _, (o18.1.ms h.1).r6, 788, (o18.1.ms h.1).z6, by decide, 258 + 7 * s, by rw [nI_add, e66], by omega, k _ (o18.set (Or.inl rfl)) p18⟩
    · have := (nI_leI (by omega) (by decide)).mp c2
      exact res (fun z => by have := z.2.1; omega) _ fun A18 o18 _ p18 => ⟨(o18.1.ms h.1).z, _, (o18.1.ms h.1).r6, 788, (o18.1.ms h.1).z6, by decide, 258 + 7 * s, by rw [nI_add, e66], by omega, k _ (o18.set (Or.inl rfl)) p18⟩
    · rw [er]
      refine ⟨fun c3 => ?_, fun c3 => ⟨by decide, fun c4 => ?_, fun c4 => ?_⟩⟩
      · have := (nI_leI (by omega) (by omega)).mp c3
        exact res (fun z => by have := z.2.2.1; omega) _ fun A18 o18 _ p18 => ⟨(o18.1.ms h.1).z, _, (o18.1.ms h.1).r6, 788, (o18.1.ms h.1).z6, by decide, by omega, k _ (o18.set (Or.inl rfl)) p18⟩
      · have := (nI_leI (by omega) (by have := q.2.2.1; unfold iv_n at this; omega)).mp c4
        exact res (fun z => by have := z.2.2.2; omega) _ fun A18 o18 _ p18 => ⟨(o18.1.ms h.1).z, _, (o18.1.ms h.1).r6, 788, (o18.1.ms h.1).z6, by decide, by omega, k _ (o18.set (Or.inl rfl)) p18⟩
      · have q3 := q.2.2.1
        unfold iv_n at q3
        have g1 : S 1 4 0 ≤ o_want S s * 100 / s6 (S 0 (11 + s)) := Nat.le_of_not_lt fun z => c (nI_lt z (by omega))
        have g2 : 1 ≤ o_want S s := Nat.pos_of_ne_zero fun z => c2 (by rw [z]; exact nI_le (Nat.le_refl _) (by decide))
        have g3 : S 4 s 0 - 1 < S 1 5 0 := Nat.lt_of_not_le fun z => c3 (nI_le z (by omega))
        have g4 : S 2 10 0 < 30 := Nat.lt_of_not_le fun z => c4 (nI_le z (by omega))
        have ha : o_again S s := ⟨g1, g2, g3, g4⟩
        rw [nI_add, show S 4 s 0 - 1 + 1 = S 4 s 0 by omega]
        refine M_waits h g4 (by omega) (by omega) hg fun A1 o1 p1 s1 => ?_
        have ms1 := o1.1.ms h.1
        have e15 : q_I A1 (mo + 6) 15 = nI (S 2 3 0) := by
          have : q_I A1 (mo + 6) 15 = nI (o_add S (S 0 (11 + s)) (S 4 s 0) 2 3 0) := p1.2.1.tal (i := 3) (by decide) (by decide)
          rw [this, add_2 _ _ _ (by decide)]
        refine ⟨ms1.z, _, ms1.r6, 788, ms1.z6, by decide, by decide, by omega, ?_⟩
        rw [e15, nI_add]
        have w2 : RW (q_I (q_setI A1 (mo + 6) 15 (nI (S 2 3 0 + 1))) (mo + 6)) (o_lA S s) := p1.2.1.put (t := 2) (i := 3) (j := 0) (S 2 3 0 + 1) (by unfold dR0; omega) (fun _ => by decide) (fun x => ix_set _ _ _ _ _)
        have e8 : o_lA S s 8 = S 8 := (cf_lA S s).2.1
        have w3 := w2.emp (R' := q_I (q_setI (q_setI A1 (mo + 6) 15 (nI (S 2 3 0 + 1))) (mo + 6) (258 + 7 * s) (-1)) (mo + 6)) (s := s) (by rw [e8]; exact hs') (fun x => ix_set _ _ _ _ _)
        have el : o_leave S = o_lE (o_lA S s) s := by unfold o_leave; rw [es, if_neg h0, if_pos ha]
        refine k _ ((o1.set (Or.inl rfl)).set (Or.inl rfl)) ?_
        rw [el]
        exact h.to (((o1.1.set (Or.inl rfl)).set (Or.inl rfl))) w3 (cf_t (cf_lA _ _) (cf_lE _ _))
  | d + 1, i, e => by
    have q1 := q.1
    have q1' := q.1
    unfold iv_c at q1
    have hs' : s < S 8 1 0 := by omega
    have hs8 : s < 8 := by omega
    have hl : lR S (11 + s) := by unfold lR; rw [show 11 + s - 11 = s by omega]; omega
    have hsl := hi_slot hs8
    have ih := v_leaves h q hs h0 k d (i + 1) (by omega)
    have e1 : sm (fun m => if o_isT S m (S 8 1 0) = true then S 0 (11 + s) m else 0) (i + 1) = sm (fun m => if o_isT S m (S 8 1 0) = true then S 0 (11 + s) m else 0) i + if o_isT S i (S 8 1 0) = true then S 0 (11 + s) i else 0 := rfl
    refine f_X11_leaves_28 ⟨h.1.z, M_mats h.mt ⟨fun c => absurd c (nI_ge (by omega) (by omega)), fun _ => ⟨h.1.z, M_isTarget h.mt q1' (by omega) ⟨fun c => ⟨h.1.z, _, h.1.r6, 788, h.1.z6, by decide, 252 + 7 * s + i, by rw [nI_add], by omega, ?_⟩, fun c => ?_⟩⟩⟩⟩
    · have := h.2.1.m hl (m := i) (by omega)
      rw [hsl] at this
      rw [this, nI_add, nI_add]
      rw [e1, if_pos c] at ih
      exact ih
    · rw [nI_add, nI_add]
      rw [e1, if_neg (by rw [c]; decide)] at ih
      exact ih
theorem M_leaves {f : q_H → Prop} {R : Nat} {B : Nat → Nat} {P : Nat} (h : MP A mo S) (q : iw R B P S) (k : ∀ A', mg A A' mo → MP A' mo (o_leave S) → f A') : q_Wc G M_X11_leaves [.ref mo] A (q_KV f) X := by
  have q1 := q.1
  unfold iv_c at q1
  obtain ⟨s, hs⟩ : ∃ s, s + 1 = S 8 1 0 := ⟨S 8 1 0 - 1, by omega⟩
  have hs' : s < S 8 1 0 := by omega
  refine f_X11_leaves ⟨h.1.z, M_sts h.mt ?_⟩
  rw [pk_sub q1.2.2.1, show S 8 1 0 - 1 = s by omega]
  refine M_slotAt ⟨h.1.z, _, h.1.r6, 788, h.1.z6, by decide, 258 + 7 * s, by rw [nI_add]; congr 1; omega, by omega, ?_⟩
  rw [h.2.1.rd hs']
  have q4 := q.2.2.2.1 s hs'
  by_cases c0 : S 4 s 0 = 0
  · refine ⟨fun _ => k A (mg.r A mo) ?_, fun c => absurd (by rw [rnd, if_pos c0]) c⟩
    have el : o_leave S = S := by unfold o_leave; rw [show S 8 1 0 - 1 = s by omega, if_pos c0]
    rw [el]; exact h
  · refine ⟨fun c => ?_, fun _ => v_leaves h q hs c0 k (S 8 0 0) 0 (by omega)⟩
    rw [rnd, if_neg c0] at c
    exact absurd (show nI (S 4 s 0 - 1) < 0 by rw [c]; decide) (nI_pos (by omega))
end LV

/-! THE REFERENCE: what is tried and taken back -/
section TR
variable {G : q_G} {X : String → q_H → Prop} {A A0 : q_H} {mo : Nat} {S U : s_T} {hh : Nat → s_T} {n : Nat}
/-- S lies aside, U is tried -/
def Tr (A0 A : q_H) (mo : Nat) (S U : s_T) (hh : Nat → s_T) (n : Nat) : Prop := kf A0 A mo ∧ q_I A mo 0 = nI 0 ∧ MP A mo U ∧ As A mo S ∧ s_ct S U ∧ Kp A mo hh n
theorem Tr.mf (t : Tr A0 A mo S U hh n) {A' : q_H} {U' : s_T} (o : mf A A' mo) (p : MP A' mo U') (c : s_ct U U') : Tr A0 A' mo S U' hh n := by
  obtain ⟨t1, t2, t3, t4, t5, t6⟩ := t
  refine ⟨t1.t o.kf, by rw [o.2.2.2.2.2 _ _ (by omega)]; exact t2, p, ?_, ct_t t5 c, t6.mf o⟩
  unfold As
  have : q_I A' (mo + 8) = q_I A (mo + 8) := by funext x; exact o.2.2.2.2.2 _ _ (by omega)
  rw [this]; exact t4
theorem Tr.back (t : Tr A0 A mo S U hh n) {f : q_H → Prop} (k : ∀ A', Tr A0 A' mo S S hh n → f A') : q_Wc G M_X11_comesBack [.ref mo] A (q_KV f) X := by
  obtain ⟨t1, t2, t3, t4, t5, t6⟩ := t
  have c : s_ct U S := ⟨t5.1.symm, t5.2.1.symm, t5.2.2.1.symm, t5.2.2.2.symm⟩
  refine M_comesBack t3 t4 c fun A' o r8 r9 rm p => k A' ⟨t1.t o, by rw [rm]; exact t2, p, ?_, ct_r S, t6.to (by rw [rm]) r9⟩
  unfold As
  rw [r8]; exact t4
theorem Tr.aside {f : q_H → Prop} (h : MP A mo S) (kp : Kp A mo hh n) (k : ∀ A', Tr A A' mo S S hh n → f A') : q_Wc G M_X11_goesAside [.ref mo] (th A mo 0) (q_KV f) X :=
  M_goesAside (h.th 0) fun A' o r6 r9 rm p a => k A' ⟨(th.kf A mo 0).t o, by rw [rm]; exact I_set_s _ _ _ _, p, a, ct_r S, (kp.th 0).to (by rw [rm]) r9⟩
theorem i32_2 {a c b : Int32} (h : a - b = nI 0 - c) : a = b - c := by
  have : a - b + b = nI 0 - c + b := by rw [h]
  rw [Int32.sub_add_cancel] at this
  rw [this, show nI 0 = 0 from rfl, Int32.zero_sub, Int32.add_comm, ← Int32.sub_eq_add_neg]
theorem v_outlook {f : Int32 → q_H → Prop} {w : Nat} (hw : w < 5) (t : Tr A0 A mo S U hh n) (q : iv_t U) (e22 : q_I A mo 22 = nI (U 2 2 0) - nI (S 2 2 0)) (k : ∀ A', Tr A0 A' mo S S hh n → f (if w = 0 then nI (U 2 1 0) - nI (S 2 1 0) else if w = 1 then nI (U 2 2 0) - nI (S 2 2 0) else if w = 2 then nI (s6 (U 0 0)) - nI (s6 (S 0 0)) else if w = 3 then nI (U 2 3 0) - nI (S 2 3 0) else nI (o_gt U (U 8 1 0))) A') :
    ∀ (d i : Nat), i + d = U 8 1 0 → q_Wp G M_X11_outlook (q_KI f) X 0 0 59 [some (.ref mo), none, some (.int (nI w)), some (.int (nI (o_gt U i))), some (.int (nI i))] [] A
  | 0, i, e => by
    have hb := t.2.2.1.2.1.b
    unfold Lb at hb
    have ei : i = U 8 1 0 := by omega
    subst ei
    have h := t.2.2.1
    have a : RW (q_I A (mo + 8)) S := t.2.2.2.1
    have wI : ∀ j, j < 5 → nI w = nI j → w = j := fun j hj e => (nI_eq (by omega) (by omega)).mp e
    refine f_X11_outlook_59 ⟨h.1.z, M_sts h.mt ⟨fun _ => ⟨fun c0 => ?_, fun c0 => ⟨fun c1 => ?_, fun c1 => ⟨fun c2 => ?_, fun c2 => ⟨fun c3 => ?_, fun c3 => ?_⟩⟩⟩⟩, fun c => absurd (nI_le (Nat.le_refl _) (by omega)) c⟩⟩
    · have := wI 0 (by decide) c0; subst this
      have e1 : q_I A (mo + 6) 10 = nI (U 2 1 0) := h.2.1.tal (i := 1) (by decide) (by decide)
      have e2 : q_I A (mo + 8) 10 = nI (S 2 1 0) := a.tal (i := 1) (by decide) (by decide)
      exact ⟨h.1.z, _, h.1.r6, 788, h.1.z6, by decide, by decide, _, h.1.r8, 788, h.1.z8, by decide, by decide, t.back fun A' t' => by rw [e1, e2]; exact k A' t'⟩
    · have := wI 1 (by decide) c1; subst this
      exact ⟨h.1.z, t.back fun A' t' => by rw [e22]; exact k A' t'⟩
    · have := wI 2 (by decide) c2; subst this
      exact ⟨h.1.z, M_total h.1 (b := 24) (by decide) (h.hp (x := 0) (Or.inl (by decide)) rfl) ⟨h.1.z, _, h.1.r8, M_totalOf h.1.z8 (by decide) (b := 24) (by decide) (fun m hm => a.m (h := 0) (Or.inl (by decide)) hm) ⟨h.1.z, t.back fun A' t' => k A' t'⟩⟩⟩
    · have := wI 3 (by decide) c3; subst this
      have e1 : q_I A (mo + 6) 15 = nI (U 2 3 0) := h.2.1.tal (i := 3) (by decide) (by decide)
      have e2 : q_I A (mo + 8) 15 = nI (S 2 3 0) := a.tal (i := 3) (by decide) (by decide)
      exact ⟨h.1.z, _, h.1.r6, 788, h.1.z6, by decide, by decide, _, h.1.r8, 788, h.1.z8, by decide, by decide, t.back fun A' t' => by rw [e1, e2]; exact k A' t'⟩
    · have : w = 4 := by
        have h0 : w ≠ 0 := fun e => c0 (by rw [e])
        have h1 : w ≠ 1 := fun e => c1 (by rw [e])
        have h2 : w ≠ 2 := fun e => c2 (by rw [e])
        have h3 : w ≠ 3 := fun e => c3 (by rw [e])
        omega
      subst this
      exact ⟨h.1.z, t.back fun A' t' => k A' t'⟩
  | d + 1, i, e => by
    have hb := t.2.2.1.2.1.b
    unfold Lb at hb
    have h := t.2.2.1
    have ih := v_outlook hw t q e22 k d (i + 1) (by omega)
    have hg := gt_le U (fun s hs => (q s hs).2.1) i (by omega)
    have a := (q i (by omega)).2.1
    refine f_X11_outlook_59 ⟨h.1.z, M_sts h.mt ⟨fun c => absurd c (nI_ge (by omega) (by omega)), fun _ => ⟨h.1.z, _, h.1.r6, M_placeAt (j := 1) ⟨788, h.1.z6, by decide, _, rfl, by omega, ?_⟩⟩⟩⟩
    rw [h.2.1.st (by omega) (by decide), nI_add]
    have e2 : (if nI (o_gt U i) < nI (U 5 i 1) then nI (U 5 i 1) else nI (o_gt U i)) = nI (o_gt U (i + 1)) := by
      show _ = nI (if o_gt U i < U 5 i 1 then U 5 i 1 else o_gt U i)
      by_cases c : o_gt U i < U 5 i 1
      · rw [if_pos c, if_pos (nI_lt c (by omega))]
      · rw [if_neg c, if_neg (nI_nlt (by omega) (by omega))]
    rw [e2]
    exact ih
theorem M_outlook {f : Int32 → q_H → Prop} {x y : Int32} (h : MP A mo S) (q : iv S) (hT : S 2 0 0 ≤ 9999) (kp : Kp A mo hh n)
    (k : ∀ A', kf A A' mo → q_I A' mo 0 = nI (a_outlook S x y).1 → MP A' mo S → Kp A' mo hh n → f (a_outlook S x y).2 A') : q_Wc G M_X11_outlook [.ref mo, .int x, .int y] A (q_KI f) X := by
  have bad : a_outlook S x y = (1, 0) → f (nI 0) (th A mo 1) := fun e => by
    have := k (th A mo 1) (th.kf _ _ _) (by rw [e]; exact I_set_s _ _ _ _) (h.th 1) (kp.th 1)
    rw [e] at this; exact this
  refine f_X11_outlook (M_isInG 1 201 (by decide) (by decide) (by decide) (fun v hl hv e => ⟨fun _ => ?_, fun e => (by cases e)⟩) (fun hn => ⟨fun e => (by cases e), fun _ => f_X11_outlook_32 ⟨h.1.z, M_f1 h.1.z ⟨fun _ => bad ?_, fun e => (by cases e)⟩⟩⟩))
  · subst e
    have hx := ix_nI hv (by decide)
    refine M_isIn 5 (by decide) (by decide) (fun w hw e => ⟨fun _ => f_X11_outlook_32 ⟨h.1.z, M_f0 h.1.z ⟨fun e => (by cases e), fun _ => ⟨h.1.z, ?_⟩⟩⟩, fun e => (by cases e)⟩) (fun hn => ⟨fun e => (by cases e), fun _ => f_X11_outlook_32 ⟨h.1.z, M_f1 h.1.z ⟨fun _ => bad ?_, fun e => (by cases e)⟩⟩⟩)
    · subst e
      have ee : a_outlook S (nI v) (nI w) = (0, if w = 0 then nI (o_ticks v S 2 1 0) - nI (S 2 1 0) else if w = 1 then nI (o_ticks v S 2 2 0) - nI (S 2 2 0) else if w = 2 then nI (s6 (o_ticks v S 0 0)) - nI (s6 (S 0 0)) else if w = 3 then nI (o_ticks v S 2 3 0) - nI (S 2 3 0) else nI (o_gt (o_ticks v S) (S 8 1 0))) := by
        unfold a_outlook
        rw [hx]
        show (if v = 0 then _ else _) = _
        rw [if_neg (by omega), ix_nI hw (by decide)]
      rw [ee] at k
      refine Tr.aside h kp fun A6 t6 => ⟨t6.2.2.1.1.z, ?_⟩
      have o7 : mf A6 (q_setI A6 mo 22 (nI 0)) mo := (mf.r A6 mo).set (Or.inr (Or.inr ⟨rfl, rfl⟩))
      have e7 : q_I (q_setI A6 mo 22 (nI 0)) mo 22 = nI 0 := I_set_s _ _ _ _
      obtain ⟨A7, eA7⟩ : ∃ A7, A7 = q_setI A6 mo 22 (nI 0) := ⟨_, rfl⟩
      rw [← eA7] at o7 e7 ⊢
      have r7 : q_I A7 (mo + 6) = q_I A6 (mo + 6) := by rw [eA7]; funext z; exact I_set (Or.inl (by omega))
      have t7 : Tr A A7 mo S S hh n := t6.mf o7 (t6.2.2.1.kf o7.kf (by rw [r7]; exact t6.2.2.1.2.1) (ct_r S)) (ct_r S)
      have c8 := cf_ticks v S
      refine M_ticks t7.2.2.1 q (by omega) fun A8 b8 p8 => ?_
      have t8 := t7.mf b8.1 p8 (s_cf.ct c8)
      have e8 : q_I A8 mo 22 = nI (o_ticks v S 2 2 0) - nI (S 2 2 0) := i32_2 (by rw [b8.2, e7])
      rw [← show o_ticks v S 8 1 0 = S 8 1 0 by rw [c8.2.1]] at k
      exact v_outlook (w := w) hw t8 (iv_ticks v q).2.2.2.1 e8 (fun A' t' => k A' t'.1 t'.2.1 t'.2.2.1 t'.2.2.2.2.2) (o_ticks v S 8 1 0) 0 (by omega)
    · unfold a_outlook
      rw [hx]
      show (if v = 0 then _ else _) = _
      rw [if_neg (by omega), ix_no (by omega) hn]
  · unfold a_outlook
    rcases ix_lo (lo := 1) (by decide) hn with e | ⟨v, hv, e⟩
    · rw [e]
    · rw [e]; exact if_pos (by omega)
theorem v_bestStaff {f : Int32 → q_H → Prop} {s v : Nat} (q : iv S) (q5 : iv5 S) (hT : S 2 0 0 ≤ 9999) (hs : s < S 8 1 0) (hv : v ≤ 100) (k : ∀ A', Tr A0 A' mo S S hh n → f (nI (o_bs S s v 10)) A') :
    ∀ (d i : Nat) (A : q_H) (U : s_T), i + d = 10 → Tr A0 A mo S U hh n → q_Wp G M_X11_bestStaff (q_KI f) X 0 0 59 [some (.ref mo), some (.int (nI s)), some (.int (nI v)), none, some (.int (if i = 0 then -1 else nI (o_bs S s v i))), some (.int (if i = 0 then nI 0 else nI (o_bv S s v (o_bs S s v i)))), some (.int (nI i)), none, none] [] A
  | 0, i, A, U, e, t => by
    have : i = 10 := by omega
    subst this
    have h := t.2.2.1
    exact f_X11_bestStaff_59 ⟨fun _ => ⟨h.1.z, t.back fun A' t' => k A' t'⟩, fun c => absurd (nI_le (Nat.le_refl _) (by decide)) c⟩
  | d + 1, i, A, U, e, t => by
    have h := t.2.2.1
    have h5 := q5 s hs
    have b1 := bv_bd S s v i q (by omega)
    have hle := bs_le S s v i
    have b2 := bv_bd S s v (o_bs S s v i) q (by omega)
    have eu : o_bs S s v (i + 1) = if i = 0 ∨ o_bv S s v (o_bs S s v i) < o_bv S s v i then i else o_bs S s v i := rfl
    refine f_X11_bestStaff_59 ⟨fun c => absurd c (nI_ge (by omega) (by decide)), fun _ => ⟨h.1.z, t.back fun A1 t1 => ⟨t1.2.2.1.1.z, M_staffs t1.2.2.1 hs fun A2 o2 p2 => ⟨p2.1.z, M_ticks p2 (iv_staff q (by omega)) ?_ fun A3 b3 p3 => ⟨p3.1.z, _, p3.1.r6, ?_⟩⟩⟩⟩⟩
    · have : o_staff S s i 2 0 0 = S 2 0 0 := by unfold o_staff; rw [s_p_t (by decide), s_p_t (by decide)]
      rw [this]; omega
    · have cst : s_ct S (o_staff S s i) := ct_t (ct_p (by decide)) (ct_p (by decide))
      have c3 := s_cf.ct (cf_ticks v (o_staff S s i))
      have t3 : Tr A0 A3 mo S (o_ticks v (o_staff S s i)) hh n := (t1.mf o2.1 p2 cst).mf b3.1 p3 c3
      have hs3 : s < o_ticks v (o_staff S s i) 8 1 0 := by rw [c3.1, cst.1]; exact hs
      have hb := p3.2.1.b
      unfold Lb at hb
      have ih := v_bestStaff q q5 hT hs hv k d (i + 1) A3 _ (by omega) t3
      rw [if_neg (by omega), if_neg (by omega), eu] at ih
      refine M_placeAt (j := 3) ⟨788, p3.1.z6, by decide, _, rfl, by omega, ?_⟩
      rw [p3.2.1.st hs3 (by decide), nI_add]
      show (_ → q_Wp G M_X11_bestStaff (q_KI f) X 0 0 59 [some (.ref mo), some (.int (nI s)), some (.int (nI v)), none, some (.int (nI i)), some (.int (nI (o_bv S s v i))), some (.int (nI (i + 1))), none, none] [] A3) ∧ (_ → ((_ < nI (o_bv S s v i) → q_Wp G M_X11_bestStaff (q_KI f) X 0 0 59 [some (.ref mo), some (.int (nI s)), some (.int (nI v)), none, some (.int (nI i)), some (.int (nI (o_bv S s v i))), some (.int (nI (i + 1))), none, none] [] A3) ∧ _))
      by_cases c0 : i = 0
      · rw [if_pos (Or.inl c0)] at ih
        rw [if_pos c0]
        exact ⟨fun _ => ih, fun c => absurd rfl c⟩
      · rw [if_neg c0, if_neg c0]
        refine ⟨fun c => absurd (show nI (o_bs S s v i) < 0 by rw [c]; decide) (nI_pos (by omega)), fun _ => ⟨fun c => ?_, fun c => ?_⟩⟩
        · have c' : nI (o_bv S s v (o_bs S s v i)) < nI (o_bv S s v i) := c
          have := (nI_ltI (by omega) (by omega)).mp c'
          rw [if_pos (Or.inr this)] at ih
          exact ih
        · have c' : ¬ nI (o_bv S s v (o_bs S s v i)) < nI (o_bv S s v i) := c
          have : ¬ o_bv S s v (o_bs S s v i) < o_bv S s v i := fun z => c' (nI_lt z (by omega))
          rw [if_neg (by omega)] at ih
          exact ih
theorem M_bestStaff {f : Int32 → q_H → Prop} {x y : Int32} (h : MP A mo S) (q : iv S) (q5 : iv5 S) (hT : S 2 0 0 ≤ 9999) (kp : Kp A mo hh n)
    (k : ∀ A', kf A A' mo → q_I A' mo 0 = nI (a_bestStaff S x y).1 → MP A' mo S → Kp A' mo hh n → f (a_bestStaff S x y).2 A') : q_Wc G M_X11_bestStaff [.ref mo, .int x, .int y] A (q_KI f) X := by
  have hb := h.2.1.b
  unfold Lb at hb
  have bad : ∀ c, a_bestStaff S x y = (c, 0) → f (nI 0) (th A mo c) := fun c e => by
    have := k (th A mo c) (th.kf _ _ _) (by rw [e]; exact I_set_s _ _ _ _) (h.th c) (kp.th c)
    rw [e] at this; exact this
  refine f_X11_bestStaff ⟨h.1.z, M_isStation h (fun s hs e => ⟨fun _ => ⟨fun _ => ?_, fun e => (by cases e)⟩, fun e => (by cases e)⟩) (fun hn => ⟨fun e => (by cases e), fun _ => ⟨fun e => (by cases e), fun _ => f_X11_bestStaff_38 ⟨h.1.z, M_f1 h.1.z ⟨fun _ => bad 1 ?_, fun e => (by cases e)⟩⟩⟩⟩)⟩
  · subst e
    have hx := ix_nI hs (by omega)
    refine M_isInG 1 101 (by decide) (by decide) (by decide) (fun v hl hv e => ⟨fun _ => f_X11_bestStaff_38 ⟨h.1.z, M_f0 h.1.z ⟨fun e => (by cases e), fun _ => ⟨h.1.z, ?_⟩⟩⟩, fun e => (by cases e)⟩) (fun hn => ⟨fun e => (by cases e), fun _ => f_X11_bestStaff_38 ⟨h.1.z, M_f2 h.1.z ⟨fun _ => bad 2 ?_, fun e => (by cases e)⟩⟩⟩)
    · subst e
      have ee : a_bestStaff S (nI s) (nI v) = (0, nI (o_bs S s v 10)) := by
        unfold a_bestStaff
        rw [hx, ix_nI hv (by decide)]
        show (if v = 0 then _ else _) = _
        rw [if_neg (by omega)]
      rw [ee] at k
      exact Tr.aside h kp fun A6 t6 => v_bestStaff q q5 hT hs (by omega) (fun A' t' => k A' t'.1 t'.2.1 t'.2.2.1 t'.2.2.2.2.2) 10 0 A6 S (by omega) t6
    · unfold a_bestStaff
      rw [hx]
      rcases ix_lo (lo := 1) (by decide) hn with e | ⟨v, hv, e⟩
      · rw [e]
      · rw [e]; exact if_pos (by omega)
  · unfold a_bestStaff
    rw [ix_no (by omega) hn]
theorem v_emptied {f : Int32 → q_H → Prop} (q : iv S) (hT : S 2 0 0 ≤ 9999) (k : ∀ A', Tr A0 A' mo S S hh n → f (a_emptied S) A') :
    ∀ (d i : Nat) (A : q_H), i + d = 400 → o_es S d i = a_emptied S → Tr A0 A mo S (o_ticks i S) hh n → q_Wp G M_X11_emptied (q_KI f) X 0 0 11 [some (.ref mo), some (.int (nI i)), none] [] A
  | 0, i, A, e, ee, t => by
    have : i = 400 := by omega
    subst this
    have h := t.2.2.1
    refine f_X11_emptied_11 ⟨fun _ => ⟨h.1.z, M_isEmpty h (iv_ticks _ q).2.2.2.1 ⟨h.1.z, t.back fun A' t' => ?_⟩⟩, fun c => absurd (nI_le (Nat.le_refl _) (by decide)) c⟩
    have kx := k A' t'
    rw [← ee] at kx
    unfold o_es at kx
    refine ⟨fun c => ?_, fun c => ?_⟩
    · rw [if_pos (of_decide_eq_true c)] at kx; exact kx
    · rw [if_neg (of_decide_eq_false c)] at kx; exact kx
  | d + 1, i, A, e, ee, t => by
    have h := t.2.2.1
    refine f_X11_emptied_11 ⟨fun c => absurd c (nI_ge (by omega) (by decide)), fun _ => ⟨h.1.z, M_isEmpty h (iv_ticks _ q).2.2.2.1 ⟨fun c => ⟨h.1.z, M_isEmpty h (iv_ticks _ q).2.2.2.1 ⟨h.1.z, t.back fun A' t' => ⟨fun _ => ?_, fun c2 => (by rw [c] at c2; cases c2)⟩⟩⟩, fun c => ⟨h.1.z, M_ticks (n := 1) h (iv_ticks i q) (by rw [ticks_0]; omega) fun A' b' p' => ?_⟩⟩⟩⟩
    · have kx := k A' t'
      rw [← ee] at kx
      unfold o_es at kx
      rw [if_pos (of_decide_eq_true c)] at kx
      exact kx
    · unfold o_es at ee
      rw [if_neg (of_decide_eq_false c)] at ee
      rw [nI_add]
      exact v_emptied q hT k d (i + 1) A' (by omega) ee (t.mf b'.1 p' (s_cf.ct (cf_tick _)))
theorem M_emptied {f : Int32 → q_H → Prop} (h : MP A mo S) (q : iv S) (hT : S 2 0 0 ≤ 9999) (kp : Kp A mo hh n)
    (k : ∀ A', kf A A' mo → q_I A' mo 0 = nI 0 → MP A' mo S → Kp A' mo hh n → f (a_emptied S) A') : q_Wc G M_X11_emptied [.ref mo] A (q_KI f) X :=
  f_X11_emptied ⟨h.1.z, Tr.aside h kp fun A6 t6 => v_emptied q hT (fun A' t' => k A' t'.1 t'.2.1 t'.2.2.1 t'.2.2.2.2.2) 400 0 A6 (by omega) rfl t6⟩
end TR

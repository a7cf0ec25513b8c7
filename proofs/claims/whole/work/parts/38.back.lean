/-! A SOLD BALE: handOver, takeBack; the bale is gone from the stock, what it holds can still be read -/
def gB (A : q_H) (r : Nat) (S : s_T) (b : Nat) : Prop := okB A r ∧ (∀ j, j < 4 → q_I A r j = nI (S 6 b j)) ∧ (∀ m, m < 6 → q_I A (r + 2) m = nI (S 0 (49 + b) m)) ∧ q_I A (r + 1) 1 = nI (s6 (S 0 (49 + b)))
theorem okH.sm {A A' : q_H} {x : Nat} (h : okH A x) (a : q_same A A' x) (b : q_same A A' (x + 1)) : okH A' x := ⟨a.1.trans h.1, by rw [a.2.2.1]; exact h.2.1, b.1.trans h.2.2⟩
theorem okP.sm {A A' : q_H} {x : Nat} (h : okP A x) (a : q_same A A' x) (b : q_same A A' (x + 1)) (c : q_same A A' (x + 2)) : okP A' x := ⟨a.1.trans h.1, by rw [a.2.2.1]; exact h.2.1, h.2.2.sm b c⟩
theorem okB.sm {A A' : q_H} {x : Nat} (h : okB A x) (a : q_same A A' x) (b : q_same A A' (x + 1)) (c : q_same A A' (x + 2)) : okB A' x := ⟨a.1.trans h.1, by rw [a.2.2.1]; exact h.2.1, h.2.2.sm b c⟩
theorem gB.sm {A A' : q_H} {x b : Nat} {S : s_T} (h : gB A x S b) (a : q_same A A' x) (b1 : q_same A A' (x + 1)) (c : q_same A A' (x + 2)) : gB A' x S b := ⟨h.1.sm a b1 c, fun j hj => by rw [a.2.1]; exact h.2.1 j hj, fun m hm => by rw [c.2.1]; exact h.2.2.1 m hm, by rw [b1.2.1]; exact h.2.2.2⟩
section HO
variable {G : q_G} {X : String → q_H → Prop} {A0 A : q_H} {l : l_T} {S : s_T} {R : Nat} {B : Nat → Nat} {P : Nat}
theorem Lp.gB (h : Lp A0 A l S) {b : Nat} (hb : b < S 2 11 0) : gB A (l_b l b) S b := by
  have hlb := h.b
  unfold Lb at hlb
  have e := ha_bal l b
  refine ⟨h.kb (by omega), fun j hj => h.bal hb hj, fun m hm => ?_, ?_⟩
  · have := h.m (lv_bal hb) hm
    rw [e] at this; exact this
  · have := h.t (lv_bal hb)
    rw [e] at this; exact this
theorem L_addLastX {f : Option Nat → q_H → Prop} (h : Lp A0 A l S) {r : Nat} (hw : S 2 10 0 < 30) (k : ∀ A', (∀ y, l_a l + 96 ≤ y → q_same A A' y) → Lp A0 A' l (o_add S (fun _ => 0) r) → f (some (pa l (S 2 10 0))) A') : q_Wc G M_X3_addLast [.ref (l_a l + 4), .int (nI r)] A (q_KR f) X := by
  have hwf := h.w.2.2.2.2
  refine f_X3_addLast ⟨h.z4, L_isFull h fun b hb => ⟨fun e => absurd (hb.mp e) (by omega), fun _ => ⟨h.z4, _, h.r40, 30, h.z5, by decide, (l_f l + S 2 10 0) % 30, by rw [h.fs, h.wait, rem30 (by omega) (by omega)], by omega, _, h.rpk _, h.zp _, _, h.rpa hw, h.zh (by omega), ?_⟩⟩⟩
  have hx9 : 19 + S 2 10 0 < 89 := by omega
  have hpne : pa l (S 2 10 0) ≠ l_a l + 4 := by unfold pa; omega
  have hn := ha_fs l h.w hx9
  have ep : pa l (S 2 10 0) < l_a l + 96 := by unfold pa; omega
  have eh : ha l (19 + S 2 10 0) + 1 < l_a l + 96 := by rw [ha_par l hw]; omega
  refine c_clear (h.kh hx9) ⟨h.zp _, h.z4, ?_⟩
  rw [I_set (Or.inl (Ne.symm hpne)), I_set (Or.inl (Ne.symm hn.1)), I_row (Ne.symm hn.2), h.wait, nI_add]
  refine k _ (fun y hy => ((((q_same.r A y).rowI (by omega)).setI (by omega)).setI (by omega)).setI (by omega)) (h.add r (fun _ => 0) hw (h.heap _ hx9 rfl rfl rfl (fun y a b => ((q_same.r A y).rowI b).setI a) (fun j hj => ?_) ?_) (fun j hj => ?_) ?_)
  · rw [I_set (Or.inl (by omega)), I_row_s, if_pos hj]
  · rw [I_set_s, s6_0]
  · rw [I_set (Or.inl (by omega)), I_row_s, if_pos hj]
  · rw [I_set_s, s6_0]
theorem L_takeBack {f : q_H → Prop} {b : Nat} (h : Lp A0 A l (o_dropB S b)) (hw : S 2 10 0 < 30) {j : Nat} (hj : j < 40) (g : gB A (l_a l + 98 + 3 * j) S b) (k : ∀ A', Lp A0 A' l (o_back S b) → f A') : q_Wc G M_X4_takeBack [.ref (l_a l), .ref (l_a l + 98 + 3 * j)] A (q_KV f) X := by
  have e10 : o_dropB S b 2 10 0 = S 2 10 0 := by rw [db_2, if_neg (by decide)]
  have e5 : o_dropB S b 2 5 0 = S 2 5 0 := by rw [db_2, if_neg (by decide)]
  refine f_X4_takeBack ⟨h.line, _, h.r6, h.z4, L_addLastX h (by omega) fun A1 s1 h1 => ⟨fun e => (by cases e), fun r e => ?_⟩⟩
  cases e
  have g1 : gB A1 (l_a l + 98 + 3 * j) S b := g.sm (s1 _ (by omega)) (s1 _ (by omega)) (s1 _ (by omega))
  have hx9 : 19 + o_dropB S b 2 10 0 < 89 := by omega
  have l1 : lv (o_add (o_dropB S b) (fun _ => 0) 0) (19 + o_dropB S b 2 10 0) := lv_par (by rw [add_w]; omega)
  have hl := ha_par l (k := o_dropB S b 2 10 0) (by omega)
  have hwf := h.w.2.2.2.2
  refine ⟨h1.zp _, _, h1.rpa (by omega), g1.1.1, _, g1.1.2.1, h1.zh (by omega), ?_⟩
  refine c_putAll (h1.kh hx9) g1.1.2.2 (by omega) (by omega) ?_
  have h2 : Lp A0 (q_setI (q_rowI A1 (ha l (19 + o_dropB S b 2 10 0) + 1) (fun i => if i < 6 then q_I A1 (ha l (19 + o_dropB S b 2 10 0) + 1) i + q_I A1 (l_a l + 98 + 3 * j + 1 + 1) i else q_I A1 (ha l (19 + o_dropB S b 2 10 0) + 1) i)) (ha l (19 + o_dropB S b 2 10 0)) 1 (q_I A1 (ha l (19 + o_dropB S b 2 10 0)) 1 + q_I A1 (l_a l + 98 + 3 * j + 1) 1)) l (s_h (o_add (o_dropB S b) (fun _ => 0) 0) (19 + o_dropB S b 2 10 0) (S 0 (49 + b))) := by
    refine h1.heap _ hx9 rfl rfl rfl (fun z a b => ((q_same.r A1 z).rowI b).setI a) (fun i hi => ?_) ?_
    · rw [I_set (Or.inl (by omega)), I_row_s, if_pos hi, h1.m l1 hi, g1.2.2.1 i hi, nI_add, add_0, Nat.zero_add]
    · rw [I_set_s, h1.t l1, g1.2.2.2, nI_add, add_0, s6_0, Nat.zero_add]
  rw [add_h] at h2
  refine ⟨h2.line, _, h2.r9, h2.z220, ?_⟩
  have h3 := h2.put (t := 2) (i := 5) (j := 0) (S 2 5 0 + 1) (by unfold dm0; omega) ⟨fun _ => by decide, fun e => absurd e (by decide)⟩
  rw [h2.tal (by decide), add_2 _ _ _ (by decide), e5, nI_add]
  exact k _ h3
theorem L_handOver {f : Int32 → q_H → Prop} {b y j : Nat} (h : Lp A0 A l (o_dropB S b)) (q : iw R B P S) (hb : b < S 2 11 0) (hy : y < S 8 2 0) (hj : j < 40) (g : gB A (l_a l + 98 + 3 * j) S b) (k : ∀ A', Lp A0 A' l (o_sold S b y (p_pay (S 10 y 2) (S 6 b 2) (S 6 b 3) (S 10 y 3) (S 1 7 0))) → f (nI (p_pay (S 10 y 2) (S 6 b 2) (S 6 b 3) (S 10 y 3) (S 1 7 0))) A') : q_Wc G M_X4_handOver [.ref (l_a l), .ref (l_a l + 98 + 3 * j), .ref (l_a l + 273 + y)] A (q_KI f) X := by
  have e8 : o_dropB S b 8 = S 8 := db_t S b (by decide) (by decide) (by decide)
  have e1 : o_dropB S b 1 = S 1 := db_t S b (by decide) (by decide) (by decide)
  have e7 : o_dropB S b 7 = S 7 := db_t S b (by decide) (by decide) (by decide)
  have e10 : o_dropB S b 10 = S 10 := db_t S b (by decide) (by decide) (by decide)
  have e2 : ∀ x, x ≠ 11 → o_dropB S b 2 x 0 = S 2 x 0 := fun x hx => by rw [db_2, if_neg hx]
  have hy' : y < o_dropB S b 8 2 0 := by rw [e8]; exact hy
  obtain ⟨q1, q2, q3, q4, q5, q6, -⟩ := q
  have qy := q1.2.2.2.2.2.2 y hy
  have qb := q6 b hb
  have hy4 : y < 4 := by have := q1.2.2.2.2.1; omega
  have f2 : q_I A (l_a l + 273 + y) 3 = nI (S 10 y 2) := by have := h.buy hy' (j := 2) (by decide); rw [e10] at this; exact this
  have f3 : q_I A (l_a l + 273 + y) 4 = nI (S 10 y 3) := by have := h.buy hy' (j := 3) (by decide); rw [e10] at this; exact this
  refine f_X4_handOver ⟨h.line, _, h.r1, 8, h.z1, by decide, by decide, h.zb hy4, ?_⟩
  rw [h.set (by decide), e1]
  obtain ⟨pay, hpay⟩ : ∃ pay, pay = p_pay (S 10 y 2) (S 6 b 2) (S 6 b 3) (S 10 y 3) (S 1 7 0) := ⟨_, rfl⟩
  rw [← hpay] at k
  refine c_payFor (h.zb hy4) g.1.1 f2 f3 (g.2.1 2 (by decide)) (g.2.1 3 (by decide)) qy.2.2.2.1 qy.2.2.2.2.1 qb.2.2.2.1 (by omega) q2.2.2.2.2.2.2.2.2.2 ?_
  rw [← hpay]
  have h1 := h.put (t := 7) (i := y) (j := 0) (S 7 y 0 + pay) (by unfold dm0; omega) ⟨fun e => absurd e (by decide), fun e => absurd e (by decide)⟩
  have h2 := h1.put (t := 2) (i := 4) (j := 0) (S 2 4 0 + 1) (by unfold dm0; omega) ⟨fun _ => by decide, fun e => absurd e (by decide)⟩
  have ep : q_I A (l_a l + 273 + y) 6 = nI (S 7 y 0) := by rw [h.paid hy', e7]
  have et := h1.tal (i := 4) (by decide)
  rw [s_p_t (by decide), e2 4 (by decide)] at et
  refine ⟨h.zb hy4, h.line, _, h.r9, h.z220, ?_⟩
  rw [ep, nI_add]
  have et' : q_I (q_setI A (l_a l + 273 + y) 6 (nI (S 7 y 0 + pay))) (l_a l + 220) 4 = nI (S 2 4 0) := et
  rw [et', nI_add]
  obtain ⟨A2, eA2⟩ : ∃ A2, A2 = q_setI (q_setI A (l_a l + 273 + y) 6 (nI (S 7 y 0 + pay))) (l_a l + 220) 4 (nI (S 2 4 0 + 1)) := ⟨_, rfl⟩
  have h2' : Lp A0 A2 l (s_p (s_p (o_dropB S b) 7 y 0 (S 7 y 0 + pay)) 2 4 0 (S 2 4 0 + 1)) := by rw [eA2]; exact h2
  have g2 : gB A2 (l_a l + 98 + 3 * j) S b := by
    rw [eA2]
    exact g.sm (((q_same.r A _).setI (by omega)).setI (by omega)) (((q_same.r A _).setI (by omega)).setI (by omega)) (((q_same.r A _).setI (by omega)).setI (by omega))
  have f4 : q_I A2 (l_a l + 273 + y) 4 = nI (S 10 y 3) := by
    have := h2'.buy (b := y) (j := 3) (by rw [s_p_t (by decide), s_p_t (by decide)]; exact hy') (by decide)
    rw [s_p_t (by decide), s_p_t (by decide), e10] at this; exact this
  have et6 := h2'.tal (i := 6) (by decide)
  rw [s_p_i (by decide), s_p_t (by decide), e2 6 (by decide)] at et6
  rw [← eA2]
  have fin : ∀ v, Lp A0 (q_setI (q_setI A2 (l_a l + 220) 6 (nI (S 2 6 0 + v))) (l_a l + 220) 8 (nI (S 2 8 0 + s6 (S 0 (49 + b))))) l (s_p (s_p (s_p (s_p (o_dropB S b) 7 y 0 (S 7 y 0 + pay)) 2 4 0 (S 2 4 0 + 1)) 2 6 0 (S 2 6 0 + v)) 2 8 0 (S 2 8 0 + s6 (S 0 (49 + b)))) ∧ q_I (q_setI A2 (l_a l + 220) 6 (nI (S 2 6 0 + v))) (l_a l + 220) 8 = nI (S 2 8 0) ∧ q_I (q_setI A2 (l_a l + 220) 6 (nI (S 2 6 0 + v))) (l_a l + 98 + 3 * j + 1) 1 = nI (s6 (S 0 (49 + b))) := fun v => by
    have h3 := h2'.put (t := 2) (i := 6) (j := 0) (S 2 6 0 + v) (by unfold dm0; omega) ⟨fun _ => by decide, fun e => absurd e (by decide)⟩
    have t8 := h3.tal (i := 8) (by decide)
    rw [s_p_i (by decide), s_p_i (by decide), s_p_t (by decide), e2 8 (by decide)] at t8
    refine ⟨h3.put (t := 2) (i := 8) (j := 0) _ (by unfold dm0; omega) ⟨fun _ => by decide, fun e => absurd e (by decide)⟩, t8, ?_⟩
    rw [I_set (Or.inl (by omega))]
    exact g2.2.2.2
  refine c_claimsFor (h2'.zb hy4) g2.1.1 f4 (g2.2.1 2 (by decide)) qy.2.2.2.2.1 qb.2.2.2.1 ⟨fun c => ?_, fun c => ?_⟩
  · have c1 : S 10 y 3 < 100 - S 6 b 2 := of_decide_eq_true c
    obtain ⟨a1, a2, a3⟩ := fin 1
    refine ⟨h2'.z220, h2'.line, _, h2'.r9, h2'.z220, g2.1.1, _, g2.1.2.1, g2.1.2.2.1, fun A39 e => ?_⟩
    rw [et6, nI_add, a2, a3, nI_add] at e
    subst e
    refine k _ ?_
    unfold o_sold
    rw [if_pos c1]; exact a1
  · have c1 : ¬ S 10 y 3 < 100 - S 6 b 2 := of_decide_eq_false c
    obtain ⟨a1, a2, a3⟩ := fin 0
    refine ⟨h2'.z220, h2'.line, _, h2'.r9, h2'.z220, g2.1.1, _, g2.1.2.1, g2.1.2.2.1, fun A39 e => ?_⟩
    rw [et6, nI_add, a2, a3, nI_add] at e
    subst e
    refine k _ ?_
    unfold o_sold
    rw [if_neg c1]; exact a1
end HO

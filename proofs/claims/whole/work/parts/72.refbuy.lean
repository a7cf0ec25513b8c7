/-! THE REFERENCE: what a buyer does; the best buyer -/
section MB
variable {G : q_G} {X : String → q_H → Prop} {A A0 : q_H} {mo : Nat} {S : s_T}
theorem M_ofBuyer {f : Int32 → q_H → Prop} {y j : Nat} (h : MP A mo S) (hy : y < S 8 2 0) (hj : j < 5) (k : f (nI (S 10 y j)) A) : q_Wc G M_X11_ofBuyer [.ref mo, .int (nI y), .int (nI j)] A (q_KI f) X := by
  have hb := h.2.1.b
  unfold Lb at hb
  exact f_X11_ofBuyer ⟨h.1.z, _, h.1.r2, 47, h.1.z2, by decide, 27 + 5 * y + j, by rw [pk_mul, nI_add, nI_add], by omega, by rw [h.to2 hy hj]; exact k⟩
theorem M_impurity {f : Int32 → q_H → Prop} {b : Nat} (h : MP A mo S) (hb : b < S 2 11 0) (hp : S 6 b 2 ≤ 100) (k : f (nI (100 - S 6 b 2)) A) : q_Wc G M_X11_impurity [.ref mo, .int (nI b)] A (q_KI f) X := by
  have hb' := h.2.1.b
  unfold Lb at hb'
  exact f_X11_impurity ⟨h.1.z, _, h.1.r6, M_storedAt (j := 2) ⟨788, h.1.z6, by decide, _, rfl, by omega, by rw [h.2.1.ba hb (by decide), pk_sub hp]; exact k⟩⟩
theorem M_sendsBack {f : Bool → q_H → Prop} {y b : Nat} (h : MP A mo S) (q : iv S) (hy : y < S 8 2 0) (hb : b < S 2 11 0) (k : f (decide (p_bk S y b)) A) : q_Wc G M_X11_sendsBack [.ref mo, .int (nI y), .int (nI b)] A (q_KB f) X := by
  have q1 := q.1.2.2.2.2.2.2 y hy
  have q2 := q.2.2.2.2.2.1 b hb
  refine f_X11_sendsBack ⟨h.1.z, M_impurity h hb q2.2.2.2.1 ⟨h.1.z, M_ofBuyer (j := 4) h hy (by decide) ⟨fun c => ?_, fun c => ?_⟩⟩⟩
  · have := (nI_leI (by omega) (by omega)).mp c
    rw [decide_eq_false (p := p_bk S y b) (by unfold p_bk; omega)] at k; exact k
  · have : S 10 y 4 < 100 - S 6 b 2 := Nat.lt_of_not_le fun z => c (nI_le z (by omega))
    rw [decide_eq_true (p := p_bk S y b) this] at k; exact k
theorem M_takesBale {f : Bool → q_H → Prop} {y b : Nat} (h : MP A mo S) (q : iv S) (hy : y < S 8 2 0) (hb : b < S 2 11 0) (k : f (decide (p_tk S y b)) A) : q_Wc G M_X11_takesBale [.ref mo, .int (nI y), .int (nI b)] A (q_KB f) X := by
  have hb' := h.2.1.b
  unfold Lb at hb'
  have q1 := q.1.2.2.2.2.2.2 y hy
  have q2 := q.2.2.2.2.2.1 b hb
  have h6 := q.1.2.1
  refine f_X11_takesBale ⟨h.1.z, M_ofBuyer (j := 0) h hy (by decide) ⟨h.1.z, _, h.1.r6, M_storedAt (j := 1) ⟨788, h.1.z6, by decide, _, rfl, by omega, ?_⟩⟩⟩
  rw [h.2.1.ba hb (by decide)]
  refine ⟨fun c => ⟨h.1.z, _, h.1.r6, M_storedAt (j := 3) ⟨788, h.1.z6, by decide, _, rfl, by omega, h.1.z, M_ofBuyer (j := 1) h hy (by decide) ?_⟩⟩, fun c => ?_⟩
  · have e : S 10 y 0 = S 6 b 1 := (nI_eq (by omega) (by omega)).mp c
    rw [h.2.1.ba hb (by decide)]
    refine ⟨fun c2 => ?_, fun c2 => ?_⟩
    · have := (nI_ltI (by omega) (by omega)).mp c2
      rw [decide_eq_false (p := p_tk S y b) (by unfold p_tk; omega)] at k; exact k
    · have : S 6 b 3 ≤ S 10 y 1 := Nat.le_of_not_lt fun z => c2 (nI_lt z (by omega))
      rw [decide_eq_true (p := p_tk S y b) ⟨e.symm, this⟩] at k; exact k
  · rw [decide_eq_false (p := p_tk S y b) (fun z => c (by rw [z.1]))] at k; exact k
theorem v_pays {f : Int32 → q_H → Prop} {y b : Nat} {W : Int32} (h : MP A mo S) (q : iv S) (hy : y < S 8 2 0) (hb : b < S 2 11 0) (eW : W = nI (p_worth (S 10 y 2) (S 6 b 3))) (k : f (nI (p_py S y b)) A) :
    q_sh A mo = (12, 0) ∧ q_Wc G M_X11_impurity [.ref mo, .int (nI b)] A (q_KI fun r46 A45 => q_sh A45 mo = (12, 0) ∧ q_Wc G M_X11_ofBuyer [.ref mo, .int (nI y), .int (nI 3)] A45 (q_KI fun r49 A48 => (((r46 - r49) ≤ nI 0 → f W A48) ∧ (¬ (r46 - r49) ≤ nI 0 → q_sh A48 mo = (12, 0) ∧ ∃ r53 : Nat, q_R A48 mo 6 = some r53 ∧ ∃ z56 : Nat, q_sh A48 r53 = (50, z56) ∧ z56 < 2147483648 ∧ 7 < z56 ∧ f (W - (if (((nI (S 10 y 2) * (r46 - r49)) * (q_I A48 r53 7)) / (nI 100)) < W then (((nI (S 10 y 2) * (r46 - r49)) * (q_I A48 r53 7)) / (nI 100)) else W)) A48))) q_nX) q_nX := by
  have q1 := q.1.2.2.2.2.2.2 y hy
  have q2 := q.2.2.2.2.2.1 b hb
  have qs := q.2.1
  unfold iv_s at qs
  have hw := worth_le (S 10 y 2) (S 6 b 3)
  refine ⟨h.1.z, M_impurity h hb q2.2.2.2.1 ⟨h.1.z, M_ofBuyer (j := 3) h hy (by decide) ⟨fun c => ?_, fun c => ⟨h.1.z, _, h.1.r6, 788, h.1.z6, by decide, by decide, ?_⟩⟩⟩⟩
  · have := (sub_le0 (by omega) (by omega)).mp c
    have e : p_py S y b = p_worth (S 10 y 2) (S 6 b 3) := by unfold p_py p_pay; rw [if_neg (by omega)]
    rw [e, ← eW] at k; exact k
  · have c1 : S 10 y 3 < 100 - S 6 b 2 := Nat.lt_of_not_le fun z => c ((sub_le0 (by omega) (by omega)).mpr z)
    have hc := claim_bd (price := S 10 y 2) (pur := S 6 b 2) (tol := S 10 y 3) (rate := S 1 7 0) q1.2.2.2.1 (by omega)
    rw [h.2.1.set (by decide), pk_sub (by omega), pk_mul, pk_mul, pk_div (by omega) (by decide) (by decide)]
    have hcl : p_claim (S 10 y 2) (S 6 b 2) (S 10 y 3) (S 1 7 0) ≤ 19998000 := Nat.le_trans (Nat.div_le_self _ _) hc
    obtain ⟨w, ew⟩ : ∃ w, w = p_worth (S 10 y 2) (S 6 b 3) := ⟨_, rfl⟩
    obtain ⟨c, ec⟩ : ∃ c, c = p_claim (S 10 y 2) (S 6 b 2) (S 10 y 3) (S 1 7 0) := ⟨_, rfl⟩
    have e : p_py S y b = w - (if w < c then w else c) := by unfold p_py p_pay; rw [if_pos c1, ← ew, ← ec]
    rw [e] at k
    rw [eW, ← ew]
    show f (nI w - if nI (p_claim (S 10 y 2) (S 6 b 2) (S 10 y 3) (S 1 7 0)) < nI w then nI (p_claim (S 10 y 2) (S 6 b 2) (S 10 y 3) (S 1 7 0)) else nI w) A
    rw [← ec]
    by_cases c2 : c < w
    · rw [if_pos (nI_lt c2 (by omega)), pk_sub (by omega)]
      rw [if_neg (by omega)] at k; exact k
    · rw [if_neg (nI_nlt (by omega) (by omega)), pk_sub (by omega)]
      by_cases c3 : w < c
      · rw [if_pos c3] at k; exact k
      · rw [if_neg c3, show c = w by omega] at k; exact k
theorem M_pays {f : Int32 → q_H → Prop} {y b : Nat} (h : MP A mo S) (q : iv S) (hy : y < S 8 2 0) (hb : b < S 2 11 0) (k : f (nI (p_py S y b)) A) : q_Wc G M_X11_pays [.ref mo, .int (nI y), .int (nI b)] A (q_KI f) X := by
  have hb' := h.2.1.b
  unfold Lb at hb'
  have q1 := q.1.2.2.2.2.2.2 y hy
  have q2 := q.2.2.2.2.2.1 b hb
  refine f_X11_pays ⟨h.1.z, M_ofBuyer (j := 2) h hy (by decide) ⟨h.1.z, _, h.1.r6, M_storedAt (j := 3) ⟨788, h.1.z6, by decide, _, rfl, by omega, ?_⟩⟩⟩
  rw [h.2.1.ba hb (by decide)]
  refine ⟨fun c => ?_, fun c => ⟨fun c2 => ?_, fun c2 => ?_⟩⟩
  · have g : S 6 b 3 = 0 := (nI_eq (by omega) (by decide)).mp c
    exact v_pays h q hy hb (by unfold p_worth; rw [if_pos g]) k
  · have g : S 6 b 3 = 1 := (nI_eq (by omega) (by decide)).mp c2
    exact v_pays h q hy hb (by unfold p_worth; rw [if_neg (by omega), if_pos g, pk_mul, pk_div (by omega) (by decide) (by decide)]) k
  · have g : S 6 b 3 ≠ 0 := fun e => c (by rw [e])
    have g2 : S 6 b 3 ≠ 1 := fun e => c2 (by rw [e])
    exact v_pays h q hy hb (by unfold p_worth; rw [if_neg g, if_neg g2, pk_mul, pk_div (by omega) (by decide) (by decide)]) k
theorem mb_m1 {v : Nat} (h : v < 2147483648) : mb v = -1 ↔ v = 0 := by
  unfold mb
  by_cases c : v = 0
  · rw [if_pos c]; exact ⟨fun _ => c, fun _ => rfl⟩
  · rw [if_neg c]
    exact ⟨fun e => absurd (show nI (v - 1) < 0 by rw [e]; decide) (nI_pos (by omega)), fun e => absurd e c⟩
theorem v_bestBuyer {f : Int32 → q_H → Prop} {b : Nat} (h : MP A mo S) (q : iv S) (hb : b < S 2 11 0) (k : f (mb (o_bb S b (S 8 2 0))) A) : ∀ (d i : Nat), i + d = S 8 2 0 → q_Wp G M_X11_bestBuyer (q_KI f) X 0 0 28 [some (.ref mo), some (.int (nI b)), some (.int (mb (o_bb S b i))), some (.int (nI i))] [] A
  | 0, i, e => by
    have hlb := h.2.1.b
    unfold Lb at hlb
    have ei : i = S 8 2 0 := by omega
    subst ei
    refine f_X11_bestBuyer_28 ⟨h.1.z, _, h.1.r2, 47, h.1.z2, by decide, by decide, ?_⟩
    rw [h.2.2.1.2.2]
    exact ⟨fun _ => k, fun c => absurd (nI_le (Nat.le_refl _) (by omega)) c⟩
  | d + 1, i, e => by
    have hlb := h.2.1.b
    unfold Lb at hlb
    have hi : i < S 8 2 0 := by omega
    have ih := v_bestBuyer h q hb k d (i + 1) (by omega)
    have hle := bb_le S b i
    have st1 : (p_tk S i b ∧ ¬ p_bk S i b ∧ (o_bb S b i = 0 ∨ p_py S (o_bb S b i - 1) b < p_py S i b)) → o_bb S b (i + 1) = i + 1 := fun h => if_pos h
    have st2 : ¬ (p_tk S i b ∧ ¬ p_bk S i b ∧ (o_bb S b i = 0 ∨ p_py S (o_bb S b i - 1) b < p_py S i b)) → o_bb S b (i + 1) = o_bb S b i := fun h => if_neg h
    refine f_X11_bestBuyer_28 ⟨h.1.z, _, h.1.r2, 47, h.1.z2, by decide, by decide, ?_⟩
    rw [h.2.2.1.2.2]
    refine ⟨fun c => absurd c (nI_ge hi (by omega)), fun _ => M_takesBale h q hi hb ⟨fun c => ⟨h.1.z, M_sendsBack h q hi hb ⟨fun c2 => ?_, fun c2 => ⟨fun c3 => ?_, fun c3 => ⟨h.1.z, M_pays h q hi hb ⟨h.1.z, ?_⟩⟩⟩⟩⟩, fun c => ?_⟩⟩
    · have z : p_bk S i b := of_decide_eq_true c2
      rw [st2 fun h => h.2.1 z] at ih
      rw [nI_add]; exact ih
    · have z1 : p_tk S i b := of_decide_eq_true c
      have z2 : ¬ p_bk S i b := of_decide_eq_false c2
      have z3 : o_bb S b i = 0 := (mb_m1 (by omega)).mp c3
      rw [st1 ⟨z1, z2, Or.inl z3⟩] at ih
      rw [nI_add]
      simp only [mb, Nat.add_sub_cancel, Nat.add_eq_zero_iff, Nat.one_ne_zero, and_false, if_false] at ih
      exact ih
    · have z1 : p_tk S i b := of_decide_eq_true c
      have z2 : ¬ p_bk S i b := of_decide_eq_false c2
      have z3 : o_bb S b i ≠ 0 := fun z => c3 ((mb_m1 (by omega)).mpr z)
      have em : mb (o_bb S b i) = nI (o_bb S b i - 1) := if_neg z3
      have p1 := py_le S i b (q.1.2.2.2.2.2.2 i hi).2.2.2.1
      have p2 := py_le S (o_bb S b i - 1) b (q.1.2.2.2.2.2.2 (o_bb S b i - 1) (by omega)).2.2.2.1
      rw [em]
      refine M_pays h q (by omega) hb ⟨fun c4 => ?_, fun c4 => ?_⟩
      · have := (nI_leI (by omega) (by omega)).mp c4
        rw [st2 (fun h => by have := h.2.2; omega), em] at ih
        rw [nI_add]; exact ih
      · have : p_py S (o_bb S b i - 1) b < p_py S i b := Nat.lt_of_not_le fun h => c4 (nI_le h (by omega))
        rw [st1 ⟨z1, z2, Or.inr this⟩] at ih
        rw [nI_add]
        simp only [mb, Nat.add_sub_cancel, Nat.add_eq_zero_iff, Nat.one_ne_zero, and_false, if_false] at ih
        exact ih
    · have z : ¬ p_tk S i b := of_decide_eq_false c
      rw [st2 fun h => z h.1] at ih
      rw [nI_add]; exact ih
theorem M_bestBuyer {f : Int32 → q_H → Prop} {x : Int32} (h : MP A mo S) (q : iv S) (k : f (a_bestBuyer S x).2 (th A mo (a_bestBuyer S x).1)) : q_Wc G M_X11_bestBuyer [.ref mo, .int x] A (q_KI f) X := by
  have hb := h.2.1.b
  unfold Lb at hb
  refine f_X11_bestBuyer ⟨h.1.z, M_isBale h (fun b hb1 e => ⟨fun _ => f_X11_bestBuyer_16 ⟨h.1.z, M_f0 h.1.z ⟨fun e => (by cases e), fun _ => ?_⟩⟩, fun e => (by cases e)⟩) (fun hn => ⟨fun e => (by cases e), fun _ => f_X11_bestBuyer_16 ⟨h.1.z, M_f1 h.1.z ⟨fun _ => ?_, fun e => (by cases e)⟩⟩⟩)⟩
  · subst e
    have ea : a_bestBuyer S (nI b) = (0, mb (o_bb S b (S 8 2 0))) := by unfold a_bestBuyer; rw [ix_nI hb1 (by omega)]
    rw [ea] at k
    exact v_bestBuyer (h.th 0) q hb1 k (S 8 2 0) 0 (by omega)
  · have ea : a_bestBuyer S x = (1, 0) := by unfold a_bestBuyer; rw [ix_no (by omega) hn]
    rw [ea] at k
    exact k
theorem M_isEmpty {f : Bool → q_H → Prop} (h : MP A mo S) (q : iv_t S) (k : f (decide (S 2 10 0 = 0 ∧ o_belt S = 0)) A) : q_Wc G M_X11_isEmpty [.ref mo] A (q_KB f) X := by
  have hb := h.2.1.b
  unfold Lb at hb
  have hbl := belt_le S
  refine f_X11_isEmpty ⟨h.1.z, _, h.1.r6, 788, h.1.z6, by decide, by decide, ?_⟩
  rw [h.n9]
  refine ⟨fun c => M_onBelt h q ⟨fun c2 => ?_, fun c2 => ?_⟩, fun c => ?_⟩
  · rw [decide_eq_true (p := S 2 10 0 = 0 ∧ o_belt S = 0) ⟨(nI_eq (by omega) (by decide)).mp c, (nI_eq (by omega) (by decide)).mp c2⟩] at k; exact k
  · rw [decide_eq_false (p := S 2 10 0 = 0 ∧ o_belt S = 0) (fun z => c2 (by rw [z.2]))] at k; exact k
  · rw [decide_eq_false (p := S 2 10 0 = 0 ∧ o_belt S = 0) (fun z => c (by rw [z.1]))] at k; exact k
end MB

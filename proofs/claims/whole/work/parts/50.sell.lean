/-! sell, undo, truncate, append -/
section SL
variable {G : q_G} {X : String → q_H → Prop} {A0 A A' : q_H} {rl m W : Nat} {L : L_T} {S S' : s_T} {h : Nat → s_T} {n x len : Nat} {T : Nat → Int32}
theorem C_sellB {f : Int32 → q_H → Prop} {b w : Nat} (r : Rc A0 A rl m W L S h n x len T) (q : iv S) (hb : b < S 2 11 0) (hw : w < S 8 2 0) {t : l_T} (et : L 0 = some t) (hbk : p_bk S w b → S 2 10 0 < 30)
    (k1 : p_bk S w b → ∀ A' L', Rc A0 A' rl m W L' (o_back S b) h n x len T → f (-1) A') (k2 : ¬ p_bk S w b → ∀ A' L', Rc A0 A' rl m W L' (o_sold S b w (p_py S w b)) h n x len T → f (nI (p_py S w b)) A') :
    q_sh A rl = (11, 0) ∧ ∃ r79 : Nat, q_R A rl 2 = some r79 ∧ q_sh A r79 = (5, 0) ∧ ∃ r82 : Nat, q_R A r79 7 = some r82 ∧ q_sh A r82 = (8, 0) ∧ q_Wc G M_X7_dropBale [.ref r82, .int (nI b)] A (q_KV fun A84 => q_sh A84 (l_a t + 273 + w) = (2, 0) ∧ q_Wc G M_X1_sendsBack [.ref (l_a t + 273 + w), .ref (l_b t b)] A84 (q_KB fun b88 A87 => ((b88 = true → q_sh A87 rl = (11, 0) ∧ ∃ r99 : Nat, q_R A87 rl 2 = some r99 ∧ q_sh A87 r99 = (5, 0) ∧ q_Wc G M_X4_takeBack [.ref r99, .ref (l_b t b)] A87 (q_KV fun A101 => f (-1) A101) q_nX) ∧ (b88 = false → q_sh A87 rl = (11, 0) ∧ ∃ r93 : Nat, q_R A87 rl 2 = some r93 ∧ q_sh A87 r93 = (5, 0) ∧ q_Wc G M_X4_handOver [.ref r93, .ref (l_b t b), .ref (l_a t + 273 + w)] A87 (q_KI fun r96 A95 => f r96 A95) q_nX))) q_nX) q_nX := by
  obtain ⟨z1, rr1, p1⟩ := r.to_t et
  have hlb := p1.b
  unfold Lb at hlb
  have g1 := p1.gB hb
  obtain ⟨j, hj, ej⟩ := p1.w.2.2.1 b (by omega)
  rw [ej] at g1 ⊢
  refine ⟨z1, _, rr1, p1.line, _, p1.r7, p1.z96, L_dropBale p1 hb fun A84 s84 p84 => ?_⟩
  have g84 : gB A84 (l_a t + 98 + 3 * j) S b := g1.sm (s84 _ (by omega) (by omega)) (s84 _ (by omega) (by omega)) (s84 _ (by omega) (by omega))
  have e8 : o_dropB S b 8 = S 8 := (cf_dropB S b).2.1
  have e10 : o_dropB S b 10 = S 10 := (cf_dropB S b).2.2.2.1
  have hw' : w < o_dropB S b 8 2 0 := by rw [e8]; exact hw
  have rc := r.cur (t' := (l_a t, l_s t, d_t t b (S 2 11 0), l_f t)) et rfl p84
  obtain ⟨z4, rr4, p4'⟩ := rc.to_t (L_up_s _ _ _)
  have qy := q.1.2.2.2.2.2.2 w hw
  have qb := q.2.2.2.2.2.1 b hb
  have f4 : q_I A84 (l_a t + 273 + w) 5 = nI (S 10 w 4) := by have := p84.buy hw' (j := 4) (by decide); rw [e10] at this; exact this
  have hlw : w < 4 := by omega
  have zw : q_sh A84 (l_a t + 273 + w) = (2, 0) := p84.zb hlw
  refine ⟨zw, c_sendsBack zw g84.1.1 f4 (g84.2.1 2 (by decide)) qy.2.2.2.2.2 qb.2.2.2.1 ⟨fun c => ?_, fun c => ?_⟩⟩
  · have c1 : p_bk S w b := of_decide_eq_true c
    refine ⟨z4, _, rr4, p4'.line, L_takeBack (l := (l_a t, l_s t, d_t t b (S 2 11 0), l_f t)) p84 (hbk c1) hj g84 fun A101 p5 => k1 c1 _ _ (r.cur (t' := (l_a t, l_s t, d_t t b (S 2 11 0), l_f t)) et rfl p5)⟩
  · have c1 : ¬ p_bk S w b := of_decide_eq_false c
    refine ⟨z4, _, rr4, p4'.line, L_handOver (l := (l_a t, l_s t, d_t t b (S 2 11 0), l_f t)) p84 q hb hw hj g84 fun A101 p5 => k2 c1 _ _ (r.cur (t' := (l_a t, l_s t, d_t t b (S 2 11 0), l_f t)) et rfl p5)⟩
theorem C_sell {f : Int32 → q_H → Prop} {y1 y2 : Int32} (r : Rc A0 A rl m W L S h n x len T) (q : iv S)
    (k0 : (e_sell S y1 y2).1 = 0 → ∀ A' L', Rc A0 A' rl m W L' (e_sell S y1 y2).2.2 (hp S h) (mn6 n) ((x + 1) % 6) len T → f (e_sell S y1 y2).2.1 A')
    (k1 : (e_sell S y1 y2).1 = 1 → ∀ z, q_sz A ≤ z → X "java/lang/IndexOutOfBoundsException" (q_grow A z)) (k2 : (e_sell S y1 y2).1 = 2 → ∀ z, q_sz A ≤ z → X "java/lang/IllegalArgumentException" (q_grow A z)) (k3 : (e_sell S y1 y2).1 = 3 → ∀ z, q_sz A ≤ z → X "java/lang/IllegalStateException" (q_grow A z)) : q_Wc G M_X10_sell [.ref rl, .int y1, .int y2] A (q_KI f) X := by
  obtain ⟨t, et, ht, z, rr, p, qq⟩ := r.t
  have hlb := p.b
  unfold Lb at hlb
  refine f_X10_sell ⟨z, _, rr, p.line, _, p.r7, p.z96, L_baleAt p (fun b hb e => ?_) (fun hn => ?_)⟩
  · have hx := ix_nI hb (by omega)
    subst e
    refine ⟨fun e => (by cases e), fun r8 e8 => ?_⟩
    cases e8
    refine ⟨z, _, rr, p.line, L_buyerAt p (fun w hw e => ?_) (fun hn => ?_)⟩
    · have hy := ix_nI hw (by omega)
      subst e
      refine ⟨fun e => (by cases e), fun r22 e22 => ?_⟩
      cases e22
      have ee : e_sell S (nI b) (nI w) = if p_tk S w b then (if p_bk S w b then (if S 2 10 0 < 30 then (0, -1, o_back S b) else (3, 0, S)) else (0, nI (p_py S w b), o_sold S b w (p_py S w b))) else (2, 0, S) := by
        unfold e_sell
        rw [hx, hy]
      rw [ee] at k0 k2 k3
      have zy := p.zb (b := w) (by omega)
      have zb : q_sh A (l_b t b) = (1, 0) := (p.kb (by omega)).1
      have qy := q.1.2.2.2.2.2.2 w hw
      have qb := q.2.2.2.2.2.1 b hb
      have q86 := q.1.2.1
      refine ⟨zy, c_takes zy zb (p.buy hw (j := 0) (by decide)) (p.buy hw (j := 1) (by decide)) (p.bal hb (j := 1) (by decide)) (p.bal hb (j := 3) (by decide)) (by omega) (by omega) (by omega) (by omega) ⟨fun c => ⟨zy, ?_⟩, fun c => ?_⟩⟩
      · have c1 : p_tk S w b := of_decide_eq_true c
        rw [if_pos c1] at k0 k2 k3
        refine c_sendsBack zy zb (p.buy hw (j := 4) (by decide)) (p.bal hb (j := 2) (by decide)) qy.2.2.2.2.2 qb.2.2.2.1 ⟨fun c2 => ⟨z, _, rr, p.line, _, p.r6, p.z4, L_isFull p fun bb hbb => ⟨fun e => ?_, fun e => ⟨z, C_remember r fun A1 L1 r1 e1 => ?_⟩⟩⟩, fun c2 => ⟨z, C_remember r fun A1 L1 r1 e1 => ?_⟩⟩
        · have c3 : p_bk S w b := of_decide_eq_true c2
          have hwt : ¬ S 2 10 0 < 30 := by have := hbb.mp e; omega
          rw [if_pos c3, if_neg hwt] at k3
          exact k3 rfl
        · have c3 : p_bk S w b := of_decide_eq_true c2
          have hwt : S 2 10 0 < 30 := Nat.lt_of_not_le fun c => by rw [hbb.mpr c] at e; cases e
          rw [if_pos c3, if_pos hwt] at k0
          rw [et] at e1
          exact C_sellB r1 q hb hw e1 (fun _ => hwt) (fun _ A' L' rc => k0 rfl A' L' rc) (fun c => absurd c3 c)
        · have c3 : ¬ p_bk S w b := of_decide_eq_false c2
          rw [if_neg c3] at k0
          rw [et] at e1
          exact C_sellB r1 q hb hw e1 (fun c => absurd c c3) (fun c => absurd c c3) (fun _ A' L' rc => k0 rfl A' L' rc)
      · have c1 : ¬ p_tk S w b := of_decide_eq_false c
        rw [if_neg c1] at k2
        exact k2 rfl
    · have : (e_sell S (nI b) y2).1 = 1 := by
        unfold e_sell
        rw [hx]
        rcases ix_cases y2 (S 8 2 0) (by omega) with ⟨j, hj, h1, -⟩ | ⟨-, h2⟩
        · exact absurd h1 (hn j hj)
        · rw [h2]
      exact ⟨fun _ => k1 this, fun r5 e5 => by cases e5⟩
  · have : (e_sell S y1 y2).1 = 1 := by
      unfold e_sell
      rcases ix_cases y1 (S 2 11 0) (by omega) with ⟨j, hj, h1, -⟩ | ⟨-, h2⟩
      · exact absurd h1 (hn j hj)
      · rw [h2]
    refine ⟨fun _ => ⟨z, _, rr, p.line, L_buyerAt p (fun w hw e => ⟨fun e => (by cases e), fun _ _ => k1 this⟩) (fun _ => ⟨fun _ => k1 this, fun r5 e5 => by cases e5⟩)⟩, fun r5 e5 => by cases e5⟩
/-- undo -/
theorem C_undo {f : Int32 → q_H → Prop} (r : Rc A0 A rl m W L S h n x len T) (k0 : n = 0 → f (-1) A) (k1 : n ≠ 0 → ∀ A' L', Rc A0 A' rl m W L' (h 0) (fun i => h (i + 1)) (n - 1) ((x + 5) % 6) len T → f (nI (n - 1)) A') : q_Wc G M_X10_undo [.ref rl] A (q_KI f) X := by
  obtain ⟨u, eu, hu, zu, ru, pu, qu⟩ := r.t
  have r3 := r.2.2.1
  unfold Rn at r3
  have hz := r.1.2.2.1
  unfold Rz at hz
  refine f_X10_undo ⟨zu, fun c => ?_, fun c => ?_⟩
  · rw [r3.1] at c
    exact k0 ((nI_eq (by omega) (by decide)).mp c)
  · have hn : n ≠ 0 := fun e => c (by rw [r3.1, e])
    obtain ⟨t, et, ht⟩ := r.2.1.2 0 (by omega)
    obtain ⟨x', ex⟩ : ∃ x', x' = (x + 5) % 6 := ⟨_, rfl⟩
    rw [show (x + 5 - 0) % 6 = x' by omega] at et
    have hx' : x' < 6 := by omega
    have px : q_R A (rl + 279) x' = some (l_a t) := by
      rw [r.1.2.1.2.2 x' hx']
      unfold L_at
      rw [et]; rfl
    -- the two lines change places
    obtain ⟨L', eL'⟩ : ∃ L' : L_T, L' = fun j => if j = 0 then some t else if j = 2 + x' then some u else L j := ⟨_, rfl⟩
    have l0 : L' 0 = some t := by rw [eL']; exact if_pos rfl
    have lx : L' (2 + x') = some u := by rw [eL']; show (if 2 + x' = 0 then _ else _) = _; rw [if_neg (by omega), if_pos rfl]
    have lj : ∀ j, j ≠ 0 → j ≠ 2 + x' → L' j = L j := fun j h1 h2 => by rw [eL']; show (if j = 0 then _ else _) = _; rw [if_neg h1, if_neg h2]
    have fin : ∀ A', A' = q_setR (q_setR (q_setI (q_setI A rl 6 (nI x')) rl 5 (nI (n - 1))) (rl + 279) x' (some (l_a u))) rl 2 (some (l_a t)) → Rc A0 A' rl m W L' (h 0) (fun i => h (i + 1)) (n - 1) x' len T := fun A' e => by
      have zz : q_sz A' = q_sz A := by rw [e]; rfl
      have sm : ∀ y, y ≠ rl → y ≠ rl + 279 → q_same A A' y := fun y h1 h2 => by rw [e]; exact ((((q_same.r A y).setI h1).setI h1).setR h2).setR h1
      have sl : ∀ j v, j < 8 → L j = some v → ∀ S, Lr A v S → Lr A' v S := fun j v hj ej S hS => hS.sm fun y h1 h2 => by
        have q := (r.1.2.2.2.1 j v hj ej).2
        unfold Rq at q
        exact sm y (by omega) (by omega)
      have gl : ∀ j v, j < 8 → L j = some v → Lg A' v ∧ Rq rl m W (q_sz A') v := fun j v hj ej => by
        have q := r.1.2.2.2.1 j v hj ej
        have q2 := q.2
        rw [zz]
        unfold Rq at q2
        exact ⟨q.1.sm fun y h1 h2 => sm y (by omega) (by omega), q.2⟩
      have shA : q_sh A' = q_sh A := by rw [e]; rfl
      have iA : ∀ y k, ¬ (y = rl ∧ (k = 5 ∨ k = 6)) → q_I A' y k = q_I A y k := fun y k hk => by
        rw [e]
        show q_I (q_setI (q_setI A rl 6 (nI x')) rl 5 (nI (n - 1))) y k = _
        rw [I_set (by omega), I_set (by omega)]
      have rA : ∀ y k, ¬ (y = rl ∧ k = 2) → ¬ (y = rl + 279 ∧ k = x') → q_R A' y k = q_R A y k := fun y k h1 h2 => by
        rw [e, R_set (by omega), R_set (by omega)]; rfl
      have back : ∀ j v, j < 8 → L' j = some v → ∃ j', j' < 8 ∧ L j' = some v ∧ (j' = if j = 0 then 2 + x' else if j = 2 + x' then 0 else j) := fun j v hj ej => by
        by_cases c0 : j = 0
        · rw [c0, l0] at ej
          cases ej
          exact ⟨2 + x', by omega, et, by rw [if_pos c0]⟩
        · by_cases c1 : j = 2 + x'
          · rw [c1, lx] at ej
            cases ej
            exact ⟨0, by decide, eu, by rw [if_neg c0, if_pos c1]⟩
          · rw [lj j c0 c1] at ej
            exact ⟨j, hj, ej, by rw [if_neg c0, if_neg c1]⟩
      obtain ⟨a1, a2, a3, a4, a5⟩ := r.1.1
      refine ⟨⟨⟨by rw [shA]; exact a1, by rw [rA _ _ (by omega) (by omega)]; exact a2, by rw [shA]; exact a3, by rw [rA _ _ (by omega) (by omega)]; exact a4, by rw [shA]; exact a5⟩, ⟨?_, ?_, fun i hi => ?_⟩, by rw [zz]; exact r.1.2.2.1, fun j v hj ej => ?_, fun i j t1 t2 hi hj hij e1 e2 => ?_⟩, ⟨⟨t, l0, sl (2 + x') t (by omega) et _ ht⟩, fun i hi => ?_⟩, ⟨?_, by omega, ?_, hx'⟩, ?_, ?_, fun y h1 h2 => ?_⟩
      · unfold L_at
        rw [l0, e, R_set_s]; rfl
      · rw [rA _ _ (by omega) (by omega), r.1.2.1.2.1]
        unfold L_at
        rw [lj 1 (by decide) (by omega)]
      · unfold L_at
        by_cases c : i = x'
        · subst c
          rw [lx, e, R_set (Or.inl (by omega)), R_set_s]; rfl
        · rw [lj _ (by omega) (by omega), rA _ _ (by omega) (by omega), r.1.2.1.2.2 i hi]
          rfl
      · obtain ⟨j', hj', ej', -⟩ := back j v hj ej
        exact gl j' v hj' ej'
      · obtain ⟨i', hi', ei', wi⟩ := back i t1 hi e1
        obtain ⟨j', hj', ej', wj⟩ := back j t2 hj e2
        refine r.1.2.2.2.2 i' j' t1 t2 hi' hj' ?_ ei' ej'
        rw [wi, wj]
        split <;> split <;> (try split) <;> (try split) <;> omega
      · obtain ⟨v, ev, hv⟩ := r.2.1.2 (i + 1) (by omega)
        have hx6 := r3.2.2.2
        have hn6 := r3.2.1
        have e3 : 2 + (x' + 5 - i) % 6 = 2 + (x + 5 - (i + 1)) % 6 := by omega
        refine ⟨v, ?_, sl _ v (by omega) ev _ hv⟩
        rw [e3, lj _ (by omega) (by omega)]
        exact ev
      · rw [e]
        exact I_set_s _ _ _ _
      · rw [e]
        show q_I (q_setI (q_setI A rl 6 (nI x')) rl 5 (nI (n - 1))) rl 6 = _
        rw [I_set (Or.inr (by decide)), I_set_s]
      · have r4 := r.2.2.2.1
        unfold Rt at r4 ⊢
        exact ⟨by rw [iA _ _ (by omega)]; exact r4.1, r4.2.1, fun j hj => by rw [iA _ _ (by omega)]; exact r4.2.2 j hj⟩
      · rw [zz]; exact r.2.2.2.2.1
      · exact (r.2.2.2.2.2 y h1 h2).t (sm y (by omega) (by omega))
    rw [ex] at fin
    have kk := fun A' e => k1 hn A' L' (fin A' e)
    rw [← ex] at kk
    refine ⟨fun c6 => ?_, fun c6 => ?_⟩
    · have hx0 : x = 0 := by
        rw [r3.2.2.1] at c6
        exact (nI_eq (by omega) (by decide)).mp c6
      have e5 : x' = 5 := by omega
      rw [e5] at kk px
      refine ⟨_, r.1.1.2.2.2.1, 6, r.1.1.2.2.2.2, by decide, 5, ?_, by decide, fun e => (by rw [px] at e; cases e), fun r27 e27 => ⟨_, ru, pu.line, ?_⟩⟩
      · rw [I_set (Or.inr (by decide)), I_set_s]
      · rw [px] at e27
        cases e27
        rw [I_set (Or.inr (by decide)), r3.1, pk_sub (by omega)]
        have e1 : q_I (q_setR (q_setR (q_setI (q_setI A rl 6 (nI 5)) rl 5 (nI (n - 1))) (rl + 279) 5 (some (l_a u))) rl 2 (some (l_a t))) rl 5 = nI (n - 1) := I_set_s _ _ _ _
        rw [e1]
        exact kk _ rfl
    · have hx0 : x ≠ 0 := fun e => c6 (by rw [r3.2.2.1, e])
      have e5 : x' = x - 1 := by have := r3.2.2.2; omega
      rw [e5] at kk px
      refine ⟨_, r.1.1.2.2.2.1, 6, r.1.1.2.2.2.2, by decide, x - 1, ?_, by omega, fun e => (by rw [px] at e; cases e), fun r27 e27 => ⟨_, ru, pu.line, fun A17 e17 => ?_⟩⟩
      · rw [I_set (Or.inr (by decide)), I_set_s, r3.2.2.1, pk_sub (by omega)]
      · rw [px] at e27
        cases e27
        rw [I_set (Or.inr (by decide)), r3.1, pk_sub (by omega), r3.2.2.1, pk_sub (by omega)] at e17
        have e1 : q_I A17 rl 5 = nI (n - 1) := by rw [e17]; exact I_set_s _ _ _ _
        rw [e1]
        exact kk _ e17
end SL

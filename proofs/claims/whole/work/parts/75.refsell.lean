/-! THE REFERENCE: a bale is sold -/
theorem RW.dropB {R R' : Nat → Int32} {S : s_T} (r : RW R S) {b w : Nat} (hb0 : b < S 2 11 0) (ew : S 2 11 0 = w + 1) (h' : ∀ x, R' x = if x = 14 then nI w else if 388 + 10 * b ≤ x ∧ x < 388 + 10 * w then R (x + 10) else R x) : RW R' (o_dropB S b) := by
  have hb := r.b
  unfold Lb at hb
  have cf := cf_dropB S b
  have e8 : o_dropB S b 8 = S 8 := cf.2.1
  have e4 : o_dropB S b 4 = S 4 := db_t S b (by decide) (by decide) (by decide)
  have e2 : ∀ x, x ≠ 11 → o_dropB S b 2 x 0 = S 2 x 0 := fun x hx => by rw [db_2, if_neg hx]
  have e211 : o_dropB S b 2 11 0 = w := by rw [db_2, if_pos rfl, ew]; rfl
  have off : ∀ x, x < 388 → x ≠ 14 → R' x = R x := fun x hx h9 => by
    rw [h', if_neg h9, if_neg (by omega)]
  refine ⟨by unfold Lb; rw [e8, e211, e2 10 (by decide)]; omega, fun t i j d => ?_, fun h m q hm => ?_, fun s hs => ?_, ?_⟩
  · have d1 := d.1
    by_cases c2 : t = 2 ∧ i = 11 ∧ j = 0
    · obtain ⟨rfl, rfl, rfl⟩ := c2
      rw [e211, h']; exact if_pos rfl
    · by_cases c3 : t = 6
      · subst c3
        have hj : j < 4 := by unfold dR0 at d1; omega
        have hi := d.2.2.2.1 rfl
        rw [e211] at hi
        rw [db_6]
        show R' (388 + 10 * i + j) = _
        by_cases ci : b ≤ i
        · rw [h', if_neg (by omega), if_pos (by omega), if_pos ci, show 388 + 10 * i + j + 10 = 388 + 10 * (i + 1) + j by omega]
          exact r.ba (by omega) hj
        · rw [h', if_neg (by omega), if_neg (by omega), if_neg ci]
          exact r.ba (by omega) hj
      · have d2 : dR S t i j := by
          have d4 := d.2
          unfold dR
          rw [e8, e2 10 (by decide)] at d4
          exact ⟨d1, d4.1, d4.2.1, fun e => absurd e c3, d4.2.2.2⟩
        have ev : o_dropB S b t i j = S t i j := by
          by_cases ct : t = 2
          · subst ct
            have hj : j = 0 := by unfold dR0 at d1; omega
            subst hj
            exact e2 i (by omega)
          · rw [db_t S b (by unfold dR0 at d1; omega) ct c3]
        rw [ev, off]
        · exact r.c d2
        · rcases ri_cases d1 with ⟨-, q⟩ | ⟨-, a, b, -, e⟩ | ⟨c, q⟩ | ⟨-, q⟩ | ⟨c, q⟩ | ⟨-, q⟩ <;>
          first
          | omega
          | (have := r2_bd a b; omega)
        · exact ri_ne (t := 2) (i := 11) (j := 0) (by unfold dR0; omega) d1 c2
  · have q2 : lR S h := by
      unfold lR at q ⊢
      rw [e8, e4, e2 10 (by decide), e211] at q
      omega
    have h9 := lR_89 r.b q2
    by_cases c : 49 ≤ h
    · obtain ⟨x, hx⟩ : ∃ x, h = 49 + x := ⟨h - 49, by omega⟩
      subst hx
      have hxw : x < w := by
        unfold lR at q
        rw [e8, e2 10 (by decide), e211] at q
        omega
      rw [hi_bal]
      by_cases ci : b ≤ x
      · rw [db_b S b ci, h', if_neg (by omega), if_pos (by omega)]
        have := r.m (h := 49 + (x + 1)) (m := m) (by unfold lR; omega) hm
        rw [hi_bal] at this
        rw [← this]; congr 1; omega
      · rw [db_0 S b (by omega), h', if_neg (by omega), if_neg (by omega)]
        have := r.m q2 hm
        rw [hi_bal] at this
        exact this
    · rw [db_0 S b (by omega), off]
      · exact r.m q2 hm
      · rcases hi_cases h9 with ⟨-, e'⟩ | ⟨-, e'⟩ | ⟨-, e'⟩ | ⟨s', hs', -, e'⟩ | ⟨s', hs', g, e'⟩ | ⟨s', hs', -, e'⟩ | ⟨s', hs', g, e'⟩ <;> omega
      · exact Ne.symm (ri_hi (t := 2) (i := 11) (j := 0) (by unfold dR0; omega) h9 hm)
  · rw [e8] at hs
    rw [e4, off _ (by omega) (by omega)]
    exact r.rd hs
  · rw [off 19 (by decide) (by decide), db_0 S b (by omega)]; exact r.al
theorem db_p (S : s_T) (b t i j v : Nat) (h0 : t ≠ 0) (h6 : t ≠ 6) (h2 : t = 2 → i ≠ 11) : o_dropB (s_p S t i j v) b = s_p (o_dropB S b) t i j v := by
  funext x y z
  unfold o_dropB s_p
  by_cases c : x = t ∧ y = i ∧ z = j
  · obtain ⟨rfl, rfl, rfl⟩ := c
    rw [if_neg (by omega), if_neg (by omega), if_neg (by omega), if_pos ⟨rfl, rfl, rfl⟩, if_pos ⟨rfl, rfl, rfl⟩]
  · rw [if_neg c, if_neg (show ¬ (0 = t ∧ y + 1 = i ∧ z = j) by omega), if_neg (show ¬ (6 = t ∧ y + 1 = i ∧ z = j) by omega), if_neg (show ¬ (2 = t ∧ 11 = i ∧ 0 = j) by omega), if_neg c]
theorem db_h (S : s_T) (b x : Nat) (f : Nat → Nat) (hx : x < 49) : o_dropB (s_h S x f) b = s_h (o_dropB S b) x f := by
  funext t y z
  unfold o_dropB s_h
  by_cases c : t = 0 ∧ y = x
  · obtain ⟨rfl, rfl⟩ := c
    rw [if_neg (by omega), if_neg (by omega), if_neg (by omega), if_pos ⟨rfl, rfl⟩, if_pos ⟨rfl, rfl⟩]
  · dsimp only
    rw [if_neg c, if_neg (show ¬ (6 = 0 ∧ y + 1 = x) by omega), if_neg (show ¬ (2 = 0 ∧ 11 = x) by omega)]
    by_cases c0 : t = 0 ∧ 49 + b ≤ y
    · rw [if_pos c0, if_neg (by omega), if_neg c, if_pos c0]
    · rw [if_neg c0, if_neg c, if_neg c0]
theorem pp_comm (S : s_T) (t i j v t' i' j' v' : Nat) (h : ¬ (t = t' ∧ i = i' ∧ j = j')) : s_p (s_p S t i j v) t' i' j' v' = s_p (s_p S t' i' j' v') t i j v := by
  funext x y z
  unfold s_p
  by_cases c : x = t ∧ y = i ∧ z = j
  · rw [if_neg (show ¬ (x = t' ∧ y = i' ∧ z = j') by omega), if_pos c, if_pos c]
  · rw [if_neg c, if_neg c]
section RS
variable {G : q_G} {X : String → q_H → Prop} {A A0 : q_H} {mo : Nat} {S : s_T} {hh : Nat → s_T} {n : Nat}
theorem v_sell {f : Int32 → q_H → Prop} {b N : Nat} {T : Int32} (h0 : MS A0 mo) (hbN : b ≤ N) (hN : N < 40) (e14 : q_I A0 (mo + 6) 14 = nI N) (k : ∀ A', mg A0 A' mo → (∀ y, q_I A' (mo + 6) y = if 388 + 10 * b ≤ y ∧ y < 388 + 10 * N then q_I A0 (mo + 6) (y + 10) else q_I A0 (mo + 6) y) → f T A') :
    ∀ (d i : Nat) (A : q_H), i + d = 10 * (N - b) → mg A0 A mo → (∀ y, q_I A (mo + 6) y = if 388 + 10 * b ≤ y ∧ y < 388 + 10 * b + i then q_I A0 (mo + 6) (y + 10) else q_I A0 (mo + 6) y) → q_Wp G M_X11_sell (q_KI f) X 0 0 254 [some (.ref mo), none, none, none, none, none, some (.int T), some (.int (nI (388 + 10 * b + i)))] [] A
  | 0, i, A, e, o, h1 => by
    have ms := o.1.ms h0
    refine f_X11_sell_254 ⟨ms.z, _, ms.r6, 788, ms.z6, by decide, by decide, ?_⟩
    rw [h1 14, if_neg (by omega), e14]
    refine M_storedAt (j := 0) ⟨fun _ => k A o fun y => ?_, fun c => absurd (nI_le (by omega) (by omega)) c⟩
    rw [h1 y, show 388 + 10 * b + i = 388 + 10 * N by omega]
  | d + 1, i, A, e, o, h1 => by
    have ms := o.1.ms h0
    refine f_X11_sell_254 ⟨ms.z, _, ms.r6, 788, ms.z6, by decide, by decide, ?_⟩
    rw [h1 14, if_neg (by omega), e14]
    refine M_storedAt (j := 0) ⟨fun c => absurd c (nI_ge (by omega) (by omega)), fun _ => ⟨ms.z, _, ms.r6, 788, ms.z6, by decide, 388 + 10 * b + i + 10, by rw [nI_add], by omega, 388 + 10 * b + i, rfl, by omega, ?_⟩⟩
    rw [nI_add, h1 (388 + 10 * b + i + 10), if_neg (by omega)]
    refine v_sell h0 hbN hN e14 k d (i + 1) _ (by omega) (o.set (Or.inl rfl)) (fun y => ?_)
    rw [ix_set]
    by_cases c : y = 388 + 10 * b + i
    · rw [if_pos c, if_pos (by omega), c]
    · rw [if_neg c, h1 y]
      by_cases c2 : 388 + 10 * b ≤ y ∧ y < 388 + 10 * b + i
      · rw [if_pos c2, if_pos (by omega)]
      · rw [if_neg c2, if_neg (by omega)]
theorem back_db (S : s_T) (b : Nat) (hw : S 2 10 0 < 30) : o_back S b = o_dropB (s_p (o_add S (S 0 (49 + b)) 0) 2 5 0 (S 2 5 0 + 1)) b := by
  have e10 : o_dropB S b 2 10 0 = S 2 10 0 := by rw [db_2, if_neg (by decide)]
  unfold o_back o_add
  rw [e10, db_p _ _ _ _ _ _ (by decide) (by decide) (fun _ => by decide), db_p _ _ _ _ _ _ (by decide) (by decide) (fun _ => by decide), db_p _ _ _ _ _ _ (by decide) (by decide) (fun e => absurd e (by decide)), db_h _ _ _ _ (by omega)]
theorem sold_db (S : s_T) (b y pay : Nat) : o_sold S b y pay = o_dropB (s_p (s_p (s_p (s_p S 7 y 0 (S 7 y 0 + pay)) 2 4 0 (S 2 4 0 + 1)) 2 8 0 (S 2 8 0 + s6 (S 0 (49 + b)))) 2 6 0 (S 2 6 0 + if S 10 y 3 < 100 - S 6 b 2 then 1 else 0)) b := by
  unfold o_sold
  rw [db_p _ _ _ _ _ _ (by decide) (by decide) (fun _ => by decide), db_p _ _ _ _ _ _ (by decide) (by decide) (fun _ => by decide), db_p _ _ _ _ _ _ (by decide) (by decide) (fun _ => by decide), db_p _ _ _ _ _ _ (by decide) (by decide) (fun e => absurd e (by decide)), pp_comm _ 2 6 0 _ 2 8 0 _ (by omega)]
theorem M_sell97 {f : Int32 → q_H → Prop} {b w : Nat} (h : MP A mo S) (q : iv S) (kp : Kp A mo hh n) (hb : b < S 2 11 0) (hw : w < S 8 2 0) (hbk : p_bk S w b → S 2 10 0 < 30)
    (k : ∀ A', kf A A' mo → q_I A' mo 0 = nI 0 → MP A' mo (if p_bk S w b then o_back S b else o_sold S b w (p_py S w b)) → Kp A' mo (hp S hh) (mn6 n) → f (if p_bk S w b then -1 else nI (p_py S w b)) A') :
    q_Wp G M_X11_sell (q_KI f) X 0 0 97 [some (.ref mo), some (.int (nI b)), some (.int (nI w)), none, none, none, none, none] [.int (q_i false), .int (q_i false), .int (q_i false), .ref mo] A := by
  have hlb := h.2.1.b
  unfold Lb at hlb
  obtain ⟨N, eN⟩ : ∃ N, S 2 11 0 = N + 1 := ⟨S 2 11 0 - 1, by omega⟩
  have p := h.th 0
  have qb := q.2.2.2.2.2.1 b hb
  have qy := q.1.2.2.2.2.2.2 w hw
  refine f_X11_sell_97 ⟨h.1.z, M_f0 h.1.z ⟨fun e => (by cases e), fun _ => ⟨p.1.z, M_remembers p (kp.th 0) fun A6 o6 r6 z6 p6 kp6 => ⟨p6.1.z, M_sendsBack p6 q hw hb ⟨fun c => ⟨fun _ => ?_, fun e => (by rw [c] at e; cases e)⟩, fun c => ⟨p6.1.z, M_pays p6 q hw hb ⟨fun e => (by rw [c] at e; cases e), fun _ => ?_⟩⟩⟩⟩⟩⟩⟩
  · have c1 : p_bk S w b := of_decide_eq_true c
    have hwt := hbk c1
    rw [if_pos c1, if_pos c1] at k
    have hh2 := p6.hp (x := 49 + b) (b := 392 + 10 * b) (by unfold lR; omega) (hi_bal b)
    refine M_storedAt (j := 4) ⟨p6.1.z, M_waits p6 hwt (by omega) (by omega) (g := S 0 (49 + b)) (fun m hm => by rw [← hh2 m hm]; congr 1; omega) fun A7 o7 p7 s7 => ⟨p7.1.z, _, p7.1.r6, 788, p7.1.z6, by decide, by decide, by decide, ?_⟩⟩
    have e12 : q_I A7 (mo + 6) 12 = nI (S 2 5 0) := by
      have : q_I A7 (mo + 6) 12 = nI (o_add S (S 0 (49 + b)) 0 2 5 0) := p7.2.1.tal (i := 5) (by decide) (by decide)
      rw [this, add_2 _ _ _ (by decide)]
    have e14 : q_I A7 (mo + 6) 14 = nI (N + 1) := by
      have : q_I A7 (mo + 6) 14 = nI (o_add S (S 0 (49 + b)) 0 2 11 0) := p7.n14
      rw [this, add_2 _ _ _ (by decide), eN]
    rw [e12, nI_add, I_set (Or.inr (by decide)), e14, pk_sub (by omega), Nat.add_sub_cancel]
    obtain ⟨A8, e8⟩ : ∃ A8, A8 = q_setI (q_setI A7 (mo + 6) 12 (nI (S 2 5 0 + 1))) (mo + 6) 14 (nI N) := ⟨_, rfl⟩
    rw [← e8]
    have o8 : mg A6 A8 mo := by rw [e8]; exact (o7.set (Or.inl rfl)).set (Or.inl rfl)
    have w8 : q_I A8 (mo + 6) 14 = nI N := by rw [e8, I_set_s]
    refine M_storedAt (j := 0) (v_sell (A0 := A8) (o8.1.ms p6.1) (b := b) (N := N) (by omega) (by omega) w8 (fun A9 o9 w9 => k A9 (((th.kf A mo 0).t o6).t (o8.t o9).1.kf) ?_ ?_ (kp6.mf (o8.t o9).1)) (10 * (N - b)) 0 A8 (by omega) (mg.r A8 mo) (fun y => by rw [if_neg (by omega)]))
    · rw [(o8.t o9).1.2.2.2.2.2 _ _ (by omega), z6]; exact I_set_s _ _ _ _
    · rw [back_db S b hwt]
      have r7 := p7.2.1.put (R' := fun x => if x = 12 then nI (S 2 5 0 + 1) else q_I A7 (mo + 6) x) (t := 2) (i := 5) (j := 0) (S 2 5 0 + 1) (by unfold dR0; omega) (fun _ => by decide) (fun x => rfl)
      have eT : s_p (o_add S (S 0 (49 + b)) 0) 2 5 0 (S 2 5 0 + 1) 2 11 0 = N + 1 := by rw [s_p_i (by decide), add_2 _ _ _ (by decide), eN]
      have r9 := r7.dropB (R' := q_I A9 (mo + 6)) (b := b) (w := N) (by rw [eT]; omega) eT (fun x => ?_)
      · refine p6.kf (o8.t o9).1.kf r9 ?_
        exact ct_t (s_cf.ct (cf_add S _ _)) (ct_t (ct_p (by decide)) (s_cf.ct (cf_dropB _ _)))
      · rw [w9 x]
        by_cases cx : 388 + 10 * b ≤ x ∧ x < 388 + 10 * N
        · rw [if_pos cx, if_neg (by omega), if_pos cx, e8, I_set (Or.inr (by omega)), I_set (Or.inr (by omega)), if_neg (by omega)]
        · rw [if_neg cx, e8, ix_set, ix_set]
          by_cases c14 : x = 14
          · rw [if_pos c14, if_pos c14]
          · rw [if_neg c14, if_neg c14, if_neg cx]
  · have c1 : ¬ p_bk S w b := of_decide_eq_false c
    rw [if_neg c1, if_neg c1] at k
    have e20 : q_I A6 (mo + 6) (20 + w) = nI (S 7 w 0) := p6.2.1.pd hw
    have e11 : q_I A6 (mo + 6) 11 = nI (S 2 4 0) := p6.2.1.tal (i := 4) (by decide) (by decide)
    have e17 : q_I A6 (mo + 6) 17 = nI (S 2 8 0) := p6.2.1.tal (i := 8) (by decide) (by decide)
    have e13 : q_I A6 (mo + 6) 13 = nI (S 2 6 0) := p6.2.1.tal (i := 6) (by decide) (by decide)
    have e14 : q_I A6 (mo + 6) 14 = nI (N + 1) := by rw [p6.n14, eN]
    obtain ⟨P, eP⟩ : ∃ P, P = p_py S w b := ⟨_, rfl⟩
    rw [← eP] at k ⊢
    refine ⟨p6.1.z, _, p6.1.r6, 788, p6.1.z6, by decide, 20 + w, by rw [nI_add], by omega, by decide, by decide, ?_⟩
    rw [e20, nI_add, I_set (Or.inr (by omega : 11 ≠ 20 + w)), e11, nI_add]
    obtain ⟨A2, eA2⟩ : ∃ A2, A2 = q_setI (q_setI A6 (mo + 6) (20 + w) (nI (S 7 w 0 + P))) (mo + 6) 11 (nI (S 2 4 0 + 1)) := ⟨_, rfl⟩
    rw [← eA2]
    have o2 : mg A6 A2 mo := by rw [eA2]; exact ((mg.r A6 mo).set (Or.inl rfl)).set (Or.inl rfl)
    have ms2 := o2.1.ms p6.1
    have r1 := p6.2.1.put (R' := q_I (q_setI A6 (mo + 6) (20 + w) (nI (S 7 w 0 + P))) (mo + 6)) (t := 7) (i := w) (j := 0) (S 7 w 0 + P) (by unfold dR0; omega) (fun e => absurd e (by decide)) (fun x => ix_set _ _ _ _ _)
    have r2' := r1.put (R' := q_I A2 (mo + 6)) (t := 2) (i := 4) (j := 0) (S 2 4 0 + 1) (by unfold dR0; omega) (fun _ => by decide) (fun x => by rw [eA2]; exact ix_set _ _ _ _ _)
    obtain ⟨S2, eS2⟩ : ∃ S2, S2 = s_p (s_p S 7 w 0 (S 7 w 0 + P)) 2 4 0 (S 2 4 0 + 1) := ⟨_, rfl⟩
    rw [← eS2] at r2'
    have c2 : s_ct S S2 := by rw [eS2]; exact ct_t (ct_p (by decide)) (ct_p (by decide))
    have p2 : MP A2 mo S2 := p6.kf o2.1.kf r2' c2
    have s2_11 : S2 2 11 0 = N + 1 := by rw [eS2, s_p_i (by decide), s_p_t (by decide), eN]
    have s2_0 : S2 0 = S 0 := by rw [eS2, s_p_t (by decide), s_p_t (by decide)]
    have s2_6 : S2 6 = S 6 := by rw [eS2, s_p_t (by decide), s_p_t (by decide)]
    have e17' : q_I A2 (mo + 6) 17 = nI (S 2 8 0) := by rw [eA2, I_set (Or.inr (by decide)), I_set (Or.inr (by omega)), e17]
    have hh2 := p2.hp (x := 49 + b) (b := 392 + 10 * b) (by unfold lR; omega) (hi_bal b)
    rw [s2_0] at hh2
    refine M_storedAt (j := 4) ⟨p2.1.z, M_total p2.1 (g := S 0 (49 + b)) (by omega) (fun m hm => by rw [← hh2 m hm]; congr 1; omega) ⟨788, p2.1.z6, by decide, by decide, fun A3 eA3 => ?_⟩⟩
    rw [e17', nI_add] at eA3
    have o3 : mg A6 A3 mo := by rw [eA3]; exact o2.set (Or.inl rfl)
    have r3 := r2'.put (R' := q_I A3 (mo + 6)) (t := 2) (i := 8) (j := 0) (S 2 8 0 + s6 (S 0 (49 + b))) (by unfold dR0; omega) (fun _ => by decide) (fun x => by rw [eA3]; exact ix_set _ _ _ _ _)
    obtain ⟨S3, eS3⟩ : ∃ S3, S3 = s_p S2 2 8 0 (S 2 8 0 + s6 (S 0 (49 + b))) := ⟨_, rfl⟩
    rw [← eS3] at r3
    have c3 : s_ct S S3 := by rw [eS3]; exact ct_t c2 (ct_p (by decide))
    have p3 : MP A3 mo S3 := p6.kf o3.1.kf r3 c3
    have s3_11 : S3 2 11 0 = N + 1 := by rw [eS3, s_p_i (by decide), s2_11]
    have s3_6 : S3 6 = S 6 := by rw [eS3, s_p_t (by decide), s2_6]
    have e13' : q_I A3 (mo + 6) 13 = nI (S 2 6 0) := by rw [eA3, I_set (Or.inr (by decide)), eA2, I_set (Or.inr (by decide)), I_set (Or.inr (by omega)), e13]
    have e14' : q_I A3 (mo + 6) 14 = nI (N + 1) := by rw [eA3, I_set (Or.inr (by decide)), eA2, I_set (Or.inr (by decide)), I_set (Or.inr (by omega)), e14]
    -- the end
    have fin : ∀ v, v = (if S 10 w 3 < 100 - S 6 b 2 then 1 else 0) → q_Wp G M_X11_sell (q_KI f) X 0 0 254 [some (.ref mo), none, none, none, none, none, some (.int (nI P)), some (.int (nI (388 + 10 * b + 0)))] [] (q_setI (q_setI A3 (mo + 6) 13 (nI (S 2 6 0 + v))) (mo + 6) 14 (nI N)) := fun v ev => by
      obtain ⟨A8, e8⟩ : ∃ A8, A8 = q_setI (q_setI A3 (mo + 6) 13 (nI (S 2 6 0 + v))) (mo + 6) 14 (nI N) := ⟨_, rfl⟩
      rw [← e8]
      have o8 : mg A6 A8 mo := by rw [e8]; exact (o3.set (Or.inl rfl)).set (Or.inl rfl)
      have w8 : q_I A8 (mo + 6) 14 = nI N := by rw [e8, I_set_s]
      refine v_sell (A0 := A8) (o8.1.ms p6.1) (b := b) (N := N) (by omega) (by omega) w8 (fun A9 o9 w9 => k A9 (((th.kf A mo 0).t o6).t (o8.t o9).1.kf) ?_ ?_ (kp6.mf (o8.t o9).1)) (10 * (N - b)) 0 A8 (by omega) (mg.r A8 mo) (fun y => by rw [if_neg (by omega)])
      · rw [(o8.t o9).1.2.2.2.2.2 _ _ (by omega), z6]; exact I_set_s _ _ _ _
      · have r7 := r3.put (R' := fun x => if x = 13 then nI (S 2 6 0 + v) else q_I A3 (mo + 6) x) (t := 2) (i := 6) (j := 0) (S 2 6 0 + v) (by unfold dR0; omega) (fun _ => by decide) (fun x => rfl)
        have eT : s_p S3 2 6 0 (S 2 6 0 + v) 2 11 0 = N + 1 := by rw [s_p_i (by decide), s3_11]
        have r9 := r7.dropB (R' := q_I A9 (mo + 6)) (b := b) (w := N) (by rw [eT]; omega) eT (fun x => ?_)
        · have es : o_sold S b w P = o_dropB (s_p S3 2 6 0 (S 2 6 0 + v)) b := by rw [sold_db, eS3, eS2, ev]
          rw [es]
          exact p6.kf (o8.t o9).1.kf r9 (ct_t c3 (ct_t (ct_p (by decide)) (s_cf.ct (cf_dropB _ _))))
        · rw [w9 x]
          by_cases cx : 388 + 10 * b ≤ x ∧ x < 388 + 10 * N
          · rw [if_pos cx, if_neg (by omega), if_pos cx, e8, I_set (Or.inr (by omega)), I_set (Or.inr (by omega)), if_neg (by omega)]
          · rw [if_neg cx, e8, ix_set, ix_set]
            by_cases c14 : x = 14
            · rw [if_pos c14, if_pos c14]
            · rw [if_neg c14, if_neg c14, if_neg cx]
    refine ⟨p2.1.z, _, p2.1.r6, 788, p2.1.z6, by decide, by decide, M_impurity p3 (by rw [s3_11]; omega) (by rw [s3_6]; exact qb.2.2.2.1) ⟨p3.1.z, M_ofBuyer (j := 3) p3 (by rw [c3.1]; exact hw) (by decide) ?_⟩⟩
    rw [s3_6, c3.2.2.1, e13']
    refine ⟨fun c4 => ⟨788, p3.1.z6, by decide, by decide, p3.1.z, _, p3.1.r6, 788, p3.1.z6, by decide, by decide, ?_⟩, fun c4 => ⟨788, p3.1.z6, by decide, by decide, p3.1.z, _, p3.1.r6, 788, p3.1.z6, by decide, by decide, ?_⟩⟩
    · have c5 : ¬ S 10 w 3 < 100 - S 6 b 2 := by have := (nI_leI (by omega) (by omega)).mp c4; omega
      rw [I_set (Or.inr (by decide)), e14', pk_sub (by omega), Nat.add_sub_cancel, nI_add]
      exact M_storedAt (j := 0) (fin 0 (by rw [if_neg c5]))
    · have c5 : S 10 w 3 < 100 - S 6 b 2 := Nat.lt_of_not_le fun z => c4 (nI_le z (by omega))
      rw [I_set (Or.inr (by decide)), e14', pk_sub (by omega), Nat.add_sub_cancel, nI_add]
      exact M_storedAt (j := 0) (fin 1 (by rw [if_pos c5]))
theorem M_sell {f : Int32 → q_H → Prop} {x y : Int32} (h : MP A mo S) (q : iv S) (kp : Kp A mo hh n)
    (k0 : (e_sell S x y).1 = 0 → ∀ A', kf A A' mo → q_I A' mo 0 = nI 0 → MP A' mo (e_sell S x y).2.2 → Kp A' mo (hp S hh) (mn6 n) → f (e_sell S x y).2.1 A') (k1 : (e_sell S x y).1 ≠ 0 → f (nI 0) (th A mo (e_sell S x y).1)) : q_Wc G M_X11_sell [.ref mo, .int x, .int y] A (q_KI f) X := by
  have hb := h.2.1.b
  unfold Lb at hb
  have bad : ∀ c, c ≠ 0 → e_sell S x y = (c, 0, S) → f (nI 0) (th A mo c) := fun c hc e => by
    rw [e] at k1; exact k1 hc
  refine f_X11_sell ⟨h.1.z, M_isBale h (fun b hb1 e => ⟨fun _ => ⟨h.1.z, M_isBuyer h (fun w hw1 e2 => ⟨fun _ => ⟨h.1.z, ?_⟩, fun e => (by cases e)⟩) (fun hn => ⟨fun e => (by cases e), fun _ => f_X11_sell_97 ⟨h.1.z, M_f1 h.1.z ⟨fun _ => ?_, fun e => (by cases e)⟩⟩⟩)⟩, fun e => (by cases e)⟩) (fun hn => ⟨fun e => (by cases e), fun _ => f_X11_sell_97 ⟨h.1.z, M_f1 h.1.z ⟨fun _ => ?_, fun e => (by cases e)⟩⟩⟩)⟩
  · subst e
    subst e2
    have ee : e_sell S (nI b) (nI w) = if p_tk S w b then (if p_bk S w b then (if S 2 10 0 < 30 then (0, -1, o_back S b) else (3, 0, S)) else (0, nI (p_py S w b), o_sold S b w (p_py S w b))) else (2, 0, S) := by
      unfold e_sell
      rw [ix_nI hb1 (by omega), ix_nI hw1 (by omega)]
    refine M_takesBale h q hw1 hb1 ⟨fun c => ⟨h.1.z, M_sendsBack h q hw1 hb1 ⟨fun c2 => ⟨h.1.z, _, h.1.r6, 788, h.1.z6, by decide, by decide, ?_⟩, fun c2 => ?_⟩⟩, fun c => f_X11_sell_97 ⟨h.1.z, M_f2 h.1.z ⟨fun _ => ?_, fun e => (by cases e)⟩⟩⟩
    · have d1 : p_tk S w b := of_decide_eq_true c
      have d2 : p_bk S w b := of_decide_eq_true c2
      rw [if_pos d1, if_pos d2] at ee
      rw [h.n9]
      refine ⟨fun c3 => f_X11_sell_97 ⟨h.1.z, M_f3 h.1.z ⟨fun _ => ?_, fun e => (by cases e)⟩⟩, fun c3 => ?_⟩
      · have d3 := (nI_eq (by omega) (by decide)).mp c3
        rw [if_neg (by omega)] at ee
        exact bad 3 (by decide) ee
      · have d3 : S 2 10 0 < 30 := by
          have : S 2 10 0 ≠ 30 := fun z => c3 (by rw [z])
          omega
        rw [if_pos d3] at ee
        rw [ee] at k0
        exact M_sell97 h q kp hb1 hw1 (fun _ => d3) (by rw [if_pos d2, if_pos d2]; exact k0 rfl)
    · have d1 : p_tk S w b := of_decide_eq_true c
      have d2 : ¬ p_bk S w b := of_decide_eq_false c2
      rw [if_pos d1, if_neg d2] at ee
      rw [ee] at k0
      exact M_sell97 h q kp hb1 hw1 (fun z => absurd z d2) (by rw [if_neg d2, if_neg d2]; exact k0 rfl)
    · have d1 : ¬ p_tk S w b := of_decide_eq_false c
      rw [if_neg d1] at ee
      exact bad 2 (by decide) ee
  · exact bad 1 (by decide) (by unfold e_sell; rw [e, ix_nI hb1 (by omega), ix_no (by omega) hn])
  · exact bad 1 (by decide) (by unfold e_sell; rw [ix_no (by omega) hn])
end RS

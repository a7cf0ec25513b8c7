/-! A BALE IS PRESSED; TICKS -/
section CJ
variable {G : q_G} {X : String → q_H → Prop} {A0 A : q_H} {l : l_T} {S : s_T} {R : Nat} {B : Nat → Nat} {P : Nat}
theorem L_judge {f : q_H → Prop} (h : Lp A0 A l S) {b x y : Nat} (hb : b < S 2 11 0) (hm : S 6 b 1 < 6) (ht : 0 < s6 (S 0 (49 + b))) (ht2 : s6 (S 0 (49 + b)) ≤ 500) (hx : x ≤ 100) (hy : y ≤ 100)
    (k : ∀ A', Lp A0 A' l (s_p (s_p S 6 b 2 (S 0 (49 + b) (S 6 b 1) * 100 / s6 (S 0 (49 + b)))) 6 b 3 (if x ≤ S 0 (49 + b) (S 6 b 1) * 100 / s6 (S 0 (49 + b)) then 0 else if y ≤ S 0 (49 + b) (S 6 b 1) * 100 / s6 (S 0 (49 + b)) then 1 else 2)) → f A') : q_Wc G M_X0_judge [.ref (l_b l b), .int (nI x), .int (nI y)] A (q_KV f) X := by
  have hlb := h.b
  unfold Lb at hlb
  have hb40 : b < 40 := by omega
  have hms := s6_at (S 0 (49 + b)) hm
  have hmul : S 0 (49 + b) (S 6 b 1) * 100 ≤ 50000 := by omega
  obtain ⟨pu, hpu⟩ : ∃ pu, pu = S 0 (49 + b) (S 6 b 1) * 100 / s6 (S 0 (49 + b)) := ⟨_, rfl⟩
  have hpl : pu ≤ 50000 := by rw [hpu]; exact Nat.le_trans (Nat.div_le_self _ _) hmul
  rw [← hpu] at k
  have h2 := h.put (t := 6) (i := b) (j := 2) pu (by unfold dm0; omega) ⟨fun e => absurd e (by decide), fun e => absurd e (by decide)⟩
  have fin : ∀ g, Lp A0 (q_setI (q_setI A (l_b l b) 2 (nI pu)) (l_b l b) 3 (nI g)) l (s_p (s_p S 6 b 2 pu) 6 b 3 g) := fun g => h2.put (t := 6) (i := b) (j := 3) g (by unfold dm0; omega) ⟨fun e => absurd e (by decide), fun e => absurd e (by decide)⟩
  refine f_X0_judge ⟨(h.kb hb40).1, _, h.rba hb40, h.zh (by omega), ?_⟩
  rw [h.t (lv_bal hb)]
  refine ⟨fun c => absurd c (nI_nle ht (by omega)), fun _ => ?_⟩
  rw [h.bal hb (by decide)]
  refine L_of h (lv_bal hb) hm ⟨(h.kb hb40).1, _, h.rba hb40, h.zh (by omega), ?_⟩
  rw [h.t (lv_bal hb), pk_mul, pk_div (by omega) ht (by omega), ← hpu, I_set_s]
  refine ⟨nI_ne0 ht (by omega), fun c => ⟨fun c2 => k _ ?_, fun c2 => k _ ?_⟩, fun c => k _ ?_⟩
  · have c' : ¬ x ≤ pu := by have := (nI_ltI (by omega) (by omega)).mp c; omega
    have c2' : ¬ y ≤ pu := by have := (nI_ltI (by omega) (by omega)).mp c2; omega
    rw [if_neg c', if_neg c2']; exact fin 2
  · have c' : ¬ x ≤ pu := by have := (nI_ltI (by omega) (by omega)).mp c; omega
    have c2' : y ≤ pu := Nat.le_of_not_lt fun z => c2 (nI_lt z (by omega))
    rw [if_neg c', if_pos c2']; exact fin 1
  · have c' : x ≤ pu := Nat.le_of_not_lt fun z => c (nI_lt z (by omega))
    rw [if_pos c']; exact fin 0
/-- the press's changes in the order of the class -/
def p_1 (S : s_T) (v0 v1 v2 v3 : Nat) : s_T := s_p (o_dat (s_h S (49 + S 2 11 0) (fun _ => 0)) (S 2 11 0) v0 v1 v2 v3) 2 11 0 (S 2 11 0 + 1)
def p_2 (S : s_T) (s v0 v1 v2 v3 : Nat) : s_T := s_p (s_p (s_2 (p_1 S v0 v1 v2 v3) (3 + s) (49 + S 2 11 0) (rs (S 0 (3 + s)) (S 1 1 0)) (tk (S 0 (3 + s)) (S 1 1 0))) 6 (S 2 11 0) 0 (S 2 1 0)) 6 (S 2 11 0) 1 (S 9 s 0)
def p_3 (S : s_T) (s v0 v1 v2 v3 : Nat) : s_T := s_p (s_p (p_2 S s v0 v1 v2 v3) 6 (S 2 11 0) 2 (o_pur S s)) 6 (S 2 11 0) 3 (o_grade S (o_pur S s))
def p_4 (S : s_T) (s v0 v1 v2 v3 : Nat) : s_T := s_p (s_p (s_p (p_3 S s v0 v1 v2 v3) 5 s 2 (S 5 s 2 + 1)) 2 1 0 (S 2 1 0 + 1)) 2 2 0 (S 2 2 0 + if o_grade S (o_pur S s) = 0 then 1 else 0)
theorem p_4e (S : s_T) (s v0 v1 v2 v3 : Nat) (hs : s < 8) : s_h (s_h (p_4 S s v0 v1 v2 v3) 1 (fun m => if m = S 9 s 0 then S 0 1 m + S 1 1 0 else S 0 1 m)) 2 (fun m => if m = S 9 s 0 then S 0 2 m + tk (S 0 (3 + s)) (S 1 1 0) m else S 0 2 m) = o_press1 s S := by
  unfold o_press1
  congr 2
  funext t i j
  simp only [p_4, p_3, p_2, p_1, s_2, o_dat, s_p, s_h]
  by_cases c0 : t = 0
  · subst c0
    by_cases c1 : i = 3 + s
    · simp [c1, show ¬ 3 + s = 49 + S 2 11 0 by omega]
    · by_cases c2 : i = 49 + S 2 11 0
      · simp [c2, show ¬ 49 + S 2 11 0 = 3 + s by omega]
      · simp [c1, c2]
  · by_cases c2 : t = 2
    · subst c2; simp
    · by_cases c5 : t = 5
      · subst c5; simp
      · by_cases c6 : t = 6
        · subst c6
          by_cases e : i = S 2 11 0
          · subst e
            by_cases e3 : j = 3
            · simp [e3]
            · by_cases e2 : j = 2
              · simp [e2]
              · by_cases e1 : j = 1
                · simp [e1]
                · by_cases e0 : j = 0
                  · simp [e0]
                  · simp [e3, e2, e1, e0]
          · simp [e]
        · simp [c0, c2, c5, c6]
theorem L_pressBale {f : q_H → Prop} (h : Lp A0 A l S) (q : iw R B P S) {s : Nat} (hs : s < S 8 1 0) (hk : S 2 11 0 < 40) (hb : S 1 1 0 ≤ s6 (S 0 (3 + s))) (hB : s6 (S 0 (3 + s)) ≤ 2100000) (k : ∀ A', Lp A0 A' l (o_press1 s S) → f A') : q_Wc G M_X4_pressBale [.ref (l_a l), .ref (l_a l + 225 + 6 * s)] A (q_KV f) X := by
  have q1 := q.1
  have q2 := q.2.1
  unfold iv_c at q1
  unfold iv_s at q2
  have hs8 := h.nst8 hs
  have htg := (q1.2.2.2.2.2.1 s hs).1
  refine f_X4_pressBale ⟨h.line, _, h.r7, h.z96, L_stockAdd h hk fun A1 v0 v1 v2 v3 h1 => ⟨fun e => (by cases e), fun r5 e5 => ?_⟩⟩
  cases e5
  have h1' : Lp A0 A1 l (p_1 S v0 v1 v2 v3) := h1
  clear h1
  have t1 : ∀ t, t ≠ 0 → t ≠ 2 → t ≠ 6 → p_1 S v0 v1 v2 v3 t = S t := fun t a b c => by
    unfold p_1 o_dat
    rw [s_p_t b, s_p_t c, s_p_t c, s_p_t c, s_p_t c, s_h_t a]
  have t10 : ∀ x, x ≠ 49 + S 2 11 0 → p_1 S v0 v1 v2 v3 0 x = S 0 x := fun x c => by
    unfold p_1 o_dat
    rw [s_p_00 (by decide), s_p_00 (by decide), s_p_00 (by decide), s_p_00 (by decide), s_p_00 (by decide), s_h_n c]
  have t1b : p_1 S v0 v1 v2 v3 0 (49 + S 2 11 0) = fun _ => 0 := by
    unfold p_1 o_dat
    rw [s_p_00 (by decide), s_p_00 (by decide), s_p_00 (by decide), s_p_00 (by decide), s_p_00 (by decide), s_h_s]
  have t12 : ∀ x, x ≠ 11 → p_1 S v0 v1 v2 v3 2 x 0 = S 2 x 0 := fun x c => by
    unfold p_1 o_dat
    rw [s_p_i c, s_p_t (by decide), s_p_t (by decide), s_p_t (by decide), s_p_t (by decide), s_h_t (by decide)]
  have t111 : p_1 S v0 v1 v2 v3 2 11 0 = S 2 11 0 + 1 := s_p_s _ _ _ _ _
  have hs1 : s < p_1 S v0 v1 v2 v3 8 1 0 := by rw [t1 8 (by decide) (by decide) (by decide)]; exact hs
  have hb1 : S 2 11 0 < p_1 S v0 v1 v2 v3 2 11 0 := by omega
  have eset : ∀ j, j < 8 → q_I A1 (l_a l + 1) j = nI (S 1 j 0) := fun j hj => by have := h1'.set hj; rw [t1 1 (by decide) (by decide) (by decide)] at this; exact this
  refine ⟨h1'.zs hs8, _, h1'.rbn hs8, h1'.line, _, h1'.r1, 8, h1'.z1, by decide, by decide, (h1'.kb hk).1, _, h1'.rba hk, h1'.zh (by omega), ?_⟩
  rw [eset 1 (by decide)]
  have e3 : p_1 S v0 v1 v2 v3 0 (3 + s) = S 0 (3 + s) := t10 _ (by omega)
  refine L_portion (x := 3 + s) (y := 49 + S 2 11 0) h1' (lv_bun hs1) (lv_bal hb1) (by omega) (fun m _ => by rw [t1b]) (by omega) (by rw [e3]; exact Nat.lt_of_le_of_lt (Nat.mul_le_mul hB q2.2.2.2.1) (by decide)) (by rw [e3]; omega) fun A2 h2 => ?_
  rw [e3] at h2
  have t2 : ∀ t, t ≠ 0 → s_2 (p_1 S v0 v1 v2 v3) (3 + s) (49 + S 2 11 0) (rs (S 0 (3 + s)) (S 1 1 0)) (tk (S 0 (3 + s)) (S 1 1 0)) t = p_1 S v0 v1 v2 v3 t := fun t a => by unfold s_2; rw [s_h_t a, s_h_t a]
  have d60 : dm0 6 (S 2 11 0) 0 ∧ dm0 6 (S 2 11 0) 1 := by unfold dm0; omega
  have nc : ((6 : Nat) = 2 → S 2 11 0 < 10) ∧ ((6 : Nat) = 8 → S 2 11 0 = 0) := ⟨fun e => absurd e (by decide), fun e => absurd e (by decide)⟩
  have eta := h2.tal (i := 1) (by decide)
  rw [t2 2 (by decide), t12 1 (by decide)] at eta
  have h3a := h2.put (S 2 1 0) d60.1 nc
  have etg := h3a.tg (s := s) (by rw [s_p_t (by decide), t2 8 (by decide)]; exact hs1)
  rw [s_p_t (by decide), t2 9 (by decide), t1 9 (by decide) (by decide) (by decide)] at etg
  have h3 : Lp A0 (q_setI (q_setI A2 (l_b l (S 2 11 0)) 0 (nI (S 2 1 0))) (l_b l (S 2 11 0)) 1 (nI (S 9 s 0))) l (p_2 S s v0 v1 v2 v3) := h3a.put (S 9 s 0) d60.2 nc
  refine ⟨h2.line, _, h2.r9, h2.z220, (h2.kb hk).1, h2.zs hs8, _, h2.r1, 8, h2.z1, by decide, by decide, by decide, ?_⟩
  rw [eta]
  have etg' : q_I (q_setI A2 (l_b l (S 2 11 0)) 0 (nI (S 2 1 0))) (l_a l + 225 + 6 * s) 0 = nI (S 9 s 0) := etg
  rw [etg']
  have t3 : ∀ t, t ≠ 0 → t ≠ 6 → p_2 S s v0 v1 v2 v3 t = p_1 S v0 v1 v2 v3 t := fun t a b => by unfold p_2; rw [s_p_t b, s_p_t b, t2 t a]
  have es2 := h3.set (i := 2) (by decide)
  have es3 := h3.set (i := 3) (by decide)
  rw [t3 1 (by decide) (by decide), t1 1 (by decide) (by decide) (by decide)] at es2 es3
  rw [es2, es3]
  have p2b : p_2 S s v0 v1 v2 v3 0 (49 + S 2 11 0) = tk (S 0 (3 + s)) (S 1 1 0) := by unfold p_2; rw [s_p_00 (by decide), s_p_00 (by decide), s_2y]
  have p2m : p_2 S s v0 v1 v2 v3 6 (S 2 11 0) 1 = S 9 s 0 := by unfold p_2; rw [s_p_s]
  have hst : s6 (tk (S 0 (3 + s)) (S 1 1 0)) = S 1 1 0 := by rw [s6_tk]; split <;> omega
  have hb3 : S 2 11 0 < p_2 S s v0 v1 v2 v3 2 11 0 := by rw [t3 2 (by decide) (by decide)]; exact hb1
  refine L_judge h3 hb3 (by rw [p2m]; omega) (by rw [p2b, hst]; omega) (by rw [p2b, hst]; omega) q2.2.2.2.2.1 q2.2.2.2.2.2.1 fun A3 h4 => ?_
  rw [p2b, p2m, hst] at h4
  have h4' : Lp A0 A3 l (p_3 S s v0 v1 v2 v3) := h4
  clear h4
  have t4 : ∀ t, t ≠ 0 → t ≠ 6 → p_3 S s v0 v1 v2 v3 t = p_1 S v0 v1 v2 v3 t := fun t a b => by unfold p_3; rw [s_p_t b, s_p_t b, t3 t a b]
  have hs4 : s < p_3 S s v0 v1 v2 v3 8 1 0 := by rw [t4 8 (by decide) (by decide)]; exact hs1
  have eba := h4'.ba hs4
  rw [t4 5 (by decide) (by decide), t1 5 (by decide) (by decide) (by decide)] at eba
  have h5 := h4'.put (t := 5) (i := s) (j := 2) (S 5 s 2 + 1) (by unfold dm0; omega) ⟨fun e => absurd e (by decide), fun e => absurd e (by decide)⟩
  have e21 := h5.tal (i := 1) (by decide)
  rw [s_p_t (by decide), t4 2 (by decide) (by decide), t12 1 (by decide)] at e21
  have h6 := h5.put (t := 2) (i := 1) (j := 0) (S 2 1 0 + 1) (by unfold dm0; omega) ⟨fun _ => by decide, fun e => absurd e (by decide)⟩
  have e22 := h6.tal (i := 2) (by decide)
  rw [s_p_i (by decide), s_p_t (by decide), t4 2 (by decide) (by decide), t12 2 (by decide)] at e22
  have egr := h6.bal (b := S 2 11 0) (j := 3) (by rw [s_p_i (by decide), s_p_t (by decide), t4 2 (by decide) (by decide)]; exact hb1) (by decide)
  have p3g : s_p (s_p (p_3 S s v0 v1 v2 v3) 5 s 2 (S 5 s 2 + 1)) 2 1 0 (S 2 1 0 + 1) 6 (S 2 11 0) 3 = o_grade S (o_pur S s) := by
    rw [s_p_t (by decide), s_p_t (by decide)]; unfold p_3; rw [s_p_s]
  rw [p3g] at egr
  have h7 := h6.put (t := 2) (i := 2) (j := 0) (S 2 2 0 + if o_grade S (o_pur S s) = 0 then 1 else 0) (by unfold dm0; omega) ⟨fun _ => by decide, fun e => absurd e (by decide)⟩
  have h7' : Lp A0 (q_setI (q_setI (q_setI A3 (l_a l + 225 + 6 * s) 5 (nI (S 5 s 2 + 1))) (l_a l + 220) 1 (nI (S 2 1 0 + 1))) (l_a l + 220) 2 (nI (S 2 2 0 + if o_grade S (o_pur S s) = 0 then 1 else 0))) l (p_4 S s v0 v1 v2 v3) := h7
  have e21' : q_I (q_setI A3 (l_a l + 225 + 6 * s) 5 (nI (S 5 s 2 + 1))) (l_a l + 220) 1 = nI (S 2 1 0) := e21
  have e22' : q_I (q_setI (q_setI A3 (l_a l + 225 + 6 * s) 5 (nI (S 5 s 2 + 1))) (l_a l + 220) 1 (nI (S 2 1 0 + 1))) (l_a l + 220) 2 = nI (S 2 2 0) := e22
  have egr' : q_I (q_setI (q_setI A3 (l_a l + 225 + 6 * s) 5 (nI (S 5 s 2 + 1))) (l_a l + 220) 1 (nI (S 2 1 0 + 1))) (l_b l (S 2 11 0)) 3 = nI (o_grade S (o_pur S s)) := egr
  have hgl := grade_le S (o_pur S s)
  refine ⟨h4'.zs hs8, h4'.line, _, h4'.r9, h4'.z220, (h4'.kb hk).1, ?_⟩
  rw [eba, nI_add, e21', nI_add, egr', e22', nI_add, nI_add]
  have t7 : ∀ t, t ≠ 0 → t ≠ 2 → t ≠ 5 → p_4 S s v0 v1 v2 v3 t = p_3 S s v0 v1 v2 v3 t := fun t _ b c => by unfold p_4; rw [s_p_t b, s_p_t b, s_p_t c]
  have p40 : p_4 S s v0 v1 v2 v3 0 = p_2 S s v0 v1 v2 v3 0 := by unfold p_4 p_3; rw [s_p_00 (by decide), s_p_00 (by decide), s_p_00 (by decide), s_p_00 (by decide), s_p_00 (by decide)]
  have p20 : ∀ x, x ≠ 3 + s → x ≠ 49 + S 2 11 0 → p_2 S s v0 v1 v2 v3 0 x = S 0 x := fun x a b => by unfold p_2 s_2; rw [s_p_00 (by decide), s_p_00 (by decide), s_h_n b, s_h_n a, t10 x b]
  have p4m : p_4 S s v0 v1 v2 v3 6 (S 2 11 0) 1 = S 9 s 0 := by
    rw [t7 6 (by decide) (by decide) (by decide)]
    unfold p_3
    rw [s_p_j _ (by decide), s_p_j _ (by decide), p2m]
  have p4n : p_4 S s v0 v1 v2 v3 2 11 0 = S 2 11 0 + 1 := by
    unfold p_4
    rw [s_p_i (by decide), s_p_i (by decide), s_p_t (by decide), t4 2 (by decide) (by decide), t111]
  have fin : ∀ A4, A4 = q_setI (q_setI (q_setI A3 (l_a l + 225 + 6 * s) 5 (nI (S 5 s 2 + 1))) (l_a l + 220) 1 (nI (S 2 1 0 + 1))) (l_a l + 220) 2 (nI (S 2 2 0 + if o_grade S (o_pur S s) = 0 then 1 else 0)) →
      ∃ r68 : Nat, q_R A3 (l_a l) 10 = some r68 ∧ ∃ r70 : Nat, q_R A3 (l_b l (S 2 11 0)) 4 = some r70 ∧ q_sh A3 r70 = (3, 0) ∧ q_sh A3 r68 = (3, 0) ∧ q_Wc G M_X2_put [.ref r68, .int (q_I A4 (l_b l (S 2 11 0)) 1), .int (q_I A4 r70 1)] A4 (q_KV fun A73 => q_sh A73 (l_a l) = (5, 0) ∧ ∃ r77 : Nat, q_R A73 (l_a l) 11 = some r77 ∧ q_sh A73 (l_b l (S 2 11 0)) = (1, 0) ∧ ∃ r80 : Nat, q_R A73 (l_b l (S 2 11 0)) 4 = some r80 ∧ q_sh A73 r80 = (3, 0) ∧ q_Wc G M_X2_of [.ref r80, .int (q_I A73 (l_b l (S 2 11 0)) 1)] A73 (q_KI fun r83 A82 => q_sh A82 r77 = (3, 0) ∧ q_Wc G M_X2_put [.ref r77, .int (q_I A73 (l_b l (S 2 11 0)) 1), .int r83] A82 (q_KV fun A85 => f A85) q_nX) q_nX) q_nX := by
    intro A4 e4
    rw [← e4] at h7'
    have hb7 : S 2 11 0 < p_4 S s v0 v1 v2 v3 2 11 0 := by omega
    have em := h7'.bal hb7 (j := 1) (by decide)
    rw [p4m] at em
    have etot := h7'.t (lv_bal hb7)
    rw [p40, p2b, hst] at etot
    refine ⟨_, h4'.r10, _, h4'.rba hk, h4'.zh (by omega), h4'.k221.1, ?_⟩
    rw [em, etot]
    refine L_put (x := 1) h7' (Or.inl (by decide)) (by omega) fun A5 _ _ h8 => ?_
    have hb8 : S 2 11 0 < s_h (p_4 S s v0 v1 v2 v3) 1 (fun j => if j = S 9 s 0 then p_4 S s v0 v1 v2 v3 0 1 (S 9 s 0) + S 1 1 0 else p_4 S s v0 v1 v2 v3 0 1 j) 2 11 0 := by rw [s_h_t (by decide)]; exact hb7
    have em8 := h8.bal hb8 (j := 1) (by decide)
    rw [s_h_t (by decide), p4m] at em8
    refine ⟨h8.line, _, h8.r11, (h8.kb hk).1, _, h8.rba hk, h8.zh (by omega), ?_⟩
    rw [em8]
    refine L_of h8 (lv_bal hb8) (by omega) ⟨h8.k223.1, ?_⟩
    rw [s_h_n (by omega), p40, p2b]
    refine L_put (x := 2) h8 (Or.inl (by decide)) (by omega) fun A6 _ _ h9 => k _ ?_
    rw [s_h_n (by omega), p40, p20 1 (by omega) (by omega), p20 2 (by omega) (by omega)] at h9
    have := p_4e S s v0 v1 v2 v3 hs8
    have c1 : (fun m => if m = S 9 s 0 then S 0 1 m + S 1 1 0 else S 0 1 m) = (fun j => if j = S 9 s 0 then S 0 1 (S 9 s 0) + S 1 1 0 else S 0 1 j) := by
      funext j
      by_cases c : j = S 9 s 0
      · simp [c]
      · simp [c]
    have c2 : (fun m => if m = S 9 s 0 then S 0 2 m + tk (S 0 (3 + s)) (S 1 1 0) m else S 0 2 m) = (fun j => if j = S 9 s 0 then S 0 2 (S 9 s 0) + tk (S 0 (3 + s)) (S 1 1 0) (S 9 s 0) else S 0 2 j) := by
      funext j
      by_cases c : j = S 9 s 0
      · simp [c]
      · simp [c]
    rw [c1, c2] at this
    rw [this] at h9
    exact h9
  refine ⟨fun c A4 e4 => fin A4 ?_, fun c A4 e4 => fin A4 ?_⟩
  · have : o_grade S (o_pur S s) = 0 := (nI_eq (by omega) (by decide)).mp c
    rw [if_pos this]; exact e4
  · have : ¬ o_grade S (o_pur S s) = 0 := fun z => c (by rw [z])
    rw [if_neg this]; exact e4
end CJ

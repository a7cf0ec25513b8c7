/-! PICKING AND PRESSING -/
theorem s_p_self (S : s_T) (t i j : Nat) : s_p S t i j (S t i j) = S := by
  funext a b c
  unfold s_p
  by_cases q : a = t ∧ b = i ∧ c = j
  · rw [if_pos q, q.1, q.2.1, q.2.2]
  · rw [if_neg q]
theorem s_p_p (S : s_T) (t i j v w : Nat) : s_p (s_p S t i j v) t i j w = s_p S t i j w := by
  funext a b c
  unfold s_p
  by_cases q : a = t ∧ b = i ∧ c = j
  · rw [if_pos q, if_pos q]
  · rw [if_neg q, if_neg q, if_neg q]
section CP
variable {G : q_G} {X : String → q_H → Prop} {A0 A : q_H} {l : l_T} {S : s_T} {R : Nat} {B : Nat → Nat} {P : Nat}
theorem cap_le {S : s_T} {s : Nat} (h1 : S 5 s 0 ≤ 9) (h2 : S 9 s 1 ≤ 50) : S 5 s 0 * S 9 s 1 * (100 - S 5 s 1) ≤ 45000 := by
  have a : S 5 s 0 * S 9 s 1 ≤ 9 * 50 := Nat.mul_le_mul h1 h2
  have b : S 5 s 0 * S 9 s 1 * (100 - S 5 s 1) ≤ 9 * 50 * 100 := Nat.mul_le_mul a (by omega)
  omega
theorem L_capacity {f : Int32 → q_H → Prop} (h : Lp A0 A l S) {s : Nat} (hs : s < S 8 1 0) (h1 : S 5 s 0 ≤ 9) (h2 : S 9 s 1 ≤ 50) (h3 : S 5 s 1 ≤ 60) (k : f (nI (o_cap S s)) A) : q_Wc G M_X6_capacity [.ref (l_a l + 225 + 6 * s)] A (q_KI f) X := by
  have hc := cap_le (s := s) h1 h2
  refine f_X6_capacity ⟨h.zs (h.nst8 hs), ?_⟩
  rw [h.pk hs, h.ra hs, h.ti hs, pk_mul, pk_sub (by omega), pk_mul, pk_div (by omega) (by decide) (by decide)]
  exact k
theorem L_pick {f : q_H → Prop} (h : Lp A0 A l S) (q : iw R B P S) {s : Nat} (hs : s < S 8 1 0) (k : ∀ A', Lp A0 A' l (o_pick s S) → f A') : q_Wc G M_X6_pick [.ref (l_a l + 225 + 6 * s), .int (nI (S 1 6 0))] A (q_KV f) X := by
  have q1 := q.1
  have q2 := q.2.1
  unfold iv_c at q1
  unfold iv_s at q2
  have a := q.2.2.2.1 s hs
  have hs8 := h.nst8 hs
  have ht := q1.2.2.2.2.2.1 s hs
  have hcl := cap_le (s := s) a.1 ht.2.2.1
  have hcap : o_cap S s ≤ 45000 := Nat.le_trans (Nat.div_le_self _ _) hcl
  have hm := s6_at (S 0 (11 + s)) (m := S 9 s 0) (by omega)
  refine f_X6_pick ⟨h.zs hs8, _, h.rs7 hs8, h.zsl hs8, _, h.rsl hs8, h.zh (by omega), ?_⟩
  rw [h.tg hs]
  refine L_of h (lv_slot hs) (by omega) ⟨h.zs hs8, L_capacity h hs a.1 ht.2.2.1 a.2.1 ?_⟩
  have er : (if nI (o_cap S s) < nI (S 0 (11 + s) (S 9 s 0)) then nI (o_cap S s) else nI (S 0 (11 + s) (S 9 s 0))) = nI (o_right S s) := by
    unfold o_right
    by_cases c : o_cap S s < S 0 (11 + s) (S 9 s 0)
    · rw [if_pos c, if_pos (nI_lt c (by omega))]
    · rw [if_neg c, if_neg (nI_nlt (by omega) (by omega))]
  rw [er]
  have hr : o_right S s ≤ 200 := by have := right_le S s; omega
  refine ⟨fun c => ?_, fun c => ?_⟩
  · have hr1 : 1 ≤ o_right S s := (nI_leI (by decide) (by omega)).mp c
    have h0 : S 4 s 0 ≠ 0 := fun z => by have := a.2.2.2.2.mp z; have := right_le S s; omega
    have hc : ¬ (S 4 s 0 = 0 ∨ o_right S s = 0) := by omega
    refine ⟨h.zs hs8, _, h.rbn hs8, h.zh (by omega), ?_⟩
    rw [h.tg hs]
    refine L_move h (lv_slot hs) (lv_bun hs) (by omega) (by omega) (right_le S s) fun A1 _ _ h1 => ?_
    have h1' : Lp A0 A1 l (o_go S s (S 9 s 0) (o_right S s)) := h1
    clear h1
    have hs1 : s < o_go S s (S 9 s 0) (o_right S s) 8 1 0 := by rw [go_t _ _ _ _ (by decide)]; exact hs
    have e9 : o_go S s (S 9 s 0) (o_right S s) 9 = S 9 := go_t _ _ _ _ (by decide)
    refine ⟨h1'.zs hs8, h1'.zh (by omega), ?_⟩
    have etg := h1'.tg hs1
    rw [e9] at etg
    rw [etg]
    have hs6 : s6 (o_go S s (S 9 s 0) (o_right S s) 0 (11 + s)) ≤ s6 (S 0 (11 + s)) := s6_mono fun m _ => (go_sum S hs8 (right_le S s) m).1
    have ha1 : am (o_go S s (S 9 s 0) (o_right S s) 0 (11 + s)) (S 9 s 0) 6 ≠ 0 := by
      by_cases z : S 9 s 0 = 0
      · exact (am_ge _ _ 6 1 (by decide) (by omega)).1
      · exact (am_ge _ _ 6 0 (by decide) (by omega)).1
    have hal := am_le (o_go S s (S 9 s 0) (o_right S s) 0 (11 + s)) (S 9 s 0) 6
    refine L_mostBut h1' (b := S 9 s 0) (lv_slot hs1) (fun m hm6 => nI_eq (by omega) (by omega)) (by omega) ⟨h1'.zh (by omega), ?_⟩
    have emb : mb (am (o_go S s (S 9 s 0) (o_right S s) 0 (11 + s)) (S 9 s 0) 6) = nI (am (o_go S s (S 9 s 0) (o_right S s) 0 (11 + s)) (S 9 s 0) 6 - 1) := if_neg ha1
    rw [emb]
    refine L_of h1' (lv_slot hs1) (by omega) ⟨h1'.zs hs8, _, h1'.rbn hs8, h1'.zh (by omega), ?_⟩
    have eer := h1'.er hs1
    rw [e9] at eer
    have hrm : o_right S s * S 9 s 2 ≤ 200 * 30 := Nat.mul_le_mul hr ht.2.2.2
    rw [eer, pk_mul, pk_div (by omega) (by decide) (by decide)]
    have hm1 := s6_at (o_go S s (S 9 s 0) (o_right S s) 0 (11 + s)) (m := am (o_go S s (S 9 s 0) (o_right S s) 0 (11 + s)) (S 9 s 0) 6 - 1) (by omega)
    have hdiv : o_right S s * S 9 s 2 / 100 ≤ o_right S s * S 9 s 2 := Nat.div_le_self _ _
    have ew : (if nI (o_right S s * S 9 s 2 / 100) < nI (o_go S s (S 9 s 0) (o_right S s) 0 (11 + s) (am (o_go S s (S 9 s 0) (o_right S s) 0 (11 + s)) (S 9 s 0) 6 - 1)) then nI (o_right S s * S 9 s 2 / 100) else nI (o_go S s (S 9 s 0) (o_right S s) 0 (11 + s) (am (o_go S s (S 9 s 0) (o_right S s) 0 (11 + s)) (S 9 s 0) 6 - 1))) = nI (o_wrong (o_go S s (S 9 s 0) (o_right S s)) s (o_right S s)) := by
      unfold o_wrong o_oth
      rw [e9, if_neg ha1]
      by_cases c : o_right S s * S 9 s 2 / 100 < o_go S s (S 9 s 0) (o_right S s) 0 (11 + s) (am (o_go S s (S 9 s 0) (o_right S s) 0 (11 + s)) (S 9 s 0) 6 - 1)
      · rw [if_pos c, if_pos (nI_lt c (by omega))]
      · rw [if_neg c, if_neg (nI_nlt (by omega) (by omega))]
    rw [ew]
    have hwl := wrong_le (o_go S s (S 9 s 0) (o_right S s)) s (o_right S s)
    unfold o_oth at hwl
    rw [e9] at hwl
    refine L_move h1' (lv_slot hs1) (lv_bun hs1) (by omega) (by omega) hwl fun A2 _ _ h2 => ?_
    have h2' : Lp A0 A2 l (o_pkd S s) := by
      have e : o_oth (o_go S s (S 9 s 0) (o_right S s)) s = am (o_go S s (S 9 s 0) (o_right S s) 0 (11 + s)) (S 9 s 0) 6 := by unfold o_oth; rw [e9]
      unfold o_pkd
      rw [e]
      exact h2
    clear h2
    have et2 : ∀ t, t ≠ 0 → o_pkd S s t = S t := fun t z => by unfold o_pkd; rw [go_t _ _ _ _ z, go_t _ _ _ _ z]
    have hs2 : s < o_pkd S s 8 1 0 := by rw [et2 8 (by decide)]; exact hs
    have epd := h2'.pd hs2
    rw [et2 5 (by decide)] at epd
    refine ⟨h2'.zs hs8, fun A3 e3 => ?_⟩
    rw [epd, nI_add, nI_add] at e3
    have h3 := h2'.put (t := 5) (i := s) (j := 3) (S 5 s 3 + (o_right S s + o_wrong (o_go S s (S 9 s 0) (o_right S s)) s (o_right S s))) (by unfold dm0; omega) ⟨fun e => absurd e (by decide), fun e => absurd e (by decide)⟩
    have h3' : Lp A0 A3 l (s_p (o_pkd S s) 5 s 3 (S 5 s 3 + (o_right S s + o_wrong (o_go S s (S 9 s 0) (o_right S s)) s (o_right S s)))) := by rw [e3]; exact h3
    have eti := h3'.ti (s := s) (by rw [s_p_t (by decide)]; exact hs2)
    rw [s_p_j _ (by decide), et2 5 (by decide)] at eti
    rw [eti, nI_add]
    have et : (if nI 60 < nI (S 5 s 1 + S 1 6 0) then nI 60 else nI (S 5 s 1 + S 1 6 0)) = nI (if 60 < S 5 s 1 + S 1 6 0 then 60 else S 5 s 1 + S 1 6 0) := by
      by_cases c : 60 < S 5 s 1 + S 1 6 0
      · rw [if_pos c, if_pos (nI_lt c (by omega))]
      · rw [if_neg c, if_neg (nI_nlt (by omega) (by omega))]
    rw [et]
    have h4 := h3'.put (t := 5) (i := s) (j := 1) (if 60 < S 5 s 1 + S 1 6 0 then 60 else S 5 s 1 + S 1 6 0) (by unfold dm0; omega) ⟨fun e => absurd e (by decide), fun e => absurd e (by decide)⟩
    refine k _ ?_
    unfold o_pick
    rw [if_neg hc]
    by_cases z : s6 (o_pkd S s 0 (11 + s)) = 0
    · rw [if_pos z]; exact h4.sr0 s
    · rw [if_neg z]
      have e4 : S 4 s 0 = s_p (s_p (o_pkd S s) 5 s 3 (S 5 s 3 + (o_right S s + o_wrong (o_go S s (S 9 s 0) (o_right S s)) s (o_right S s)))) 5 s 1 (if 60 < S 5 s 1 + S 1 6 0 then 60 else S 5 s 1 + S 1 6 0) 4 s 0 := by rw [s_p_t (by decide), s_p_t (by decide), et2 4 (by decide)]
      rw [e4, s_p_self]
      exact h4
  · have hr0 : o_right S s = 0 := by
      rcases Nat.eq_zero_or_pos (o_right S s) with z | z
      · exact z
      · exact absurd (nI_le z (by omega)) c
    refine ⟨h.zs hs8, ?_⟩
    rw [h.ti hs]
    have et : (if nI (S 5 s 1) - nI 2 < nI 0 then nI 0 else nI (S 5 s 1) - nI 2) = nI (S 5 s 1 - 2) := by
      by_cases c2 : S 5 s 1 < 2
      · have c3 : nI (S 5 s 1) - nI 2 < nI 0 := pk_sneg (by decide) c2
        rw [if_pos c3]
        congr 1; omega
      · rw [pk_sub (by omega), if_neg (nI_nlt (Nat.zero_le _) (by omega))]
    rw [et]
    have h4 := h.put (t := 5) (i := s) (j := 1) (S 5 s 1 - 2) (by unfold dm0; omega) ⟨fun e => absurd e (by decide), fun e => absurd e (by decide)⟩
    refine k _ ?_
    unfold o_pick
    rw [if_pos (Or.inr hr0)]
    exact h4
/-- a number that does not live -/
theorem Lp.dead (h : Lp A0 A l S) {t i j : Nat} (v : Nat) (d : ¬ dm S t i j) (ht : t ≠ 0 ∧ t ≠ 2 ∧ t ≠ 4 ∧ t ≠ 8) : Lp A0 A l (s_p S t i j v) := by
  have e2 : s_p S t i j v 2 = S 2 := s_p_t (Ne.symm ht.2.1)
  have e8 : s_p S t i j v 8 = S 8 := s_p_t (Ne.symm ht.2.2.2)
  have elv : ∀ x, lv (s_p S t i j v) x ↔ lv S x := fun x => by unfold lv; rw [e2, e8]
  have edm : ∀ x y z, dm (s_p S t i j v) x y z ↔ dm S x y z := fun x y z => by unfold dm; rw [e2, e8]
  refine ⟨⟨h.w, h.1.2.1, ?_, fun x hx => ?_, fun x y z hd => ?_, fun s hs h0 => ?_, h.fs⟩, h.2⟩
  · unfold Lb; rw [e2, e8]; exact h.b
  · rw [elv] at hx
    rw [s_p_00 ht.1]
    exact h.1.2.2.2.1 x hx
  · rw [edm] at hd
    have c : ¬ (x = t ∧ y = i ∧ z = j) := fun c => d (by rw [← c.1, ← c.2.1, ← c.2.2]; exact hd)
    have : s_p S t i j v x y z = S x y z := by unfold s_p; rw [if_neg c]
    rw [this]; exact h.c hd
  · rw [e8] at hs
    rw [s_p_t (Ne.symm ht.2.2.1)] at h0 ⊢
    exact h.rnd hs h0
theorem L_stockAdd {f : Option Nat → q_H → Prop} (h : Lp A0 A l S) (hk : S 2 11 0 < 40) (k : ∀ A' v0 v1 v2 v3, Lp A0 A' l (s_p (o_dat (s_h S (49 + S 2 11 0) (fun _ => 0)) (S 2 11 0) v0 v1 v2 v3) 2 11 0 (S 2 11 0 + 1)) → f (some (l_b l (S 2 11 0))) A') : q_Wc G M_X7_addLast [.ref (l_a l + 96)] A (q_KR f) X := by
  have hx9 : 49 + S 2 11 0 < 89 := by omega
  refine f_X7_addLast ⟨h.z96, _, h.r960, 40, h.z97, by decide, ?_⟩
  rw [h.stock]
  refine ⟨fun _ => ⟨S 2 11 0, rfl, hk, _, h.rk hk, (h.kb hk).1, _, h.rba hk, h.zh hx9, c_clear (h.kh hx9) ⟨h.z96, ?_⟩⟩, fun c => absurd (nI_lt hk (by decide)) c⟩
  have h1 : Lp A0 (q_setI (q_rowI A (ha l (49 + S 2 11 0) + 1) (fun j => if j < 6 then nI 0 else q_I A (ha l (49 + S 2 11 0) + 1) j)) (ha l (49 + S 2 11 0)) 1 (nI 0)) l (s_h S (49 + S 2 11 0) (fun _ => 0)) := by
    refine h.heap _ hx9 rfl rfl rfl (fun y a b => ((q_same.r A y).rowI b).setI a) (fun j hj => ?_) ?_
    · rw [I_set (Or.inl (by omega)), I_row_s, if_pos hj]
    · rw [I_set_s, s6_0]
  have hz : (∀ m, m < 6 → q_I (q_setI (q_rowI A (ha l (49 + S 2 11 0) + 1) (fun j => if j < 6 then nI 0 else q_I A (ha l (49 + S 2 11 0) + 1) j)) (ha l (49 + S 2 11 0)) 1 (nI 0)) (ha l (49 + S 2 11 0) + 1) m = nI 0) ∧ q_I (q_setI (q_rowI A (ha l (49 + S 2 11 0) + 1) (fun j => if j < 6 then nI 0 else q_I A (ha l (49 + S 2 11 0) + 1) j)) (ha l (49 + S 2 11 0)) 1 (nI 0)) (ha l (49 + S 2 11 0)) 1 = nI 0 :=
    ⟨fun m hm => by rw [I_set (Or.inl (by omega)), I_row_s, if_pos hm], I_set_s _ _ _ _⟩
  have est := h1.stock
  rw [s_h_t (by decide)] at est
  rw [est, nI_add]
  generalize q_setI (q_rowI A (ha l (49 + S 2 11 0) + 1) (fun j => if j < 6 then nI 0 else q_I A (ha l (49 + S 2 11 0) + 1) j)) (ha l (49 + S 2 11 0)) 1 (nI 0) = A1 at h1 hz ⊢
  obtain ⟨v0, -, g0⟩ := nI_ex (q_I A1 (l_b l (S 2 11 0)) 0)
  obtain ⟨v1, -, g1⟩ := nI_ex (q_I A1 (l_b l (S 2 11 0)) 1)
  obtain ⟨v2, -, g2⟩ := nI_ex (q_I A1 (l_b l (S 2 11 0)) 2)
  obtain ⟨v3, -, g3⟩ := nI_ex (q_I A1 (l_b l (S 2 11 0)) 3)
  have h2 : Lp A0 A1 l (o_dat (s_h S (49 + S 2 11 0) (fun _ => 0)) (S 2 11 0) v0 v1 v2 v3) := by
    have nd : ∀ (U : s_T) j, U 2 11 0 = S 2 11 0 → ¬ dm U 6 (S 2 11 0) j := fun U j e d => by
      have := d.2.2.2.1 rfl
      omega
    unfold o_dat
    refine ((((h1.dead v0 (nd _ _ (by rw [s_h_t (by decide)])) (by decide)).dead v1 (nd _ _ ?_) (by decide)).dead v2 (nd _ _ ?_) (by decide)).dead v3 (nd _ _ ?_) (by decide))
    · rw [s_p_t (by decide), s_h_t (by decide)]
    · rw [s_p_t (by decide), s_p_t (by decide), s_h_t (by decide)]
    · rw [s_p_t (by decide), s_p_t (by decide), s_p_t (by decide), s_h_t (by decide)]
  refine k _ v0 v1 v2 v3 (h2.cnt (t := 2) (i := 11) (S 2 11 0 + 1) (Or.inr (Or.inl ⟨rfl, rfl, by omega⟩)) (fun x hx hn => ?_) (fun a b c hx hn => ?_) (fun s hs hn => absurd (by rw [s_p_t (by decide)] at hs; exact hs) hn))
  all_goals
    have e2 : ∀ x, o_dat (s_h S (49 + S 2 11 0) (fun _ => 0)) (S 2 11 0) v0 v1 v2 v3 2 x 0 = S 2 x 0 := fun x => by unfold o_dat; rw [s_p_t (by decide), s_p_t (by decide), s_p_t (by decide), s_p_t (by decide), s_h_t (by decide)]
    have e8 : o_dat (s_h S (49 + S 2 11 0) (fun _ => 0)) (S 2 11 0) v0 v1 v2 v3 8 = S 8 := by unfold o_dat; rw [s_p_t (by decide), s_p_t (by decide), s_p_t (by decide), s_p_t (by decide), s_h_t (by decide)]
    have u11 : s_p (o_dat (s_h S (49 + S 2 11 0) (fun _ => 0)) (S 2 11 0) v0 v1 v2 v3) 2 11 0 (S 2 11 0 + 1) 2 11 0 = S 2 11 0 + 1 := s_p_s _ _ _ _ _
    have u10 : s_p (o_dat (s_h S (49 + S 2 11 0) (fun _ => 0)) (S 2 11 0) v0 v1 v2 v3) 2 11 0 (S 2 11 0 + 1) 2 10 0 = S 2 10 0 := by rw [s_p_i (by decide), e2]
    have u8 : s_p (o_dat (s_h S (49 + S 2 11 0) (fun _ => 0)) (S 2 11 0) v0 v1 v2 v3) 2 11 0 (S 2 11 0 + 1) 8 = S 8 := by rw [s_p_t (by decide), e8]
  · have : x = 49 + S 2 11 0 := by
      unfold lv at hx hn
      rw [u10, u11, u8] at hx
      rw [e8, e2, e2] at hn
      omega
    subst this
    have e0 : o_dat (s_h S (49 + S 2 11 0) (fun _ => 0)) (S 2 11 0) v0 v1 v2 v3 0 (49 + S 2 11 0) = fun _ => 0 := by unfold o_dat; rw [s_p_00 (by decide), s_p_00 (by decide), s_p_00 (by decide), s_p_00 (by decide), s_h_s]
    rw [e0, s6_0]
    exact hz
  · have : a = 6 ∧ b = S 2 11 0 ∧ c < 4 := by
      unfold dm at hx hn
      rw [u10, u11, u8] at hx
      rw [e8, e2, e2] at hn
      obtain ⟨x0, x1, x2, x3, x4⟩ := hx
      by_cases c3 : a = 6
      · by_cases c4 : b = S 2 11 0
        · exact ⟨c3, c4, by unfold dm0 at x0; omega⟩
        · exact absurd ⟨x0, x1, x2, fun e => by have := x3 e; omega, x4⟩ hn
      · exact absurd ⟨x0, x1, x2, fun e => absurd e c3, x4⟩ hn
    obtain ⟨rfl, rfl, hc⟩ := this
    have ea : ca l 6 (S 2 11 0) = l_b l (S 2 11 0) := rfl
    have ef : ∀ c, cf 6 (S 2 11 0) c = c := fun _ => rfl
    rw [ea, ef]
    unfold o_dat
    match c, hc with
    | 0, _ => rw [s_p_j _ (by decide), s_p_j _ (by decide), s_p_j _ (by decide), s_p_s]; exact g0
    | 1, _ => rw [s_p_j _ (by decide), s_p_j _ (by decide), s_p_s]; exact g1
    | 2, _ => rw [s_p_j _ (by decide), s_p_s]; exact g2
    | 3, _ => rw [s_p_s]; exact g3
end CP

/-! new RecyclingLineModel -/
/-- the first arrays stand -/
def Mz (A : q_H) (mo : Nat) (L : List (Nat × Nat × Nat)) : Prop := q_sz A = mo + 1 + L.length ∧ q_sh A mo = (12, 0) ∧ ∀ i c z f, L[i]? = some (c, z, f) → q_sh A (mo + 1 + i) = (c, z) ∧ q_R A mo f = some (mo + 1 + i)
theorem Mz.sh {A : q_H} {mo : Nat} {L : List (Nat × Nat × Nat)} (h : Mz A mo L) (c z : Nat) : q_sh (q_new A c z) mo = (12, 0) := (sh_new_n (by have := h.1; omega)).trans h.2.1
theorem Mz.step {A : q_H} {mo : Nat} {L : List (Nat × Nat × Nat)} (h : Mz A mo L) (c z f : Nat) (hf : ∀ (i c' z' f' : Nat), L[i]? = some (c', z', f') → f' ≠ f) : Mz (q_setR (q_new A c z) mo f (some (q_sz A))) mo (L ++ [(c, z, f)]) := by
  obtain ⟨h1, h2, h3⟩ := h
  refine ⟨by rw [List.length_append]; show q_sz A + 1 = _; simp only [List.length_cons, List.length_nil]; omega, (sh_new_n (by omega)).trans h2, fun i c' z' f' e => ?_⟩
  by_cases hi : i < L.length
  · rw [List.getElem?_append_left hi] at e
    have a := h3 i c' z' f' e
    exact ⟨(sh_new_n (by omega)).trans a.1, by rw [R_set (Or.inr (hf i c' z' f' e)), q_R_new, q_rw_a _ _ _ (by omega)]; exact a.2⟩
  · have hi2 : i = L.length := by
      have := (List.getElem?_eq_some_iff.mp e).1
      rw [List.length_append] at this
      simp only [List.length_cons, List.length_nil] at this
      omega
    subst hi2
    rw [List.getElem?_append_right (Nat.le_refl _), Nat.sub_self] at e
    cases e
    rw [← h1]
    exact ⟨sh_new_s _ _ _, R_set_s _ _ _ _⟩
/-- what lay below is the same -/
def Mu (B A : q_H) (mo : Nat) (V : Nat → Int32) : Prop := (∀ x, x < mo → q_same B A x) ∧ (∀ k, q_I A mo k = nI 0) ∧ ∀ x, q_I A (mo + 1) x = V x
theorem Mu.step {B A : q_H} {mo c z f : Nat} {V : Nat → Int32} (h : Mu B A mo V) (hz : mo + 2 ≤ q_sz A) : Mu B (q_setR (q_new A c z) mo f (some (q_sz A))) mo V := by
  obtain ⟨h1, h2, h3⟩ := h
  have e : ∀ x, x < q_sz A → q_I (q_setR (q_new A c z) mo f (some (q_sz A))) x = q_I A x := fun x hx => by
    show q_I (q_new A c z) x = _
    rw [q_I_new, q_rw_a _ _ _ (by omega)]
  exact ⟨fun x hx => ((h1 x hx).new (by omega)).setR (by omega), fun k => by rw [e _ (by omega)]; exact h2 k, fun x => by rw [e _ (by omega)]; exact h3 x⟩
def v_rg (x : Nat) : Int32 := if x = 23 then nI 2 else if x = 22 then nI 20 else if x = 21 then nI 0 else if x = 20 then nI 1 else if x = 19 then nI 5 else if x = 18 then nI 0 else if x = 17 then nI 2 else if x = 16 then nI 5 else if x = 15 then nI 0 else if x = 14 then nI 20 else if x = 13 then nI 100 else if x = 12 then nI 0 else if x = 11 then nI 85 else if x = 10 then nI 100 else if x = 9 then nI 0 else if x = 8 then nI 95 else if x = 7 then nI 100 else if x = 6 then nI 0 else if x = 5 then nI 100 else if x = 4 then nI 500 else if x = 3 then nI 20 else if x = 2 then nI 50 else if x = 1 then nI 200 else if x = 0 then nI 1 else nI 0
theorem rg_v : Rg3 v_rg := ⟨fun i hi => match i, hi with
  | 0, _ => ⟨rfl, rfl⟩
  | 1, _ => ⟨rfl, rfl⟩
  | 2, _ => ⟨rfl, rfl⟩
  | 3, _ => ⟨rfl, rfl⟩
  | 4, _ => ⟨rfl, rfl⟩
  | 5, _ => ⟨rfl, rfl⟩
  | 6, _ => ⟨rfl, rfl⟩
  | 7, _ => ⟨rfl, rfl⟩, fun i hi => match i, hi with
  | 0, _ => rfl
  | 1, _ => rfl
  | 2, _ => rfl
  | 3, _ => rfl
  | 4, _ => rfl
  | 5, _ => rfl
  | 6, _ => rfl
  | 7, _ => rfl⟩
def m_L1 : List (Nat × Nat × Nat) := [(50, 24, 1)]
def m_L3 : List (Nat × Nat × Nat) := m_L1 ++ [(50, 47, 2)] ++ [(50, 47, 3)]
def m_L6 : List (Nat × Nat × Nat) := m_L3 ++ [(52, 4, 4)] ++ [(52, 4, 5)] ++ [(50, 788, 6)]
def m_L9 : List (Nat × Nat × Nat) := m_L6 ++ [(50, 788, 7)] ++ [(50, 788, 8)] ++ [(50, 4728, 9)]
def m_L12 : List (Nat × Nat × Nat) := m_L9 ++ [(50, 700, 11)] ++ [(50, 1, 20)] ++ [(50, 6, 21)]
theorem fr_new {L : List (Nat × Nat × Nat)} {f : Nat} (h : (L.all fun q => decide (q.2.2 ≠ f)) = true) : ∀ (i c' z' f' : Nat), L[i]? = some (c', z', f') → f' ≠ f := fun i c' z' f' e => by
  have := List.all_eq_true.mp h _ (List.mem_of_getElem? e)
  exact of_decide_eq_true this
theorem Mz.ms {A : q_H} {mo : Nat} (h : Mz A mo m_L12) : MS A mo := by
  obtain ⟨-, h2, h3⟩ := h
  have a := fun i c z f e => h3 i c z f e
  exact ⟨⟨h2, (a 0 _ _ _ rfl).2, (a 1 _ _ _ rfl).2, (a 2 _ _ _ rfl).2, (a 3 _ _ _ rfl).2, (a 4 _ _ _ rfl).2, (a 5 _ _ _ rfl).2, (a 6 _ _ _ rfl).2, (a 7 _ _ _ rfl).2, (a 8 _ _ _ rfl).2, (a 9 _ _ _ rfl).2, (a 10 _ _ _ rfl).2, (a 11 _ _ _ rfl).2⟩, (a 0 _ _ _ rfl).1, (a 1 _ _ _ rfl).1, (a 2 _ _ _ rfl).1, (a 3 _ _ _ rfl).1, (a 4 _ _ _ rfl).1, (a 5 _ _ _ rfl).1, (a 6 _ _ _ rfl).1, (a 7 _ _ _ rfl).1, (a 8 _ _ _ rfl).1, (a 9 _ _ _ rfl).1, (a 10 _ _ _ rfl).1, (a 11 _ _ _ rfl).1⟩
theorem DR_1 {A A' : q_H} {mo : Nat} (l : LY (q_I A (mo + 3)) (q_I A (mo + 7))) (e : A' = q_setI (q_setI (q_setI A (mo + 3) 0 (nI 1)) (mo + 3) 1 (nI 1)) (mo + 3) 4 (nI 1)) : DR A' mo s_1 := by
  have d := LY.dr (A := q_setI A (mo + 3) 0 (nI 1)) (mo := mo) l (v := 1) (fun x => ix_set _ _ _ _ _) (row_set (by omega))
  obtain ⟨d1, d2, d3, d4, d5⟩ := d
  have z81 : s_p s_0 8 0 0 1 8 1 0 = 0 := rfl
  have f4 := d4 0 (by omega) (by decide)
  have r7 : q_I A' (mo + 7) = q_I (q_setI A (mo + 3) 0 (nI 1)) (mo + 7) := by rw [e, row_set (by omega), row_set (by omega)]
  refine ⟨d1.addS (n := 0) rfl (by decide) 0 0 1 0 f4.1 f4.2 (fun x => ?_), d2.addS (n := 0) rfl (by decide) 0 0 1 0 (fun x => ?_), fun b hb => ?_, fun s hs hs8 => ?_, fun b hb hb4 => ?_⟩
  · rw [r7]
    by_cases c : x = 308
    · rw [if_pos c, c]
      exact f4.2 0 (by decide)
    · rw [if_neg c]
  · have h3 : q_I (q_setI A (mo + 3) 0 (nI 1)) (mo + 3) 3 = nI 0 := by rw [I_set (Or.inr (by decide))]; exact l.1 3 (by decide)
    have h5 : q_I (q_setI A (mo + 3) 0 (nI 1)) (mo + 3) 5 = nI 0 := by rw [I_set (Or.inr (by decide))]; exact l.1 5 (by decide)
    rw [e, ix_set, ix_set]
    by_cases c5 : x = 5
    · subst c5; exact h5
    · rw [if_neg (show ¬ x = 3 + 3 * 0 + 2 from c5)]
      by_cases c4 : x = 4
      · rw [if_pos c4, if_pos (show x = 3 + 3 * 0 + 1 from c4)]
      · rw [if_neg c4, if_neg (show ¬ x = 3 + 3 * 0 + 1 from c4)]
        by_cases c3 : x = 3
        · subst c3; exact h3
        · rw [if_neg (show ¬ x = 3 + 3 * 0 from c3)]
  · exact absurd hb (Nat.not_lt_zero _)
  · have hs1 : 1 ≤ s := hs
    rw [r7]
    exact d4 s (by omega) hs8
  · rw [r7]
    exact d5 b (Nat.zero_le _) hb4
theorem set6 {A B : q_H} {a k0 k1 k2 k3 k4 k5 : Nat} {v0 v1 v2 v3 v4 v5 : Int32} (e : B = q_setI (q_setI (q_setI (q_setI (q_setI (q_setI A a k0 v0) a k1 v1) a k2 v2) a k3 v3) a k4 v4) a k5 v5) : q_sh B = q_sh A ∧ q_sz B = q_sz A ∧ (∀ y, y ≠ a → q_same A B y) ∧ ∀ x, q_I B a x = if x = k5 then v5 else if x = k4 then v4 else if x = k3 then v3 else if x = k2 then v2 else if x = k1 then v1 else if x = k0 then v0 else q_I A a x := by
  subst e
  refine ⟨?_, ?_, fun y h => ((((((q_same.r A y).setI h).setI h).setI h).setI h).setI h).setI h, fun x => ?_⟩
  · rw [q_sh_setI, q_sh_setI, q_sh_setI, q_sh_setI, q_sh_setI, q_sh_setI]
  · rw [q_sz_setI, q_sz_setI, q_sz_setI, q_sz_setI, q_sz_setI, q_sz_setI]
  · rw [ix_set, ix_set, ix_set, ix_set, ix_set, ix_set]
theorem Mz.le {A : q_H} {mo : Nat} {L : List (Nat × Nat × Nat)} (h : Mz A mo L) (hl : 1 ≤ L.length) : mo + 2 ≤ q_sz A := by have := h.1; omega
section IM
variable {G : q_G} {X : String → q_H → Prop} {B : q_H}
theorem M_init {f : q_H → Prop} {mo : Nat} (em : mo = q_sz B) (k : ∀ A', (∀ x, x < mo → q_same B A' x) → q_sz A' = mo + 13 → (∀ hh T, MA A' mo s_1 hh 0 0 T) → f A') : q_Wc G M_X11_init [.ref mo] (q_new B 12 0) (q_KV f) X := by
  obtain ⟨A, eA⟩ : ∃ A, A = q_new B 12 0 := ⟨_, rfl⟩
  rw [← eA]
  have zA : q_sz A = mo + 1 := by rw [eA, em]; rfl
  have shA : q_sh A mo = (12, 0) := by rw [eA, em]; exact sh_new_s _ _ _
  have iA : ∀ k, q_I A mo k = nI 0 := fun k => by rw [eA, em, q_I_new, q_rw_s]; rfl
  have sA : ∀ x, x < mo → q_same B A x := fun x hx => by rw [eA]; exact (q_same.r B x).new (by omega)
  refine f_X11_init fun A2 e2 A3 e3 A4 e4 A5 e5 => ?_
  obtain ⟨h2, z2, w2, i2⟩ := set6 e2
  obtain ⟨h3, z3, w3, i3⟩ := set6 e3
  obtain ⟨h4, z4, w4, i4⟩ := set6 e4
  obtain ⟨h5, z5', w5, i5⟩ := set6 e5
  have V : ∀ x, q_I A5 (mo + 1) x = v_rg x := fun x => by
    rw [← zA, i5, i4, i3, i2, q_I_new, q_rw_s]
    rfl
  have sh5 : q_sh A5 = q_sh (q_new A 50 24) := by rw [h5, h4, h3, h2]
  have z5 : q_sz A5 = mo + 2 := by rw [z5', z4, z3, z2, q_sz_new, zA]
  have s5 : ∀ x, x ≠ mo + 1 → q_same A A5 x := fun x hx => by
    rw [← zA] at hx
    exact ((((q_same.r A x).new hx).t (w2 x hx)).t (w3 x hx)).t ((w4 x hx).t (w5 x hx))
  clear e2 e3 e4 e5
  have m1 : Mz (q_setR A5 mo 1 (some (q_sz A))) mo m_L1 := by
    refine ⟨z5, ?_, fun i c z f e => ?_⟩
    · show q_sh A5 mo = _
      rw [sh5]; exact (sh_new_n (by omega)).trans shA
    · match i, e with
      | 0, e =>
        cases e
        refine ⟨?_, ?_⟩
        · show q_sh A5 (mo + 1) = _
          rw [sh5, ← zA]; exact sh_new_s _ _ _
        · rw [R_set_s, zA]
      | i + 1, e => cases e
  have u1 : Mu B (q_setR A5 mo 1 (some (q_sz A))) mo v_rg := ⟨fun x hx => ((sA x hx).t (s5 x (by omega))).setR (by omega), fun k => by
    show q_I A5 mo k = _
    rw [(s5 mo (by omega)).2.1]; exact iA k, V⟩
  refine ⟨by rw [sh_new_n (by omega)]; exact shA, m1.sh _ _, (m1.step 50 47 2 (fr_new (by decide))).sh _ _, fun A11 e11 => ?_⟩
  have m3 : Mz A11 mo m_L3 := by rw [e11]; exact (m1.step 50 47 2 (fr_new (by decide))).step 50 47 3 (fr_new (by decide))
  have u3 : Mu B A11 mo v_rg := by rw [e11]; exact (u1.step (m1.le (by decide))).step ((m1.step 50 47 2 (fr_new (by decide))).le (by decide))
  clear e11 m1 u1
  have m4 := m3.step 52 4 4 (fr_new (by decide))
  have m5 := m4.step 52 4 5 (fr_new (by decide))
  have u4 := u3.step (c := 52) (z := 4) (f := 4) (m3.le (by decide))
  have u5 := u4.step (c := 52) (z := 4) (f := 5) (m4.le (by decide))
  refine ⟨m3.sh _ _, m4.sh _ _, m5.sh _ _, fun A18 e18 => ?_⟩
  have m6 : Mz A18 mo m_L6 := by rw [e18]; exact m5.step 50 788 6 (fr_new (by decide))
  have u6 : Mu B A18 mo v_rg := by rw [e18]; exact u5.step (m5.le (by decide))
  clear e18 m3 m4 m5 u3 u4 u5
  have m7 := m6.step 50 788 7 (fr_new (by decide))
  have m8 := m7.step 50 788 8 (fr_new (by decide))
  have u7 := u6.step (c := 50) (z := 788) (f := 7) (m6.le (by decide))
  have u8 := u7.step (c := 50) (z := 788) (f := 8) (m7.le (by decide))
  refine ⟨m6.sh _ _, m7.sh _ _, m8.sh _ _, fun A25 e25 => ?_⟩
  have m9 : Mz A25 mo m_L9 := by rw [e25]; exact m8.step 50 4728 9 (fr_new (by decide))
  have u9 : Mu B A25 mo v_rg := by rw [e25]; exact u8.step (m8.le (by decide))
  clear e25 m6 m7 m8 u6 u7 u8
  have m10 := m9.step 50 700 11 (fr_new (by decide))
  have m11 := m10.step 50 1 20 (fr_new (by decide))
  have u10 := u9.step (c := 50) (z := 700) (f := 11) (m9.le (by decide))
  have u11 := u10.step (c := 50) (z := 1) (f := 20) (m10.le (by decide))
  refine ⟨m9.sh _ _, m10.sh _ _, m11.sh _ _, fun A32 e32 => ?_⟩
  have m12 : Mz A32 mo m_L12 := by rw [e32]; exact m11.step 50 6 21 (fr_new (by decide))
  have u12 : Mu B A32 mo v_rg := by rw [e32]; exact u11.step (m11.le (by decide))
  clear e32 m9 m10 m11 u9 u10 u11
  have ms := m12.ms
  have z12 : q_sz A32 = mo + 13 := m12.1
  have rg : Rg3 (q_I A32 (mo + 1)) := by
    have : q_I A32 (mo + 1) = v_rg := funext u12.2.2
    rw [this]; exact rg_v
  refine M_laysD ms rg fun A33 o3 l3 => ?_
  have ms3 := o3.ms ms
  refine ⟨ms3.z, _, ms3.r3, 47, ms3.z3, by decide, by decide, by decide, by decide, ?_⟩
  obtain ⟨A44, e44⟩ : ∃ A44, A44 = q_setI (q_setI (q_setI A33 (mo + 3) 0 (nI 1)) (mo + 3) 1 (nI 1)) (mo + 3) 4 (nI 1) := ⟨_, rfl⟩
  have d := DR_1 l3 e44
  rw [← e44]
  have sb : ∀ x, dP mo x → bk mo x := fun x q => by
    unfold dP at q
    unfold bk
    omega
  have o4 : xf (dP mo) A33 A44 := by rw [e44]; exact (((xf.r _ A33).set (Or.inl rfl)).set (Or.inl rfl)).set (Or.inl rfl)
  have o34 := o3.t o4
  refine M_becomes (o4.ms ms3) d fun A5' o5 p5 n5 j5 t5 r5 => k A5' (fun x hx => (u12.1 x hx).t (((o34.w sb).t o5).sm (by unfold bk; omega))) ?_ fun hh T => ⟨p5, ⟨t5, by decide, fun j hj => absurd hj (Nat.not_lt_zero _)⟩, n5, ?_, ?_, Nat.zero_le _, fun j hj => absurd hj (Nat.not_lt_zero _)⟩
  · rw [o5.1, o34.1, z12]
  · rw [r5 _ (Or.inl rfl), (o34.2.2.2.2 (mo + 1) (by unfold dP; omega)).1]; exact rg
  · rw [j5 12 (by decide), (o34.2.2.2.2 mo (by unfold dP; omega)).1]; exact u12.2.1 12
end IM

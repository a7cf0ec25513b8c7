/-! THE REFERENCE DRAFTS A LINE: buyers -/
section ADB
variable {R V V' : Nat → Int32} {W W' : Nat → Int64} {S : s_T}
theorem addB_f (S : s_T) {n : Nat} (en : n = S 8 2 0) (c a g p l u t i j : Nat) : o_addB S c a g p l u t i j = if t = 11 ∧ i = n then c else if t = 7 ∧ i = n then 0 else if t = 10 ∧ i = n then (if j = 0 then a else if j = 1 then g else if j = 2 then p else if j = 3 then l else u) else if t = 8 ∧ i = 2 ∧ j = 0 then n + 1 else S t i j := by rw [en]; rfl
theorem RW.addB (r : RW R S) {n : Nat} (en : n = S 8 2 0) (hn : n < 4) (c a g p l u : Nat) (h1 : R (20 + n) = nI 0) : RW R (o_addB S c a g p l u) := by
  have hb := r.b
  unfold Lb at hb
  have f := addB_f S en c a g p l u
  have f81 : o_addB S c a g p l u 8 1 0 = S 8 1 0 := by rw [f]; simp
  have f82 : o_addB S c a g p l u 8 2 0 = n + 1 := by rw [f]; simp
  have f2 : ∀ i, o_addB S c a g p l u 2 i 0 = S 2 i 0 := fun i => by rw [f]; simp
  have f0 : o_addB S c a g p l u 0 = S 0 := by funext i j; rw [f]; simp
  have f4 : o_addB S c a g p l u 4 = S 4 := by funext i j; rw [f]; simp
  have f210 := f2 10
  have f211 := f2 11
  refine ⟨by unfold Lb; omega, fun t i j d => ?_, fun h m q hm => ?_, fun s hs => ?_, ?_⟩
  · have d0 := d.1
    by_cases c7 : t = 7 ∧ i = n
    · rw [c7.1, c7.2, f, if_neg (by omega), if_pos ⟨rfl, rfl⟩]
      exact h1
    · have ht : t ≠ 8 ∧ t ≠ 10 ∧ t ≠ 11 := by unfold dR0 at d0; omega
      have d2 := d.2
      rw [f210, f81, f211, f82] at d2
      rw [f, if_neg (by omega), if_neg c7, if_neg (by omega), if_neg (by omega)]
      exact r.c ⟨d0, d2.1, d2.2.1, d2.2.2.1, fun e => by have := d2.2.2.2 e; omega⟩
  · have q2 : lR S h := by
      unfold lR at q ⊢
      rw [f81, f4, f210, f211] at q; exact q
    rw [f0]; exact r.m q2 hm
  · rw [f81] at hs
    rw [f4]; exact r.rd hs
  · rw [f0]; exact r.al
theorem TO.addB (h : TO V S) {n : Nat} (en : n = S 8 2 0) (hn : n < 4) (h8 : S 8 1 0 ≤ 8) (c a g p l u : Nat) (h' : ∀ x, V' x = if x = 27 + 5 * n + 4 then nI u else if x = 27 + 5 * n + 3 then nI l else if x = 27 + 5 * n + 2 then nI p else if x = 27 + 5 * n + 1 then nI g else if x = 27 + 5 * n then nI a else if x = 2 then nI (n + 1) else V x) : TO V' (o_addB S c a g p l u) := by
  have f := addB_f S en c a g p l u
  have f80 : o_addB S c a g p l u 8 0 0 = S 8 0 0 := by rw [f]; simp
  have f81 : o_addB S c a g p l u 8 1 0 = S 8 1 0 := by rw [f]; simp
  have f82 : o_addB S c a g p l u 8 2 0 = n + 1 := by rw [f]; simp
  have f9 : o_addB S c a g p l u 9 = S 9 := by funext i j; rw [f]; simp
  obtain ⟨⟨a0, a1, a2⟩, a3, a4⟩ := h
  refine ⟨⟨?_, ?_, ?_⟩, fun s j hs hj => ?_, fun b j hb hj => ?_⟩
  · rw [h', if_neg (by omega), if_neg (by omega), if_neg (by omega), if_neg (by omega), if_neg (by omega), if_neg (by omega), f80]; exact a0
  · rw [h', if_neg (by omega), if_neg (by omega), if_neg (by omega), if_neg (by omega), if_neg (by omega), if_neg (by omega), f81]; exact a1
  · rw [h', if_neg (by omega), if_neg (by omega), if_neg (by omega), if_neg (by omega), if_neg (by omega), if_pos rfl, f82]
  · rw [f81] at hs
    rw [h', if_neg (by omega), if_neg (by omega), if_neg (by omega), if_neg (by omega), if_neg (by omega), if_neg (by omega), f9]
    exact a3 s j hs hj
  · rw [f82] at hb
    by_cases cn : b = n
    · have ef : o_addB S c a g p l u 10 n j = (if j = 0 then a else if j = 1 then g else if j = 2 then p else if j = 3 then l else u) := by rw [f, if_neg (by omega), if_neg (by omega), if_pos ⟨rfl, rfl⟩]
      rw [cn, h', ef]
      have : j = 0 ∨ j = 1 ∨ j = 2 ∨ j = 3 ∨ j = 4 := by omega
      rcases this with q | q | q | q | q <;> subst q
      · rw [if_neg (by omega), if_neg (by omega), if_neg (by omega), if_neg (by omega), if_pos (by omega)]; rfl
      · rw [if_neg (by omega), if_neg (by omega), if_neg (by omega), if_pos (by omega)]; rfl
      · rw [if_neg (by omega), if_neg (by omega), if_pos (by omega)]; rfl
      · rw [if_neg (by omega), if_pos (by omega)]; rfl
      · rw [if_pos (by omega)]; rfl
    · rw [h', if_neg (by omega), if_neg (by omega), if_neg (by omega), if_neg (by omega), if_neg (by omega), if_neg (by omega), f, if_neg (by omega), if_neg (by omega), if_neg (by omega), if_neg (by omega)]
      exact a4 b j (by omega) hj
theorem NM.addB (h : NM W S) {n : Nat} (en : n = S 8 2 0) (c a g p l u : Nat) {v : Int64} (hc : nm7 c v) (h' : ∀ x, W' x = if x = n then v else W x) : NM W' (o_addB S c a g p l u) := by
  have f := addB_f S en c a g p l u
  have f82 : o_addB S c a g p l u 8 2 0 = n + 1 := by rw [f]; simp
  intro b hb
  rw [f82] at hb
  rw [h', f]
  by_cases cn : b = n
  · rw [if_pos ⟨rfl, cn⟩, if_pos cn]; exact hc
  · rw [if_neg (by omega), if_neg (by omega), if_neg (by omega), if_neg (by omega), if_neg cn]; exact h b (by omega)
end ADB
section BU
variable {G : q_G} {X : String → q_H → Prop} {A A0 : q_H} {mo N : Nat} {T : Nat → Nat} {t : T_k} {S : s_T}
theorem M_readsBuyer {f : Bool → q_H → Prop} (h : Dk A mo N T t S) (hM : 1 ≤ S 8 0 0 ∧ S 8 0 0 ≤ 6)
    (k0 : ∀ S' t', p_buyer T N S t = .ok (S', t') → ∀ A', df A A' mo → Dk A' mo N T t' S' → f true A') (k1 : ∀ c, p_buyer T N S t = .error c → ∀ A', df A A' mo → er A' mo c → f false A') : q_Wc G M_X11_readsBuyer [.ref mo] A (q_KB f) X := by
  obtain ⟨b, g, d, rg⟩ := id h
  obtain ⟨d1, d2, d3, d4, d5⟩ := id d
  have hb := d1.b
  unfold Lb at hb
  obtain ⟨n, en⟩ : ∃ n, n = S 8 2 0 := ⟨_, rfl⟩
  have e0 : q_I A (mo + 3) 0 = nI (S 8 0 0) := d2.1.1
  have e2 : q_I A (mo + 3) 2 = nI n := by rw [en]; exact d2.1.2.2
  refine f_X11_readsBuyer ⟨b.1.z, _, b.1.r3, 47, b.1.z3, by decide, by decide, ?_⟩
  rw [e2]
  refine ⟨fun c => M_bad b g (by decide) (by decide) fun A' o r => k1 _ ?_ A' o.df r, fun c => M_go b g.2.2.2.2.2.1 g.2.2.1 fun A1 o1 b1 g1 => ⟨b1.1.z, M_isName b1 g1 ⟨fun cN => ⟨b1.1.z, ?_⟩, fun cN => ⟨b1.1.z, M_bad b1 g1 (by decide) (by decide) fun A' o r => k1 _ ?_ A' (o1.df.t o.df) r⟩⟩⟩⟩
  · have c8 : n = 4 := (nI_eq (by omega) (by decide)).mp c
    unfold p_buyer
    rw [if_neg (by omega)]
  · have c8 : n < 4 := by
      have : n ≠ 4 := fun e => c (by rw [e])
      omega
    have hlt : S 8 2 0 < 4 := by omega
    obtain ⟨t1, et1⟩ : ∃ t1, t1 = tok T N t.2.2 := ⟨_, rfl⟩
    rw [← et1] at g1 cN
    obtain ⟨cw, ck, c6⟩ := of_decide_eq_true cN
    have wl := g1.2.2.2.2
    have hN := b1.2.2.1
    have w2 := wl.2.1
    obtain ⟨hlt1, hall⟩ := wl.2.2.2.2 cw
    unfold p_buyer at k0 k1
    simp only [hlt, if_true] at k0 k1
    rw [← et1] at k0 k1
    have ha : t_all T t1.2.1 (t1.2.2 - t1.2.1) = true := (all_iff _ _ _).mpr fun j hj => hall _ (by omega) (by omega)
    have h7 : nm7 (t_code T t1.2.1 (t1.2.2 - t1.2.1)) (lN (t_let T t1.2.1 (t1.2.2 - t1.2.1))) := ⟨T, _, _, by omega, c6, ha, rfl, rfl⟩
    have ep : p_name T N S t1 = if t_new S (t_code T t1.2.1 (t1.2.2 - t1.2.1)) (S 8 2 0) = true then .ok (t_code T t1.2.1 (t1.2.2 - t1.2.1), tok T N t1.2.2) else .error (8 * t1.2.1 + 3) := by
      unfold p_name
      rw [if_pos ⟨cw, ck, c6⟩]
    have rL : q_L A1 (mo + 5) = q_L A (mo + 5) := by rw [o1.2.2.2.1]
    rw [g1.2.1, g1.2.2.1]
    refine M_letters b1.1 (fun j hj => b1.2.2.2 j (by omega)) wl.1 (by omega) (fun j h1 h2 => hall j h1 h2) ⟨b1.1.z, _, b1.1.r5, M_buyerWith b1.1.z5 (by decide) (by omega) (fun i hi e _ => ⟨fun c => absurd (show nI i < 0 by rw [c]; decide) (nI_pos (by omega)), fun _ => ⟨b1.1.z, M_bad b1 g1 (by decide) (by decide) fun A' o r => k1 _ ?_ A' (o1.df.t o.df) r⟩⟩) (fun hn => ⟨fun _ => ⟨b1.1.z, ?_⟩, fun c => absurd rfl c⟩)⟩
    · rw [rL] at e
      have := (nm7_eq (d3 i (by omega)) h7).mp e
      rw [ep, if_neg]
      intro q
      exact (new_iff _ _ _).mp q i (by omega) this
    · have enw : t_new S (t_code T t1.2.1 (t1.2.2 - t1.2.1)) (S 8 2 0) = true := (new_iff _ _ _).mpr fun i hi e => hn i (by omega) (by rw [rL]; exact (nm7_eq (d3 i hi) h7).mpr e)
      rw [if_pos enw] at ep
      simp only [ep] at k0 k1
      refine M_go b1 wl.2.1 g1.2.2.1 fun A2 o2 b2 g2 => ⟨b2.1.z, _, b2.1.r5, 4, b2.1.z5, by decide, n, rfl, c8, _, b2.1.r3, 47, b2.1.z3, by decide, by decide, by decide, ?_⟩
      obtain ⟨v, ev⟩ : ∃ v, v = lN (t_let T t1.2.1 (t1.2.2 - t1.2.1)) := ⟨_, rfl⟩
      obtain ⟨cd, ecd⟩ : ∃ cd, cd = t_code T t1.2.1 (t1.2.2 - t1.2.1) := ⟨_, rfl⟩
      rw [← ev, ← ecd] at h7
      rw [← ev]
      rw [← ecd] at k0
      have r2 : q_I A2 (mo + 3) = q_I A (mo + 3) := by rw [o2.row (by omega), o1.row (by omega)]
      have q1 : q_I (q_setI (q_setL A2 (mo + 5) n v) (mo + 3) 2 (q_I (q_setL A2 (mo + 5) n v) (mo + 3) 2 + nI 1)) (mo + 3) 0 - nI 1 = nI (S 8 0 0 - 1) := by rw [I_set (Or.inr (by decide)), q_I_setL, r2, e0, pk_sub hM.1]
      have q2 : q_I (q_setL A2 (mo + 5) n v) (mo + 3) 2 + nI 1 = nI (n + 1) := by rw [q_I_setL, r2, e2, nI_add]
      rw [q1, q2]
      simp only [pk_mul, nI_add]
      obtain ⟨A3, eA3⟩ : ∃ A3, A3 = q_setI (q_setL A2 (mo + 5) n v) (mo + 3) 2 (nI (n + 1)) := ⟨_, rfl⟩
      rw [← eA3]
      have f3 : df A A3 mo := by rw [eA3]; exact ((o1.df.t o2.df).setL).set (Or.inl rfl)
      have b3 : Mb A3 mo N T := b.df f3
      have g3 : Mk A3 mo N T (tok T N t1.2.2) := g2.to (by rw [eA3, row_set (by omega)]; rfl)
      refine M_reads b3 g3 b3.1.z3 (by decide) (by omega) (Or.inl rfl) (by decide) (by omega) (fun v1 t2 p1 A4 o4 b4 g4 => ⟨fun _ => ⟨b4.1.z, _, b4.1.r3, ?_⟩, fun e => (by cases e)⟩) (fun c p1 A4 o4 r4 => ⟨fun e => (by cases e), fun _ => k1 c (by simp only [p1]) A4 (f3.t o4.df) r4⟩)
      have f4 : df A A4 mo := (f3.set (Or.inl rfl)).t o4.df
      simp only [p1] at k0 k1
      refine M_reads b4 g4 b4.1.z3 (by decide) (by omega) (Or.inl rfl) (by decide) (by decide) (fun v2 t3 p2 A5 o5 b5 g5 => ⟨fun _ => ⟨b5.1.z, _, b5.1.r3, ?_⟩, fun e => (by cases e)⟩) (fun c p2 A5 o5 r5 => ⟨fun e => (by cases e), fun _ => k1 c (by simp only [p2]) A5 (f4.t o5.df) r5⟩)
      have f5 : df A A5 mo := (f4.set (Or.inl rfl)).t o5.df
      simp only [p2] at k0 k1
      refine M_reads b5 g5 b5.1.z3 (by decide) (by omega) (Or.inl rfl) (by decide) (by decide) (fun v3 t4 p3 A6 o6 b6 g6 => ⟨fun _ => ⟨b6.1.z, _, b6.1.r3, ?_⟩, fun e => (by cases e)⟩) (fun c p3 A6 o6 r6 => ⟨fun e => (by cases e), fun _ => k1 c (by simp only [p3]) A6 (f5.t o6.df) r6⟩)
      have f6 : df A A6 mo := (f5.set (Or.inl rfl)).t o6.df
      simp only [p3] at k0 k1
      refine M_reads b6 g6 b6.1.z3 (by decide) (by omega) (Or.inl rfl) (by decide) (by decide) (fun v4 t5 p4 A7 o7 b7 g7 => ⟨fun _ => ⟨b7.1.z, _, b7.1.r3, ?_⟩, fun e => (by cases e)⟩) (fun c p4 A7 o7 r7 => ⟨fun e => (by cases e), fun _ => k1 c (by simp only [p4]) A7 (f6.t o7.df) r7⟩)
      have f7 : df A A7 mo := (f6.set (Or.inl rfl)).t o7.df
      simp only [p4] at k0 k1
      refine M_reads b7 g7 b7.1.z3 (by decide) (by omega) (Or.inl rfl) (by decide) (by decide) (fun v5 t6 p5 A8 o8 b8 g8 => ⟨fun _ => ?_, fun e => (by cases e)⟩) (fun c p5 A8 o8 r8 => ⟨fun e => (by cases e), fun _ => k1 c (by simp only [p5]) A8 (f7.t o8.df) r8⟩)
      have f8 : df A A8 mo := (f7.set (Or.inl rfl)).t o8.df
      simp only [p5] at k0 k1
      have E7 : q_I A8 (mo + 7) = q_I A (mo + 7) := by
        rw [o8.row (by omega), row_set (by omega), o7.row (by omega), row_set (by omega), o6.row (by omega), row_set (by omega), o5.row (by omega), row_set (by omega), o4.row (by omega), row_set (by omega), eA3, row_set (by omega), q_I_setL, o2.row (by omega), o1.row (by omega)]
      have E3 : ∀ x, q_I A8 (mo + 3) x = if x = 27 + 5 * n + 4 then nI v5 else if x = 27 + 5 * n + 3 then nI v4 else if x = 27 + 5 * n + 2 then nI v3 else if x = 27 + 5 * n + 1 then nI v2 else if x = 27 + 5 * n then nI v1 else if x = 2 then nI (n + 1) else q_I A (mo + 3) x := fun x => by
        rw [o8.row (by omega), ix_set, o7.row (by omega), ix_set, o6.row (by omega), ix_set, o5.row (by omega), ix_set, o4.row (by omega), ix_set, eA3, ix_set, q_I_setL, r2]
      have E5 : ∀ x, q_L A8 (mo + 5) x = if x = n then v else q_L A (mo + 5) x := fun x => by
        rw [o8.2.2.2.1, q_L_setI, o7.2.2.2.1, q_L_setI, o6.2.2.2.1, q_L_setI, o5.2.2.2.1, q_L_setI, o4.2.2.2.1, q_L_setI, eA3, q_L_setI, L_set, o2.2.2.2.1, o1.2.2.2.1]
      refine k0 _ t6 rfl A8 f8 ⟨b8, g8, ⟨?_, d2.addB en c8 hb.1 cd v1 v2 v3 v4 v5 E3, d3.addB en cd v1 v2 v3 v4 v5 h7 E5, fun s hs hs8 => ?_, fun y hy hy4 => ?_⟩, f8.rg rg⟩
      · rw [E7]
        exact d1.addB en c8 cd v1 v2 v3 v4 v5 (d5 n (by omega) c8)
      · rw [addB_f S en] at hs
        rw [E7]
        exact d4 s (by simpa using hs) hs8
      · rw [addB_f S en] at hy
        have hy' : n + 1 ≤ y := by simpa using hy
        rw [E7]
        exact d5 y (by omega) hy4
  · have c8 : n < 4 := by
      have : n ≠ 4 := fun e => c (by rw [e])
      omega
    have hq := of_decide_eq_false cN
    unfold p_buyer
    rw [if_pos (by omega)]
    have ep : p_name T N S (tok T N t.2.2) = .error (8 * (tok T N t.2.2).2.1 + 1) := by
      unfold p_name
      rw [if_neg hq]
    rw [ep]
end BU

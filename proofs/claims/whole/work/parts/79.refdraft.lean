/-! THE REFERENCE DRAFTS A LINE: stations, settings -/
theorem NM.ct {V : Nat → Int64} {S S' : s_T} (h : NM V S) (c : s_ct S S') : NM V S' := by
  unfold NM at h ⊢
  rw [c.1, c.2.2.2]; exact h
section DRW
variable {R R' V V' : Nat → Int32} {S : s_T}
theorem RW.out (r : RW R S) (h : ∀ x, (x < 42 + 7 * S 2 10 0 ∨ 252 ≤ x) → R' x = R x) : RW R' S := by
  have hb := r.b
  unfold Lb at hb
  refine ⟨r.b, fun t i j d => ?_, fun x m q hm => ?_, fun s hs => ?_, ?_⟩
  · have e : ri t i j < 42 + 7 * S 2 10 0 ∨ 252 ≤ ri t i j := by
      have d3 := d.2.1
      rcases ri_cases d.1 with ⟨g, q⟩ | ⟨g, a, b, c, e⟩ | ⟨g, q⟩ | ⟨g, q⟩ | ⟨g, q⟩ | ⟨g, q⟩
      · omega
      · have := r2_bd a b
        omega
      · have := d3 g
        omega
      · omega
      · omega
      · omega
    rw [h _ e]; exact r.c d
  · have e : hi x + m < 42 + 7 * S 2 10 0 ∨ 252 ≤ hi x + m := by
      have h89 := lR_89 r.b q
      unfold lR at q
      rcases hi_cases h89 with ⟨g, e'⟩ | ⟨g, e'⟩ | ⟨g, e'⟩ | ⟨s, hs, g, e'⟩ | ⟨s, hs, g, e'⟩ | ⟨s, hs, g, e'⟩ | ⟨s, hs, g, e'⟩ <;> omega
    rw [h _ e]; exact r.m q hm
  · rw [h _ (by omega)]; exact r.rd hs
  · rw [h _ (by omega)]; exact r.al
theorem RW.addS (r : RW R S) {n : Nat} (en : n = S 8 1 0) (hn : n < 8) (a p g e : Nat) (h1 : R (258 + 7 * n) = -1) (h2 : ∀ j, j < 10 → R (308 + 10 * n + j) = nI 0) (h' : ∀ x, R' x = if x = 308 + 10 * n then nI p else R x) : RW R' (o_addS S a p g e) := by
  have hb := r.b
  unfold Lb at hb
  have f : ∀ t i j, o_addS S a p g e t i j = if t = 8 ∧ i = 1 ∧ j = 0 then n + 1 else if t = 0 ∧ (i = 11 + n ∨ i = 3 + n) then 0 else if t = 4 ∧ i = n then 0 else if t = 9 ∧ i = n then (if j = 0 then a else if j = 1 then g else e) else if t = 5 ∧ i = n then (if j = 0 then p else 0) else S t i j := fun t i j => by rw [en]; rfl
  have f81 : o_addS S a p g e 8 1 0 = n + 1 := by rw [f]; simp
  have f82 : o_addS S a p g e 8 2 0 = S 8 2 0 := by rw [f]; simp
  have f2 : ∀ i, o_addS S a p g e 2 i 0 = S 2 i 0 := fun i => by rw [f]; simp
  have f0 : ∀ h, h ≠ 11 + n → h ≠ 3 + n → o_addS S a p g e 0 h = S 0 h := fun h h1 h2 => by funext m; rw [f]; simp [h1, h2]
  have f4n : o_addS S a p g e 4 n 0 = 0 := by rw [f]; simp
  have f4 : ∀ s, s ≠ n → o_addS S a p g e 4 s 0 = S 4 s 0 := fun s hs => by rw [f]; simp [hs]
  have f210 := f2 10
  have f211 := f2 11
  have d5 : dR0 5 n 0 := by unfold dR0; omega
  refine ⟨by unfold Lb; omega, fun t i j d => ?_, fun h m q hm => ?_, fun s hs => ?_, ?_⟩
  · have d0 := d.1
    by_cases c5 : t = 5 ∧ i = n
    · have hj : j < 4 := by unfold dR0 at d0; omega
      rw [c5.1, c5.2, h', f]
      show (if 308 + 10 * n + j = 308 + 10 * n then nI p else R (308 + 10 * n + j)) = _
      by_cases cj : j = 0
      · rw [cj]; simp
      · rw [if_neg (by omega), h2 j (by omega)]; simp [cj]
    · have ht : t ≠ 0 ∧ t ≠ 4 ∧ t ≠ 8 ∧ t ≠ 9 := by unfold dR0 at d0; omega
      have e' : o_addS S a p g e t i j = S t i j := by rw [f, if_neg (by omega), if_neg (by omega), if_neg (by omega), if_neg (by omega), if_neg c5]
      have hne := ri_ne d5 d0 (fun q => c5 ⟨q.1, q.2.1⟩)
      have d2 := d.2
      rw [f210, f81, f211, f82] at d2
      rw [h', if_neg (show ¬ ri t i j = 308 + 10 * n from hne), e']
      exact r.c ⟨d0, d2.1, fun e5 => by have := d2.2.1 e5; omega, d2.2.2.1, d2.2.2.2⟩
  · have q' : h = 3 + n ∨ (h ≠ 3 + n ∧ h ≠ 11 + n ∧ lR S h) := by
      by_cases c : h = 3 + n
      · exact Or.inl c
      · refine Or.inr ⟨c, ?_⟩
        unfold lR at q ⊢
        rw [f81, f210, f211] at q
        rcases q with q | q | ⟨q1, q2, q3⟩ | q | q
        · omega
        · omega
        · by_cases c2 : h - 11 = n
          · rw [c2] at q3
            exact absurd f4n q3
          · rw [f4 _ c2] at q3
            refine ⟨by omega, Or.inr (Or.inr (Or.inl ⟨q1, by omega, q3⟩))⟩
        · omega
        · omega
    rcases q' with c | ⟨c1, c2, q2⟩
    · rw [c, hi_bun hn, h', if_neg (by omega), f, if_neg (by omega), if_pos ⟨rfl, Or.inr rfl⟩, ← h2 (4 + m) (by omega)]
      congr 1
      omega
    · have hne := ri_hi (m := m) d5 (lR_89 r.b q2) hm
      rw [h', if_neg (show ¬ hi h + m = 308 + 10 * n from Ne.symm hne), f0 h c2 c1]
      exact r.m q2 hm
  · rw [f81] at hs
    rw [h', if_neg (by omega)]
    by_cases c : s = n
    · rw [c, f4n, h1]; rfl
    · rw [f4 s c]; exact r.rd (by omega)
  · rw [h', if_neg (by omega), f0 1 (by omega) (by omega)]; exact r.al
theorem TO.addS (h : TO V S) {n : Nat} (en : n = S 8 1 0) (hn : n < 8) (a p g e : Nat) (h' : ∀ x, V' x = if x = 3 + 3 * n + 2 then nI e else if x = 3 + 3 * n + 1 then nI g else if x = 3 + 3 * n then nI a else if x = 1 then nI (n + 1) else V x) : TO V' (o_addS S a p g e) := by
  have f : ∀ t i j, o_addS S a p g e t i j = if t = 8 ∧ i = 1 ∧ j = 0 then n + 1 else if t = 0 ∧ (i = 11 + n ∨ i = 3 + n) then 0 else if t = 4 ∧ i = n then 0 else if t = 9 ∧ i = n then (if j = 0 then a else if j = 1 then g else e) else if t = 5 ∧ i = n then (if j = 0 then p else 0) else S t i j := fun t i j => by rw [en]; rfl
  have f80 : o_addS S a p g e 8 0 0 = S 8 0 0 := by rw [f]; simp
  have f81 : o_addS S a p g e 8 1 0 = n + 1 := by rw [f]; simp
  have f82 : o_addS S a p g e 8 2 0 = S 8 2 0 := by rw [f]; simp
  have f10 : o_addS S a p g e 10 = S 10 := by funext i j; rw [f]; simp
  obtain ⟨⟨a0, a1, a2⟩, a3, a4⟩ := h
  refine ⟨⟨?_, ?_, ?_⟩, fun s j hs hj => ?_, fun b j hb hj => ?_⟩
  · rw [h', if_neg (by omega), if_neg (by omega), if_neg (by omega), if_neg (by omega), f80]; exact a0
  · rw [h', if_neg (by omega), if_neg (by omega), if_neg (by omega), if_pos rfl, f81]
  · rw [h', if_neg (by omega), if_neg (by omega), if_neg (by omega), if_neg (by omega), f82]; exact a2
  · rw [f81] at hs
    by_cases c : s = n
    · have ef : o_addS S a p g e 9 n j = (if j = 0 then a else if j = 1 then g else e) := by rw [f, if_neg (by omega), if_neg (by omega), if_neg (by omega), if_pos ⟨rfl, rfl⟩]
      rw [c, h', ef]
      have : j = 0 ∨ j = 1 ∨ j = 2 := by omega
      rcases this with q | q | q
      · subst q
        rw [if_neg (by omega), if_neg (by omega), if_pos (by omega)]; rfl
      · subst q
        rw [if_neg (by omega), if_pos (by omega)]; rfl
      · subst q
        rw [if_pos (by omega)]; rfl
    · rw [h', if_neg (by omega), if_neg (by omega), if_neg (by omega), if_neg (by omega), f, if_neg (by omega), if_neg (by omega), if_neg (by omega), if_neg (by omega), if_neg (by omega)]
      exact a3 s j (by omega) hj
  · rw [f82] at hb
    rw [h', if_neg (by omega), if_neg (by omega), if_neg (by omega), if_neg (by omega), f10]
    exact a4 b j hb hj
end DRW
/-- the draft holds S -/
def DR (A : q_H) (mo : Nat) (S : s_T) : Prop := RW (q_I A (mo + 7)) S ∧ TO (q_I A (mo + 3)) S ∧ NM (q_L A (mo + 5)) S ∧ (∀ s, S 8 1 0 ≤ s → s < 8 → q_I A (mo + 7) (258 + 7 * s) = -1 ∧ ∀ j, j < 10 → q_I A (mo + 7) (308 + 10 * s + j) = nI 0) ∧ ∀ b, S 8 2 0 ≤ b → b < 4 → q_I A (mo + 7) (20 + b) = nI 0
theorem DR.to {A A' : q_H} {mo : Nat} {S : s_T} (h : DR A mo S) (e7 : q_I A' (mo + 7) = q_I A (mo + 7)) (e3 : q_I A' (mo + 3) = q_I A (mo + 3)) (e5 : q_L A' (mo + 5) = q_L A (mo + 5)) : DR A' mo S := by
  unfold DR at h ⊢
  rw [e7, e3, e5]; exact h
def Dk (A : q_H) (mo N : Nat) (T : Nat → Nat) (t : T_k) (S : s_T) : Prop := Mb A mo N T ∧ Mk A mo N T t ∧ DR A mo S ∧ Rgs (q_I A (mo + 1))
theorem Mk.to {A A' : q_H} {mo N : Nat} {T : Nat → Nat} {t : T_k} (h : Mk A mo N T t) (e : q_I A' mo = q_I A mo) : Mk A' mo N T t := by
  unfold Mk at h ⊢
  rw [e]; exact h
theorem df.rg {A A' : q_H} {mo : Nat} (h : df A A' mo) (g : Rgs (q_I A (mo + 1))) : Rgs (q_I A' (mo + 1)) := by rw [h.row (by omega)]; exact g
section SD
variable {G : q_G} {X : String → q_H → Prop} {A A0 : q_H} {mo N : Nat} {T : Nat → Nat} {t : T_k} {S : s_T}
theorem Dk.go (h : Dk A mo N T t S) {A' : q_H} {t' : T_k} (o : qo A A' mo) (b : Mb A' mo N T) (g : Mk A' mo N T t') : Dk A' mo N T t' S :=
  ⟨b, g, h.2.2.1.to (o.row (by omega)) (o.row (by omega)) (by rw [o.2.2.2.1]), o.df.rg h.2.2.2⟩
theorem M_readsStation {f : Bool → q_H → Prop} (h : Dk A mo N T t S) (hM : 1 ≤ S 8 0 0 ∧ S 8 0 0 ≤ 6)
    (k0 : ∀ S' t', p_station T N S t = .ok (S', t') → ∀ A', df A A' mo → Dk A' mo N T t' S' → f true A') (k1 : ∀ c, p_station T N S t = .error c → ∀ A', df A A' mo → er A' mo c → f false A') : q_Wc G M_X11_readsStation [.ref mo] A (q_KB f) X := by
  obtain ⟨b, g, d, rg⟩ := h
  obtain ⟨d1, d2, d3, d4, d5⟩ := id d
  have hb := d1.b
  unfold Lb at hb
  obtain ⟨n, en⟩ : ∃ n, n = S 8 1 0 := ⟨_, rfl⟩
  have e0 : q_I A (mo + 3) 0 = nI (S 8 0 0) := d2.1.1
  have e1 : q_I A (mo + 3) 1 = nI n := by rw [en]; exact d2.1.2.1
  refine f_X11_readsStation ⟨b.1.z, _, b.1.r3, 47, b.1.z3, by decide, by decide, ?_⟩
  rw [e1]
  refine ⟨fun c => M_bad b g (by decide) (by decide) fun A' o r => k1 _ ?_ A' o.df r, fun c => M_go b g.2.2.2.2.2.1 g.2.2.1 fun A1 o1 b1 g1 => ⟨b1.1.z, _, b1.1.r3, 47, b1.1.z3, by decide, by decide, by decide, ?_⟩⟩
  · have c8 : n = 8 := (nI_eq (by omega) (by decide)).mp c
    unfold p_station
    rw [if_neg (by omega)]
  · have c8 : n < 8 := by
      have : n ≠ 8 := fun e => c (by rw [e])
      omega
    have hlt : S 8 1 0 < 8 := by omega
    have r1 : q_I A1 (mo + 3) = q_I A (mo + 3) := o1.row (by omega)
    have q1 : q_I (q_setI A1 (mo + 3) 1 (q_I A1 (mo + 3) 1 + nI 1)) (mo + 3) 0 - nI 1 = nI (S 8 0 0 - 1) := by rw [I_set (Or.inr (by decide)), r1, e0, pk_sub hM.1]
    rw [q1, r1, e1]
    simp only [pk_mul, nI_add]
    obtain ⟨A2, eA2⟩ : ∃ A2, A2 = q_setI A1 (mo + 3) 1 (nI (n + 1)) := ⟨_, rfl⟩
    rw [← eA2]
    have f2 : df A A2 mo := by rw [eA2]; exact o1.df.set (Or.inl rfl)
    have b2 : Mb A2 mo N T := b.df f2
    have g2 : Mk A2 mo N T (tok T N t.2.2) := g1.to (by rw [eA2]; exact row_set (by omega))
    unfold p_station at k0 k1
    simp only [hlt, if_true] at k0 k1
    refine M_reads b2 g2 b2.1.z3 (by decide) (by omega) (Or.inl rfl) (by decide) (by omega) (fun v1 t2 p1 A3 o3 b3 g3 => ⟨fun _ => ⟨b3.1.z, _, b3.1.r7, M_placeAt (j := 0) ⟨b3.1.z, ?_⟩⟩, fun e => (by cases e)⟩) (fun c p1 A3 o3 r3 => ⟨fun e => (by cases e), fun _ => k1 c (by simp only [p1]) A3 (f2.t o3.df) r3⟩)
    have f3 : df A A3 mo := (f2.set (Or.inl rfl)).t o3.df
    simp only [p1] at k0 k1
    refine M_reads b3 g3 b3.1.z7 (by decide) (by omega) (Or.inr (Or.inl rfl)) (by decide) (by decide) (fun v2 t3 p2 A4 o4 b4 g4 => ⟨fun _ => ⟨b4.1.z, _, b4.1.r3, ?_⟩, fun e => (by cases e)⟩) (fun c p2 A4 o4 r4 => ⟨fun e => (by cases e), fun _ => k1 c (by simp only [p2]) A4 (f3.t o4.df) r4⟩)
    have f4 : df A A4 mo := (f3.set (Or.inr (Or.inl rfl))).t o4.df
    simp only [p2] at k0 k1
    refine M_reads b4 g4 b4.1.z3 (by decide) (by omega) (Or.inl rfl) (by decide) (by decide) (fun v3 t4 p3 A5 o5 b5 g5 => ⟨fun _ => ⟨b5.1.z, _, b5.1.r3, ?_⟩, fun e => (by cases e)⟩) (fun c p3 A5 o5 r5 => ⟨fun e => (by cases e), fun _ => k1 c (by simp only [p3]) A5 (f4.t o5.df) r5⟩)
    have f5 : df A A5 mo := (f4.set (Or.inl rfl)).t o5.df
    simp only [p3] at k0 k1
    refine M_reads b5 g5 b5.1.z3 (by decide) (by omega) (Or.inl rfl) (by decide) (by decide) (fun v4 t5 p4 A6 o6 b6 g6 => ⟨fun _ => ?_, fun e => (by cases e)⟩) (fun c p4 A6 o6 r6 => ⟨fun e => (by cases e), fun _ => k1 c (by simp only [p4]) A6 (f5.t o6.df) r6⟩)
    have f6 : df A A6 mo := (f5.set (Or.inl rfl)).t o6.df
    simp only [p4] at k0 k1
    have E7 : ∀ x, q_I A6 (mo + 7) x = if x = 308 + 10 * n then nI v2 else q_I A (mo + 7) x := fun x => by
      rw [o6.row (by omega), row_set (by omega), o5.row (by omega), row_set (by omega), o4.row (by omega), ix_set, o3.row (by omega), row_set (by omega), eA2, row_set (by omega), o1.row (by omega)]
      rfl
    have E3 : ∀ x, q_I A6 (mo + 3) x = if x = 3 + 3 * n + 2 then nI v4 else if x = 3 + 3 * n + 1 then nI v3 else if x = 3 + 3 * n then nI v1 else if x = 1 then nI (n + 1) else q_I A (mo + 3) x := fun x => by
      rw [o6.row (by omega), ix_set, o5.row (by omega), ix_set, o4.row (by omega), row_set (by omega), o3.row (by omega), ix_set, eA2, ix_set, o1.row (by omega)]
    have E5 : q_L A6 (mo + 5) = q_L A (mo + 5) := by rw [o6.2.2.2.1, q_L_setI, o5.2.2.2.1, q_L_setI, o4.2.2.2.1, q_L_setI, o3.2.2.2.1, q_L_setI, eA2, q_L_setI, o1.2.2.2.1]
    have dn := d4 n (by omega) c8
    refine k0 _ t5 rfl A6 f6 ⟨b6, g6, ⟨d1.addS en c8 v1 v2 v3 v4 dn.1 dn.2 E7, d2.addS en c8 v1 v2 v3 v4 E3, ?_, fun s hs hs8 => ?_, fun y hy hy4 => ?_⟩, f6.rg rg⟩
    · rw [E5]
      intro y hy
      have e8 : o_addS S v1 v2 v3 v4 8 2 0 = S 8 2 0 := rfl
      rw [e8] at hy
      have e11 : o_addS S v1 v2 v3 v4 11 y 0 = S 11 y 0 := rfl
      rw [e11]
      exact d3 y hy
    · have e8 : o_addS S v1 v2 v3 v4 8 1 0 = n + 1 := by rw [en]; rfl
      rw [e8] at hs
      have := d4 s (by omega) hs8
      refine ⟨by rw [E7, if_neg (by omega)]; exact this.1, fun j hj => by rw [E7, if_neg (by omega)]; exact this.2 j hj⟩
    · have e8 : o_addS S v1 v2 v3 v4 8 2 0 = S 8 2 0 := rfl
      rw [e8] at hy
      rw [E7, if_neg (by omega)]
      exact d5 y hy hy4
theorem M_readsSetting {f : Bool → q_H → Prop} (h : Dk A mo N T t S)
    (k0 : ∀ S' t', p_setting T N S t = .ok (S', t') → ∀ A', df A A' mo → Dk A' mo N T t' S' → f true A') (k1 : ∀ c, p_setting T N S t = .error c → ∀ A', df A A' mo → er A' mo c → f false A') : q_Wc G M_X11_readsSetting [.ref mo] A (q_KB f) X := by
  obtain ⟨b, g, d, rg⟩ := id h
  obtain ⟨d1, d2, d3, d4, d5⟩ := id d
  unfold p_setting at k0 k1
  refine f_X11_readsSetting ⟨b.1.z, M_go b g.2.2.2.2.2.1 g.2.2.1 fun A1 o1 b1 g1 => ⟨b1.1.z, _, b1.1.r20, ?_⟩⟩
  refine M_reads (j := 0) b1 g1 b1.1.z11 (by decide) (by decide) (Or.inr (Or.inr rfl)) (by decide) (by decide) (fun v1 t2 p1 A2 o2 b2 g2 => ⟨fun _ => ⟨b2.1.z, _, b2.1.r20, 1, b2.1.z11, by decide, by decide, _, b2.1.r7, _, b2.1.r1, 24, b2.1.z1, by decide, ?_⟩, fun e => (by cases e)⟩) (fun c p1 A2 o2 r2 => ⟨fun e => (by cases e), fun _ => k1 c (by simp only [p1]) A2 (o1.df.t o2.df) r2⟩)
  have f2 : df A A2 mo := (o1.df.set (Or.inr (Or.inr (Or.inl rfl)))).t o2.df
  have hv1 := num_ok p1
  have e11 : q_I A2 (mo + 11) 0 = nI v1 := by rw [o2.row (by omega), I_set_s]
  have rg2 := f2.rg rg v1 (by omega)
  have hsh := hi_le v1
  rw [e11, pk_mul, nI_add]
  refine ⟨3 * v1, rfl, by omega, 3 * v1 + 1, rfl, by omega, ?_⟩
  rw [rg2.1, rg2.2]
  simp only [p1] at k0 k1
  refine M_reads b2 g2 b2.1.z7 (by decide) (by omega) (Or.inr (Or.inl rfl)) (by omega) (by omega) (fun v2 t3 p2 A3 o3 b3 g3 => ?_) (fun c p2 A3 o3 r3 => k1 c (by simp only [p2]) A3 (f2.t o3.df) r3)
  have f3 : df A A3 mo := (f2.set (Or.inr (Or.inl rfl))).t o3.df
  simp only [p2] at k0 k1
  have E7 : ∀ x, q_I A3 (mo + 7) x = if x = v1 then nI v2 else q_I A (mo + 7) x := fun x => by
    rw [o3.row (by omega), ix_set, o2.row (by omega), row_set (by omega), o1.row (by omega)]
  have E3 : q_I A3 (mo + 3) = q_I A (mo + 3) := by
    rw [o3.row (by omega), row_set (by omega), o2.row (by omega), row_set (by omega), o1.row (by omega)]
  have E5 : q_L A3 (mo + 5) = q_L A (mo + 5) := by rw [o3.2.2.2.1, q_L_setI, o2.2.2.2.1, q_L_setI, o1.2.2.2.1]
  have ct : s_ct S (s_p S 1 v1 0 v2) := ct_p (by decide)
  refine k0 _ t3 rfl A3 f3 ⟨b3, g3, ⟨d1.put (t := 1) (i := v1) (j := 0) v2 (by unfold dR0; omega) (fun e => absurd e (by decide)) E7, by rw [E3]; exact d2.ct ct, by rw [E5]; exact d3.ct ct, fun s hs hs8 => ?_, fun y hy hy4 => ?_⟩, f3.rg rg⟩
  · have := d4 s hs hs8
    exact ⟨by rw [E7, if_neg (by omega)]; exact this.1, fun j hj => by rw [E7, if_neg (by omega)]; exact this.2 j hj⟩
  · rw [E7, if_neg (by omega)]; exact d5 y hy hy4
end SD

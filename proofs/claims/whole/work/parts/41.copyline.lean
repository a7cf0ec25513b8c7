/-! Line.copyFrom -/
section CPL
variable {G : q_G} {X : String → q_H → Prop} {A0 A : q_H} {t o : l_T} {S : s_T} {H : Nat → Prop} {D : Nat → Nat → Nat → Prop} {Q : Nat → Prop}
theorem Lk.c (h : Lk A0 A t S H D Q) {a b c : Nat} (d : D a b c) : q_I A (ca t a b) (cf a b c) = nI (S a b c) := (h.2.2.2.2.1 a b c d).2
theorem Lk.rowS (h : Lk A0 A t S H D Q) {g : Nat → Int32} (hg : ∀ j, j < 8 → g j = nI (S 1 j 0)) : Lk A0 (q_rowI A (l_a t + 1) g) t S H (fun a b c => D a b c ∨ (a = 1 ∧ b < 8 ∧ c = 0)) Q := by
  have d1 : dm0 1 0 0 := by unfold dm0; omega
  have e1 : ca t 1 0 = l_a t + 1 := rfl
  refine ⟨h.1, h.2.1.to rfl rfl, h.2.2.1.rowI (by omega) (by omega), fun x q => ?_, fun t' i' j' q => ?_, fun s q => ?_⟩
  · have a := h.2.2.2.1 x q
    have hn := ca_ha t h.1 d1 a.1
    exact ⟨a.1, fun m hm => by rw [I_row (by omega)]; exact a.2.1 m hm, by rw [I_row (by omega)]; exact a.2.2⟩
  · by_cases c : t' = 1 ∧ i' < 8 ∧ j' = 0
    · obtain ⟨rfl, hi, rfl⟩ := c
      have e2 : ca t 1 i' = l_a t + 1 := rfl
      have e3 : cf 1 i' 0 = i' := rfl
      rw [e2, e3, I_row_s]
      exact ⟨by unfold dm0; omega, hg i' hi⟩
    · have a := h.2.2.2.2.1 t' i' j' (q.resolve_right c)
      have hne : ca t t' i' ≠ l_a t + 1 := by
        have hw := h.1.2.2.2.2
        have a1 := a.1
        rcases ca_cases t h.1 a1 with q | q | q | q | q | q | ⟨-, -, -, ⟨x, hx, q, -⟩, -⟩ | q | q | q | q | q <;> omega
      exact ⟨a.1, by rw [I_row hne]; exact a.2⟩
  · have a := h.2.2.2.2.2 s q
    refine ⟨fun h8 h0 => ?_, fun h8 => ?_⟩
    · have hn := ca_sl t h.1 d1 h8
      rw [I_row (by omega)]; exact a.1 h8 h0
    · rw [I_row (by omega)]; exact a.2 h8
theorem w_hopper {f : q_H → Prop} (j : Lj A0 t o S) (hf : l_f t = 0) (k : ∀ A', Lk A0 A' t S (fun z => H z ∨ (19 ≤ z ∧ z < 19 + S 2 10 0)) (fun a b c => D a b c ∨ (a = 2 ∧ b = 10 ∧ c = 0) ∨ (a = 3 ∧ b < S 2 10 0 ∧ c = 0)) (fun z => Q z ∨ z = 8) → f A') :
    ∀ (d i : Nat) (A : q_H), i + d = S 2 10 0 → Lk A0 A t S (fun z => H z ∨ (19 ≤ z ∧ z < 19 + i)) (fun a b c => D a b c ∨ (a = 2 ∧ b = 10 ∧ c = 0) ∨ (a = 3 ∧ b < i ∧ c = 0)) (fun z => Q z ∨ z = 8) → q_Wp G M_X3_copyFrom (q_KV f) X 0 0 15 [some (.ref (l_a t + 4)), some (.ref (l_a o + 4)), some (.int (nI i))] [] A
  | 0, i, A, e, h => by
    have p := j.p h
    have hb := p.b
    unfold Lb at hb
    have ei : i = S 2 10 0 := by omega
    subst ei
    have hs : q_I A (l_a t + 4) 2 = nI (S 2 10 0) := h.c (Or.inr (Or.inl ⟨rfl, rfl, rfl⟩))
    refine f_X3_copyFrom_15 ⟨h.z.z4, ?_⟩
    rw [hs]
    exact ⟨fun _ => k _ h, fun c => absurd (nI_le (Nat.le_refl _) (by omega)) c⟩
  | d + 1, i, A, e, h => by
    have p := j.p h
    have hb := p.b
    unfold Lb at hb
    have hw := p.w.2.2.2.2
    have hs : q_I A (l_a t + 4) 2 = nI (S 2 10 0) := h.c (Or.inr (Or.inl ⟨rfl, rfl, rfl⟩))
    have ept : l_a t + 6 + 3 * i = pa t i := by unfold pa; rw [hf]; omega
    refine f_X3_copyFrom_15 ⟨h.z.z4, ?_⟩
    rw [hs]
    refine ⟨fun c => absurd c (nI_ge (by omega) (by omega)), fun _ => ⟨_, h.z.r40, 30, h.z.z5, by decide, i, rfl, by omega, _, h.z.rp (i := i) (by omega), p.z4, _, p.r40, 30, p.z5, by decide, (l_f o + i) % 30, by rw [p.fs, rem30 (by omega) (by omega)], by omega, _, p.rpk i, ?_⟩⟩
    rw [ept]
    refine ⟨h.z.zp i, K_par h j (by omega) fun A1 h1 => ?_⟩
    rw [nI_add]
    refine w_hopper j hf k d (i + 1) A1 (by omega) (h1.mono (fun z q => ?_) (fun a b c q => ?_) (fun z q => q))
    · by_cases c : z = 19 + i
      · exact Or.inr c
      · exact Or.inl (q.imp_right fun q => by omega)
    · rcases q with q | ⟨rfl, rfl, rfl⟩ | ⟨rfl, q, rfl⟩
      · simp [q]
      · simp
      · simp; omega
theorem K_hopper {f : q_H → Prop} (h : Lk A0 A t S H D Q) (j : Lj A0 t o S) (hf : l_f t = 0) (k : ∀ A', Lk A0 A' t S (fun z => H z ∨ (19 ≤ z ∧ z < 19 + S 2 10 0)) (fun a b c => D a b c ∨ (a = 2 ∧ b = 10 ∧ c = 0) ∨ (a = 3 ∧ b < S 2 10 0 ∧ c = 0)) (fun z => Q z ∨ z = 8) → f A') : q_Wc G M_X3_copyFrom [.ref (l_a t + 4), .ref (l_a o + 4)] A (q_KV f) X := by
  have p := j.p h
  have dj := j.2.1
  refine f_X3_copyFrom ⟨h.z.z4, p.z4, ?_⟩
  have h1 := h.first
  rw [hf] at h1
  have p1 := j.p h1
  rw [p1.wait]
  have h2 := h1.put (t := 2) (i := 10) (j := 0) (by unfold dm0; omega)
  refine w_hopper j hf k (S 2 10 0) 0 _ (by omega) (h2.mono (fun z q => q.elim id fun q => by omega) (fun a b c q => q.imp_right fun q => q.elim id fun q => by omega) (fun z q => q))
theorem w_stock {f : q_H → Prop} (j : Lj A0 t o S) (k : ∀ A', Lk A0 A' t S (fun z => H z ∨ (49 ≤ z ∧ z < 49 + S 2 11 0)) (fun a b c => D a b c ∨ (a = 2 ∧ b = 11 ∧ c = 0) ∨ (a = 6 ∧ b < S 2 11 0 ∧ c < 4)) Q → f A') :
    ∀ (d i : Nat) (A : q_H), i + d = S 2 11 0 → Lk A0 A t S (fun z => H z ∨ (49 ≤ z ∧ z < 49 + i)) (fun a b c => D a b c ∨ (a = 2 ∧ b = 11 ∧ c = 0) ∨ (a = 6 ∧ b < i ∧ c < 4)) Q → q_Wp G M_X7_copyFrom (q_KV f) X 0 0 10 [some (.ref (l_a t + 96)), some (.ref (l_a o + 96)), some (.int (nI i))] [] A
  | 0, i, A, e, h => by
    have p := j.p h
    have hb := p.b
    unfold Lb at hb
    have ei : i = S 2 11 0 := by omega
    subst ei
    have hs : q_I A (l_a t + 96) 1 = nI (S 2 11 0) := h.c (Or.inr (Or.inl ⟨rfl, rfl, rfl⟩))
    refine f_X7_copyFrom_10 ⟨h.z.z96, ?_⟩
    rw [hs]
    exact ⟨fun _ => k _ h, fun c => absurd (nI_le (Nat.le_refl _) (by omega)) c⟩
  | d + 1, i, A, e, h => by
    have p := j.p h
    have hb := p.b
    unfold Lb at hb
    have hs : q_I A (l_a t + 96) 1 = nI (S 2 11 0) := h.c (Or.inr (Or.inl ⟨rfl, rfl, rfl⟩))
    have zt : q_sh A (l_b t i) = (1, 0) := (h.z.kb (b := i) (by omega)).1
    refine f_X7_copyFrom_10 ⟨h.z.z96, ?_⟩
    rw [hs]
    refine ⟨fun c => absurd c (nI_ge (by omega) (by omega)), fun _ => ⟨_, h.z.r960, 40, h.z.z97, by decide, i, rfl, by omega, _, h.z.rk (b := i) (by omega), p.z96, _, p.r960, 40, p.z97, by decide, by omega, _, p.rk (by omega), zt, K_bale h j (by omega) fun A1 h1 => ?_⟩⟩
    rw [nI_add]
    refine w_stock j k d (i + 1) A1 (by omega) (h1.mono (fun z q => ?_) (fun a b c q => ?_) (fun z q => q))
    · by_cases c : z = 49 + i
      · exact Or.inr c
      · exact Or.inl (q.imp_right fun q => by omega)
    · rcases q with q | ⟨rfl, rfl, rfl⟩ | ⟨rfl, q, q2⟩
      · simp [q]
      · simp
      · simp; omega
theorem K_stock {f : q_H → Prop} (h : Lk A0 A t S H D Q) (j : Lj A0 t o S) (k : ∀ A', Lk A0 A' t S (fun z => H z ∨ (49 ≤ z ∧ z < 49 + S 2 11 0)) (fun a b c => D a b c ∨ (a = 2 ∧ b = 11 ∧ c = 0) ∨ (a = 6 ∧ b < S 2 11 0 ∧ c < 4)) Q → f A') : q_Wc G M_X7_copyFrom [.ref (l_a t + 96), .ref (l_a o + 96)] A (q_KV f) X := by
  have p := j.p h
  refine f_X7_copyFrom ⟨p.z96, h.z.z96, ?_⟩
  rw [p.stock]
  have h2 := h.put (t := 2) (i := 11) (j := 0) (by unfold dm0; omega)
  refine w_stock j k (S 2 11 0) 0 _ (by omega) (h2.mono (fun z q => q.elim id fun q => by omega) (fun a b c q => q.imp_right fun q => q.elim id fun q => by omega) (fun z q => q))
/-- after the stations -/
theorem w_copyB {f : q_H → Prop} (j : Lj A0 t o S) (hf : l_f t = 0) (k : ∀ A', fr A0 A' (l_a t) 277 → Lr A' t S → f A') :
    ∀ (d i : Nat) (A : q_H), i + d = S 8 2 0 → Lk A0 A t S (fun z => (3 ≤ z ∧ z < 3 + S 8 1 0) ∨ (11 ≤ z ∧ z < 11 + S 8 1 0)) (fun a b c => (a = 8 ∧ b < 3 ∧ c = 0) ∨ (a = 1 ∧ b < 8 ∧ c = 0) ∨ (a = 9 ∧ b < S 8 1 0 ∧ c < 3) ∨ (a = 5 ∧ b < S 8 1 0 ∧ c < 4) ∨ (a = 7 ∧ b < i ∧ c = 0) ∨ (a = 10 ∧ b < i ∧ c < 5) ∨ (a = 11 ∧ b < i ∧ c = 0)) (fun z => z < S 8 1 0) → q_Wp G M_X4_copyFrom (q_KV f) X 0 0 75 [some (.ref (l_a t)), some (.ref (l_a o)), some (.int (nI i))] [] A
  | 0, i, A, e, h => by
    have p := j.p h
    have hb := p.b
    unfold Lb at hb
    have ei : i = S 8 2 0 := by omega
    subst ei
    have hs : q_I A (l_a t) 5 = nI (S 8 2 0) := h.c (a := 8) (b := 2) (c := 0) (Or.inl ⟨rfl, by decide, rfl⟩)
    refine f_X4_copyFrom_75 ⟨h.z.line, ?_⟩
    rw [hs]
    refine ⟨fun _ => ⟨_, h.z.r6, p.line, _, p.r6, h.z.z4, K_hopper h j hf fun A1 h1 => ?_⟩, fun c => absurd (nI_le (Nat.le_refl _) (by omega)) c⟩
    have p1 := j.p h1
    refine ⟨h1.z.line, _, h1.z.r7, p1.line, _, p1.r7, h1.z.z96, K_stock h1 j fun A2 h2 => ?_⟩
    have p2 := j.p h2
    refine ⟨h2.z.line, _, h2.z.r8, p2.line, _, p2.r8, h2.z.k218.1, K_copyHo (x := 0) h2 j (Or.inl (by decide)) fun A3 h3 => ?_⟩
    have p3 := j.p h3
    refine ⟨h3.z.line, _, h3.z.r10, p3.line, _, p3.r10, h3.z.k221.1, K_copyHo (x := 1) h3 j (Or.inl (by decide)) fun A4 h4 => ?_⟩
    have p4 := j.p h4
    refine ⟨h4.z.line, _, h4.z.r11, p4.line, _, p4.r11, h4.z.k223.1, K_copyHo (x := 2) h4 j (Or.inl (by decide)) fun A5 h5 => ?_⟩
    have p5 := j.p h5
    refine ⟨h5.z.line, _, h5.z.r9, p5.line, _, p5.r9, h5.z.z220, K_tally h5 j fun A6 h6 => ?_⟩
    refine k A6 h6.2.2.1 (h6.done p.b (fun z q => ?_) (fun a b c q => ?_) (fun z q => ?_))
    · unfold lv at q
      rcases q with q | q | q | q | q
      · have : z = 0 ∨ z = 1 ∨ z = 2 := by omega
        rcases this with e | e | e <;> simp [e]
      · simp [q]
      · simp [q]
      · simp [q]
      · simp [q]
    · obtain ⟨q1, q2, q3, q4, q5⟩ := q
      rcases q1 with ⟨rfl, hi, hj⟩ | ⟨rfl, hi, hj⟩ | ⟨rfl, hi, hj⟩ | ⟨rfl, hi, hj⟩ | ⟨rfl, hi, hj⟩ | ⟨rfl, hi, hj⟩ | ⟨rfl, hi, hj⟩ | ⟨rfl, hi, hj⟩ | ⟨rfl, hi, hj⟩ | ⟨rfl, hi, hj⟩ <;> simp at q2 q3 q4 q5 ⊢ <;> omega
    · rcases q with q | q
      · simp [q]
      · simp [q]
  | d + 1, i, A, e, h => by
    have p := j.p h
    have hb := p.b
    unfold Lb at hb
    have hs : q_I A (l_a t) 5 = nI (S 8 2 0) := h.c (a := 8) (b := 2) (c := 0) (Or.inl ⟨rfl, by decide, rfl⟩)
    refine f_X4_copyFrom_75 ⟨h.z.line, ?_⟩
    rw [hs]
    refine ⟨fun c => absurd c (nI_ge (by omega) (by omega)), fun _ => ⟨_, h.z.r4, 4, h.z.z3, by decide, i, rfl, by omega, _, h.z.rb (b := i) (by omega), p.line, _, p.r4, 4, p.z3, by decide, by omega, _, p.rb (by omega), h.z.zb (b := i) (by omega), K_buyer h j (by omega) fun A1 h1 => ?_⟩⟩
    rw [nI_add]
    exact w_copyB j hf k d (i + 1) A1 (by omega) (h1.mono (fun z q => q) (fun a b c q => by rcases q with ⟨rfl, h1, h2⟩ | ⟨rfl, h1, h2⟩ | ⟨rfl, h1, h2⟩ | ⟨rfl, h1, h2⟩ | ⟨rfl, h1, h2⟩ | ⟨rfl, h1, h2⟩ | ⟨rfl, h1, h2⟩ <;> simp <;> omega) (fun z q => q))
theorem w_copyS {f : q_H → Prop} (j : Lj A0 t o S) (hf : l_f t = 0) (k : ∀ A', fr A0 A' (l_a t) 277 → Lr A' t S → f A') :
    ∀ (d i : Nat) (A : q_H), i + d = S 8 1 0 → Lk A0 A t S (fun z => (3 ≤ z ∧ z < 3 + i) ∨ (11 ≤ z ∧ z < 11 + i)) (fun a b c => (a = 8 ∧ b < 2 ∧ c = 0) ∨ (a = 1 ∧ b < 8 ∧ c = 0) ∨ (a = 9 ∧ b < i ∧ c < 3) ∨ (a = 5 ∧ b < i ∧ c < 4)) (fun z => z < i) → q_Wp G M_X4_copyFrom (q_KV f) X 0 0 36 [some (.ref (l_a t)), some (.ref (l_a o)), some (.int (nI i))] [] A
  | 0, i, A, e, h => by
    have p := j.p h
    have hb := p.b
    unfold Lb at hb
    have ei : i = S 8 1 0 := by omega
    subst ei
    have hs : q_I A (l_a t) 3 = nI (S 8 1 0) := h.c (a := 8) (b := 1) (c := 0) (Or.inl ⟨rfl, by decide, rfl⟩)
    refine f_X4_copyFrom_36 ⟨h.z.line, ?_⟩
    rw [hs, p.nby]
    refine ⟨fun _ => ⟨p.line, ?_⟩, fun c => absurd (nI_le (Nat.le_refl _) (by omega)) c⟩
    have h1 := h.put (t := 8) (i := 2) (j := 0) (by unfold dm0; omega)
    exact w_copyB j hf k (S 8 2 0) 0 _ (by omega) (h1.mono (fun z q => q) (fun a b c q => by rcases q with ⟨rfl, h1, h2⟩ | ⟨rfl, h1, h2⟩ | ⟨rfl, h1, h2⟩ | ⟨rfl, h1, h2⟩ | ⟨rfl, h1, h2⟩ | ⟨rfl, h1, h2⟩ | ⟨rfl, h1, h2⟩ <;> simp <;> omega) (fun z q => q))
  | d + 1, i, A, e, h => by
    have p := j.p h
    have hb := p.b
    unfold Lb at hb
    have hs : q_I A (l_a t) 3 = nI (S 8 1 0) := h.c (a := 8) (b := 1) (c := 0) (Or.inl ⟨rfl, by decide, rfl⟩)
    refine f_X4_copyFrom_36 ⟨h.z.line, ?_⟩
    rw [hs]
    refine ⟨fun c => absurd c (nI_ge (by omega) (by omega)), fun _ => ⟨_, h.z.r2, 8, h.z.z2, by decide, i, rfl, by omega, _, h.z.rs (s := i) (by omega), p.line, _, p.r2, 8, p.z2, by decide, by omega, _, p.rs (by omega), h.z.zs (s := i) (by omega), K_station h j (by omega) fun A1 h1 => ?_⟩⟩
    rw [nI_add]
    exact w_copyS j hf k d (i + 1) A1 (by omega) (h1.mono (fun z q => by omega) (fun a b c q => by rcases q with ⟨rfl, h1, h2⟩ | ⟨rfl, h1, h2⟩ | ⟨rfl, h1, h2⟩ | ⟨rfl, h1, h2⟩ <;> simp <;> omega) (fun z q => by omega))
/-- a line becomes as another one -/
theorem L_copyFrom {f : q_H → Prop} (w : Lw t) (s : Ls A t) (j : Lj A t o S) (k : ∀ A', fr A A' (l_a t) 277 → Lr A' (l_a t, l_s t, l_b t, 0) S → f A') : q_Wc G M_X4_copyFrom [.ref (l_a t), .ref (l_a o)] A (q_KV f) X := by
  obtain ⟨t', et⟩ : ∃ t' : l_T, t' = (l_a t, l_s t, l_b t, 0) := ⟨_, rfl⟩
  have ea : l_a t' = l_a t := by rw [et]; rfl
  have hf : l_f t' = 0 := by rw [et]; rfl
  have w' : Lw t' := by rw [et]; exact ⟨w.1, w.2.1, w.2.2.1, w.2.2.2.1, (by omega : (0 : Nat) < 30)⟩
  have s' : Ls A t' := by rw [et]; exact s
  rw [← et, ← ea] at k
  rw [← ea]
  have j' : Lj A t' o S := ⟨j.1, by rw [ea]; exact j.2.1, j.2.2⟩
  have h0 : Lk A A t' S (fun _ => False) (fun _ _ _ => False) (fun _ => False) := ⟨w', s', fr.r _ _ _, fun _ q => q.elim, fun _ _ _ q => q.elim, fun _ q => q.elim⟩
  have p := j'.p h0
  have dj := j'.2.1
  have n1 : l_a o + 1 ≠ l_a t' := by omega
  refine f_X4_copyFrom ⟨p.line, h0.z.line, _, p.r1, _, h0.z.r1, 8, h0.z.z1, by decide, 8, p.z1, by decide, by decide, by decide, fun A15 e15 => ?_⟩
  rw [I_row (b := l_a o) (by omega), I_set (b := l_a o) (Or.inl (by omega)), p.mats, p.nst] at e15
  have h1 := h0.put (t := 8) (i := 0) (j := 0) (by unfold dm0; omega)
  have h2 := h1.rowS (g := fun j => if j < 8 then q_I (q_setI A (l_a t') 0 (nI (S 8 0 0))) (l_a o + 1) j else q_I (q_setI A (l_a t') 0 (nI (S 8 0 0))) (l_a t' + 1) j) (fun j hj => by
    show (if j < 8 then _ else _) = _
    rw [if_pos hj, I_set (Or.inl n1)]
    exact p.set hj)
  have h3 := h2.put (t := 8) (i := 1) (j := 0) (by unfold dm0; omega)
  have h3' := h3.to (A' := A15) e15
  exact w_copyS j' hf k (S 8 1 0) 0 A15 (by omega) (h3'.mono (fun z q => by omega) (fun a b c q => by rcases q with ⟨rfl, h1, h2⟩ | ⟨rfl, h1, h2⟩ | ⟨rfl, h1, h2⟩ | ⟨rfl, h1, h2⟩ <;> simp <;> omega) (fun z q => by omega))
end CPL

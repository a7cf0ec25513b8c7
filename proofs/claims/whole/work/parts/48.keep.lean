/-! THE OBJECT KEEPS LINES: remember, the spare -/
def hp (S : s_T) (h : Nat → s_T) : Nat → s_T := fun i => if i = 0 then S else h (i - 1)
section KP
variable {G : q_G} {X : String → q_H → Prop} {A0 A A' : q_H} {rl m W : Nat} {L : L_T} {S S' : s_T} {h : Nat → s_T} {n x len : Nat} {T : Nat → Int32}
theorem Rc.t (r : Rc A0 A rl m W L S h n x len T) : ∃ t, L 0 = some t ∧ Lr A t S ∧ q_sh A rl = (11, 0) ∧ q_R A rl 2 = some (l_a t) ∧ Lp A A t S ∧ Rq rl m W (q_sz A) t := by
  obtain ⟨t, e, ht⟩ := r.2.1.1
  refine ⟨t, e, ht, r.1.1.1, ?_, ⟨ht, fr.r _ _ _⟩, (r.1.line (by decide) e).2⟩
  rw [r.1.2.1.1]
  unfold L_at
  rw [e]; rfl
/-- the present line goes on -/
theorem Rc.cur (r : Rc A0 A rl m W L S h n x len T) {t t' : l_T} (e : L 0 = some t) (ea : l_a t' = l_a t) (p : Lp A A' t' S') : Rc A0 A' rl m W (L_up L 0 t') S' h n x len T := by
  obtain ⟨r1, r2, r3, r4, r5⟩ := r
  have f := p.2
  rw [ea] at f
  obtain ⟨w1, w2, w3⟩ := r1.write (by decide) e ea f p.1.g
  have c0 := w3 rl (Or.inl rfl)
  have c1 := w3 (rl + 1) (Or.inr (Or.inl rfl))
  refine ⟨w1, ⟨⟨t', L_up_s _ _ _, p.1⟩, fun i hi => ?_⟩, ?_, ?_, Nat.le_trans r5.1 f.1, fun y h1 h2 => (r5.2 y h1 h2).t (w3 y (Or.inr (Or.inr (Or.inr ⟨h1, h2⟩))))⟩
  · obtain ⟨u, eu, hu⟩ := r2.2 i hi
    exact ⟨u, by rw [L_up_n (by omega)]; exact eu, w2 _ u (by omega) (by omega) eu _ hu⟩
  · unfold Rn at r3 ⊢
    rw [c0.2.1]; exact r3
  · unfold Rt at r4 ⊢
    rw [c0.2.1, c1.2.1]; exact r4
theorem Rg.up (r : Rg A rl m W L) {k : Nat} {t t' : l_T} (hk : k < 8) (hN : L k = none) (hz : q_sz A' = q_sz A + 277) (et : l_a t' = q_sz A) (hs : ∀ y, y < q_sz A → y ≠ rl → y ≠ rl + 279 → q_same A A' y) (h0 : q_sh A' rl = q_sh A rl ∧ q_R A' rl 0 = q_R A rl 0 ∧ q_R A' rl 4 = q_R A rl 4) (h2 : q_sh A' (rl + 279) = q_sh A (rl + 279)) (hp : Rp A' rl (L_up L k t')) (g : Lg A' t') : Rg A' rl m W (L_up L k t') ∧ ∀ j u, j < 8 → L j = some u → ∀ S, Lr A u S → Lr A' u S := by
  obtain ⟨r1, r2, r3, r4, r5⟩ := r
  have ss : ∀ j u, j < 8 → L j = some u → ∀ y, l_a u ≤ y → y < l_a u + 277 → q_same A A' y := fun j u hj ej y h1 h2 => by
    have q := (r4 j u hj ej).2
    unfold Rq at q
    exact hs y (by omega) (by omega) (by omega)
  unfold Rz at r3
  have c1 := hs (rl + 1) (by omega) (by omega) (by omega)
  refine ⟨⟨⟨h0.1.trans r1.1, h0.2.1.trans r1.2.1, c1.1.trans r1.2.2.1, h0.2.2.trans r1.2.2.2.1, h2.trans r1.2.2.2.2⟩, hp, by unfold Rz; omega, fun j u hj ej => ?_, fun i j t1 t2 hi hj hij e1 e2 => ?_⟩, fun j u hj ej S' hS => hS.sm (ss j u hj ej)⟩
  · by_cases c : j = k
    · rw [c, L_up_s] at ej
      cases ej
      refine ⟨g, ?_⟩
      unfold Rq
      omega
    · rw [L_up_n c] at ej
      have a := r4 j u hj ej
      exact ⟨a.1.sm (ss j u hj ej), a.2.mono (by omega)⟩
  · by_cases ci : i = k
    · rw [ci, L_up_s] at e1
      cases e1
      rw [L_up_n (by omega)] at e2
      have q := (r4 j t2 hj e2).2
      unfold Rq at q
      omega
    · rw [L_up_n ci] at e1
      by_cases cj : j = k
      · rw [cj, L_up_s] at e2
        cases e2
        have q := (r4 i t1 hi e1).2
        unfold Rq at q
        omega
      · rw [L_up_n cj] at e2
        exact r5 i j t1 t2 hi hj hij e1 e2
/-- the spare, a new one if there is none -/
theorem C_spareLine {f : Option Nat → q_H → Prop} (r : Rc A0 A rl m W L S h n x len T) (k : ∀ A' L' t, Rc A0 A' rl m W L' S h n x len T → L' 0 = L 0 → L' 1 = some t → f (some (l_a t)) A') : q_Wc G M_X10_spareLine [.ref rl] A (q_KR f) X := by
  have r3 : q_R A rl 3 = L_at L 1 := r.1.2.1.2.1
  refine f_X10_spareLine ⟨r.1.1.1, fun c => ?_, fun a ha => ?_⟩
  · have hN : L 1 = none := by
      rw [r3] at c
      unfold L_at at c
      cases e : L 1 with
      | none => rfl
      | some t => rw [e] at c; cases c
    refine N_line rfl fun A5 g5 => ?_
    obtain ⟨n5, w5, s5, i5⟩ := g5.g
    have hz := r.1.2.2.1
    unfold Rz at hz
    have c0 := n5.2 rl (by omega)
    have c1 := n5.2 (rl + 1) (by omega)
    have c2 := n5.2 (rl + 279) (by omega)
    refine ⟨c0.1.trans r.1.1.1, fun e => (by rw [R_set_s] at e; cases e), fun r9 e => ?_⟩
    rw [R_set_s] at e
    cases e
    have hg : Lg (q_setR A5 rl 3 (some (q_sz A))) (l_new (q_sz A)) := ⟨w5, s5.sm (fun y h1 h2 => by
      have h1' : q_sz A ≤ y := h1
      exact (q_same.r A5 y).setR (by omega)), i5⟩
    obtain ⟨u1, u2⟩ := r.1.up (A' := q_setR A5 rl 3 (some (q_sz A))) (k := 1) (t := l_new 0) (t' := l_new (q_sz A)) (by decide) hN n5.1 rfl (fun y h1 h2 h3 => (n5.2 y h1).setR h2) ⟨c0.1, by rw [R_set (Or.inr (by decide)), c0.2.2.1], by rw [R_set (Or.inr (by decide)), c0.2.2.1]⟩ c2.1 (by
      obtain ⟨p1, p2, p3⟩ := r.1.2.1
      refine ⟨?_, ?_, fun i hi => ?_⟩
      · rw [R_set (Or.inr (by decide)), c0.2.2.1, p1]
        unfold L_at
        rw [L_up_n (by decide)]
      · rw [R_set_s]
        unfold L_at
        rw [L_up_s]; rfl
      · rw [R_set (Or.inl (by omega)), c2.2.2.1, p3 i hi]
        unfold L_at
        rw [L_up_n (by omega)]) hg
    refine k _ (L_up L 1 (l_new (q_sz A))) (l_new (q_sz A)) ⟨u1, ⟨?_, fun i hi => ?_⟩, ?_, ?_, ?_, fun y h1 h2 => ?_⟩ (L_up_n (by decide)) (L_up_s _ _ _)
    · obtain ⟨t, et, ht⟩ := r.2.1.1
      exact ⟨t, by rw [L_up_n (by decide)]; exact et, u2 0 t (by decide) et _ ht⟩
    · obtain ⟨t, et, ht⟩ := r.2.1.2 i hi
      exact ⟨t, by rw [L_up_n (by omega)]; exact et, u2 _ t (by omega) et _ ht⟩
    · have := r.2.2.1
      unfold Rn at this ⊢
      show q_I A5 rl 5 = _ ∧ _ ∧ q_I A5 rl 6 = _ ∧ _
      rw [c0.2.1]; exact this
    · have := r.2.2.2.1
      unfold Rt at this ⊢
      show q_I A5 rl 1 = _ ∧ _ ∧ ∀ j, j < len → q_I A5 (rl + 1) j = _
      rw [c0.2.1, c1.2.1]; exact this
    · have := r.2.2.2.2.1
      show q_sz A0 ≤ q_sz A5
      rw [n5.1]; omega
    · exact (r.2.2.2.2.2 y h1 h2).t ((n5.2 y (by omega)).setR (by omega))
  · refine ⟨fun c => (by rw [ha] at c; cases c), fun r11 e => ?_⟩
    rw [r3] at e
    unfold L_at at e
    cases e1 : L 1 with
    | none => rw [e1] at e; cases e
    | some t =>
      rw [e1] at e
      cases e
      exact k A L t r rfl e1
/-- the spare becomes as the present line -/
theorem Rc.spare (r : Rc A0 A rl m W L S h n x len T) {t t' : l_T} (e : L 1 = some t) (ea : l_a t' = l_a t) (f : fr A A' (l_a t) 277) (g : Lg A' t') : Rc A0 A' rl m W (L_up L 1 t') S h n x len T := by
  obtain ⟨r1, r2, r3, r4, r5⟩ := r
  obtain ⟨w1, w2, w3⟩ := r1.write (by decide) e ea f g
  have c0 := w3 rl (Or.inl rfl)
  have c1 := w3 (rl + 1) (Or.inr (Or.inl rfl))
  refine ⟨w1, ⟨?_, fun i hi => ?_⟩, ?_, ?_, Nat.le_trans r5.1 f.1, fun y h1 h2 => (r5.2 y h1 h2).t (w3 y (Or.inr (Or.inr (Or.inr ⟨h1, h2⟩))))⟩
  · obtain ⟨u, eu, hu⟩ := r2.1
    exact ⟨u, by rw [L_up_n (by decide)]; exact eu, w2 _ u (by decide) (by decide) eu _ hu⟩
  · obtain ⟨u, eu, hu⟩ := r2.2 i hi
    exact ⟨u, by rw [L_up_n (by omega)]; exact eu, w2 _ u (by omega) (by omega) eu _ hu⟩
  · unfold Rn at r3 ⊢
    rw [c0.2.1]; exact r3
  · unfold Rt at r4 ⊢
    rw [c0.2.1, c1.2.1]; exact r4
theorem Rc.copy {f : q_H → Prop} (r : Rc A0 A rl m W L S h n x len T) {t u : l_T} (et : L 1 = some t) (eu : L 0 = some u) (k : ∀ A' t', l_a t' = l_a t → Rc A0 A' rl m W (L_up L 1 t') S h n x len T → Lr A' t' S → f A') : q_Wc G M_X4_copyFrom [.ref (l_a t), .ref (l_a u)] A (q_KV f) X := by
  obtain ⟨u', eu', hu⟩ := r.2.1.1
  rw [eu] at eu'
  cases eu'
  have g := r.1.line (by decide) et
  have gu := r.1.line (by decide) eu
  have dj := r.1.2.2.2.2 0 1 u t (by decide) (by decide) (by decide) eu et
  exact L_copyFrom g.1.1 g.1.2.1 ⟨hu, dj, gu.2.2.2.1⟩ fun A' f' l' => k A' (l_a t, l_s t, l_b t, 0) rfl (r.spare (t' := (l_a t, l_s t, l_b t, 0)) et rfl f' l'.g) l'
theorem C_copyOfLine {f : Option Nat → q_H → Prop} (r : Rc A0 A rl m W L S h n x len T) (k : ∀ A' L' t, Rc A0 A' rl m W L' S h n x len T → L' 0 = L 0 → L' 1 = some t → Lr A' t S → f (some (l_a t)) A') : q_Wc G M_X10_copyOfLine [.ref rl] A (q_KR f) X := by
  refine f_X10_copyOfLine ⟨r.1.1.1, C_spareLine r fun A1 L1 t1 r1 e0 e1 => ⟨_, rfl, r1.1.1.1, ?_⟩⟩
  obtain ⟨u, eu, hu, zu, ru, pu, qu⟩ := r1.t
  refine ⟨_, ru, (r1.1.line (by decide) e1).1.2.1.1.1.1, r1.copy e1 eu fun A8 t' et r8 l8 => ?_⟩
  have := k A8 (L_up L1 1 t') t' r8 (by rw [L_up_n (by decide)]; exact e0) (L_up_s _ _ _) l8
  rw [et] at this
  exact this
/-- Rc with only n0 of the n states before -/
def Rb (A0 A : q_H) (rl m W : Nat) (L : L_T) (S : s_T) (h : Nat → s_T) (n0 n x len : Nat) (T : Nat → Int32) : Prop := Rg A rl m W L ∧ Rs A L S h n0 x ∧ Rn A rl n x ∧ Rt A rl len T ∧ (q_sz A0 ≤ q_sz A ∧ ∀ y, m ≤ y → y < m + W → q_same A0 A y)
theorem Rb.put {n0 : Nat} (r : Rb A0 A rl m W L S h n0 n x len T) {k : Nat} {t t' : l_T} (hk : k < 8) (k0 : k ≠ 0) (hn : ∀ i, i < n0 → 2 + (x + 5 - i) % 6 ≠ k) (e : L k = some t) (ea : l_a t' = l_a t) (f : fr A A' (l_a t) 277) (g : Lg A' t') : Rb A0 A' rl m W (L_up L k t') S h n0 n x len T := by
  obtain ⟨r1, r2, r3, r4, r5⟩ := r
  obtain ⟨w1, w2, w3⟩ := r1.write hk e ea f g
  have c0 := w3 rl (Or.inl rfl)
  have c1 := w3 (rl + 1) (Or.inr (Or.inl rfl))
  refine ⟨w1, ⟨?_, fun i hi => ?_⟩, ?_, ?_, Nat.le_trans r5.1 f.1, fun y h1 h2 => (r5.2 y h1 h2).t (w3 y (Or.inr (Or.inr (Or.inr ⟨h1, h2⟩))))⟩
  · obtain ⟨u, eu, hu⟩ := r2.1
    exact ⟨u, by rw [L_up_n (Ne.symm k0)]; exact eu, w2 _ u (by decide) (Ne.symm k0) eu _ hu⟩
  · obtain ⟨u, eu, hu⟩ := r2.2 i hi
    exact ⟨u, by rw [L_up_n (hn i hi)]; exact eu, w2 _ u (by omega) (hn i hi) eu _ hu⟩
  · unfold Rn at r3 ⊢
    rw [c0.2.1]; exact r3
  · unfold Rt at r4 ⊢
    rw [c0.2.1, c1.2.1]; exact r4
theorem Rb.keep {f : q_H → Prop} {n0 : Nat} (r : Rb A0 A rl m W L S h n0 n x len T) (hx : x < 6) (hn : ∀ i, i < n0 → (x + 5 - i) % 6 ≠ x) {t u : l_T} (et : L (2 + x) = some t) (eu : L 0 = some u) (k : ∀ A' t', Rb A0 A' rl m W (L_up L (2 + x) t') S h n0 n x len T → Lr A' t' S → f A') : q_Wc G M_X4_copyFrom [.ref (l_a t), .ref (l_a u)] A (q_KV f) X := by
  obtain ⟨u', eu', hu⟩ := r.2.1.1
  rw [eu] at eu'
  cases eu'
  have g := r.1.line (k := 2 + x) (by omega) et
  have gu := r.1.line (by decide) eu
  have dj := r.1.2.2.2.2 0 (2 + x) u t (by decide) (by omega) (by omega) eu et
  exact L_copyFrom g.1.1 g.1.2.1 ⟨hu, dj, gu.2.2.2.1⟩ fun A' f' l' => k A' (l_a t, l_s t, l_b t, 0) (r.put (t' := (l_a t, l_s t, l_b t, 0)) (by omega) (by omega) (fun i hi => by have := hn i hi; omega) et rfl f' l'.g) l'
def mn6 (n : Nat) : Nat := if n < 6 then n + 1 else 6
/-- the counters go on -/
theorem Rb.push {n0 : Nat} (r : Rb A0 A rl m W L S h n0 n x len T) (hx : x < 6) (h0 : n0 = if n < 6 then n else 5) {t : l_T} (et : L (2 + x) = some t) (lt : Lr A t S) : Rc A0 (q_setI (q_setI A rl 6 (nI ((x + 1) % 6))) rl 5 (nI (mn6 n))) rl m W L S (hp S h) (mn6 n) ((x + 1) % 6) len T := by
  obtain ⟨r1, r2, r3, r4, r5⟩ := r
  have hz := r1.2.2.1
  unfold Rz at hz
  unfold Rn at r3
  obtain ⟨w1, w2⟩ := r1.sm (A' := q_setI (q_setI A rl 6 (nI ((x + 1) % 6))) rl 5 (nI (mn6 n))) (Nat.le_refl _) (fun y _ => ⟨rfl, rfl⟩) (fun y _ h1 _ _ _ => ((q_same.r A y).setI h1).setI h1)
  refine ⟨w1, ⟨?_, fun i hi => ?_⟩, ⟨I_set_s _ _ _ _, ?_, ?_, by omega⟩, ?_, r5.1, fun y h1 h2 => ((r5.2 y h1 h2).setI (by omega)).setI (by omega)⟩
  · obtain ⟨u, eu, hu⟩ := r2.1
    exact ⟨u, eu, w2 _ u (by decide) eu _ hu⟩
  · by_cases c : i = 0
    · subst c
      have e : 2 + ((x + 1) % 6 + 5 - 0) % 6 = 2 + x := by omega
      rw [e]
      exact ⟨t, et, w2 _ t (by omega) et _ lt⟩
    · have hi' : i - 1 < n0 := by
        unfold mn6 at hi
        split at hi <;> split at h0 <;> omega
      obtain ⟨u, eu, hu⟩ := r2.2 (i - 1) hi'
      have hn6 : n ≤ 6 := r3.2.1
      have e : 2 + ((x + 1) % 6 + 5 - i) % 6 = 2 + (x + 5 - (i - 1)) % 6 := by
        unfold mn6 at hi
        split at hi <;> omega
      rw [e]
      have e2 : hp S h i = h (i - 1) := if_neg c
      rw [e2]
      exact ⟨u, eu, w2 _ u (by omega) eu _ hu⟩
  · unfold mn6
    split <;> omega
  · rw [I_set (Or.inr (by decide)), I_set_s]
  · unfold Rt at r4 ⊢
    refine ⟨?_, r4.2.1, fun j hj => ?_⟩
    · rw [I_set (Or.inr (by decide)), I_set (Or.inr (by decide))]; exact r4.1
    · rw [I_set (Or.inl (by omega)), I_set (Or.inl (by omega))]; exact r4.2.2 j hj
theorem Rb.end {f : q_H → Prop} {n0 : Nat} (r : Rb A0 A rl m W L S h n0 n x len T) (hx : x < 6) (h0 : n0 = if n < 6 then n else 5) {t : l_T} (et : L (2 + x) = some t) (lt : Lr A t S) (k : ∀ A', Rc A0 A' rl m W L S (hp S h) (mn6 n) ((x + 1) % 6) len T → f A') :
    (q_I A rl 6 = nI 5 → ∀ A32 : q_H, A32 = q_setI (q_setI A rl 6 (nI 0)) rl 5 (if (nI 6) < ((q_I (q_setI A rl 6 (nI 0)) rl 5) + (nI 1)) then (nI 6) else ((q_I (q_setI A rl 6 (nI 0)) rl 5) + (nI 1))) → f A32) ∧ (¬ q_I A rl 6 = nI 5 → ∀ A31 : q_H, A31 = q_setI (q_setI A rl 6 ((q_I A rl 6) + (nI 1))) rl 5 (if (nI 6) < ((q_I (q_setI A rl 6 ((q_I A rl 6) + (nI 1))) rl 5) + (nI 1)) then (nI 6) else ((q_I (q_setI A rl 6 ((q_I A rl 6) + (nI 1))) rl 5) + (nI 1))) → f A31) := by
  have r3 := r.2.2.1
  unfold Rn at r3
  have fin := k _ (r.push hx h0 et lt)
  have e6 : (if nI 6 < nI n + nI 1 then nI 6 else nI n + nI 1) = nI (mn6 n) := by
    rw [nI_add]
    unfold mn6
    by_cases c : n < 6
    · rw [if_pos c, if_neg (nI_nlt (by omega) (by decide))]
    · rw [if_neg c, if_pos (nI_lt (by omega) (by omega))]
  refine ⟨fun c A32 e => ?_, fun c A31 e => ?_⟩
  · have hx5 : x = 5 := by
      rw [r3.2.2.1] at c
      exact (nI_eq (by omega) (by decide)).mp c
    rw [I_set (Or.inr (by decide)), r3.1, e6] at e
    rw [e]
    rw [show (x + 1) % 6 = 0 by omega] at fin
    exact fin
  · have hx5 : x ≠ 5 := fun z => c (by rw [r3.2.2.1, z])
    rw [I_set (Or.inr (by decide)), r3.1, e6, r3.2.2.1, nI_add] at e
    rw [e]
    rw [show (x + 1) % 6 = x + 1 by omega] at fin
    exact fin
theorem C_remember {f : q_H → Prop} (r : Rc A0 A rl m W L S h n x len T) (k : ∀ A' L', Rc A0 A' rl m W L' S (hp S h) (mn6 n) ((x + 1) % 6) len T → L' 0 = L 0 → f A') : q_Wc G M_X10_remember [.ref rl] A (q_KV f) X := by
  obtain ⟨u, eu, hu, zu, ru, pu, qu⟩ := r.t
  have r3 := r.2.2.1
  unfold Rn at r3
  have hx : x < 6 := r3.2.2.2
  obtain ⟨n0, h0⟩ : ∃ n0, n0 = if n < 6 then n else 5 := ⟨_, rfl⟩
  have hn0 : n0 ≤ n := by split at h0 <;> omega
  have hn5 : n0 < 6 := by split at h0 <;> omega
  have rb : Rb A0 A rl m W L S h n0 n x len T := ⟨r.1, ⟨r.2.1.1, fun i hi => r.2.1.2 i (by omega)⟩, r.2.2.1, r.2.2.2.1, r.2.2.2.2⟩
  have hne : ∀ i, i < n0 → (x + 5 - i) % 6 ≠ x := fun i hi => by
    have : i < 5 := by split at h0 <;> omega
    omega
  have px := r.1.2.1.2.2 x hx
  refine f_X10_remember ⟨zu, _, r.1.1.2.2.2.1, 6, r.1.1.2.2.2.2, by decide, x, r3.2.2.1, hx, fun c => ?_, fun a ha => ?_⟩
  · have hN : L (2 + x) = none := by
      rw [px] at c
      unfold L_at at c
      cases e : L (2 + x) with
      | none => rfl
      | some t => rw [e] at c; cases c
    refine N_line rfl fun A5 g5 => ?_
    obtain ⟨n5, w5, s5, i5⟩ := g5.g
    have hz := r.1.2.2.1
    unfold Rz at hz
    have c0 := n5.2 rl (by omega)
    have c1 := n5.2 (rl + 1) (by omega)
    have c2 := n5.2 (rl + 279) (by omega)
    have hg : Lg (q_setR A5 (rl + 279) x (some (q_sz A))) (l_new (q_sz A)) := ⟨w5, s5.sm (fun y h1 h2 => by
      have h1' : q_sz A ≤ y := h1
      exact (q_same.r A5 y).setR (by omega)), i5⟩
    obtain ⟨u1, u2⟩ := r.1.up (A' := q_setR A5 (rl + 279) x (some (q_sz A))) (k := 2 + x) (t := l_new 0) (t' := l_new (q_sz A)) (by omega) hN n5.1 rfl (fun y h1 h2 h3 => (n5.2 y h1).setR h3) ⟨c0.1, by rw [R_set (Or.inl (by omega)), c0.2.2.1], by rw [R_set (Or.inl (by omega)), c0.2.2.1]⟩ c2.1 (by
      obtain ⟨p1, p2, p3⟩ := r.1.2.1
      refine ⟨?_, ?_, fun i hi => ?_⟩
      · rw [R_set (Or.inl (by omega)), c0.2.2.1, p1]
        unfold L_at
        rw [L_up_n (by omega)]
      · rw [R_set (Or.inl (by omega)), c0.2.2.1, p2]
        unfold L_at
        rw [L_up_n (by omega)]
      · by_cases ci : i = x
        · subst ci
          rw [R_set_s]
          unfold L_at
          rw [L_up_s]; rfl
        · rw [R_set (Or.inr ci), c2.2.2.1, p3 i hi]
          unfold L_at
          rw [L_up_n (by omega)]) hg
    have rb2 : Rb A0 (q_setR A5 (rl + 279) x (some (q_sz A))) rl m W (L_up L (2 + x) (l_new (q_sz A))) S h n0 n x len T := by
      refine ⟨u1, ⟨?_, fun i hi => ?_⟩, ?_, ?_, ?_, fun y h1 h2 => ?_⟩
      · exact ⟨u, by rw [L_up_n (by omega)]; exact eu, u2 0 u (by decide) eu _ hu⟩
      · obtain ⟨t, et, ht⟩ := rb.2.1.2 i hi
        have hni := hne i hi
        exact ⟨t, by rw [L_up_n (by omega)]; exact et, u2 _ t (by omega) et _ ht⟩
      · unfold Rn
        show q_I A5 rl 5 = _ ∧ _ ∧ q_I A5 rl 6 = _ ∧ _
        rw [c0.2.1]; exact r3
      · have := r.2.2.2.1
        unfold Rt at this ⊢
        show q_I A5 rl 1 = _ ∧ _ ∧ ∀ j, j < len → q_I A5 (rl + 1) j = _
        rw [c0.2.1, c1.2.1]; exact this
      · have := r.2.2.2.2.1
        show q_sz A0 ≤ q_sz A5
        rw [n5.1]; omega
      · exact (r.2.2.2.2.2 y h1 h2).t ((n5.2 y (by omega)).setR (by omega))
    refine ⟨c0.1.trans zu, _, by rw [c0.2.2.1]; exact r.1.1.2.2.2.1, 6, c2.1.trans r.1.1.2.2.2.2, by decide, x, by rw [c0.2.1]; exact r3.2.2.1, hx, hg.2.1.1.1.1, l_a u, ?_, ?_⟩
    · rw [R_set (Or.inl (by omega)), c0.2.2.1]; exact ru
    · refine rb2.keep hx hne (t := l_new (q_sz A)) (L_up_s _ _ _) (by rw [L_up_n (by omega)]; exact eu) fun A27 t' r27 l27 => ⟨r27.1.1.1, ?_⟩
      exact r27.end hx h0 (L_up_s _ _ _) l27 fun A' rc => k A' _ rc (by rw [L_up_n (by omega), L_up_n (by omega)])
  · rw [px] at ha
    unfold L_at at ha
    cases e1 : L (2 + x) with
    | none => rw [e1] at ha; cases ha
    | some t =>
      rw [e1] at ha
      cases ha
      refine ⟨_, ru, (r.1.line (k := 2 + x) (by omega) e1).1.2.1.1.1.1, rb.keep hx hne e1 eu fun A27 t' r27 l27 => ⟨r27.1.1.1, ?_⟩⟩
      exact r27.end hx h0 (L_up_s _ _ _) l27 fun A' rc => k A' _ rc (by rw [L_up_n (by omega)])
end KP

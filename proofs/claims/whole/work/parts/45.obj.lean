/-! THE OBJECT: its lines L (0 the present one, 1 the spare, 2 + i the ring), apart from a foreign block of W cells from m on -/
def Lg (A : q_H) (t : l_T) : Prop := Lw t ∧ Ls A t ∧ q_I A (l_a t + 4) 1 = nI (l_f t)
theorem Lg.fr {A A' : q_H} {t : l_T} {a w : Nat} (h : Lg A t) (f : fr A A' a w) (dj : l_a t + 277 ≤ a ∨ a + w ≤ l_a t) (sz : l_a t + 277 ≤ q_sz A) : Lg A' t := ⟨h.1, h.2.1.fr f dj sz, by rw [(f.2 (l_a t + 4) (by omega) (by omega)).2.1]; exact h.2.2⟩
theorem Lg.sm {A A' : q_H} {t : l_T} (h : Lg A t) (e : ∀ x, l_a t ≤ x → x < l_a t + 277 → q_same A A' x) : Lg A' t := ⟨h.1, h.2.1.sm e, by rw [(e (l_a t + 4) (by omega) (by omega)).2.1]; exact h.2.2⟩
theorem Lr.g {A : q_H} {t : l_T} {S : s_T} (h : Lr A t S) : Lg A t := ⟨h.1, h.2.1, h.2.2.2.2.2.2⟩
abbrev L_T : Type := Nat → Option l_T
def L_at (L : L_T) (k : Nat) : Option Nat := (L k).map l_a
def Rq (rl m W z : Nat) (t : l_T) : Prop := rl + 2 ≤ l_a t ∧ (l_a t + 277 ≤ rl + 279 ∨ rl + 280 ≤ l_a t) ∧ l_a t + 277 ≤ z ∧ (l_a t + 277 ≤ m ∨ m + W ≤ l_a t)
def Ra (A : q_H) (rl : Nat) : Prop := q_sh A rl = (11, 0) ∧ q_R A rl 0 = some (rl + 1) ∧ q_sh A (rl + 1) = (51, 700) ∧ q_R A rl 4 = some (rl + 279) ∧ q_sh A (rl + 279) = (64, 6)
def Rp (A : q_H) (rl : Nat) (L : L_T) : Prop := q_R A rl 2 = L_at L 0 ∧ q_R A rl 3 = L_at L 1 ∧ ∀ i, i < 6 → q_R A (rl + 279) i = L_at L (2 + i)
def Rz (rl m W z : Nat) : Prop := (rl + 280 ≤ m ∨ m + W ≤ rl) ∧ m + W ≤ z ∧ rl + 280 ≤ z
def Rl (A : q_H) (rl m W : Nat) (L : L_T) : Prop := ∀ k t, k < 8 → L k = some t → Lg A t ∧ Rq rl m W (q_sz A) t
def Rd (L : L_T) : Prop := ∀ j k t u, j < 8 → k < 8 → j ≠ k → L j = some t → L k = some u → l_a t + 277 ≤ l_a u ∨ l_a u + 277 ≤ l_a t
def Rg (A : q_H) (rl m W : Nat) (L : L_T) : Prop := Ra A rl ∧ Rp A rl L ∧ Rz rl m W (q_sz A) ∧ Rl A rl m W L ∧ Rd L
/-- the present line holds S, the ring the n states before it, the newest is h 0 -/
def Rs (A : q_H) (L : L_T) (S : s_T) (h : Nat → s_T) (n x : Nat) : Prop := (∃ t, L 0 = some t ∧ Lr A t S) ∧ ∀ i, i < n → ∃ t, L (2 + (x + 5 - i) % 6) = some t ∧ Lr A t (h i)
def Rn (A : q_H) (rl n x : Nat) : Prop := q_I A rl 5 = nI n ∧ n ≤ 6 ∧ q_I A rl 6 = nI x ∧ x < 6
def Rt (A : q_H) (rl len : Nat) (T : Nat → Int32) : Prop := q_I A rl 1 = nI len ∧ len ≤ 700 ∧ ∀ j, j < len → q_I A (rl + 1) j = T j
/-- all of it; off the block all the same as in A0 -/
def Rc (A0 A : q_H) (rl m W : Nat) (L : L_T) (S : s_T) (h : Nat → s_T) (n x len : Nat) (T : Nat → Int32) : Prop := Rg A rl m W L ∧ Rs A L S h n x ∧ Rn A rl n x ∧ Rt A rl len T ∧ (q_sz A0 ≤ q_sz A ∧ ∀ y, m ≤ y → y < m + W → q_same A0 A y)
section RC
variable {A0 A A' : q_H} {rl m W : Nat} {L : L_T} {S : s_T} {h : Nat → s_T} {n x len : Nat} {T : Nat → Int32}
theorem Rz.mono {z z' : Nat} (r : Rz rl m W z) (h : z ≤ z') : Rz rl m W z' := ⟨r.1, Nat.le_trans r.2.1 h, Nat.le_trans r.2.2 h⟩
theorem Rq.mono {z z' : Nat} {t : l_T} (r : Rq rl m W z t) (h : z ≤ z') : Rq rl m W z' t := ⟨r.1, r.2.1, Nat.le_trans r.2.2.1 h, r.2.2.2⟩
theorem Rg.line (r : Rg A rl m W L) {k : Nat} {t : l_T} (hk : k < 8) (e : L k = some t) : Lg A t ∧ Rq rl m W (q_sz A) t := r.2.2.2.1 k t hk e
/-- L with t at k -/
def L_up (L : L_T) (k : Nat) (t : l_T) : L_T := fun j => if j = k then some t else L j
theorem L_up_s (L : L_T) (k : Nat) (t : l_T) : L_up L k t k = some t := if_pos rfl
theorem L_up_n {L : L_T} {k j : Nat} {t : l_T} (h : j ≠ k) : L_up L k t j = L j := if_neg h
/-- a line has been written, all else is as it was -/
theorem Rg.write (r : Rg A rl m W L) {k : Nat} {t t' : l_T} (hk : k < 8) (e : L k = some t) (ea : l_a t' = l_a t) (f : fr A A' (l_a t) 277) (g : Lg A' t') : Rg A' rl m W (L_up L k t') ∧ (∀ j u, j < 8 → j ≠ k → L j = some u → ∀ S, Lr A u S → Lr A' u S) ∧ (∀ y, y = rl ∨ y = rl + 1 ∨ y = rl + 279 ∨ (m ≤ y ∧ y < m + W) → q_same A A' y) := by
  obtain ⟨r1, r2, r3, r4, r5⟩ := r
  have q := (r4 k t hk e).2
  have cs : ∀ y, y = rl ∨ y = rl + 1 ∨ y = rl + 279 ∨ (m ≤ y ∧ y < m + W) → q_same A A' y := fun y hy => f.2 y (by unfold Rq at q; unfold Rz at r3; omega) (by unfold Rz at r3; omega)
  have c0 := cs rl (Or.inl rfl)
  have c1 := cs (rl + 1) (Or.inr (Or.inl rfl))
  have c2 := cs (rl + 279) (Or.inr (Or.inr (Or.inl rfl)))
  have ea' : ∀ j, L_at (L_up L k t') j = L_at L j := fun j => by
    unfold L_at L_up
    by_cases c : j = k
    · rw [if_pos c, c, e]; exact congrArg some ea
    · rw [if_neg c]
  refine ⟨⟨⟨c0.1.trans r1.1, by rw [c0.2.2.1]; exact r1.2.1, c1.1.trans r1.2.2.1, by rw [c0.2.2.1]; exact r1.2.2.2.1, c2.1.trans r1.2.2.2.2⟩, ⟨by rw [ea', c0.2.2.1]; exact r2.1, by rw [ea', c0.2.2.1]; exact r2.2.1, fun i hi => by rw [ea', c2.2.2.1]; exact r2.2.2 i hi⟩, r3.mono f.1, fun j u hj ej => ?_, fun i j t1 t2 hi hj hij e1 e2 => ?_⟩, fun j u hj hjk ej S' hS => ?_, cs⟩
  · by_cases c : j = k
    · rw [c, L_up_s] at ej
      cases ej
      refine ⟨g, ?_⟩
      have := q.mono f.1
      unfold Rq at this ⊢
      rw [ea]; exact this
    · rw [L_up_n c] at ej
      have a := r4 j u hj ej
      exact ⟨a.1.fr f (by have := r5 j k u t hj hk c ej e; omega) a.2.2.2.1, a.2.mono f.1⟩
  · have h1 : ∃ u, L i = some u ∧ l_a u = l_a t1 := by
      by_cases c : i = k
      · rw [c, L_up_s] at e1
        cases e1
        exact ⟨t, by rw [c]; exact e, ea.symm⟩
      · rw [L_up_n c] at e1
        exact ⟨t1, e1, rfl⟩
    have h2 : ∃ u, L j = some u ∧ l_a u = l_a t2 := by
      by_cases c : j = k
      · rw [c, L_up_s] at e2
        cases e2
        exact ⟨t, by rw [c]; exact e, ea.symm⟩
      · rw [L_up_n c] at e2
        exact ⟨t2, e2, rfl⟩
    obtain ⟨u1, a1, b1⟩ := h1
    obtain ⟨u2, a2, b2⟩ := h2
    rw [← b1, ← b2]
    exact r5 i j u1 u2 hi hj hij a1 a2
  · exact hS.fr f (by have := r5 j k u t hj hk hjk ej e; omega) (r4 j u hj ej).2.2.2.1
/-- cells of its own are written (no shape, no pointer), its lines stay -/
theorem Rg.sm (r : Rg A rl m W L) (hz : q_sz A ≤ q_sz A') (c : ∀ y, (y = rl ∨ y = rl + 1 ∨ y = rl + 279) → q_sh A' y = q_sh A y ∧ q_R A' y = q_R A y) (s : ∀ y, y < q_sz A → y ≠ rl → y ≠ rl + 1 → y ≠ rl + 279 → (y < m ∨ m + W ≤ y) → q_same A A' y) : Rg A' rl m W L ∧ (∀ j u, j < 8 → L j = some u → ∀ S, Lr A u S → Lr A' u S) := by
  obtain ⟨r1, r2, r3, r4, r5⟩ := r
  have c0 := c rl (Or.inl rfl)
  have c1 := c (rl + 1) (Or.inr (Or.inl rfl))
  have c2 := c (rl + 279) (Or.inr (Or.inr rfl))
  have ss : ∀ j u, j < 8 → L j = some u → ∀ y, l_a u ≤ y → y < l_a u + 277 → q_same A A' y := fun j u hj ej y h1 h2 => by
    have q := (r4 j u hj ej).2
    unfold Rq at q
    exact s y (by omega) (by omega) (by omega) (by omega) (by omega)
  refine ⟨⟨⟨c0.1.trans r1.1, by rw [c0.2]; exact r1.2.1, c1.1.trans r1.2.2.1, by rw [c0.2]; exact r1.2.2.2.1, c2.1.trans r1.2.2.2.2⟩, ⟨by rw [c0.2]; exact r2.1, by rw [c0.2]; exact r2.2.1, fun i hi => by rw [c2.2]; exact r2.2.2 i hi⟩, r3.mono hz, fun j u hj ej => ⟨(r4 j u hj ej).1.sm (ss j u hj ej), (r4 j u hj ej).2.mono hz⟩, r5⟩, fun j u hj ej S' hS => hS.sm (ss j u hj ej)⟩
end RC

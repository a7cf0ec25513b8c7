/-! THE CLASS AND THE REFERENCE SIDE BY SIDE -/
section RB
variable {A0 A A' : q_H} {rl m W : Nat} {L : L_T} {S : s_T} {h : Nat → s_T} {n x len : Nat} {T : Nat → Int32}
/-- what lies in the block has changed -/
theorem Rc.blk (r : Rc A0 A rl m W L S h n x len T) (hz : q_sz A ≤ q_sz A') (e : ∀ y, y < q_sz A → (y < m ∨ m + W ≤ y) → q_same A A' y) : Rc A' A' rl m W L S h n x len T := by
  obtain ⟨r1, r2, r3, r4, r5⟩ := r
  have z := r1.2.2.1
  unfold Rz at z
  have c : ∀ y, (y = rl ∨ y = rl + 1 ∨ y = rl + 279) → q_same A A' y := fun y hy => e y (by omega) (by omega)
  obtain ⟨w1, w2⟩ := r1.sm hz (fun y hy => ⟨(c y hy).1, (c y hy).2.2.1⟩) (fun y h1 _ _ _ h2 => e y h1 h2)
  refine ⟨w1, ⟨?_, fun i hi => ?_⟩, ?_, ?_, Nat.le_refl _, fun y _ _ => q_same.r _ _⟩
  · obtain ⟨t, et, ht⟩ := r2.1
    exact ⟨t, et, w2 0 t (by decide) et _ ht⟩
  · obtain ⟨t, et, ht⟩ := r2.2 i hi
    exact ⟨t, et, w2 _ t (by omega) et _ ht⟩
  · unfold Rn at r3 ⊢
    rw [(c rl (Or.inl rfl)).2.1]; exact r3
  · unfold Rt at r4 ⊢
    rw [(c rl (Or.inl rfl)).2.1, (c (rl + 1) (Or.inr (Or.inl rfl))).2.1]; exact r4
/-- a block behind all -/
theorem Rc.reb (r : Rc A0 A rl rl 0 L S h n x len T) (hm : q_sz A ≤ m) (hz : m + W ≤ q_sz A') (e : ∀ y, y < q_sz A → q_same A A' y) : Rc A' A' rl m W L S h n x len T := by
  have b := r.blk (A' := A') (by omega) (fun y h _ => e y h)
  have r4 := r.1.2.2.2.1
  have z := r.1.2.2.1
  unfold Rz at z
  obtain ⟨⟨b1, b2, b3, b4, b5⟩, b6, b7, b8, b9⟩ := b
  refine ⟨⟨b1, b2, ⟨Or.inl (by omega), by omega, by omega⟩, fun k t hk ek => ⟨(b4 k t hk ek).1, ?_⟩, b5⟩, b6, b7, b8, Nat.le_refl _, fun y _ _ => q_same.r _ _⟩
  have q := (r4 k t hk ek).2
  unfold Rq at q ⊢
  omega
end RB
/-- the class holds S', the reference still S -/
def JC (A : q_H) (rl mo : Nat) (L' : L_T) (S' : s_T) (hh' : Nat → s_T) (n' x' len' : Nat) (B' : Nat → Nat) (S : s_T) (hh : Nat → s_T) (n len : Nat) (B : Nat → Nat) : Prop := Rc A A rl mo 15 L' S' hh' n' x' len' (tb B') ∧ MA A mo S hh n len B ∧ q_sh A (mo + 13) = (52, 1) ∧ q_sh A (mo + 14) = (53, 1)
/-- both hold S -/
def JJ (A : q_H) (rl mo : Nat) (L : L_T) (S : s_T) (hh : Nat → s_T) (n x len : Nat) (B : Nat → Nat) : Prop := JC A rl mo L S hh n x len B S hh n len B ∧ gd S ∧ (∀ i, i < n → gd (hh i) ∧ s_ct S (hh i)) ∧ ∀ j, B j < 256
section JS
variable {A A' : q_H} {rl mo : Nat} {L L' : L_T} {S S' : s_T} {hh hh' : Nat → s_T} {n n' x x' len len' : Nat} {B B' : Nat → Nat}
theorem JC.of (j : JC A rl mo L S hh n x len B S hh n len B) (r : Rc A A' rl mo 15 L' S' hh' n' x' len' (tb B')) : JC A' rl mo L' S' hh' n' x' len' B' S hh n len B := by
  have e := r.2.2.2.2.2
  refine ⟨r.blk (Nat.le_refl _) (fun y _ _ => q_same.r _ _), j.2.1.sm fun y h1 h2 => e y h1 (by omega), ?_, ?_⟩
  · rw [(e (mo + 13) (by omega) (by omega)).1]; exact j.2.2.1
  · rw [(e (mo + 14) (by omega) (by omega)).1]; exact j.2.2.2
theorem JC.setL (j : JC A rl mo L' S' hh' n' x' len' B' S hh n len B) (v : Int64) : JC (q_setL A (mo + 13) 0 v) rl mo L' S' hh' n' x' len' B' S hh n len B := by
  have e : ∀ y, y ≠ mo + 13 → q_same A (q_setL A (mo + 13) 0 v) y := fun y hy => ⟨rfl, rfl, rfl, rowL_set hy, rfl⟩
  exact ⟨j.1.blk (Nat.le_refl _) fun y _ h => e y (by omega), j.2.1.sm fun y h1 h2 => e y (by omega), j.2.2.1, j.2.2.2⟩
theorem JC.setD (j : JC A rl mo L' S' hh' n' x' len' B' S hh n len B) (v : UInt64) : JC (q_setD A (mo + 14) 0 v) rl mo L' S' hh' n' x' len' B' S hh n len B := by
  have e : ∀ y, y ≠ mo + 14 → q_same A (q_setD A (mo + 14) 0 v) y := fun y hy => ⟨rfl, rfl, rfl, rfl, by
    show q_u2 (q_D A) (mo + 14) 0 v y = q_D A y
    funext j
    exact q_u2_a _ _ _ _ hy j⟩
  exact ⟨j.1.blk (Nat.le_refl _) fun y _ h => e y (by omega), j.2.1.sm fun y h1 h2 => e y (by omega), j.2.2.1, j.2.2.2⟩
theorem JC.grow (j : JC A rl mo L' S' hh' n' x' len' B' S hh n len B) {z : Nat} (hz : q_sz A ≤ z) : JC (q_grow A z) rl mo L' S' hh' n' x' len' B' S hh n len B :=
  ⟨j.1.blk hz fun y _ _ => ⟨rfl, rfl, rfl, rfl, rfl⟩, j.2.1.sm fun y h1 h2 => ⟨rfl, rfl, rfl, rfl, rfl⟩, j.2.2.1, j.2.2.2⟩
theorem JC.join (j : JC A rl mo L' S' hh' n' x' len' B' S hh n len B) (o : xf (bk mo) A A') (ma : MA A' mo S' hh' n' len' B') (g : gd S') (gh : ∀ i, i < n' → gd (hh' i) ∧ s_ct S' (hh' i)) (hB : ∀ j, B' j < 256) : JJ A' rl mo L' S' hh' n' x' len' B' :=
  ⟨⟨j.1.blk (Nat.le_of_eq o.1.symm) fun y _ h => o.sm (by unfold bk; omega), ma, by rw [o.2.1]; exact j.2.2.1, by rw [o.2.1]; exact j.2.2.2⟩, g, gh, hB⟩
theorem ct_s (h : s_ct S S') : s_ct S' S := ⟨h.1.symm, h.2.1.symm, h.2.2.1.symm, h.2.2.2.symm⟩
theorem gh_push (g : gd S) (gh : ∀ i, i < n → gd (hh i) ∧ s_ct S (hh i)) (ct : s_ct S S') : ∀ i, i < mn6 n → gd (hp S hh i) ∧ s_ct S' (hp S hh i) := fun i hi => by
  unfold hp
  by_cases c : i = 0
  · rw [if_pos c]
    exact ⟨g, ct_s ct⟩
  · rw [if_neg c]
    have : i - 1 < n := by
      unfold mn6 at hi
      split at hi <;> omega
    exact ⟨(gh _ this).1, ct_t (ct_s ct) (gh _ this).2⟩
end JS

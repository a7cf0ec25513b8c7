/-! THE REFERENCE'S ROW: where each number and each heap of S stands -/
def r2 (i : Nat) : Nat := if i = 0 then 8 else if i = 1 then 10 else if i = 3 then 15 else if i = 4 then 11 else if i = 5 then 12 else if i = 6 then 13 else if i = 7 then 16 else if i = 8 then 17 else if i = 9 then 18 else if i = 10 then 9 else 14
def ri (t i j : Nat) : Nat := if t = 1 then i else if t = 2 then r2 i else if t = 3 then 48 + 7 * i else if t = 5 then 308 + 10 * i + j else if t = 6 then 388 + 10 * i + j else 20 + i
def hi (h : Nat) : Nat := if h = 0 then 24 else if h = 1 then 36 else if h = 2 then 30 else if h < 11 then 312 + 10 * (h - 3) else if h < 19 then 252 + 7 * (h - 11) else if h < 49 then 42 + 7 * (h - 19) else 392 + 10 * (h - 49)
def dR0 (t i j : Nat) : Prop := (t = 1 ∧ i < 8 ∧ j = 0) ∨ (t = 2 ∧ i < 12 ∧ i ≠ 2 ∧ j = 0) ∨ (t = 3 ∧ i < 30 ∧ j = 0) ∨ (t = 5 ∧ i < 8 ∧ j < 4) ∨ (t = 6 ∧ i < 40 ∧ j < 4) ∨ (t = 7 ∧ i < 4 ∧ j = 0)
def dR (S : s_T) (t i j : Nat) : Prop := dR0 t i j ∧ (t = 3 → i < S 2 10 0) ∧ (t = 5 → i < S 8 1 0) ∧ (t = 6 → i < S 2 11 0) ∧ (t = 7 → i < S 8 2 0)
def lR (S : s_T) (h : Nat) : Prop := h < 3 ∨ (3 ≤ h ∧ h < 3 + S 8 1 0) ∨ (11 ≤ h ∧ h < 11 + S 8 1 0 ∧ S 4 (h - 11) 0 ≠ 0) ∨ (19 ≤ h ∧ h < 19 + S 2 10 0) ∨ (49 ≤ h ∧ h < 49 + S 2 11 0)
def rnd (v : Nat) : Int32 := if v = 0 then -1 else nI (v - 1)
def RW (R : Nat → Int32) (S : s_T) : Prop := Lb S ∧ (∀ t i j, dR S t i j → R (ri t i j) = nI (S t i j)) ∧ (∀ h m, lR S h → m < 6 → R (hi h + m) = nI (S 0 h m)) ∧ (∀ s, s < S 8 1 0 → R (258 + 7 * s) = rnd (S 4 s 0)) ∧ R 19 = nI (s6 (S 0 1))
theorem r2_cases {i : Nat} (h : i < 12) (h2 : i ≠ 2) : (i = 0 ∧ r2 i = 8) ∨ (i = 1 ∧ r2 i = 10) ∨ (i = 3 ∧ r2 i = 15) ∨ (i = 4 ∧ r2 i = 11) ∨ (i = 5 ∧ r2 i = 12) ∨ (i = 6 ∧ r2 i = 13) ∨ (i = 7 ∧ r2 i = 16) ∨ (i = 8 ∧ r2 i = 17) ∨ (i = 9 ∧ r2 i = 18) ∨ (i = 10 ∧ r2 i = 9) ∨ (i = 11 ∧ r2 i = 14) := by
  have : i = 0 ∨ i = 1 ∨ i = 3 ∨ i = 4 ∨ i = 5 ∨ i = 6 ∨ i = 7 ∨ i = 8 ∨ i = 9 ∨ i = 10 ∨ i = 11 := by omega
  rcases this with e | e | e | e | e | e | e | e | e | e | e <;> subst e <;> simp [r2]
theorem r2_bd {i : Nat} (h : i < 12) (h2 : i ≠ 2) : 8 ≤ r2 i ∧ r2 i ≤ 18 := by rcases r2_cases h h2 with q | q | q | q | q | q | q | q | q | q | q <;> omega
theorem r2_inj {i j : Nat} (h : i < 12) (h2 : i ≠ 2) (k : j < 12) (k2 : j ≠ 2) (e : r2 i = r2 j) : i = j := by
  have a := r2_cases h h2
  have b := r2_cases k k2
  rcases a with q | q | q | q | q | q | q | q | q | q | q <;> rcases b with p | p | p | p | p | p | p | p | p | p | p <;> omega
theorem ri_cases {t i j : Nat} (d : dR0 t i j) : (t = 1 ∧ i < 8 ∧ j = 0 ∧ ri t i j = i) ∨ (t = 2 ∧ i < 12 ∧ i ≠ 2 ∧ j = 0 ∧ ri t i j = r2 i) ∨ (t = 3 ∧ i < 30 ∧ j = 0 ∧ ri t i j = 48 + 7 * i) ∨ (t = 5 ∧ i < 8 ∧ j < 4 ∧ ri t i j = 308 + 10 * i + j) ∨ (t = 6 ∧ i < 40 ∧ j < 4 ∧ ri t i j = 388 + 10 * i + j) ∨ (t = 7 ∧ i < 4 ∧ j = 0 ∧ ri t i j = 20 + i) := by
  rcases d with ⟨rfl, a, b⟩ | ⟨rfl, a, b, c⟩ | ⟨rfl, a, b⟩ | ⟨rfl, a, b⟩ | ⟨rfl, a, b⟩ | ⟨rfl, a, b⟩
  · exact Or.inl ⟨rfl, a, b, rfl⟩
  · exact Or.inr (Or.inl ⟨rfl, a, b, c, rfl⟩)
  · exact Or.inr (Or.inr (Or.inl ⟨rfl, a, b, rfl⟩))
  · exact Or.inr (Or.inr (Or.inr (Or.inl ⟨rfl, a, b, rfl⟩)))
  · exact Or.inr (Or.inr (Or.inr (Or.inr (Or.inl ⟨rfl, a, b, rfl⟩))))
  · exact Or.inr (Or.inr (Or.inr (Or.inr (Or.inr ⟨rfl, a, b, rfl⟩))))
theorem hi_cases {h : Nat} (hh : h < 89) : (h = 0 ∧ hi h = 24) ∨ (h = 1 ∧ hi h = 36) ∨ (h = 2 ∧ hi h = 30) ∨ (∃ s, s < 8 ∧ h = 3 + s ∧ hi h = 312 + 10 * s) ∨ (∃ s, s < 8 ∧ h = 11 + s ∧ hi h = 252 + 7 * s) ∨ (∃ k, k < 30 ∧ h = 19 + k ∧ hi h = 42 + 7 * k) ∨ (∃ b, b < 40 ∧ h = 49 + b ∧ hi h = 392 + 10 * b) := by
  unfold hi
  by_cases c0 : h = 0
  · exact Or.inl ⟨c0, if_pos c0⟩
  · by_cases c1 : h = 1
    · exact Or.inr (Or.inl ⟨c1, by rw [if_neg c0, if_pos c1]⟩)
    · by_cases c2 : h = 2
      · exact Or.inr (Or.inr (Or.inl ⟨c2, by rw [if_neg c0, if_neg c1, if_pos c2]⟩))
      · rw [if_neg c0, if_neg c1, if_neg c2]
        refine Or.inr (Or.inr (Or.inr ?_))
        by_cases c3 : h < 11
        · exact Or.inl ⟨h - 3, by omega, by omega, if_pos c3⟩
        · rw [if_neg c3]
          refine Or.inr ?_
          by_cases c4 : h < 19
          · exact Or.inl ⟨h - 11, by omega, by omega, if_pos c4⟩
          · rw [if_neg c4]
            refine Or.inr ?_
            by_cases c5 : h < 49
            · exact Or.inl ⟨h - 19, by omega, by omega, if_pos c5⟩
            · rw [if_neg c5]
              exact Or.inr ⟨h - 49, by omega, by omega, rfl⟩
theorem hi_bun {s : Nat} (h : s < 8) : hi (3 + s) = 312 + 10 * s := by unfold hi; rw [if_neg (by omega), if_neg (by omega), if_neg (by omega), if_pos (by omega), show 3 + s - 3 = s by omega]
theorem hi_slot {s : Nat} (h : s < 8) : hi (11 + s) = 252 + 7 * s := by unfold hi; rw [if_neg (by omega), if_neg (by omega), if_neg (by omega), if_neg (by omega), if_pos (by omega), show 11 + s - 11 = s by omega]
theorem hi_par {k : Nat} (h : k < 30) : hi (19 + k) = 42 + 7 * k := by unfold hi; rw [if_neg (by omega), if_neg (by omega), if_neg (by omega), if_neg (by omega), if_neg (by omega), if_pos (by omega), show 19 + k - 19 = k by omega]
theorem hi_bal (b : Nat) : hi (49 + b) = 392 + 10 * b := by unfold hi; rw [if_neg (by omega), if_neg (by omega), if_neg (by omega), if_neg (by omega), if_neg (by omega), if_neg (by omega), show 49 + b - 49 = b by omega]
theorem ri_hi {t i j h m : Nat} (d : dR0 t i j) (hh : h < 89) (hm : m < 6) : ri t i j ≠ hi h + m := by
  rcases ri_cases d with ⟨-, q⟩ | ⟨-, a, b, -, e⟩ | ⟨-, q⟩ | ⟨-, q⟩ | ⟨-, q⟩ | ⟨-, q⟩ <;>
  rcases hi_cases hh with ⟨-, e'⟩ | ⟨-, e'⟩ | ⟨-, e'⟩ | ⟨s, hs, -, e'⟩ | ⟨s, hs, -, e'⟩ | ⟨s, hs, -, e'⟩ | ⟨s, hs, -, e'⟩ <;>
  first
  | omega
  | (have := r2_bd a b; omega)
theorem hi_ne {h h' m m' : Nat} (hh : h < 89) (hh' : h' < 89) (ne : h ≠ h') (hm : m < 6) (hm' : m' < 6) : hi h + m ≠ hi h' + m' := by
  rcases hi_cases hh with ⟨g, e⟩ | ⟨g, e⟩ | ⟨g, e⟩ | ⟨s, hs, g, e⟩ | ⟨s, hs, g, e⟩ | ⟨s, hs, g, e⟩ | ⟨s, hs, g, e⟩ <;>
  rcases hi_cases hh' with ⟨g', e'⟩ | ⟨g', e'⟩ | ⟨g', e'⟩ | ⟨s', hs', g', e'⟩ | ⟨s', hs', g', e'⟩ | ⟨s', hs', g', e'⟩ | ⟨s', hs', g', e'⟩ <;> omega
theorem ri_ne {t i j t' i' j' : Nat} (d : dR0 t i j) (d' : dR0 t' i' j') (ne : ¬ (t' = t ∧ i' = i ∧ j' = j)) : ri t' i' j' ≠ ri t i j := by
  rcases ri_cases d with ⟨g, q⟩ | ⟨g, a, b, c, e⟩ | ⟨g, q⟩ | ⟨g, q⟩ | ⟨g, q⟩ | ⟨g, q⟩ <;>
  rcases ri_cases d' with ⟨g', q'⟩ | ⟨g', a', b', c', e'⟩ | ⟨g', q'⟩ | ⟨g', q'⟩ | ⟨g', q'⟩ | ⟨g', q'⟩ <;>
  first
  | omega
  | (have := r2_bd a b; omega)
  | (have := r2_bd a' b'; omega)
  | (intro z; have := r2_inj a b a' b' (by omega); omega)
theorem ri_x {t i j s : Nat} (d : dR0 t i j) (hs : s < 8) : ri t i j ≠ 258 + 7 * s ∧ ri t i j ≠ 19 := by
  rcases ri_cases d with ⟨-, q⟩ | ⟨-, a, b, -, e⟩ | ⟨-, q⟩ | ⟨-, q⟩ | ⟨-, q⟩ | ⟨-, q⟩ <;>
  first
  | omega
  | (have := r2_bd a b; omega)
theorem hi_x {h m s : Nat} (hh : h < 89) (hm : m < 6) (hs : s < 8) : hi h + m ≠ 258 + 7 * s ∧ hi h + m ≠ 19 := by
  rcases hi_cases hh with ⟨-, e'⟩ | ⟨-, e'⟩ | ⟨-, e'⟩ | ⟨s', hs', -, e'⟩ | ⟨s', hs', -, e'⟩ | ⟨s', hs', -, e'⟩ | ⟨s', hs', -, e'⟩ <;> omega
theorem hi_lt {h m : Nat} (hh : h < 89) (hm : m < 6) : hi h + m < 788 := by
  rcases hi_cases hh with ⟨-, e'⟩ | ⟨-, e'⟩ | ⟨-, e'⟩ | ⟨s', hs', -, e'⟩ | ⟨s', hs', -, e'⟩ | ⟨s', hs', -, e'⟩ | ⟨s', hs', -, e'⟩ <;> omega
theorem lR_89 {S : s_T} (b : Lb S) {h : Nat} (q : lR S h) : h < 89 := by unfold lR at q; unfold Lb at b; omega
section RWS
variable {R R' : Nat → Int32} {S S' : s_T}
theorem RW.b (r : RW R S) : Lb S := r.1
theorem RW.c (r : RW R S) {t i j : Nat} (d : dR S t i j) : R (ri t i j) = nI (S t i j) := r.2.1 t i j d
theorem RW.m (r : RW R S) {h m : Nat} (q : lR S h) (hm : m < 6) : R (hi h + m) = nI (S 0 h m) := r.2.2.1 h m q hm
theorem RW.rd (r : RW R S) {s : Nat} (hs : s < S 8 1 0) : R (258 + 7 * s) = rnd (S 4 s 0) := r.2.2.2.1 s hs
theorem RW.al (r : RW R S) : R 19 = nI (s6 (S 0 1)) := r.2.2.2.2
theorem RW.set (r : RW R S) {i : Nat} (h : i < 8) : R i = nI (S 1 i 0) := r.c (t := 1) (i := i) (j := 0) ⟨Or.inl ⟨rfl, h, rfl⟩, by simp, by simp, by simp, by simp⟩
theorem RW.tal (r : RW R S) {i : Nat} (h : i < 12) (h2 : i ≠ 2) : R (r2 i) = nI (S 2 i 0) := r.c (t := 2) (i := i) (j := 0) ⟨Or.inr (Or.inl ⟨rfl, h, h2, rfl⟩), by simp, by simp, by simp, by simp⟩
theorem RW.pr (r : RW R S) {k : Nat} (h : k < S 2 10 0) : R (48 + 7 * k) = nI (S 3 k 0) := r.c (t := 3) (i := k) (j := 0) ⟨Or.inr (Or.inr (Or.inl ⟨rfl, by have := r.b; unfold Lb at this; omega, rfl⟩)), fun _ => h, by simp, by simp, by simp⟩
theorem RW.st (r : RW R S) {s j : Nat} (h : s < S 8 1 0) (hj : j < 4) : R (308 + 10 * s + j) = nI (S 5 s j) := r.c (t := 5) (i := s) (j := j) ⟨Or.inr (Or.inr (Or.inr (Or.inl ⟨rfl, by have := r.b; unfold Lb at this; omega, hj⟩))), by simp, fun _ => h, by simp, by simp⟩
theorem RW.ba (r : RW R S) {b j : Nat} (h : b < S 2 11 0) (hj : j < 4) : R (388 + 10 * b + j) = nI (S 6 b j) := r.c (t := 6) (i := b) (j := j) ⟨Or.inr (Or.inr (Or.inr (Or.inr (Or.inl ⟨rfl, by have := r.b; unfold Lb at this; omega, hj⟩)))), by simp, by simp, fun _ => h, by simp⟩
theorem RW.pd (r : RW R S) {b : Nat} (h : b < S 8 2 0) : R (20 + b) = nI (S 7 b 0) := r.c (t := 7) (i := b) (j := 0) ⟨Or.inr (Or.inr (Or.inr (Or.inr (Or.inr ⟨rfl, by have := r.b; unfold Lb at this; omega, rfl⟩)))), by simp, by simp, by simp, fun _ => h⟩
/-- a number is written -/
theorem RW.put (r : RW R S) {t i j : Nat} (v : Nat) (d : dR0 t i j) (hc : t = 2 → i < 10) (h' : ∀ x, R' x = if x = ri t i j then nI v else R x) : RW R' (s_p S t i j v) := by
  have ht : t ≠ 0 ∧ t ≠ 4 ∧ t ≠ 8 := by unfold dR0 at d; omega
  have e8 : s_p S t i j v 8 = S 8 := s_p_t (Ne.symm ht.2.2)
  have e4 : s_p S t i j v 4 = S 4 := s_p_t (Ne.symm ht.2.1)
  have e0 : s_p S t i j v 0 = S 0 := s_p_00 ht.1
  have e2 : ∀ x, 10 ≤ x → s_p S t i j v 2 x 0 = S 2 x 0 := fun x hx => by
    unfold s_p; rw [if_neg]; rintro ⟨a, b, -⟩; have := hc a.symm; omega
  have e210 := e2 10 (by omega)
  have e211 := e2 11 (by omega)
  refine ⟨?_, fun t' i' j' d' => ?_, fun h m q hm => ?_, fun s hs => ?_, ?_⟩
  · have := r.b
    unfold Lb at this ⊢
    rw [e8, e210, e211]; exact this
  · have d2 : dR S t' i' j' := by
      unfold dR at d' ⊢
      rw [e8, e210, e211] at d'; exact d'
    rw [h']
    by_cases c : t' = t ∧ i' = i ∧ j' = j
    · obtain ⟨rfl, rfl, rfl⟩ := c
      rw [if_pos rfl, s_p_s]
    · rw [if_neg (ri_ne d d2.1 c)]
      have : s_p S t i j v t' i' j' = S t' i' j' := if_neg c
      rw [this]; exact r.c d2
  · have q2 : lR S h := by
      unfold lR at q ⊢
      rw [e8, e4, e210, e211] at q; exact q
    have hne := ri_hi (m := m) d (lR_89 r.b q2) hm
    rw [h', if_neg (Ne.symm hne), e0]; exact r.m q2 hm
  · rw [e8] at hs
    have hs8 : s < 8 := by have := r.b; unfold Lb at this; omega
    rw [h', if_neg (Ne.symm (ri_x d hs8).1), e4]; exact r.rd hs
  · rw [h', if_neg (Ne.symm (ri_x (s := 0) d (by decide)).2), e0]; exact r.al
/-- a heap is changed -/
theorem RW.heap (r : RW R S) {x : Nat} (f : Nat → Nat) (hx : x < 89) (h1 : x ≠ 1) (ho : ∀ y, (y < hi x ∨ hi x + 6 ≤ y) → R' y = R y) (hm : ∀ m, m < 6 → R' (hi x + m) = nI (f m)) : RW R' (s_h S x f) := by
  refine ⟨r.b, fun t i j d => ?_, fun h m q hm' => ?_, fun s hs => ?_, ?_⟩
  · have d2 : dR S t i j := d
    have ht : t ≠ 0 := by have := d.1; unfold dR0 at this; omega
    have hne : ri t i j < hi x ∨ hi x + 6 ≤ ri t i j := by
      by_cases c : ri t i j < hi x
      · exact Or.inl c
      · refine Or.inr (Nat.le_of_not_lt fun c2 => ?_)
        exact ri_hi (m := ri t i j - hi x) d.1 hx (by omega) (by omega)
    rw [ho _ hne, s_h_t ht]; exact r.c d2
  · have q2 : lR S h := q
    by_cases c : h = x
    · subst c
      rw [s_h_s]; exact hm m hm'
    · have hne : hi h + m < hi x ∨ hi x + 6 ≤ hi h + m := by
        by_cases c2 : hi h + m < hi x
        · exact Or.inl c2
        · refine Or.inr (Nat.le_of_not_lt fun c3 => ?_)
          exact hi_ne (m := m) (m' := hi h + m - hi x) (lR_89 r.b q2) hx c hm' (by omega) (by omega)
      rw [ho _ hne, s_h_n c]; exact r.m q2 hm'
  · have hs' : s < S 8 1 0 := hs
    have hs8 : s < 8 := by have := r.b; unfold Lb at this; omega
    have hne : 258 + 7 * s < hi x ∨ hi x + 6 ≤ 258 + 7 * s := by
      by_cases c2 : 258 + 7 * s < hi x
      · exact Or.inl c2
      · refine Or.inr (Nat.le_of_not_lt fun c3 => ?_)
        exact (hi_x (m := 258 + 7 * s - hi x) hx (by omega) hs8).1 (by omega)
    rw [ho _ hne]; exact r.rd hs'
  · have hne : 19 < hi x ∨ hi x + 6 ≤ 19 := by
      have := hi_cases hx
      rcases this with ⟨-, e'⟩ | ⟨-, e'⟩ | ⟨-, e'⟩ | ⟨s', hs', -, e'⟩ | ⟨s', hs', -, e'⟩ | ⟨s', hs', -, e'⟩ | ⟨s', hs', -, e'⟩ <;> omega
    rw [ho _ hne, s_h_n (Ne.symm h1)]; exact r.al
/-- a slot's rounds; a slot that becomes full must hold its masses already -/
theorem RW.rn (r : RW R S) {s : Nat} (v : Nat) (hs : s < S 8 1 0) (h' : ∀ x, R' x = if x = 258 + 7 * s then rnd v else R x) (hv : v ≠ 0 → S 4 s 0 = 0 → ∀ m, m < 6 → R (252 + 7 * s + m) = nI (S 0 (11 + s) m)) : RW R' (s_p S 4 s 0 v) := by
  have hb := r.b
  unfold Lb at hb
  have hs8 : s < 8 := by omega
  have e8 : s_p S 4 s 0 v 8 = S 8 := s_p_t (by decide)
  have e2 : s_p S 4 s 0 v 2 = S 2 := s_p_t (by decide)
  have e0 : s_p S 4 s 0 v 0 = S 0 := s_p_00 (by decide)
  refine ⟨r.b, fun t i j d => ?_, fun h m q hm => ?_, fun s' hs' => ?_, ?_⟩
  · have d2 : dR S t i j := d
    have ht : t ≠ 4 := by have := d.1; unfold dR0 at this; omega
    rw [h', if_neg (ri_x d.1 hs8).1, s_p_t ht]; exact r.c d2
  · have hh : h < 89 := by
      have := r.b
      unfold Lb at this
      unfold lR at q
      rw [e8, e2] at q
      omega
    rw [h', if_neg (hi_x hh hm hs8).1, e0]
    by_cases c : h = 11 + s
    · subst c
      unfold lR at q
      rw [e8, e2, show 11 + s - 11 = s by omega, s_p_s] at q
      by_cases c4 : S 4 s 0 = 0
      · rw [hi_slot hs8]
        exact hv (by omega) c4 m hm
      · exact r.m (by unfold lR; rw [show 11 + s - 11 = s by omega]; omega) hm
    · refine r.m ?_ hm
      unfold lR at q ⊢
      rw [e8, e2] at q
      by_cases c5 : h - 11 = s ∧ 11 ≤ h
      · omega
      · by_cases c6 : 11 ≤ h
        · rw [s_p_i (by omega)] at q
          exact q
        · omega
  · have hs2 : s' < S 8 1 0 := hs'
    rw [h']
    by_cases c : s' = s
    · subst c
      rw [if_pos rfl, s_p_s]
    · rw [if_neg (by omega), s_p_i c]; exact r.rd hs2
  · rw [h', if_neg (by omega), e0]; exact r.al
end RWS

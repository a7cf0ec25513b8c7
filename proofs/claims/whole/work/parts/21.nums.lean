/-! NUMBERS: sums, the greatest, what is left of a heap after a portion -/
theorem nI_ex (x : Int32) : ∃ n : Nat, n < 4294967296 ∧ x = nI n := ⟨x.toUInt32.toNat, x.toUInt32.toNat_lt, by
  show x = Int32.ofNat x.toUInt32.toNat
  apply Int32.toBitVec_inj.mp
  simp [Int32.toBitVec_ofNat', BitVec.ofNat_toNat]⟩
def s6 (f : Nat → Nat) : Nat := f 0 + f 1 + f 2 + f 3 + f 4 + f 5
def am (f : Nat → Nat) (b : Nat) : Nat → Nat
  | 0 => 0
  | n + 1 => if n ≠ b ∧ (am f b n = 0 ∨ f (am f b n - 1) < f n) then n + 1 else am f b n
theorem am_le (f : Nat → Nat) (b : Nat) : ∀ n, am f b n ≤ n
  | 0 => Nat.le_refl _
  | n + 1 => by
    have := am_le f b n
    unfold am
    split <;> omega
theorem am_ne (f : Nat → Nat) (b : Nat) : ∀ n, am f b n ≠ 0 → am f b n - 1 ≠ b
  | 0, h => absurd rfl h
  | n + 1, h => by
    have := am_ne f b n
    unfold am at h ⊢
    split
    · rename_i hc; simpa using hc.1
    · rename_i hc; rw [if_neg hc] at h; exact this h
theorem am_ge (f : Nat → Nat) (b : Nat) : ∀ n m, m < n → m ≠ b → am f b n ≠ 0 ∧ f m ≤ f (am f b n - 1)
  | 0, m, h, _ => by omega
  | n + 1, m, h, hb => by
    unfold am
    by_cases hm : m = n
    · subst hm
      split
      · exact ⟨by omega, by simp⟩
      · rename_i hc
        simp only [ne_eq, not_and, not_or] at hc
        have := hc hb
        exact ⟨this.1, by omega⟩
    · have := am_ge f b n m (by omega) hb
      split
      · rename_i hc
        refine ⟨by omega, ?_⟩
        simp only [Nat.add_sub_cancel]
        rcases hc.2 with h2 | h2
        · exact absurd h2 this.1
        · omega
      · exact this
theorem am_zero {f : Nat → Nat} {b n : Nat} (h : am f b n ≠ 0) : ∀ k, (∀ m, n ≤ m → m < n + k → f m = 0) → am f b (n + k) = am f b n
  | 0, _ => rfl
  | k + 1, hz => by
    have ih := am_zero h k (fun m h1 h2 => hz m h1 (by omega))
    have e : am f b (n + k + 1) = if n + k ≠ b ∧ (am f b (n + k) = 0 ∨ f (am f b (n + k) - 1) < f (n + k)) then n + k + 1 else am f b (n + k) := rfl
    show am f b (n + k + 1) = _
    rw [e, ih, if_neg]
    rw [hz (n + k) (by omega) (by omega)]
    rintro ⟨-, h2 | h2⟩
    · exact h h2
    · omega
theorem am_6 {f : Nat → Nat} {b n : Nat} (hn : n ≤ 6) (h : am f b n ≠ 0) (hz : ∀ m, n ≤ m → m < 6 → f m = 0) : am f b 6 = am f b n := by
  have := am_zero h (6 - n) (fun m h1 h2 => hz m h1 (by omega))
  rwa [show n + (6 - n) = 6 by omega] at this
/-- n times one kilogram of the greatest goes -/
def dl : Nat → (Nat → Nat) → Nat → Nat
  | 0, f => f
  | n + 1, f => dl n (fun m => if m + 1 = am f 99 6 then f m - 1 else f m)
theorem s6_one {f : Nat → Nat} (h : 0 < s6 f) : am f 99 6 ≠ 0 ∧ 0 < f (am f 99 6 - 1) ∧ am f 99 6 ≤ 6 ∧ s6 (fun m => if m + 1 = am f 99 6 then f m - 1 else f m) = s6 f - 1 := by
  have h0 := am_ge f 99 6 0 (by omega) (by omega)
  have h1 := am_ge f 99 6 1 (by omega) (by omega)
  have h2 := am_ge f 99 6 2 (by omega) (by omega)
  have h3 := am_ge f 99 6 3 (by omega) (by omega)
  have h4 := am_ge f 99 6 4 (by omega) (by omega)
  have h5 := am_ge f 99 6 5 (by omega) (by omega)
  have hl := am_le f 99 6
  unfold s6 at h ⊢
  have hp : 0 < f (am f 99 6 - 1) := by omega
  refine ⟨h0.1, hp, hl, ?_⟩
  generalize am f 99 6 = a at *
  match a, hl, h0.1 with
  | 1, _, _ => simp at hp ⊢; omega
  | 2, _, _ => simp at hp ⊢; omega
  | 3, _, _ => simp at hp ⊢; omega
  | 4, _, _ => simp at hp ⊢; omega
  | 5, _, _ => simp at hp ⊢; omega
  | 6, _, _ => simp at hp ⊢; omega
theorem dl_le : ∀ (n : Nat) (f : Nat → Nat) (m : Nat), dl n f m ≤ f m
  | 0, _, _ => Nat.le_refl _
  | n + 1, f, m => by
    refine Nat.le_trans (dl_le n _ m) ?_
    show (if m + 1 = am f 99 6 then f m - 1 else f m) ≤ f m
    split <;> omega
theorem s6_dl : ∀ (n : Nat) (f : Nat → Nat), n ≤ s6 f → s6 (dl n f) = s6 f - n
  | 0, _, _ => rfl
  | n + 1, f, h => by
    have h1 := s6_one (f := f) (by omega)
    show s6 (dl n _) = _
    rw [s6_dl n _ (by rw [h1.2.2.2]; omega), h1.2.2.2]
    omega
/-- the end of the last step, told from the end -/
theorem dl_end : ∀ (n : Nat) (f : Nat → Nat), dl (n + 1) f = fun m => if m + 1 = am (dl n f) 99 6 then dl n f m - 1 else dl n f m
  | 0, _ => rfl
  | n + 1, f => by
    show dl (n + 1) _ = _
    rw [dl_end n]
    rfl
theorem s6_cg {f g : Nat → Nat} (h : ∀ m, m < 6 → f m = g m) : s6 f = s6 g := by
  unfold s6
  rw [h 0 (by omega), h 1 (by omega), h 2 (by omega), h 3 (by omega), h 4 (by omega), h 5 (by omega)]
theorem s6_mono {f g : Nat → Nat} (h : ∀ m, m < 6 → f m ≤ g m) : s6 f ≤ s6 g := by
  have := h 0 (by omega); have := h 1 (by omega); have := h 2 (by omega); have := h 3 (by omega); have := h 4 (by omega); have := h 5 (by omega)
  unfold s6; omega
theorem s6_at (f : Nat → Nat) {m : Nat} (h : m < 6) : f m ≤ s6 f := by
  unfold s6
  match m, h with
  | 0, _ => omega
  | 1, _ => omega
  | 2, _ => omega
  | 3, _ => omega
  | 4, _ => omega
  | 5, _ => omega
theorem s6_add (f g : Nat → Nat) : s6 (fun m => f m + g m) = s6 f + s6 g := by simp only [s6]; omega
theorem s6_sub {f g : Nat → Nat} (h : ∀ m, m < 6 → g m ≤ f m) : s6 (fun m => f m - g m) + s6 g = s6 f := by
  have := h 0 (by omega); have := h 1 (by omega); have := h 2 (by omega); have := h 3 (by omega); have := h 4 (by omega); have := h 5 (by omega)
  simp only [s6]; omega
theorem s6_0 : s6 (fun _ => 0) = 0 := rfl
/-- a whole share of each, together no more than the portion -/
theorem s6_part (f : Nat → Nat) (p : Nat) (h : 0 < s6 f) : s6 (fun m => f m * p / s6 f) ≤ p := by
  have key : s6 (fun m => f m * p / s6 f) * s6 f ≤ p * s6 f := by
    have e : p * s6 f = f 0 * p + f 1 * p + f 2 * p + f 3 * p + f 4 * p + f 5 * p := by
      unfold s6
      rw [Nat.mul_comm p, Nat.add_mul, Nat.add_mul, Nat.add_mul, Nat.add_mul, Nat.add_mul]
    rw [e]
    have q : ∀ m, f m * p / s6 f * s6 f ≤ f m * p := fun m => Nat.div_mul_le_self _ _
    have := q 0; have := q 1; have := q 2; have := q 3; have := q 4; have := q 5
    show (f 0 * p / s6 f + f 1 * p / s6 f + f 2 * p / s6 f + f 3 * p / s6 f + f 4 * p / s6 f + f 5 * p / s6 f) * s6 f ≤ _
    rw [Nat.add_mul, Nat.add_mul, Nat.add_mul, Nat.add_mul, Nat.add_mul]
    omega
  exact Nat.le_of_mul_le_mul_right key h
theorem part_le (f : Nat → Nat) (p m : Nat) (hp : p ≤ s6 f) : f m * p / s6 f ≤ f m := by
  by_cases h : s6 f = 0
  · rw [h, Nat.div_zero]; exact Nat.zero_le _
  · exact Nat.div_le_of_le_mul (by rw [Nat.mul_comm (s6 f)]; exact Nat.mul_le_mul_left _ hp)
/-- what is left of a heap when a portion p is gone -/
def rs (f : Nat → Nat) (p : Nat) : Nat → Nat := if s6 f ≤ p then fun _ => 0 else dl (p - s6 (fun m => f m * p / s6 f)) (fun m => f m - f m * p / s6 f)
def tk (f : Nat → Nat) (p : Nat) : Nat → Nat := fun m => f m - rs f p m
theorem rs_le (f : Nat → Nat) (p m : Nat) : rs f p m ≤ f m := by
  unfold rs
  split
  · exact Nat.zero_le _
  · refine Nat.le_trans (dl_le _ _ _) ?_
    exact Nat.sub_le _ _
theorem s6_rs (f : Nat → Nat) (p : Nat) : s6 (rs f p) = s6 f - p := by
  unfold rs
  split
  · rw [s6_0]; omega
  · rename_i h
    have h1 := s6_part f p (by omega)
    have h2 : s6 (fun m => f m - f m * p / s6 f) + s6 (fun m => f m * p / s6 f) = s6 f := s6_sub (fun m _ => part_le f p m (by omega))
    rw [s6_dl _ _ (by omega)]
    omega
theorem tk_add (f : Nat → Nat) (p m : Nat) : tk f p m + rs f p m = f m := by
  have := rs_le f p m
  unfold tk; omega
theorem tk_le (f : Nat → Nat) (p m : Nat) : tk f p m ≤ f m := by unfold tk; omega
theorem s6_tk (f : Nat → Nat) (p : Nat) : s6 (tk f p) = if s6 f ≤ p then s6 f else p := by
  have h := s6_sub (f := f) (g := rs f p) (fun m _ => rs_le f p m)
  have h2 := s6_rs f p
  show s6 (fun m => f m - rs f p m) = _
  split <;> omega
/-- sums over the first n -/
def sm (g : Nat → Nat) : Nat → Nat
  | 0 => 0
  | n + 1 => sm g n + g n
theorem sm_le {f g : Nat → Nat} : ∀ {n : Nat}, (∀ i, i < n → f i ≤ g i) → sm f n ≤ sm g n
  | 0, _ => Nat.le_refl _
  | n + 1, h => Nat.add_le_add (sm_le fun i hi => h i (by omega)) (h n (by omega))
theorem sm_cg {f g : Nat → Nat} : ∀ {n : Nat}, (∀ i, i < n → f i = g i) → sm f n = sm g n
  | 0, _ => rfl
  | n + 1, h => by rw [sm, sm, sm_cg (fun i hi => h i (by omega)), h n (by omega)]
theorem sm_const (c : Nat) : ∀ n, sm (fun _ => c) n = n * c
  | 0 => by simp [sm]
  | n + 1 => by rw [sm, sm_const c n, Nat.add_mul, Nat.one_mul]
theorem sm_bd {f : Nat → Nat} {c n : Nat} (h : ∀ i, i < n → f i ≤ c) : sm f n ≤ n * c := by rw [← sm_const c n]; exact sm_le h
theorem s6_sm (f : Nat → Nat) : sm f 6 = s6 f := by simp [sm, s6]
theorem sm_s6 {f : Nat → Nat} {n : Nat} (hn : n ≤ 6) : sm f n ≤ s6 f := by
  have k : ∀ j, sm f n ≤ sm f (n + j) := by
    intro j
    induction j with
    | zero => exact Nat.le_refl _
    | succ j ih => exact Nat.le_trans ih (Nat.le_add_right _ _)
  have := k (6 - n)
  rw [show n + (6 - n) = 6 by omega, s6_sm] at this
  exact this

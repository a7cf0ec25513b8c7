/-! WHAT ALWAYS HOLDS, kept by each step -/
theorem cf_if {S S1 S2 : s_T} {c : Prop} [Decidable c] (a : s_cf S S1) (b : s_cf S S2) : s_cf S (if c then S1 else S2) := by split <;> assumption
theorem cf_add (S : s_T) (f : Nat → Nat) (r : Nat) : s_cf S (o_add S f r) := cf_t (cf_t cf_h (cf_p (by decide))) (cf_p (by decide))
theorem cf_lE (S : s_T) (s : Nat) : s_cf S (o_lE S s) := cf_t cf_h (cf_p (by decide))
theorem cf_lA (S : s_T) (s : Nat) : s_cf S (o_lA S s) := cf_t (cf_add _ _ _) (cf_p (by decide))
theorem cf_lR (S : s_T) (s : Nat) : s_cf S (o_lR S s) := cf_h
theorem cf_leave (S : s_T) : s_cf S (o_leave S) := cf_if (cf_r S) (cf_if (cf_t (cf_lA _ _) (cf_lE _ _)) (cf_t (cf_lR _ _) (cf_lE _ _)))
theorem cf_move (S : s_T) : s_cf S (o_move S) := ⟨by funext i j; simp [o_move], by funext i j; simp [o_move], by funext i j; simp [o_move], by funext i j; simp [o_move], by funext i j; simp [o_move]⟩
theorem cf_drop (S : s_T) : s_cf S (o_drop S) := ⟨by funext i j; simp [o_drop], by funext i j; simp [o_drop], by funext i j; simp [o_drop], by funext i j; simp [o_drop], by funext i j; simp [o_drop]⟩
theorem cf_fd (S : s_T) : s_cf S (o_fd S) := cf_t (cf_t cf_h cf_h) (cf_p (by decide))
theorem cf_feed (S : s_T) : s_cf S (o_feed S) := cf_if (cf_r S) (cf_if (cf_t (cf_fd _) (cf_drop _)) (cf_fd _))
theorem cf_go (S : s_T) (s m v : Nat) : s_cf S (o_go S s m v) := cf_t cf_h cf_h
theorem cf_pick (s : Nat) (S : s_T) : s_cf S (o_pick s S) := cf_if (cf_p (by decide)) (cf_t (cf_t (cf_t (cf_t (cf_go _ _ _ _) (cf_go _ _ _ _)) (cf_p (by decide))) (cf_p (by decide))) (cf_p (by decide)))
theorem cf_dat (S : s_T) (b v0 v1 v2 v3 : Nat) : s_cf S (o_dat S b v0 v1 v2 v3) := cf_t (cf_t (cf_t (cf_p (by decide)) (cf_p (by decide))) (cf_p (by decide))) (cf_p (by decide))
theorem cf_press1 (s : Nat) (S : s_T) : s_cf S (o_press1 s S) := cf_t (cf_t (cf_t (cf_t (cf_t (cf_t (cf_t (cf_t cf_h cf_h) (cf_dat _ _ _ _ _ _)) (cf_p (by decide))) (cf_p (by decide))) (cf_p (by decide))) (cf_p (by decide))) cf_h) cf_h
theorem cf_pressN (s : Nat) : ∀ n S, s_cf S (o_pressN s n S)
  | 0, S => cf_r S
  | n + 1, S => cf_if (cf_r S) (cf_t (cf_press1 s S) (cf_pressN s n _))
theorem cf_press (s : Nat) (S : s_T) : s_cf S (o_press s S) := cf_pressN _ _ _
theorem cf_picks : ∀ n S, s_cf S (o_picks n S)
  | 0, S => cf_r S
  | n + 1, S => cf_t (cf_picks n S) (cf_pick _ _)
theorem cf_presses : ∀ n S, s_cf S (o_presses n S)
  | 0, S => cf_r S
  | n + 1, S => cf_t (cf_presses n S) (cf_press _ _)
theorem cf_tick (S : s_T) : s_cf S (o_tick S) := cf_t (cf_t (cf_t (cf_t (cf_t (cf_leave _) (cf_move _)) (cf_feed _)) (cf_picks _ _)) (cf_presses _ _)) (cf_p (by decide))
theorem cf_ticks : ∀ n S, s_cf S (o_ticks n S)
  | 0, S => cf_r S
  | n + 1, S => cf_t (cf_ticks n S) (cf_tick _)
theorem iv_c.cf {S S' : s_T} (h : s_cf S S') (q : iv_c S) : iv_c S' := by
  obtain ⟨a1, a2, a3, a4, -⟩ := h
  unfold iv_c
  rw [a2, a3, a4]; exact q
theorem iv_s.cf {S S' : s_T} (h : s_cf S S') (q : iv_s S) : iv_s S' := by
  obtain ⟨a1, -⟩ := h
  unfold iv_s
  rw [a1]; exact q
/-! a change of one heap; of numbers that nothing hangs on -/
theorem iw_h {R B P S} (h : Nat) (f : Nat → Nat) (q : iw R B P S) (hz : lv S h → ∀ m, S 8 0 0 ≤ m → m < 6 → f m = 0) (R' : Nat) (B' : Nat → Nat)
    (h0 : s6 (s_h S h f 0 0) ≤ R') (h1 : h = 1 → s6 f ≤ 500 * S 2 1 0) (h3 : ∀ s, s < S 8 1 0 → s6 (s_h S h f 0 (3 + s)) ≤ B' s) (h11 : ∀ s, s < S 8 1 0 → h = 11 + s → s6 f ≤ 200 ∧ (S 4 s 0 = 0 ↔ s6 f = 0))
    (h19 : ∀ k, k < S 2 10 0 → h = 19 + k → 1 ≤ s6 f ∧ s6 f ≤ 5994) (h49 : ∀ b, b < S 2 11 0 → h = 49 + b → 1 ≤ s6 f ∧ s6 f ≤ 500) : iw R' B' P (s_h S h f) := by
  obtain ⟨q1, q2, q3, q4, q5, q6, q7, q8, q9, q10, q11⟩ := q
  refine ⟨q1.cf cf_h, q2.cf cf_h, ?_, ?_, ?_, ?_, ?_, h0, h3, ?_, ?_⟩
  · exact q3
  · intro s hs
    have a := q4 s hs
    by_cases e : h = 11 + s
    · have b := h11 s hs e
      subst e
      rw [s_h_s]
      exact ⟨a.1, a.2.1, a.2.2.1, b.1, b.2⟩
    · rw [s_h_n (Ne.symm e)]
      exact a
  · intro k hk
    have a := q5 k hk
    by_cases e : h = 19 + k
    · have b := h19 k hk e
      subst e
      rw [s_h_s]
      exact ⟨b.1, b.2, a.2.2⟩
    · rw [s_h_n (Ne.symm e)]
      exact a
  · intro k hk
    have a := q6 k hk
    by_cases e : h = 49 + k
    · have b := h49 k hk e
      subst e
      rw [s_h_s]
      exact ⟨b.1, b.2, a.2.2⟩
    · rw [s_h_n (Ne.symm e)]
      exact a
  · intro h' hl m hm hm6
    by_cases e : h' = h
    · subst e
      rw [s_h_s]
      exact hz hl m hm hm6
    · rw [s_h_n e]
      exact q7 h' hl m hm hm6
  · exact q10
  · by_cases e : h = 1
    · have b := h1 e
      subst e
      rw [s_h_s]
      exact b
    · rw [s_h_n (fun q => e q.symm)]
      exact q11
theorem s_p_00 {S : s_T} {t i j v : Nat} (h : t ≠ 0) : s_p S t i j v 0 = S 0 := s_p_t (Ne.symm h)
theorem lv_p {S : s_T} {t i j v h : Nat} (h8 : t ≠ 8) (h2 : t = 2 → i ≠ 10 ∧ i ≠ 11) : lv (s_p S t i j v) h ↔ lv S h := by
  have e8 : s_p S t i j v 8 = S 8 := s_p_t (Ne.symm h8)
  have e10 : s_p S t i j v 2 10 0 = S 2 10 0 := by
    unfold s_p; rw [if_neg]; rintro ⟨a, b, -⟩; exact (h2 a.symm).1 b.symm
  have e11 : s_p S t i j v 2 11 0 = S 2 11 0 := by
    unfold s_p; rw [if_neg]; rintro ⟨a, b, -⟩; exact (h2 a.symm).2 b.symm
  unfold lv
  rw [e8, e10, e11]
theorem iw_p {R B P S} (t i j v : Nat) (q : iw R B P S) (ht : t ≠ 0 ∧ t ≠ 1 ∧ t ≠ 8 ∧ t ≠ 9 ∧ t ≠ 10 ∧ t ≠ 11) (h2 : t = 2 → i ≠ 1 ∧ i ≠ 10 ∧ i ≠ 11) (h3 : t = 3 → v ≤ 5) (h4 : t = 4 → j = 0 → v ≤ 6 ∧ (v = 0 ↔ s6 (S 0 (11 + i)) = 0))
    (h5 : t = 5 → (j = 0 → v ≤ 9) ∧ (j = 1 → v ≤ 60)) (h6 : t = 6 → (j = 1 → v < S 8 0 0) ∧ (j = 2 → v ≤ 100) ∧ (j = 3 → v ≤ 2)) : iw R B P (s_p S t i j v) := by
  obtain ⟨q1, q2, q3, q4, q5, q6, q7, q8, q9, q10, q11⟩ := q
  have cf : s_cf S (s_p S t i j v) := cf_p ⟨ht.2.1, ht.2.2.1, ht.2.2.2.1, ht.2.2.2.2.1, ht.2.2.2.2.2⟩
  have e8 : s_p S t i j v 8 = S 8 := cf.2.1
  have e0 : s_p S t i j v 0 = S 0 := s_p_00 ht.1
  have en : ∀ x, x = 1 ∨ x = 10 ∨ x = 11 → s_p S t i j v 2 x 0 = S 2 x 0 := fun x hx => by
    unfold s_p; rw [if_neg]; rintro ⟨a, b, -⟩
    have := h2 a.symm
    omega
  refine ⟨q1.cf cf, q2.cf cf, ?_, ?_, ?_, ?_, ?_, ?_, ?_, ?_, ?_⟩
  · unfold iv_n
    rw [en 10 (by simp), en 11 (by simp)]; exact q3
  · intro s hs
    rw [e8] at hs
    have a := q4 s hs
    rw [e0]
    refine ⟨?_, ?_, ?_, a.2.2.2.1, ?_⟩
    · by_cases c : 5 = t ∧ s = i ∧ 0 = j
      · have := (h5 c.1.symm).1 c.2.2.symm
        simp [s_p, c]; exact this
      · simp [s_p, c]; exact a.1
    · by_cases c : 5 = t ∧ s = i ∧ 1 = j
      · have := (h5 c.1.symm).2 c.2.2.symm
        simp [s_p, c]; exact this
      · simp [s_p, c]; exact a.2.1
    · by_cases c : 4 = t ∧ s = i ∧ 0 = j
      · have := (h4 c.1.symm c.2.2.symm).1
        simp [s_p, c]; exact this
      · simp [s_p, c]; exact a.2.2.1
    · by_cases c : 4 = t ∧ s = i ∧ 0 = j
      · have := (h4 c.1.symm c.2.2.symm).2
        obtain ⟨rfl, rfl, rfl⟩ := c
        rw [s_p_s]
        exact this
      · simp [s_p, c]; exact a.2.2.2.2
  · intro k hk
    rw [en 10 (by simp)] at hk
    have a := q5 k hk
    rw [e0]
    refine ⟨a.1, a.2.1, ?_⟩
    by_cases c : 3 = t ∧ k = i ∧ 0 = j
    · have := h3 c.1.symm
      simp [s_p, c]; exact this
    · simp [s_p, c]; exact a.2.2
  · intro b hb
    rw [en 11 (by simp)] at hb
    have a := q6 b hb
    rw [e0, e8]
    refine ⟨a.1, a.2.1, ?_, ?_, ?_⟩
    · by_cases c : 6 = t ∧ b = i ∧ 1 = j
      · have := (h6 c.1.symm).1 c.2.2.symm
        simp [s_p, c]; exact this
      · simp [s_p, c]; exact a.2.2.1
    · by_cases c : 6 = t ∧ b = i ∧ 2 = j
      · have := (h6 c.1.symm).2.1 c.2.2.symm
        simp [s_p, c]; exact this
      · simp [s_p, c]; exact a.2.2.2.1
    · by_cases c : 6 = t ∧ b = i ∧ 3 = j
      · have := (h6 c.1.symm).2.2 c.2.2.symm
        simp [s_p, c]; exact this
      · simp [s_p, c]; exact a.2.2.2.2
  · intro h hl m hm hm6
    rw [lv_p ht.2.2.1 (fun e => (h2 e).2)] at hl
    rw [e8] at hm
    rw [e0]
    exact q7 h hl m hm hm6
  · rw [e0]; exact q8
  · intro s hs
    rw [e8] at hs
    rw [e0]; exact q9 s hs
  · rw [en 1 (by simp)]; exact q10
  · rw [e0, en 1 (by simp)]; exact q11
/-- one more parcel -/
theorem iw_add {R B P S} (f : Nat → Nat) (r : Nat) (q : iw R B P S) (hw : S 2 10 0 < 30) (h1 : 1 ≤ s6 f) (h2 : s6 f ≤ 5994) (h3 : r ≤ 5) (hz : ∀ m, S 8 0 0 ≤ m → m < 6 → f m = 0) : iw R B P (o_add S f r) := by
  have cf := cf_add S f r
  obtain ⟨q1, q2, q3, q4, q5, q6, q7, q8, q9, q10, q11⟩ := q
  have e8 : o_add S f r 8 = S 8 := cf.2.1
  have e0 : ∀ h, h ≠ 19 + S 2 10 0 → o_add S f r 0 h = S 0 h := fun h hh => by funext m; simp [o_add, s_p, s_h, hh]
  have e19 : o_add S f r 0 (19 + S 2 10 0) = f := by funext m; simp [o_add, s_p, s_h]
  have ew : o_add S f r 2 10 0 = S 2 10 0 + 1 := by simp [o_add, s_p]
  have en : ∀ x, x ≠ 10 → o_add S f r 2 x 0 = S 2 x 0 := fun x hx => by simp [o_add, s_p, s_h, hx]
  have e5 : ∀ t, t ≠ 0 → t ≠ 2 → t ≠ 3 → o_add S f r t = S t := fun t a b c => by funext x y; simp [o_add, s_p, s_h, a, b, c]
  unfold iv_c at q1
  unfold iv_n at q3
  refine ⟨iv_c.cf cf q1, iv_s.cf cf q2, ?_, ?_, ?_, ?_, ?_, ?_, ?_, ?_, ?_⟩
  · unfold iv_n
    rw [ew, en 11 (by decide)]; omega
  · intro s hs
    rw [e8] at hs
    have a := q4 s hs
    rw [e0 _ (by omega), e5 5 (by decide) (by decide) (by decide), e5 4 (by decide) (by decide) (by decide)]
    exact a
  · intro k hk
    rw [ew] at hk
    by_cases c : k = S 2 10 0
    · subst c
      rw [e19]
      refine ⟨h1, h2, ?_⟩
      simp [o_add, s_p]; exact h3
    · have a := q5 k (by omega)
      rw [e0 _ (by omega)]
      refine ⟨a.1, a.2.1, ?_⟩
      simp [o_add, s_p, s_h, c]; exact a.2.2
  · intro b hb
    rw [en 11 (by decide)] at hb
    have a := q6 b hb
    rw [e0 _ (by omega), e8, e5 6 (by decide) (by decide) (by decide)]
    exact a
  · intro h hl m hm hm6
    rw [e8] at hm
    by_cases c : h = 19 + S 2 10 0
    · subst c
      rw [e19]; exact hz m hm hm6
    · rw [e0 _ c]
      refine q7 h ?_ m hm hm6
      unfold lv at hl ⊢
      rw [e8, ew, en 11 (by decide)] at hl
      omega
  · rw [e0 _ (by omega)]; exact q8
  · intro s hs
    rw [e8] at hs
    rw [e0 _ (by omega)]; exact q9 s hs
  · rw [en 1 (by decide)]; exact q10
  · rw [e0 _ (by omega), en 1 (by decide)]; exact q11
theorem iw.mono {R B P R' B' P' S} (q : iw R B P S) (hR : R ≤ R') (hB : ∀ s, s < S 8 1 0 → B s ≤ B' s) (hP : P ≤ P') : iw R' B' P' S := by
  obtain ⟨q1, q2, q3, q4, q5, q6, q7, q8, q9, q10, q11⟩ := q
  exact ⟨q1, q2, q3, q4, q5, q6, q7, Nat.le_trans q8 hR, fun s hs => Nat.le_trans (q9 s hs) (hB s hs), Nat.le_trans q10 hP, q11⟩
theorem s_h_h (S : s_T) (h : Nat) (f g : Nat → Nat) : s_h (s_h S h f) h g = s_h S h g := by
  funext t i j; simp only [s_h]; split <;> rfl
theorem s_h_c {S : s_T} {h h' : Nat} {f g : Nat → Nat} (e : h ≠ h') : s_h (s_h S h f) h' g = s_h (s_h S h' g) h f := by
  funext t i j; simp only [s_h]
  by_cases a : t = 0 ∧ i = h
  · rw [if_neg (fun b => e (a.2.symm.trans b.2)), if_pos a, if_pos a]
  · rw [if_neg a, if_neg a]
theorem s_p_h {S : s_T} {t i j v h : Nat} {f : Nat → Nat} (ht : t ≠ 0) : s_p (s_h S h f) t i j v = s_h (s_p S t i j v) h f := by
  funext t' i' j'; simp only [s_h, s_p]
  by_cases a : t' = 0 ∧ i' = h
  · rw [if_neg (fun b => ht (b.1.symm.trans a.1)), if_pos a, if_pos a]
  · rw [if_neg a, if_neg a]
theorem s_p_c {S : s_T} {t i j v t' i' j' v' : Nat} (e : ¬ (t' = t ∧ i' = i ∧ j' = j)) : s_p (s_p S t i j v) t' i' j' v' = s_p (s_p S t' i' j' v') t i j v := by
  funext a b c; simp only [s_p]
  by_cases q : a = t ∧ b = i ∧ c = j
  · rw [if_neg (fun r => e ⟨r.1.symm.trans q.1, r.2.1.symm.trans q.2.1, r.2.2.symm.trans q.2.2⟩), if_pos q, if_pos q]
  · rw [if_neg q, if_neg q]
/-- a slot and its rounds -/
theorem iw_slot {R B P S} (s : Nat) (f : Nat → Nat) (v : Nat) (q : iw R B P S) (hs : s < S 8 1 0) (hv : v ≤ 6) (h1 : s6 f ≤ 200) (h2 : v = 0 ↔ s6 f = 0) (hz : ∀ m, S 8 0 0 ≤ m → m < 6 → f m = 0) : iw R B P (s_p (s_h S (11 + s) f) 4 s 0 v) := by
  obtain ⟨q1, q2, q3, q4, q5, q6, q7, q8, q9, q10, q11⟩ := q
  have n8 : S 8 1 0 ≤ 8 := q1.2.2.2.1
  have hcf : s_cf S (s_p (s_h S (11 + s) f) 4 s 0 v) := cf_t cf_h (cf_p (by decide))
  have e0 : ∀ h, h ≠ 11 + s → s_p (s_h S (11 + s) f) 4 s 0 v 0 h = S 0 h := fun h hh => by rw [s_p_00 (by decide), s_h_n hh]
  have es : s_p (s_h S (11 + s) f) 4 s 0 v 0 (11 + s) = f := by rw [s_p_00 (by decide), s_h_s]
  have e4 : ∀ i, i ≠ s → s_p (s_h S (11 + s) f) 4 s 0 v 4 i 0 = S 4 i 0 := fun i hi => by rw [s_p_i hi, s_h_t (by decide)]
  have et : ∀ t, t ≠ 0 → t ≠ 4 → s_p (s_h S (11 + s) f) 4 s 0 v t = S t := fun t a b => by rw [s_p_t b, s_h_t a]
  have elv : ∀ h, lv (s_p (s_h S (11 + s) f) 4 s 0 v) h ↔ lv S h := fun h => by unfold lv; rw [et 8 (by decide) (by decide), et 2 (by decide) (by decide)]
  refine ⟨q1.cf hcf, q2.cf hcf, ?_, ?_, ?_, ?_, ?_, ?_, ?_, ?_, ?_⟩
  · unfold iv_n; rw [et 2 (by decide) (by decide)]; exact q3
  · intro i hi
    rw [et 8 (by decide) (by decide)] at hi
    have a := q4 i hi
    rw [et 5 (by decide) (by decide)]
    by_cases c : i = s
    · subst c
      rw [es, s_p_s]
      exact ⟨a.1, a.2.1, hv, h1, h2⟩
    · rw [e4 i c, e0 _ (by omega)]
      exact a
  · intro k hk
    rw [et 2 (by decide) (by decide)] at hk
    rw [e0 _ (by omega), et 3 (by decide) (by decide)]
    exact q5 k hk
  · intro b hb
    rw [et 2 (by decide) (by decide)] at hb
    rw [e0 _ (by omega), et 6 (by decide) (by decide), et 8 (by decide) (by decide)]
    exact q6 b hb
  · intro h hl m hm hm6
    rw [elv] at hl
    rw [et 8 (by decide) (by decide)] at hm
    by_cases c : h = 11 + s
    · subst c
      rw [es]; exact hz m hm hm6
    · rw [e0 h c]; exact q7 h hl m hm hm6
  · rw [e0 _ (by omega)]; exact q8
  · intro i hi
    rw [et 8 (by decide) (by decide)] at hi
    rw [e0 _ (by omega)]; exact q9 i hi
  · rw [et 2 (by decide) (by decide)]; exact q10
  · rw [e0 _ (by omega), et 2 (by decide) (by decide)]; exact q11
theorem lv_slot {S : s_T} {s : Nat} (h : s < S 8 1 0) : lv S (11 + s) := Or.inr (Or.inr (Or.inl ⟨by omega, by omega⟩))
theorem lv_bun {S : s_T} {s : Nat} (h : s < S 8 1 0) : lv S (3 + s) := Or.inr (Or.inl ⟨by omega, by omega⟩)
theorem lv_par {S : s_T} {k : Nat} (h : k < S 2 10 0) : lv S (19 + k) := Or.inr (Or.inr (Or.inr (Or.inl ⟨by omega, by omega⟩)))
theorem lv_bal {S : s_T} {b : Nat} (h : b < S 2 11 0) : lv S (49 + b) := Or.inr (Or.inr (Or.inr (Or.inr ⟨by omega, by omega⟩)))
theorem iw_lE {R B P S} (s : Nat) (q : iw R B P S) (hs : s < S 8 1 0) : iw R B P (o_lE S s) := iw_slot s _ 0 q hs (by decide) (by decide) ⟨fun _ => rfl, fun _ => rfl⟩ (fun _ _ _ => rfl)
theorem iw_leave {R B P S} (q : iw R B P S) : iw (R + 200) B P (o_leave S) := by
  obtain ⟨s, hs⟩ : ∃ s, s = S 8 1 0 - 1 := ⟨_, rfl⟩
  unfold o_leave
  rw [← hs]
  have q0 := q
  obtain ⟨q1, q2, q3, q4, q5, q6, q7, q8, q9, q10, q11⟩ := q
  unfold iv_c at q1
  unfold iv_s at q2
  have hn : s < S 8 1 0 := by omega
  have a := q4 s hn
  have z := q7 _ (lv_slot hn)
  split
  · exact q0.mono (by omega) (fun s _ => Nat.le_refl _) (Nat.le_refl _)
  · rename_i h0
    split
    · rename_i hg
      have h1 := iw_add (S 0 (11 + s)) (S 4 s 0) q0 hg.2.2.2 (by omega) (by omega) (by omega) z
      have h2 : iw R B P (o_lA S s) := iw_p 2 3 0 _ h1 (by decide) (fun _ => by decide) (fun h => absurd h (by decide)) (fun h => absurd h (by decide)) (fun h => absurd h (by decide)) (fun h => absurd h (by decide))
      exact (iw_lE s h2 (by rw [(cf_lA S s).2.1]; exact hn)).mono (by omega) (fun s _ => Nat.le_refl _) (Nat.le_refl _)
    · refine iw_lE s ?_ (by rw [(cf_lR S s).2.1]; exact hn)
      refine iw_h 0 _ q0 (fun hl m hm hm6 => ?_) (R + 200) B ?_ (fun h => absurd h (by decide)) (fun s' hs' => ?_) (fun s _ h => by omega) (fun s _ h => by omega) (fun s _ h => by omega)
      · show S 0 0 m + S 0 (11 + s) m = 0
        rw [q7 0 hl m hm hm6, z m hm hm6]
      · rw [s_h_s, s6_add]; omega
      · rw [s_h_n (by omega)]; exact q9 s' hs'

theorem iw_move {R B P S} (q : iw R B P S) : iw R B P (o_move S) := by
  have hcf := cf_move S
  obtain ⟨q1, q2, q3, q4, q5, q6, q7, q8, q9, q10, q11⟩ := q
  have q1' := q1
  unfold iv_c at q1
  have e0 : ∀ h, ¬ (11 ≤ h ∧ h < 11 + S 8 1 0) → o_move S 0 h = S 0 h := fun h hh => by funext m; simp only [o_move, true_and, if_neg hh]; simp
  have es : ∀ s, s < S 8 1 0 → o_move S 0 (11 + s) = S 0 (11 + if s = 0 then S 8 1 0 - 1 else s - 1) := fun s hs => by
    funext m
    unfold o_move
    rw [if_pos ⟨rfl, by omega, by omega⟩]
    congr 1
    split <;> split <;> omega
  have e4 : ∀ s, s < S 8 1 0 → o_move S 4 s 0 = S 4 (if s = 0 then S 8 1 0 - 1 else s - 1) 0 := fun s hs => by simp [o_move, hs]
  have et : ∀ t, t ≠ 0 → t ≠ 4 → o_move S t = S t := fun t a b => by funext i j; simp [o_move, a, b]
  have elv : ∀ h, lv (o_move S) h ↔ lv S h := fun h => by unfold lv; rw [et 8 (by decide) (by decide), et 2 (by decide) (by decide)]
  have ei : ∀ s, s < S 8 1 0 → (if s = 0 then S 8 1 0 - 1 else s - 1) < S 8 1 0 := fun s hs => by split <;> omega
  refine ⟨q1'.cf hcf, q2.cf hcf, ?_, ?_, ?_, ?_, ?_, ?_, ?_, ?_, ?_⟩
  · unfold iv_n; rw [et 2 (by decide) (by decide)]; exact q3
  · intro s hs
    rw [et 8 (by decide) (by decide)] at hs
    have a := q4 s hs
    have b := q4 _ (ei s hs)
    rw [et 5 (by decide) (by decide), es s hs, e4 s hs]
    exact ⟨a.1, a.2.1, b.2.2.1, b.2.2.2.1, b.2.2.2.2⟩
  · intro k hk
    rw [et 2 (by decide) (by decide)] at hk
    rw [e0 _ (by omega), et 3 (by decide) (by decide)]
    exact q5 k hk
  · intro b hb
    rw [et 2 (by decide) (by decide)] at hb
    rw [e0 _ (by omega), et 6 (by decide) (by decide), et 8 (by decide) (by decide)]
    exact q6 b hb
  · intro h hl m hm hm6
    rw [elv] at hl
    rw [et 8 (by decide) (by decide)] at hm
    by_cases c : 11 ≤ h ∧ h < 11 + S 8 1 0
    · have e := es (h - 11) (by omega)
      rw [show 11 + (h - 11) = h by omega] at e
      rw [e]
      exact q7 _ (lv_slot (ei _ (by omega))) m hm hm6
    · rw [e0 h c]; exact q7 h hl m hm hm6
  · rw [e0 _ (by omega)]; exact q8
  · intro i hi
    rw [et 8 (by decide) (by decide)] at hi
    rw [e0 _ (by omega)]; exact q9 i hi
  · rw [et 2 (by decide) (by decide)]; exact q10
  · rw [e0 _ (by omega), et 2 (by decide) (by decide)]; exact q11
theorem iw_drop {R B P S} (q : iw R B P S) (hw : 0 < S 2 10 0) : iw R B P (o_drop S) := by
  have hcf := cf_drop S
  obtain ⟨q1, q2, q3, q4, q5, q6, q7, q8, q9, q10, q11⟩ := q
  have q1' := q1
  unfold iv_c at q1
  unfold iv_n at q3
  have e0 : ∀ h, ¬ (19 ≤ h ∧ h < 48) → o_drop S 0 h = S 0 h := fun h hh => by funext m; simp only [o_drop, true_and, if_neg hh]; simp
  have ep : ∀ k, k < 29 → o_drop S 0 (19 + k) = S 0 (19 + (k + 1)) := fun k hk => by
    funext m
    unfold o_drop
    rw [if_pos ⟨rfl, by omega, by omega⟩]
    rfl
  have er : ∀ k, o_drop S 3 k 0 = S 3 (k + 1) 0 := fun k => by simp [o_drop]
  have ew : o_drop S 2 10 0 = S 2 10 0 - 1 := by simp [o_drop]
  have en : ∀ x, x ≠ 10 → o_drop S 2 x 0 = S 2 x 0 := fun x hx => by simp [o_drop, hx]
  have et : ∀ t, t ≠ 0 → t ≠ 2 → t ≠ 3 → o_drop S t = S t := fun t a b c => by funext i j; simp [o_drop, a, b, c]
  refine ⟨q1'.cf hcf, q2.cf hcf, ?_, ?_, ?_, ?_, ?_, ?_, ?_, ?_, ?_⟩
  · unfold iv_n; rw [ew, en 11 (by decide)]; omega
  · intro s hs
    rw [et 8 (by decide) (by decide) (by decide)] at hs
    have a := q4 s hs
    rw [et 5 (by decide) (by decide) (by decide), e0 _ (by omega), et 4 (by decide) (by decide) (by decide)]
    exact a
  · intro k hk
    rw [ew] at hk
    rw [ep k (by omega), er]
    exact q5 (k + 1) (by omega)
  · intro b hb
    rw [en 11 (by decide)] at hb
    rw [e0 _ (by omega), et 6 (by decide) (by decide) (by decide), et 8 (by decide) (by decide) (by decide)]
    exact q6 b hb
  · intro h hl m hm hm6
    rw [et 8 (by decide) (by decide) (by decide)] at hm
    unfold lv at hl
    rw [et 8 (by decide) (by decide) (by decide), ew, en 11 (by decide)] at hl
    by_cases c : 19 ≤ h ∧ h < 48
    · have e := ep (h - 19) (by omega)
      rw [show 19 + (h - 19) = h by omega] at e
      rw [e]
      exact q7 _ (lv_par (by omega)) m hm hm6
    · rw [e0 h c]
      refine q7 h ?_ m hm hm6
      unfold lv
      omega
  · rw [e0 _ (by omega)]; exact q8
  · intro i hi
    rw [et 8 (by decide) (by decide) (by decide)] at hi
    rw [e0 _ (by omega)]; exact q9 i hi
  · rw [en 1 (by decide)]; exact q10
  · rw [e0 _ (by omega), en 1 (by decide)]; exact q11
theorem o_fd_e (S : s_T) : o_fd S = s_h (s_p (s_h S 11 (tk (S 0 19) (S 1 0 0))) 4 0 0 (S 3 0 0 + 1)) 19 (rs (S 0 19) (S 1 0 0)) := s_p_h (by decide)
theorem o_drop_h (S : s_T) (g : Nat → Nat) : o_drop (s_h S 19 g) = o_drop S := by
  funext t i j
  unfold o_drop
  by_cases c : t = 0 ∧ 19 ≤ i ∧ i < 48
  · rw [if_pos c, if_pos c, s_h_n (by omega)]
  · rw [if_neg c, if_neg c, s_h_t (by decide), s_h_t (by decide)]
    by_cases d : t = 3
    · rw [if_pos d, if_pos d]
    · rw [if_neg d, if_neg d]
      split
      · rfl
      · simp only [s_h]
        rw [if_neg]
        intro e
        exact c ⟨e.1, by omega, by omega⟩
theorem iw_feed {R B P S} (q : iw R B P S) : iw R B P (o_feed S) := by
  unfold o_feed
  split
  · exact q
  · rename_i hw
    have q0 := q
    obtain ⟨q1, q2, q3, q4, q5, q6, q7, q8, q9, q10, q11⟩ := q
    unfold iv_c at q1
    unfold iv_s at q2
    have a := q5 0 (by omega)
    have a1 : 1 ≤ s6 (S 0 19) := a.1
    have e1 := s6_tk (S 0 19) (S 1 0 0)
    have e2 := s6_rs (S 0 19) (S 1 0 0)
    have hz : ∀ m, S 8 0 0 ≤ m → m < 6 → S 0 19 m = 0 := q7 _ (lv_par (k := 0) (by omega))
    have h1 : iw R B P (s_p (s_h S 11 (tk (S 0 19) (S 1 0 0))) 4 0 0 (S 3 0 0 + 1)) := by
      refine iw_slot 0 _ _ q0 (by omega) (by omega) ?_ ?_ (fun m h1 h2 => ?_)
      · rw [e1]; split <;> omega
      · rw [e1]; split <;> omega
      · have := tk_le (S 0 19) (S 1 0 0) m
        have := hz m h1 h2
        omega
    rw [o_fd_e]
    split
    · rw [o_drop_h]
      refine iw_drop h1 ?_
      rw [s_p_t (by decide), s_h_t (by decide)]; omega
    · rename_i hr
      have e8 : s_p (s_h S 11 (tk (S 0 19) (S 1 0 0))) 4 0 0 (S 3 0 0 + 1) 8 = S 8 := by rw [s_p_t (by decide), s_h_t (by decide)]
      refine iw_h 19 _ h1 (fun _ m h1 h2 => ?_) R B ?_ (fun h => absurd h (by decide)) (fun s hs => ?_) (fun s hs e => ?_) (fun k hk e => ?_) (fun k hk e => by omega)
      · have := rs_le (S 0 19) (S 1 0 0) m
        have := hz m (by rw [e8] at h1; exact h1) h2
        omega
      · rw [s_h_n (by omega), s_p_00 (by decide), s_h_n (by omega)]; exact q8
      · rw [e8] at hs
        rw [s_h_n (by omega), s_p_00 (by decide), s_h_n (by omega)]; exact q9 s hs
      · rw [e8] at hs; omega
      · have : s6 (S 0 19) ≤ 5994 := a.2.1
        omega

theorem go_slot (S : s_T) (s m v : Nat) (hs : s < 8) : o_go S s m v 0 (11 + s) = fun j => if j = m then S 0 (11 + s) m - v else S 0 (11 + s) j := by
  unfold o_go; rw [s_h_n (by omega), s_h_s]
theorem go_bun (S : s_T) (s m v : Nat) : o_go S s m v 0 (3 + s) = fun j => if j = m then S 0 (3 + s) m + v else S 0 (3 + s) j := by
  unfold o_go; rw [s_h_s]
theorem go_t (S : s_T) (s m v : Nat) {t : Nat} (h : t ≠ 0) : o_go S s m v t = S t := by
  unfold o_go; rw [s_h_t h, s_h_t h]
theorem right_le (S : s_T) (s : Nat) : o_right S s ≤ S 0 (11 + s) (S 9 s 0) := by unfold o_right; split <;> omega
theorem wrong_le (S : s_T) (s r : Nat) : o_wrong S s r ≤ S 0 (11 + s) (o_oth S s - 1) := by
  unfold o_wrong
  split
  · omega
  · split <;> omega
theorem go_sum (S : s_T) {s m v : Nat} (hs : s < 8) (h : v ≤ S 0 (11 + s) m) (j : Nat) : o_go S s m v 0 (11 + s) j ≤ S 0 (11 + s) j ∧ o_go S s m v 0 (3 + s) j + o_go S s m v 0 (11 + s) j = S 0 (3 + s) j + S 0 (11 + s) j := by
  rw [go_slot S s m v hs, go_bun]
  by_cases c : j = m
  · subst c
    simp only [if_true]; omega
  · simp [c]
/-- the heaps after a pick -/
theorem pkd_sum (S : s_T) {s : Nat} (hs : s < 8) (j : Nat) : o_pkd S s 0 (11 + s) j ≤ S 0 (11 + s) j ∧ o_pkd S s 0 (3 + s) j + o_pkd S s 0 (11 + s) j = S 0 (3 + s) j + S 0 (11 + s) j := by
  have a := go_sum S hs (right_le S s) j
  have b := go_sum (o_go S s (S 9 s 0) (o_right S s)) hs (wrong_le _ s (o_right S s)) j
  unfold o_pkd
  omega
theorem pkd_e (S : s_T) {s : Nat} (hs : s < 8) : o_pkd S s = s_h (s_h S (11 + s) (o_pkd S s 0 (11 + s))) (3 + s) (o_pkd S s 0 (3 + s)) := by
  funext t i j
  by_cases c : t = 0 ∧ i = 3 + s
  · rw [c.1, c.2, s_h_s]
  · by_cases d : t = 0 ∧ i = 11 + s
    · rw [d.1, d.2, s_h_n (by omega), s_h_s]
    · simp only [o_pkd, o_go, s_h, if_neg c, if_neg d]
theorem iw_pick {R B P S} (s : Nat) (q : iw R B P S) (hs : s < S 8 1 0) : iw R (fun i => if i = s then B i + 200 else B i) P (o_pick s S) := by
  have n8 : S 8 1 0 ≤ 8 := q.1.2.2.2.1
  have hB : ∀ i, i < S 8 1 0 → B i ≤ if i = s then B i + 200 else B i := fun i _ => by split <;> omega
  unfold o_pick
  split
  · have a := q.2.2.2.1 s hs
    exact (iw_p 5 s 1 _ q (by decide) (fun h => absurd h (by decide)) (fun h => absurd h (by decide)) (fun h => absurd h (by decide)) (fun _ => ⟨fun h => absurd h (by decide), fun _ => by omega⟩) (fun h => absurd h (by decide))).mono (Nat.le_refl _) hB (Nat.le_refl _)
  · rename_i hc
    simp only [not_or] at hc
    have q0 := q
    obtain ⟨q1, q2, q3, q4, q5, q6, q7, q8, q9, q10, q11⟩ := q
    have a := q4 s hs
    have hsum := fun j => pkd_sum S (s := s) (by omega) j
    have z1 := q7 _ (lv_slot hs)
    have z2 := q7 _ (lv_bun hs)
    have t1 : s6 (o_pkd S s 0 (11 + s)) ≤ s6 (S 0 (11 + s)) := s6_mono fun m _ => (hsum m).1
    have t2 : s6 (o_pkd S s 0 (3 + s)) + s6 (o_pkd S s 0 (11 + s)) = s6 (S 0 (3 + s)) + s6 (S 0 (11 + s)) := by
      rw [← s6_add, ← s6_add]; exact s6_cg fun m _ => (hsum m).2
    obtain ⟨v, hv⟩ : ∃ v, v = if s6 (o_pkd S s 0 (11 + s)) = 0 then 0 else S 4 s 0 := ⟨_, rfl⟩
    rw [← hv]
    have e : ∀ x y, s_p (s_p (s_p (o_pkd S s) 5 s 3 x) 5 s 1 y) 4 s 0 v = s_p (s_p (s_h (s_p (s_h S (11 + s) (o_pkd S s 0 (11 + s))) 4 s 0 v) (3 + s) (o_pkd S s 0 (3 + s))) 5 s 3 x) 5 s 1 y := fun x y => by
      rw [s_p_c (by simp), s_p_c (S := o_pkd S s) (by simp)]
      congr 2
      rw [← s_p_h (by decide), ← pkd_e S (by omega)]
    rw [e]
    have h1 : iw R B P (s_p (s_h S (11 + s) (o_pkd S s 0 (11 + s))) 4 s 0 v) := iw_slot s _ v q0 hs (by rw [hv]; split <;> omega) (by omega) (by rw [hv]; split <;> omega) (fun m m1 m2 => by have := (hsum m).1; have := z1 m m1 m2; omega)
    have e8 : s_p (s_h S (11 + s) (o_pkd S s 0 (11 + s))) 4 s 0 v 8 = S 8 := by rw [s_p_t (by decide), s_h_t (by decide)]
    have e0 : ∀ h, h ≠ 11 + s → s_p (s_h S (11 + s) (o_pkd S s 0 (11 + s))) 4 s 0 v 0 h = S 0 h := fun h hh => by rw [s_p_00 (by decide), s_h_n hh]
    have h2 := iw_h (3 + s) (o_pkd S s 0 (3 + s)) h1 (fun _ m m1 m2 => by rw [e8] at m1; have := (hsum m).1; have := (hsum m).2; have := z1 m m1 m2; have := z2 m m1 m2; omega) R (fun i => if i = s then B i + 200 else B i) (by rw [s_h_n (by omega), e0 _ (by omega)]; exact q8) (fun h => by omega)
      (fun i hi => by
        rw [e8] at hi
        by_cases c : i = s
        · subst c
          rw [s_h_s, if_pos rfl]
          have := q9 i hi
          omega
        · rw [s_h_n (by omega), e0 _ (by omega), if_neg c]
          exact q9 i hi)
      (fun i hi e => by rw [e8] at hi; omega) (fun i _ e => by omega) (fun i _ e => by omega)
    have h3 := iw_p 5 s 3 (S 5 s 3 + (o_right S s + o_wrong (o_go S s (S 9 s 0) (o_right S s)) s (o_right S s))) h2 (by decide) (fun h => absurd h (by decide)) (fun h => absurd h (by decide)) (fun h => absurd h (by decide)) (fun _ => ⟨fun h => absurd h (by decide), fun h => absurd h (by decide)⟩) (fun h => absurd h (by decide))
    exact iw_p 5 s 1 _ h3 (by decide) (fun h => absurd h (by decide)) (fun h => absurd h (by decide)) (fun h => absurd h (by decide)) (fun _ => ⟨fun h => absurd h (by decide), fun _ => by split <;> omega⟩) (fun h => absurd h (by decide))

theorem pr_t (s : Nat) (S : s_T) {t : Nat} (h : t ≠ 0) (h2 : t ≠ 2) (h5 : t ≠ 5) (h6 : t ≠ 6) : o_press1 s S t = S t := by
  unfold o_press1 o_dat
  rw [s_h_t h, s_h_t h, s_p_t h2, s_p_t h2, s_p_t h5, s_p_t h2, s_p_t h6, s_p_t h6, s_p_t h6, s_p_t h6, s_h_t h, s_h_t h]
theorem pr_0 (s : Nat) (S : s_T) {h : Nat} (h1 : h ≠ 1) (h2 : h ≠ 2) (h3 : h ≠ 3 + s) (h4 : h ≠ 49 + S 2 11 0) : o_press1 s S 0 h = S 0 h := by
  unfold o_press1 o_dat
  rw [s_h_n h2, s_h_n h1, s_p_00 (by decide), s_p_00 (by decide), s_p_00 (by decide), s_p_00 (by decide), s_p_00 (by decide), s_p_00 (by decide), s_p_00 (by decide), s_p_00 (by decide), s_h_n h3, s_h_n h4]
theorem pr_bun (s : Nat) (S : s_T) : o_press1 s S 0 (3 + s) = rs (S 0 (3 + s)) (S 1 1 0) := by
  unfold o_press1 o_dat
  rw [s_h_n (by omega), s_h_n (by omega), s_p_00 (by decide), s_p_00 (by decide), s_p_00 (by decide), s_p_00 (by decide), s_p_00 (by decide), s_p_00 (by decide), s_p_00 (by decide), s_p_00 (by decide), s_h_s]
theorem pr_bal {s : Nat} (S : s_T) (hs : s < 8) : o_press1 s S 0 (49 + S 2 11 0) = tk (S 0 (3 + s)) (S 1 1 0) := by
  unfold o_press1 o_dat
  rw [s_h_n (by omega), s_h_n (by omega), s_p_00 (by decide), s_p_00 (by decide), s_p_00 (by decide), s_p_00 (by decide), s_p_00 (by decide), s_p_00 (by decide), s_p_00 (by decide), s_p_00 (by decide), s_h_n (by omega), s_h_s]
theorem pr_all (s : Nat) (S : s_T) : o_press1 s S 0 1 = fun m => if m = S 9 s 0 then S 0 1 m + S 1 1 0 else S 0 1 m := by
  unfold o_press1
  rw [s_h_n (by omega), s_h_s]
theorem pr_own (s : Nat) (S : s_T) : o_press1 s S 0 2 = fun m => if m = S 9 s 0 then S 0 2 m + tk (S 0 (3 + s)) (S 1 1 0) m else S 0 2 m := by
  unfold o_press1
  rw [s_h_s]
theorem pr_2 (s : Nat) (S : s_T) (x : Nat) : o_press1 s S 2 x 0 = if x = 2 then S 2 2 0 + (if o_grade S (o_pur S s) = 0 then 1 else 0) else if x = 1 then S 2 1 0 + 1 else if x = 11 then S 2 11 0 + 1 else S 2 x 0 := by
  unfold o_press1
  rw [s_h_t (by decide), s_h_t (by decide)]
  by_cases a : x = 2
  · subst a; rw [if_pos rfl, s_p_s]
  · rw [if_neg a, s_p_i a]
    by_cases b : x = 1
    · subst b; rw [if_pos rfl, s_p_s]
    · rw [if_neg b, s_p_i b, s_p_t (by decide)]
      by_cases c : x = 11
      · subst c; rw [if_pos rfl, s_p_s]
      · rw [if_neg c, s_p_i c]
        unfold o_dat
        rw [s_p_t (by decide), s_p_t (by decide), s_p_t (by decide), s_p_t (by decide), s_h_t (by decide), s_h_t (by decide)]
theorem pr_5 (s : Nat) (S : s_T) (i j : Nat) (h : ¬ (i = s ∧ j = 2)) : o_press1 s S 5 i j = S 5 i j := by
  unfold o_press1 o_dat
  rw [s_h_t (by decide), s_h_t (by decide), s_p_t (by decide), s_p_t (by decide)]
  have : ∀ (U : s_T) v, s_p U 5 s 2 v 5 i j = U 5 i j := fun U v => by
    unfold s_p; rw [if_neg]; rintro ⟨-, a, b⟩; exact h ⟨a, b⟩
  rw [this, s_p_t (by decide), s_p_t (by decide), s_p_t (by decide), s_p_t (by decide), s_p_t (by decide), s_h_t (by decide), s_h_t (by decide)]
theorem pr_6 (s : Nat) (S : s_T) (b j : Nat) : o_press1 s S 6 b j = if b = S 2 11 0 then (if j = 3 then o_grade S (o_pur S s) else if j = 2 then o_pur S s else if j = 1 then S 9 s 0 else if j = 0 then S 2 1 0 else S 6 b j) else S 6 b j := by
  unfold o_press1 o_dat
  rw [s_h_t (by decide), s_h_t (by decide), s_p_t (by decide), s_p_t (by decide), s_p_t (by decide), s_p_t (by decide)]
  simp only [s_p, s_h]
  by_cases a : b = S 2 11 0
  · subst a
    simp
  · simp [a]
theorem pur_le {R B P S} {s : Nat} (q : iw R B P S) (hb : S 1 1 0 ≤ s6 (S 0 (3 + s))) (hs : s < S 8 1 0) : o_pur S s ≤ 100 := by
  unfold o_pur
  have q2 := q.2.1
  have q1 := q.1
  unfold iv_s at q2
  unfold iv_c at q1
  have e1 := s6_tk (S 0 (3 + s)) (S 1 1 0)
  have ht := q1.2.2.2.2.2.1 s hs
  have : tk (S 0 (3 + s)) (S 1 1 0) (S 9 s 0) ≤ s6 (tk (S 0 (3 + s)) (S 1 1 0)) := s6_at _ (by omega)
  have h2 : s6 (tk (S 0 (3 + s)) (S 1 1 0)) ≤ S 1 1 0 := by rw [e1]; split <;> omega
  refine Nat.div_le_of_le_mul ?_
  have : tk (S 0 (3 + s)) (S 1 1 0) (S 9 s 0) * 100 ≤ S 1 1 0 * 100 := Nat.mul_le_mul_right _ (by omega)
  omega
theorem grade_le (S : s_T) (p : Nat) : o_grade S p ≤ 2 := by unfold o_grade; split <;> (try split) <;> omega
theorem s6_up (f : Nat → Nat) {m : Nat} (v : Nat) (h : m < 6) : s6 (fun j => if j = m then f j + v else f j) = s6 f + v := by
  match m, h with
  | 0, _ => simp [s6]; omega
  | 1, _ => simp [s6]; omega
  | 2, _ => simp [s6]; omega
  | 3, _ => simp [s6]; omega
  | 4, _ => simp [s6]; omega
  | 5, _ => simp [s6]; omega
theorem iw_press1 {R B P S} {s : Nat} (q : iw R B P S) (hs : s < S 8 1 0) (hb : S 1 1 0 ≤ s6 (S 0 (3 + s))) (hk : S 2 11 0 < 40) : iw R B (P + 1) (o_press1 s S) := by
  have hcf := cf_press1 s S
  have hpu := pur_le q hb hs
  obtain ⟨q1, q2, q3, q4, q5, q6, q7, q8, q9, q10, q11⟩ := q
  have q1' := q1
  have q2' := q2
  unfold iv_c at q1
  unfold iv_s at q2
  unfold iv_n at q3
  have ht := q1.2.2.2.2.2.1 s hs
  have e8 : o_press1 s S 8 = S 8 := hcf.2.1
  have z3 := q7 _ (lv_bun hs)
  refine ⟨q1'.cf hcf, q2'.cf hcf, ?_, ?_, ?_, ?_, ?_, ?_, ?_, ?_, ?_⟩
  · unfold iv_n; rw [pr_2, pr_2]; simp; omega
  · intro i hi
    rw [e8] at hi
    have a := q4 i hi
    rw [pr_5 s S i 0 (by omega), pr_5 s S i 1 (by omega), pr_0 s S (by omega) (by omega) (by omega) (by omega), pr_t s S (by decide) (by decide) (by decide) (by decide)]
    exact a
  · intro k hk2
    rw [pr_2] at hk2
    simp at hk2
    rw [pr_0 s S (by omega) (by omega) (by omega) (by omega), pr_t s S (by decide) (by decide) (by decide) (by decide)]
    exact q5 k hk2
  · intro b hb2
    rw [pr_2] at hb2
    simp at hb2
    rw [pr_6, pr_6, pr_6, e8]
    by_cases c : b = S 2 11 0
    · subst c
      rw [pr_bal S (by omega), s6_tk]
      simp
      have := grade_le S (o_pur S s)
      refine ⟨?_, ?_, ht.1, hpu, this⟩ <;> split <;> omega
    · rw [pr_0 s S (by omega) (by omega) (by omega) (by omega)]
      simp [c]
      exact q6 b (by omega)
  · intro h hl m hm hm6
    rw [e8] at hm
    by_cases c1 : h = 1
    · subst c1
      rw [pr_all]
      show (if m = S 9 s 0 then _ else _) = 0
      rw [if_neg (by omega)]
      exact q7 1 (Or.inl (by omega)) m hm hm6
    · by_cases c2 : h = 2
      · subst c2
        rw [pr_own]
        show (if m = S 9 s 0 then _ else _) = 0
        rw [if_neg (by omega)]
        exact q7 2 (Or.inl (by omega)) m hm hm6
      · by_cases c3 : h = 3 + s
        · subst c3
          rw [pr_bun]
          have := rs_le (S 0 (3 + s)) (S 1 1 0) m
          have := z3 m hm hm6
          omega
        · by_cases c4 : h = 49 + S 2 11 0
          · subst c4
            rw [pr_bal S (by omega)]
            have := tk_le (S 0 (3 + s)) (S 1 1 0) m
            have := z3 m hm hm6
            omega
          · rw [pr_0 s S c1 c2 c3 c4]
            refine q7 h ?_ m hm hm6
            unfold lv at hl ⊢
            rw [e8, pr_2, pr_2] at hl
            simp at hl
            omega
  · rw [pr_0 s S (by omega) (by omega) (by omega) (by omega)]; exact q8
  · intro i hi
    rw [e8] at hi
    have a := q9 i hi
    by_cases c : i = s
    · subst c
      rw [pr_bun, s6_rs]; omega
    · rw [pr_0 s S (by omega) (by omega) (by omega) (by omega)]; exact a
  · rw [pr_2]; simp; omega
  · rw [pr_all, s6_up _ _ (by omega), pr_2]
    simp
    omega

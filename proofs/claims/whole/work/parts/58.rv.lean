/-! WHAT HOLDS WHILE A TEXT IS READ -/
def rv (S : s_T) : Prop := (1 ≤ S 8 0 0 ∧ S 8 0 0 ≤ 6 ∧ S 8 1 0 ≤ 8 ∧ S 8 2 0 ≤ 4 ∧ (∀ s, s < S 8 1 0 → S 9 s 0 < S 8 0 0 ∧ 1 ≤ S 9 s 1 ∧ S 9 s 1 ≤ 50 ∧ S 9 s 2 ≤ 30) ∧
  (∀ b, b < S 8 2 0 → S 10 b 0 < S 8 0 0 ∧ S 10 b 1 ≤ 2 ∧ 1 ≤ S 10 b 2 ∧ S 10 b 2 ≤ 9999 ∧ S 10 b 3 ≤ 100 ∧ S 10 b 4 ≤ 100)) ∧ iv_s S ∧ iv_p S ∧
  (∀ s, s < S 8 1 0 → S 5 s 0 ≤ 9 ∧ S 5 s 1 = 0 ∧ S 5 s 3 = 0 ∧ S 4 s 0 = 0 ∧ (∀ m, S 0 (11 + s) m = 0) ∧ ∀ m, S 0 (3 + s) m = 0) ∧
  (∀ h m, h < 3 → S 0 h m = 0) ∧ (∀ k m, k < S 2 10 0 → S 8 0 0 ≤ m → S 0 (19 + k) m = 0) ∧ S 2 10 0 ≤ 30 ∧ S 2 11 0 = 0 ∧ S 2 0 0 = 0 ∧ S 2 1 0 = 0 ∧ ∀ b, b < S 8 2 0 → nm_ok (S 11 b 0)
theorem s6_z {f : Nat → Nat} (h : ∀ m, f m = 0) : s6 f = 0 := by
  have : f = fun _ => 0 := funext h
  rw [this, s6_0]
theorem rv_iv {S : s_T} (r : rv S) (h1 : 1 ≤ S 8 1 0) : iv S ∧ iv5 S := by
  obtain ⟨r1, r2, r3, r4, r5, r6, r7, r8, r9, r10, r11⟩ := r
  refine ⟨⟨⟨r1.1, r1.2.1, h1, r1.2.2.1, r1.2.2.2.1, r1.2.2.2.2.1, r1.2.2.2.2.2⟩, r2, ⟨r7, by omega⟩, fun s hs => ?_, r3, fun b hb => by omega, fun h hl m hm hm6 => ?_, ?_, fun s hs => ?_, by omega, ?_⟩, fun s hs => ?_⟩
  · have a := r4 s hs
    have z := s6_z a.2.2.2.2.1
    exact ⟨a.1, by omega, by omega, by omega, ⟨fun _ => z, fun _ => a.2.2.2.1⟩⟩
  · unfold lv at hl
    rcases hl with q | q | q | q | q
    · exact r5 h m q
    · have := (r4 (h - 3) (by omega)).2.2.2.2.2 m
      rw [show 3 + (h - 3) = h by omega] at this; exact this
    · have := (r4 (h - 11) (by omega)).2.2.2.2.1 m
      rw [show 11 + (h - 11) = h by omega] at this; exact this
    · have := r6 (h - 19) m (by omega) hm
      rw [show 19 + (h - 19) = h by omega] at this; exact this
    · omega
  · rw [s6_z fun m => r5 0 m (by decide)]; omega
  · rw [s6_z (r4 s hs).2.2.2.2.2]; omega
  · rw [s6_z fun m => r5 1 m (by decide)]; omega
  · have := (r4 s hs).2.2.1
    omega
theorem rv_0 {v : Nat} (h1 : 1 ≤ v) (h2 : v ≤ 6) : rv (s_p s_0 8 0 0 v) := by
  have e80 : s_p s_0 8 0 0 v 8 0 0 = v := s_p_s _ _ _ _ _
  have e81 : s_p s_0 8 0 0 v 8 1 0 = 0 := rfl
  have e82 : s_p s_0 8 0 0 v 8 2 0 = 0 := rfl
  have e210 : s_p s_0 8 0 0 v 2 10 0 = 0 := rfl
  refine ⟨⟨by omega, by omega, by omega, by omega, fun s hs => by omega, fun s hs => by omega⟩, ?_, fun k hk => by omega, fun s hs => by omega, fun h m hh => rfl, fun k m hk => by omega, by omega, rfl, rfl, rfl, fun s hs => by omega⟩
  have e1 : s_p s_0 8 0 0 v 1 = s_0 1 := s_p_t (by decide)
  unfold iv_s
  rw [e1]
  decide
theorem rv_station {S : s_T} (r : rv S) (hn : S 8 1 0 < 8) {a p g e : Nat} (ha : a ≤ S 8 0 0 - 1) (hp : p ≤ 9) (hg : 1 ≤ g ∧ g ≤ 50) (he : e ≤ 30) : rv (o_addS S a p g e) := by
  obtain ⟨r1, r2, r3, r4, r5, r6, r7, r8, r9, r10, r11⟩ := r
  obtain ⟨n, en⟩ : ∃ n, n = S 8 1 0 := ⟨_, rfl⟩
  have f : ∀ t i j, o_addS S a p g e t i j = if t = 8 ∧ i = 1 ∧ j = 0 then n + 1 else if t = 0 ∧ (i = 11 + n ∨ i = 3 + n) then 0 else if t = 4 ∧ i = n then 0 else if t = 9 ∧ i = n then (if j = 0 then a else if j = 1 then g else e) else if t = 5 ∧ i = n then (if j = 0 then p else 0) else S t i j := fun t i j => by rw [en]; rfl
  have f8 : ∀ i, i ≠ 1 → o_addS S a p g e 8 i 0 = S 8 i 0 := fun i hi => by rw [f]; simp [hi]
  have f81 : o_addS S a p g e 8 1 0 = n + 1 := by rw [f]; simp
  have f2 : ∀ i, o_addS S a p g e 2 i 0 = S 2 i 0 := fun i => by rw [f]; simp
  have ft : ∀ t, t ≠ 0 → t ≠ 4 → t ≠ 5 → t ≠ 8 → t ≠ 9 → o_addS S a p g e t = S t := fun t h0 h4 h5 h8 h9 => by funext i j; rw [f]; simp [h0, h4, h5, h8, h9]
  have f0 : ∀ h, h ≠ 11 + n → h ≠ 3 + n → o_addS S a p g e 0 h = S 0 h := fun h h1 h2 => by funext m; rw [f]; simp [h1, h2]
  have f80 := f8 0 (by decide)
  have f82 := f8 2 (by decide)
  have f210 := f2 10
  refine ⟨⟨by omega, by omega, by omega, by omega, fun s hs => ?_, ?_⟩, ?_, ?_, fun s hs => ?_, fun h m hh => ?_, fun k m hk hm => ?_, by omega, by rw [f2]; exact r8, by rw [f2]; exact r9, by rw [f2]; exact r10, ?_⟩
  · rw [f80]
    by_cases c : s = n
    · subst c
      rw [f, f, f]
      simp
      omega
    · have := r1.2.2.2.2.1 s (by omega)
      rw [f, f, f]
      simp [c]
      exact this
  · rw [f80, f82, ft 10 (by decide) (by decide) (by decide) (by decide) (by decide)]
    exact r1.2.2.2.2.2
  · unfold iv_s
    rw [ft 1 (by decide) (by decide) (by decide) (by decide) (by decide)]; exact r2
  · intro k hk
    rw [f210] at hk
    rw [f0 _ (by omega) (by omega), ft 3 (by decide) (by decide) (by decide) (by decide) (by decide)]
    exact r3 k hk
  · by_cases c : s = n
    · subst c
      rw [f, f, f, f]
      refine ⟨by simp; exact hp, by simp, by simp, by simp, fun m => by rw [f]; simp, fun m => by rw [f]; simp⟩
    · have := r4 s (by omega)
      rw [f0 _ (by omega) (by omega), f0 _ (by omega) (by omega), f, f, f, f]
      simp [c]
      exact this
  · rw [f0 _ (by omega) (by omega)]; exact r5 h m hh
  · rw [f210] at hk
    rw [f80] at hm
    rw [f0 _ (by omega) (by omega)]; exact r6 k m hk hm
  · rw [f82, ft 11 (by decide) (by decide) (by decide) (by decide) (by decide)]
    exact r11
theorem rv_setting {S : s_T} (r : rv S) {i v : Nat} (hi : i < 8) (h1 : s_lo i ≤ v) (h2 : v ≤ s_hi i) : rv (s_p S 1 i 0 v) := by
  obtain ⟨r1, r2, r3, r4, r5, r6, r7, r8, r9, r10, r11⟩ := r
  refine ⟨r1, ?_, r3, r4, r5, r6, r7, r8, r9, r10, r11⟩
  unfold iv_s at r2 ⊢
  match i, hi with
  | 0, _ => simp only [s_lo, s_hi, List.getD_cons_zero, List.getD_cons_succ] at h1 h2; simp only [s_p]; simp; omega
  | 1, _ => simp only [s_lo, s_hi, List.getD_cons_zero, List.getD_cons_succ] at h1 h2; simp only [s_p]; simp; omega
  | 2, _ => simp only [s_lo, s_hi, List.getD_cons_zero, List.getD_cons_succ] at h1 h2; simp only [s_p]; simp; omega
  | 3, _ => simp only [s_lo, s_hi, List.getD_cons_zero, List.getD_cons_succ] at h1 h2; simp only [s_p]; simp; omega
  | 4, _ => simp only [s_lo, s_hi, List.getD_cons_zero, List.getD_cons_succ] at h1 h2; simp only [s_p]; simp; omega
  | 5, _ => simp only [s_lo, s_hi, List.getD_cons_zero, List.getD_cons_succ] at h1 h2; simp only [s_p]; simp; omega
  | 6, _ => simp only [s_lo, s_hi, List.getD_cons_zero, List.getD_cons_succ] at h1 h2; simp only [s_p]; simp; omega
  | 7, _ => simp only [s_lo, s_hi, List.getD_cons_zero, List.getD_cons_succ] at h1 h2; simp only [s_p]; simp; omega
theorem mass_ok {T : Nat → Nat} {N M : Nat} : ∀ (d m : Nat) (f : Nat → Nat) (t : T_k) (g : Nat → Nat) (t' : T_k), m + d = M → (∀ j, M ≤ j → f j = 0) → (∀ j, f j ≤ 999) → p_mass T N d m f t = .ok (g, t') → (∀ j, M ≤ j → g j = 0) ∧ ∀ j, g j ≤ 999
  | 0, m, f, t, g, t', e, h1, h2, h => by
    cases h
    exact ⟨h1, h2⟩
  | d + 1, m, f, t, g, t', e, h1, h2, h => by
    have em : p_mass T N (d + 1) m f t = if t.1 = 2 then (match p_num T N 0 999 t with
      | .error c => .error c
      | .ok (v, t1) => p_mass T N d (m + 1) (fun j => if j = m then v else f j) t1) else .ok (f, t) := rfl
    rw [em] at h
    by_cases c : t.1 = 2
    · rw [if_pos c] at h
      cases en : p_num T N 0 999 t with
      | error c => rw [en] at h; cases h
      | ok q =>
        obtain ⟨v, t1⟩ := q
        rw [en] at h
        have hv := num_ok en
        exact mass_ok d (m + 1) _ t1 g t' (by omega) (fun j hj => by
          show (if j = m then v else f j) = 0
          rw [if_neg (by omega)]; exact h1 j hj) (fun j => by
          show (if j = m then v else f j) ≤ 999
          split
          · omega
          · exact h2 j) h
    · rw [if_neg c] at h
      cases h
      exact ⟨h1, h2⟩
theorem s6_bd {f : Nat → Nat} (h : ∀ j, f j ≤ 999) : s6 f ≤ 5994 := by
  have := sm_bd (f := f) (c := 999) (n := 6) (fun i _ => h i)
  rw [s6_sm] at this; omega
theorem rv_put {S : s_T} (r : rv S) (hw : S 2 10 0 < 30) {f : Nat → Nat} (h1 : ∀ j, S 8 0 0 ≤ j → f j = 0) (h2 : ∀ j, f j ≤ 999) : rv (o_put S f) := by
  unfold o_put
  by_cases c : s6 f = 0
  · rw [if_pos c]; exact r
  · rw [if_neg c]
    have hb := s6_bd h2
    obtain ⟨r1, r2, r3, r4, r5, r6, r7, r8, r9, r10, r11⟩ := r
    have et : ∀ t, t ≠ 0 → t ≠ 2 → t ≠ 3 → s_p (o_add S f 0) 2 7 0 (S 2 7 0 + s6 f) t = S t := fun t a b d => by rw [s_p_t b, add_t _ _ _ a b d]
    have e2 : ∀ x, x ≠ 10 → x ≠ 7 → s_p (o_add S f 0) 2 7 0 (S 2 7 0 + s6 f) 2 x 0 = S 2 x 0 := fun x a b => by rw [s_p_i b, add_2 _ _ _ a]
    have e210 : s_p (o_add S f 0) 2 7 0 (S 2 7 0 + s6 f) 2 10 0 = S 2 10 0 + 1 := by rw [s_p_i (by decide), add_w]
    have e0 : ∀ h, h ≠ 19 + S 2 10 0 → s_p (o_add S f 0) 2 7 0 (S 2 7 0 + s6 f) 0 h = S 0 h := fun h a => by rw [s_p_00 (by decide), add_n _ _ _ a]
    have e0' : s_p (o_add S f 0) 2 7 0 (S 2 7 0 + s6 f) 0 (19 + S 2 10 0) = f := by rw [s_p_00 (by decide), add_0]
    have e3 : ∀ k, s_p (o_add S f 0) 2 7 0 (S 2 7 0 + s6 f) 3 k 0 = if k = S 2 10 0 then 0 else S 3 k 0 := fun k => by
      rw [s_p_t (by decide)]
      unfold o_add
      rw [s_p_t (by decide)]
      by_cases ck : k = S 2 10 0
      · rw [ck, s_p_s, if_pos rfl]
      · rw [s_p_i ck, s_h_t (by decide), if_neg ck]
    unfold rv
    rw [et 8 (by decide) (by decide) (by decide), et 9 (by decide) (by decide) (by decide), et 10 (by decide) (by decide) (by decide), et 11 (by decide) (by decide) (by decide), et 5 (by decide) (by decide) (by decide), et 4 (by decide) (by decide) (by decide), e210, e2 11 (by decide) (by decide), e2 0 (by decide) (by decide), e2 1 (by decide) (by decide)]
    refine ⟨r1, ?_, fun k hk => ?_, fun s hs => ?_, fun h m hh => ?_, fun k m hk hm => ?_, by omega, r8, r9, r10, r11⟩
    · unfold iv_s
      rw [et 1 (by decide) (by decide) (by decide)]; exact r2
    · rw [e210] at hk
      rw [e3]
      by_cases ck : k = S 2 10 0
      · rw [ck, e0', if_pos rfl]; omega
      · rw [e0 _ (by omega), if_neg ck]; exact r3 k (by omega)
    · rw [e0 _ (by omega), e0 _ (by omega)]; exact r4 s hs
    · rw [e0 _ (by omega)]; exact r5 h m hh
    · by_cases ck : k = S 2 10 0
      · rw [ck, e0']; exact h1 m hm
      · rw [e0 _ (by omega)]; exact r6 k m (by omega) hm
theorem rv_buyer {S : s_T} (r : rv S) (hn : S 8 2 0 < 4) {c a g p u w : Nat} (hc : nm_ok c) (ha : a ≤ S 8 0 0 - 1) (hg : g ≤ 2) (hp : 1 ≤ p ∧ p ≤ 9999) (hu : u ≤ 100) (hw : w ≤ 100) : rv (o_addB S c a g p u w) := by
  obtain ⟨r1, r2, r3, r4, r5, r6, r7, r8, r9, r10, r11⟩ := r
  obtain ⟨n, en⟩ : ∃ n, n = S 8 2 0 := ⟨_, rfl⟩
  have f : ∀ t i j, o_addB S c a g p u w t i j = if t = 11 ∧ i = n then c else if t = 7 ∧ i = n then 0 else if t = 10 ∧ i = n then (if j = 0 then a else if j = 1 then g else if j = 2 then p else if j = 3 then u else w) else if t = 8 ∧ i = 2 ∧ j = 0 then n + 1 else S t i j := fun t i j => by rw [en]; rfl
  have f8 : ∀ i, i ≠ 2 → o_addB S c a g p u w 8 i 0 = S 8 i 0 := fun i hi => by rw [f]; simp [hi]
  have f82 : o_addB S c a g p u w 8 2 0 = n + 1 := by rw [f]; simp
  have ft : ∀ t, t ≠ 11 → t ≠ 7 → t ≠ 10 → t ≠ 8 → o_addB S c a g p u w t = S t := fun t h0 h4 h5 h8 => by funext i j; rw [f]; simp [h0, h4, h5, h8]
  have f80 := f8 0 (by decide)
  have f81 := f8 1 (by decide)
  have T0 := ft 0 (by decide) (by decide) (by decide) (by decide)
  have T1 := ft 1 (by decide) (by decide) (by decide) (by decide)
  have T2 := ft 2 (by decide) (by decide) (by decide) (by decide)
  have T3 := ft 3 (by decide) (by decide) (by decide) (by decide)
  have T4 := ft 4 (by decide) (by decide) (by decide) (by decide)
  have T5 := ft 5 (by decide) (by decide) (by decide) (by decide)
  have T9 := ft 9 (by decide) (by decide) (by decide) (by decide)
  unfold rv iv_p iv_s
  rw [f80, f81, f82, T0, T1, T2, T3, T4, T5, T9]
  refine ⟨⟨r1.1, r1.2.1, r1.2.2.1, by omega, r1.2.2.2.2.1, fun b hb => ?_⟩, r2, r3, r4, r5, r6, r7, r8, r9, r10, fun b hb => ?_⟩
  · by_cases cb : b = n
    · subst cb
      rw [f, f, f, f, f]
      simp
      omega
    · have := r1.2.2.2.2.2 b (by omega)
      rw [f, f, f, f, f]
      simp [cb]
      exact this
  · by_cases cb : b = n
    · subst cb
      rw [f]
      simp
      exact hc
    · have := r11 b (by omega)
      rw [f]
      simp [cb]
      exact this
theorem rv_stat {T : Nat → Nat} {N : Nat} {S S' : s_T} {t t' : T_k} (r : rv S) (hw : Tw T N (tok T N t.2.2)) (h : p_stat T N S t = .ok (S', t')) : rv S' := by
  have hM := r.1
  unfold p_stat at h
  split at h
  · unfold p_station at h
    split at h
    · rename_i hn
      cases e1 : p_num T N 0 (S 8 0 0 - 1) (tok T N t.2.2) with
      | error c => simp only [e1] at h; cases h
      | ok q1 =>
        obtain ⟨v1, t1⟩ := q1
        simp only [e1] at h
        cases e2 : p_num T N 0 9 t1 with
        | error c => simp only [e2] at h; cases h
        | ok q2 =>
          obtain ⟨v2, t2⟩ := q2
          simp only [e2] at h
          cases e3 : p_num T N 1 50 t2 with
          | error c => simp only [e3] at h; cases h
          | ok q3 =>
            obtain ⟨v3, t3⟩ := q3
            simp only [e3] at h
            cases e4 : p_num T N 0 30 t3 with
            | error c => simp only [e4] at h; cases h
            | ok q4 =>
              obtain ⟨v4, t4⟩ := q4
              simp only [e4] at h
              cases h
              have a1 := num_ok e1
              have a2 := num_ok e2
              have a3 := num_ok e3
              have a4 := num_ok e4
              exact rv_station r hn a1.2.1 a2.2.1 ⟨a3.1, a3.2.1⟩ a4.2.1
    · cases h
  · split at h
    · unfold p_setting at h
      cases e1 : p_num T N 0 7 (tok T N t.2.2) with
      | error c => simp only [e1] at h; cases h
      | ok q1 =>
        obtain ⟨v1, t1⟩ := q1
        simp only [e1] at h
        cases e2 : p_num T N (s_lo v1) (s_hi v1) t1 with
        | error c => simp only [e2] at h; cases h
        | ok q2 =>
          obtain ⟨v2, t2⟩ := q2
          simp only [e2] at h
          cases h
          have a1 := num_ok e1
          have a2 := num_ok e2
          exact rv_setting r (by omega) a2.1 a2.2.1
    · split at h
      · unfold p_load at h
        split at h
        · rename_i hn
          cases e1 : p_num T N 0 999 (tok T N t.2.2) with
          | error c => simp only [e1] at h; cases h
          | ok q1 =>
            obtain ⟨v1, t1⟩ := q1
            simp only [e1] at h
            cases e2 : p_mass T N (S 8 0 0 - 1) 1 (fun j => if j = 0 then v1 else 0) t1 with
            | error c => simp only [e2] at h; cases h
            | ok q2 =>
              obtain ⟨g, t2⟩ := q2
              simp only [e2] at h
              cases h
              have a1 := num_ok e1
              have a2 := mass_ok (M := S 8 0 0) (S 8 0 0 - 1) 1 _ t1 g t' (by omega) (fun j hj => if_neg (by omega)) (fun j => by
                show (if j = 0 then v1 else 0) ≤ 999
                split <;> omega) e2
              exact rv_put r hn a2.1 a2.2
        · cases h
      · split at h
        · unfold p_buyer at h
          split at h
          · rename_i hn
            cases e0 : p_name T N S (tok T N t.2.2) with
            | error c => simp only [e0] at h; cases h
            | ok q0 =>
              obtain ⟨v0, t0⟩ := q0
              simp only [e0] at h
              cases e1 : p_num T N 0 (S 8 0 0 - 1) t0 with
              | error c => simp only [e1] at h; cases h
              | ok q1 =>
                obtain ⟨v1, t1⟩ := q1
                simp only [e1] at h
                cases e2 : p_num T N 0 2 t1 with
                | error c => simp only [e2] at h; cases h
                | ok q2 =>
                  obtain ⟨v2, t2⟩ := q2
                  simp only [e2] at h
                  cases e3 : p_num T N 1 9999 t2 with
                  | error c => simp only [e3] at h; cases h
                  | ok q3 =>
                    obtain ⟨v3, t3⟩ := q3
                    simp only [e3] at h
                    cases e4 : p_num T N 0 100 t3 with
                    | error c => simp only [e4] at h; cases h
                    | ok q4 =>
                      obtain ⟨v4, t4⟩ := q4
                      simp only [e4] at h
                      cases e5 : p_num T N 0 100 t4 with
                      | error c => simp only [e5] at h; cases h
                      | ok q5 =>
                        obtain ⟨v5, t5⟩ := q5
                        simp only [e5] at h
                        cases h
                        have a1 := num_ok e1
                        have a2 := num_ok e2
                        have a3 := num_ok e3
                        have a4 := num_ok e4
                        have a5 := num_ok e5
                        have hc : nm_ok v0 := by
                          unfold p_name at e0
                          split at e0
                          · rename_i hq
                            split at e0
                            · cases e0
                              have w := hw.2.2.2.2 hq.1
                              refine ⟨T, (tok T N t.2.2).2.1, (tok T N t.2.2).2.2 - (tok T N t.2.2).2.1, by omega, hq.2.2, (all_iff _ _ _).mpr fun j hj => w.2 _ (by omega) (by omega), rfl⟩
                            · cases e0
                          · cases e0
                        exact rv_buyer r hn hc a1.2.1 a2.2.1 ⟨a3.1, a3.2.1⟩ a4.2.1 a5.2.1
          · cases h
        · cases h

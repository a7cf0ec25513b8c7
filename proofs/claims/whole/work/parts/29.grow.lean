/-! COUNTS, THE RING'S FIRST, POINTERS that change -/
section LG
variable {A0 A : q_H} {l : l_T} {S : s_T}
/-- a count is written -/
theorem Lp.cnt (h : Lp A0 A l S) {t i : Nat} (v : Nat) (hc : (t = 2 ∧ i = 10 ∧ v ≤ 30) ∨ (t = 2 ∧ i = 11 ∧ v ≤ 40) ∨ (t = 8 ∧ i = 1 ∧ v ≤ 8) ∨ (t = 8 ∧ i = 2 ∧ v ≤ 4))
    (hh : ∀ x, lv (s_p S t i 0 v) x → ¬ lv S x → (∀ m, m < 6 → q_I A (ha l x + 1) m = nI (S 0 x m)) ∧ q_I A (ha l x) 1 = nI (s6 (S 0 x)))
    (hd : ∀ a b c, dm (s_p S t i 0 v) a b c → ¬ dm S a b c → q_I A (ca l a b) (cf a b c) = nI (S a b c))
    (hs : ∀ s, s < s_p S t i 0 v 8 1 0 → ¬ s < S 8 1 0 → S 4 s 0 = 0) : Lp A0 (q_setI A (ca l t i) (cf t i 0) (nI v)) l (s_p S t i 0 v) := by
  have d : dm0 t i 0 := by unfold dm0; omega
  have ht0 : t ≠ 0 := by omega
  have hin := ca_in l h.w d
  have hb : Lb (s_p S t i 0 v) := by
    have := h.b
    unfold Lb at this ⊢
    rcases hc with ⟨rfl, rfl, hv⟩ | ⟨rfl, rfl, hv⟩ | ⟨rfl, rfl, hv⟩ | ⟨rfl, rfl, hv⟩ <;> simp [s_p] <;> omega
  refine ⟨⟨h.w, h.1.2.1.to rfl rfl, hb, ?_, ?_, ?_, ?_⟩, h.2.setI hin.1 hin.2⟩
  · intro x hx
    have hn := ca_ha l h.w d (lv_89 hb hx)
    rw [s_p_00 ht0, q_I_setI]
    have key : (∀ m, m < 6 → q_I A (ha l x + 1) m = nI (S 0 x m)) ∧ q_I A (ha l x) 1 = nI (s6 (S 0 x)) := by
      by_cases c : lv S x
      · exact h.1.2.2.2.1 x c
      · exact hh x hx c
    exact ⟨fun m hm => by rw [u2_n _ _ (Or.inl (Ne.symm hn.2))]; exact key.1 m hm, by rw [u2_n _ _ (Or.inl (Ne.symm hn.1))]; exact key.2⟩
  · intro x y z hd2
    rw [q_I_setI]
    by_cases c : x = t ∧ y = i ∧ z = 0
    · obtain ⟨rfl, rfl, rfl⟩ := c
      rw [q_u2_s, s_p_s]
    · rw [u2_n _ _ (ca_ne l h.w d hd2.1 c)]
      have : s_p S t i 0 v x y z = S x y z := by unfold s_p; rw [if_neg c]
      rw [this]
      by_cases c2 : dm S x y z
      · exact h.c c2
      · exact hd x y z hd2 c2
  · intro s hs2 h0
    have h4 : t ≠ 4 := by omega
    rw [s_p_t (Ne.symm h4)] at h0 ⊢
    by_cases c : s < S 8 1 0
    · rw [q_I_setI, u2_n _ _ (Or.inl (Ne.symm (ca_sl l h.w d (h.nst8 c))))]
      exact h.rnd c h0
    · exact absurd (hs s hs2 c) h0
  · rw [q_I_setI, u2_n _ _ ((ca_fs l h.w d).imp Ne.symm Ne.symm)]
    exact h.fs
/-- a count becomes less -/
theorem Lp.less (h : Lp A0 A l S) {t i : Nat} (v : Nat) (hc : (t = 2 ∧ i = 10) ∨ (t = 2 ∧ i = 11) ∨ (t = 8 ∧ i = 1) ∨ (t = 8 ∧ i = 2)) (hv : v ≤ S t i 0) : Lp A0 (q_setI A (ca l t i) (cf t i 0) (nI v)) l (s_p S t i 0 v) := by
  have hb := h.b
  unfold Lb at hb
  have e8 : ∀ x, s_p S t i 0 v 8 x 0 ≤ S 8 x 0 := fun x => by
    unfold s_p
    split
    · rename_i c; rw [← c.1, ← c.2.1] at hv; exact hv
    · exact Nat.le_refl _
  have e2 : ∀ x, s_p S t i 0 v 2 x 0 ≤ S 2 x 0 := fun x => by
    unfold s_p
    split
    · rename_i c; rw [← c.1, ← c.2.1] at hv; exact hv
    · exact Nat.le_refl _
  have a1 := e8 1
  have a2 := e8 2
  have a3 := e2 10
  have a4 := e2 11
  refine h.cnt v ?_ (fun x hx hn => absurd ?_ hn) (fun a b c hx hn => absurd ?_ hn) (fun s hs hn => absurd (Nat.lt_of_lt_of_le hs a1) hn)
  · rcases hc with ⟨rfl, rfl⟩ | ⟨rfl, rfl⟩ | ⟨rfl, rfl⟩ | ⟨rfl, rfl⟩ <;> omega
  · unfold lv at hx ⊢; omega
  · unfold dm at hx ⊢
    refine ⟨hx.1, fun e => Nat.lt_of_lt_of_le (hx.2.1 e) a3, fun e => Nat.lt_of_lt_of_le (hx.2.2.1 e) a1, fun e => Nat.lt_of_lt_of_le (hx.2.2.2.1 e) a4, fun e => Nat.lt_of_lt_of_le (hx.2.2.2.2 e) a2⟩
/-- where a parcel of the hopper lies -/
def pa (l : l_T) (k : Nat) : Nat := l_a l + 6 + 3 * ((l_f l + k) % 30)
theorem ha_pa (l : l_T) {k : Nat} (h : k < 30) : ha l (19 + k) = pa l k + 1 := by rw [ha_par l h]; unfold pa; omega
/-- a parcel has come behind the others -/
theorem Lp.add (h : Lp A0 A l S) (r : Nat) (f : Nat → Nat) {A1 : q_H} (hw : S 2 10 0 < 30) (h1 : Lp A0 A1 l (s_h S (19 + S 2 10 0) f)) (hm : ∀ m, m < 6 → q_I A1 (ha l (19 + S 2 10 0) + 1) m = nI (f m)) (ht : q_I A1 (ha l (19 + S 2 10 0)) 1 = nI (s6 f)) :
    Lp A0 (q_setI (q_setI A1 (pa l (S 2 10 0)) 1 (nI r)) (l_a l + 4) 2 (nI (S 2 10 0 + 1))) l (o_add S f r) := by
  have d3 : dm0 3 (S 2 10 0) 0 := Or.inr (Or.inr (Or.inl ⟨rfl, hw, rfl⟩))
  have h2 := h1.put r d3 ⟨fun e => absurd e (by decide), fun e => absurd e (by decide)⟩
  have ew : s_p (s_h S (19 + S 2 10 0) f) 3 (S 2 10 0) 0 r 2 10 0 = S 2 10 0 := by rw [s_p_t (by decide), s_h_t (by decide)]
  have e11 : s_p (s_h S (19 + S 2 10 0) f) 3 (S 2 10 0) 0 r 2 11 0 = S 2 11 0 := by rw [s_p_t (by decide), s_h_t (by decide)]
  have e8 : s_p (s_h S (19 + S 2 10 0) f) 3 (S 2 10 0) 0 r 8 = S 8 := by rw [s_p_t (by decide), s_h_t (by decide)]
  refine h2.cnt (t := 2) (i := 10) (S 2 10 0 + 1) (Or.inl ⟨rfl, rfl, by omega⟩) (fun x hx hn => ?_) (fun a b c hx hn => ?_) (fun s hs hn => absurd (by rw [s_p_t (by decide)] at hs; exact hs) hn)
  · have : x = 19 + S 2 10 0 := by
      unfold lv at hx hn
      rw [s_p_t (by decide), s_p_s, s_p_i (by decide), e8, e11] at hx
      rw [e8, ew, e11] at hn
      omega
    subst this
    have hn2 := ca_ha l h.w d3 (h := 19 + S 2 10 0) (by omega)
    rw [s_p_00 (by decide), s_h_s, q_I_setI]
    exact ⟨fun m hm2 => by rw [u2_n _ _ (Or.inl (Ne.symm hn2.2))]; exact hm m hm2, by rw [u2_n _ _ (Or.inl (Ne.symm hn2.1))]; exact ht⟩
  · have u10 : s_p (s_p (s_h S (19 + S 2 10 0) f) 3 (S 2 10 0) 0 r) 2 10 0 (S 2 10 0 + 1) 2 10 0 = S 2 10 0 + 1 := s_p_s _ _ _ _ _
    have u11 : s_p (s_p (s_h S (19 + S 2 10 0) f) 3 (S 2 10 0) 0 r) 2 10 0 (S 2 10 0 + 1) 2 11 0 = S 2 11 0 := by rw [s_p_i (by decide), e11]
    have u8 : s_p (s_p (s_h S (19 + S 2 10 0) f) 3 (S 2 10 0) 0 r) 2 10 0 (S 2 10 0 + 1) 8 = S 8 := by rw [s_p_t (by decide), e8]
    have : a = 3 ∧ b = S 2 10 0 ∧ c = 0 := by
      unfold dm at hx hn
      rw [u10, u11, u8] at hx
      rw [e8, ew, e11] at hn
      obtain ⟨x0, x1, x2, x3, x4⟩ := hx
      by_cases c3 : a = 3
      · by_cases c4 : b = S 2 10 0
        · exact ⟨c3, c4, by unfold dm0 at x0; omega⟩
        · exact absurd ⟨x0, fun e => by have := x1 e; omega, x2, x3, x4⟩ hn
      · exact absurd ⟨x0, fun e => absurd e c3, x2, x3, x4⟩ hn
    obtain ⟨rfl, rfl, rfl⟩ := this
    rw [s_p_s]
    exact I_set_s _ _ _ _
/-- the first parcel goes -/
theorem Lp.drop (h : Lp A0 A l S) (hw : 0 < S 2 10 0) : Lp A0 (q_setI (q_setI A (l_a l + 4) 1 (nI ((l_f l + 1) % 30))) (l_a l + 4) 2 (nI (S 2 10 0 - 1))) (l_a l, l_s l, l_b l, (l_f l + 1) % 30) (o_drop S) := by
  obtain ⟨w1, w2, w3, w4, w5⟩ := h.w
  have hb := h.b
  unfold Lb at hb
  have hw' : Lw (l_a l, l_s l, l_b l, (l_f l + 1) % 30) := ⟨w1, w2, w3, w4, Nat.mod_lt _ (by decide)⟩
  have e0 : ∀ x, ¬ (19 ≤ x ∧ x < 48) → o_drop S 0 x = S 0 x := fun x hx => by funext m; simp only [o_drop, true_and, if_neg hx]; simp
  have ep : ∀ k, k < 29 → o_drop S 0 (19 + k) = S 0 (19 + (k + 1)) := fun k hk => by
    funext m
    unfold o_drop
    rw [if_pos ⟨rfl, by omega, by omega⟩]
    rfl
  have er : ∀ k, o_drop S 3 k 0 = S 3 (k + 1) 0 := fun k => by simp [o_drop]
  have ew : o_drop S 2 10 0 = S 2 10 0 - 1 := by simp [o_drop]
  have en : ∀ x y, ¬ (x = 10 ∧ y = 0) → o_drop S 2 x y = S 2 x y := fun x y hx => by simp [o_drop, hx]
  have et : ∀ t, t ≠ 0 → t ≠ 2 → t ≠ 3 → o_drop S t = S t := fun t a b c => by funext i j; simp [o_drop, a, b, c]
  have hI : ∀ a k, ¬ (a = l_a l + 4 ∧ (k = 1 ∨ k = 2)) → q_I (q_setI (q_setI A (l_a l + 4) 1 (nI ((l_f l + 1) % 30))) (l_a l + 4) 2 (nI (S 2 10 0 - 1))) a k = q_I A a k := fun a k hk => by
    rw [I_set (by omega), I_set (by omega)]
  refine ⟨⟨hw', h.1.2.1.to rfl rfl, ?_, ?_, ?_, ?_, ?_⟩, (h.2.setI (by omega) (by omega)).setI (by omega) (by omega)⟩
  · unfold Lb
    rw [et 8 (by decide) (by decide) (by decide), ew, en 11 0 (by decide)]; omega
  · intro x hx
    have hx2 : (19 ≤ x ∧ x < 48) ∨ (¬ (19 ≤ x ∧ x < 49) ∧ lv S x) := by
      unfold lv at hx ⊢
      rw [et 8 (by decide) (by decide) (by decide), ew, en 11 0 (by decide)] at hx
      omega
    rcases hx2 with hx2 | ⟨hx2, hl⟩
    · obtain ⟨k, hk⟩ : ∃ k, x = 19 + k := ⟨x - 19, by omega⟩
      subst hk
      have hl : lv S (19 + (k + 1)) := by
        refine lv_par ?_
        unfold lv at hx
        rw [et 8 (by decide) (by decide) (by decide), ew, en 11 0 (by decide)] at hx
        omega
      have ea : ha (l_a l, l_s l, l_b l, (l_f l + 1) % 30) (19 + k) = ha l (19 + (k + 1)) := by
        rw [ha_par _ (by omega), ha_par l (by omega)]
        show l_a l + 7 + 3 * (((l_f l + 1) % 30 + k) % 30) = _
        congr 2
        omega
      have hn := ha_fs l h.w (h := 19 + (k + 1)) (by omega)
      rw [ea, ep k (by omega)]
      exact ⟨fun m hm => by rw [hI _ _ (by omega)]; exact h.m hl hm, by rw [hI _ _ (by omega)]; exact h.t hl⟩
    · have hx9 := lv_89 h.b hl
      have ea : ha (l_a l, l_s l, l_b l, (l_f l + 1) % 30) x = ha l x := by
        unfold ha
        by_cases c : x < 19
        · simp only [if_pos c]; rfl
        · rw [if_neg (by omega), if_neg (by omega), if_neg (by omega), if_neg (by omega), if_neg c, if_neg (by omega), if_neg (by omega), if_neg (by omega), if_neg (by omega), if_neg (by omega), if_neg c, if_neg (by omega)]
          rfl
      have hn := ha_fs l h.w hx9
      rw [ea, e0 x (by omega)]
      exact ⟨fun m hm => by rw [hI _ _ (by omega)]; exact h.m hl hm, by rw [hI _ _ (by omega)]; exact h.t hl⟩
  · intro t i j hd
    by_cases c3 : t = 3
    · subst c3
      have hj : i < S 2 10 0 - 1 ∧ j = 0 := by
        have h1 := hd.2.1 rfl
        have h2 := hd.1
        rw [ew] at h1
        unfold dm0 at h2
        omega
      obtain ⟨hi, rfl⟩ := hj
      have ea : ca (l_a l, l_s l, l_b l, (l_f l + 1) % 30) 3 i = ca l 3 (i + 1) := by
        show l_a l + 6 + 3 * (((l_f l + 1) % 30 + i) % 30) = l_a l + 6 + 3 * ((l_f l + (i + 1)) % 30)
        congr 2
        omega
      have ec : cf 3 i 0 = cf 3 (i + 1) 0 := rfl
      have hd' : dm S 3 (i + 1) 0 := dm_3 h.b (by omega)
      rw [ea, ec, er, hI _ _ (by
        have h1 : ca l 3 (i + 1) = l_a l + 6 + 3 * ((l_f l + (i + 1)) % 30) := rfl
        omega)]
      exact h.c hd'
    · have ea : ca (l_a l, l_s l, l_b l, (l_f l + 1) % 30) t i = ca l t i := by
        unfold ca; simp only [if_neg c3]; rfl
      have hd' : dm S t i j := by
        unfold dm at hd ⊢
        rw [et 8 (by decide) (by decide) (by decide), ew, en 11 0 (by decide)] at hd
        exact ⟨hd.1, fun e => absurd e c3, hd.2.2⟩
      by_cases c2 : t = 2 ∧ i = 10
      · obtain ⟨rfl, rfl⟩ := c2
        have hj : j = 0 := by have := hd.1; unfold dm0 at this; omega
        subst hj
        rw [ew]
        exact I_set_s _ _ _ _
      · have ev : o_drop S t i j = S t i j := by
          by_cases c : t = 2
          · subst c; exact en i j (by omega)
          · rw [et t (by have := hd.1; unfold dm0 at this; omega) c c3]
        have hne : ¬ (ca l t i = l_a l + 4 ∧ (cf t i j = 1 ∨ cf t i j = 2)) := by
          have n1 := ca_ne l h.w (t := 2) (i := 10) (j := 0) (by unfold dm0; omega) hd'.1 (by omega)
          have n2 := ca_fs l h.w hd'.1
          have e1 : ca l 2 10 = l_a l + 4 := rfl
          have e2 : cf 2 10 0 = 2 := rfl
          omega
        rw [ea, ev, hI _ _ hne]
        exact h.c hd'
  · intro s hs h0
    rw [et 8 (by decide) (by decide) (by decide)] at hs
    rw [et 4 (by decide) (by decide) (by decide)] at h0 ⊢
    obtain ⟨j, hj, e⟩ := w1 s (h.nst8 hs)
    have : q_I (q_setI (q_setI A (l_a l + 4) 1 (nI ((l_f l + 1) % 30))) (l_a l + 4) 2 (nI (S 2 10 0 - 1))) (l_s l s) 1 = _ := (hI (l_s l s) 1 (by omega)).trans (h.rnd hs h0)
    exact this
  · show q_I (q_setI (q_setI A (l_a l + 4) 1 (nI ((l_f l + 1) % 30))) (l_a l + 4) 2 (nI (S 2 10 0 - 1))) (l_a l + 4) 1 = nI ((l_f l + 1) % 30)
    rw [I_set (Or.inr (by decide)), I_set_s]
end LG

/-! READING AND WRITING A LINE OF THE CLASS -/
theorem lv_89 {S : s_T} (b : Lb S) {h : Nat} (q : lv S h) : h < 89 := by unfold lv at q; unfold Lb at b; omega
section LPS
variable {A0 A : q_H} {l : l_T} {S : s_T}
theorem Lp.w (h : Lp A0 A l S) : Lw l := h.1.1
theorem Lp.b (h : Lp A0 A l S) : Lb S := h.1.2.2.1
theorem Lp.s0 (h : Lp A0 A l S) : Ls0 A l := h.1.2.1.1
theorem Lp.s1 (h : Lp A0 A l S) : Ls1 A l := h.1.2.1.2
theorem Lp.line (h : Lp A0 A l S) : q_sh A (l_a l) = (5, 0) := h.s0.1.1
theorem Lp.r1 (h : Lp A0 A l S) : q_R A (l_a l) 1 = some (l_a l + 1) := h.s0.1.2.1
theorem Lp.r2 (h : Lp A0 A l S) : q_R A (l_a l) 2 = some (l_a l + 2) := h.s0.1.2.2.1
theorem Lp.r4 (h : Lp A0 A l S) : q_R A (l_a l) 4 = some (l_a l + 3) := h.s0.1.2.2.2.1
theorem Lp.r6 (h : Lp A0 A l S) : q_R A (l_a l) 6 = some (l_a l + 4) := h.s0.1.2.2.2.2.1
theorem Lp.r7 (h : Lp A0 A l S) : q_R A (l_a l) 7 = some (l_a l + 96) := h.s0.1.2.2.2.2.2.1
theorem Lp.r8 (h : Lp A0 A l S) : q_R A (l_a l) 8 = some (l_a l + 218) := h.s0.1.2.2.2.2.2.2.1
theorem Lp.r9 (h : Lp A0 A l S) : q_R A (l_a l) 9 = some (l_a l + 220) := h.s0.1.2.2.2.2.2.2.2.1
theorem Lp.r10 (h : Lp A0 A l S) : q_R A (l_a l) 10 = some (l_a l + 221) := h.s0.1.2.2.2.2.2.2.2.2.1
theorem Lp.r11 (h : Lp A0 A l S) : q_R A (l_a l) 11 = some (l_a l + 223) := h.s0.1.2.2.2.2.2.2.2.2.2
theorem Lp.z1 (h : Lp A0 A l S) : q_sh A (l_a l + 1) = (50, 8) := h.s0.2.1
theorem Lp.z2 (h : Lp A0 A l S) : q_sh A (l_a l + 2) = (66, 8) := h.s0.2.2.1
theorem Lp.z3 (h : Lp A0 A l S) : q_sh A (l_a l + 3) = (61, 4) := h.s0.2.2.2.1
theorem Lp.z4 (h : Lp A0 A l S) : q_sh A (l_a l + 4) = (4, 0) := h.s0.2.2.2.2.1.1
theorem Lp.r40 (h : Lp A0 A l S) : q_R A (l_a l + 4) 0 = some (l_a l + 5) := h.s0.2.2.2.2.1.2
theorem Lp.z5 (h : Lp A0 A l S) : q_sh A (l_a l + 5) = (65, 30) := h.s0.2.2.2.2.2.1
theorem Lp.z96 (h : Lp A0 A l S) : q_sh A (l_a l + 96) = (8, 0) := h.s0.2.2.2.2.2.2.1.1
theorem Lp.r960 (h : Lp A0 A l S) : q_R A (l_a l + 96) 0 = some (l_a l + 97) := h.s0.2.2.2.2.2.2.1.2
theorem Lp.z97 (h : Lp A0 A l S) : q_sh A (l_a l + 97) = (60, 40) := h.s0.2.2.2.2.2.2.2.1
theorem Lp.k218 (h : Lp A0 A l S) : okH A (l_a l + 218) := h.s0.2.2.2.2.2.2.2.2.1
theorem Lp.z220 (h : Lp A0 A l S) : q_sh A (l_a l + 220) = (9, 0) := h.s0.2.2.2.2.2.2.2.2.2.1
theorem Lp.k221 (h : Lp A0 A l S) : okH A (l_a l + 221) := h.s0.2.2.2.2.2.2.2.2.2.2.1
theorem Lp.k223 (h : Lp A0 A l S) : okH A (l_a l + 223) := h.s0.2.2.2.2.2.2.2.2.2.2.2
theorem Lp.rs (h : Lp A0 A l S) {s : Nat} (hs : s < 8) : q_R A (l_a l + 2) s = some (l_a l + 225 + 6 * s) := (h.s1.1 s hs).1
theorem Lp.zs (h : Lp A0 A l S) {s : Nat} (hs : s < 8) : q_sh A (l_a l + 225 + 6 * s) = (7, 0) := (h.s1.1 s hs).2.1
theorem Lp.rs7 (h : Lp A0 A l S) {s : Nat} (hs : s < 8) : q_R A (l_a l + 225 + 6 * s) 7 = some (l_s l s) := (h.s1.1 s hs).2.2.1
theorem Lp.rs8 (h : Lp A0 A l S) {s : Nat} (hs : s < 8) : q_R A (l_a l + 225 + 6 * s) 8 = some (l_a l + 229 + 6 * s) := (h.s1.1 s hs).2.2.2.1
theorem Lp.rb (h : Lp A0 A l S) {b : Nat} (hb : b < 4) : q_R A (l_a l + 3) b = some (l_a l + 273 + b) := (h.s1.2.1 b hb).1
theorem Lp.zb (h : Lp A0 A l S) {b : Nat} (hb : b < 4) : q_sh A (l_a l + 273 + b) = (2, 0) := (h.s1.2.1 b hb).2
theorem Lp.rp (h : Lp A0 A l S) {i : Nat} (hi : i < 30) : q_R A (l_a l + 5) i = some (l_a l + 6 + 3 * i) := (h.s1.2.2.1 i hi).1
theorem Lp.kp (h : Lp A0 A l S) {i : Nat} (hi : i < 30) : okP A (l_a l + 6 + 3 * i) := (h.s1.2.2.1 i hi).2
theorem Lp.rk (h : Lp A0 A l S) {b : Nat} (hb : b < 40) : q_R A (l_a l + 97) b = some (l_b l b) := (h.s1.2.2.2 b hb).1
theorem Lp.kb (h : Lp A0 A l S) {b : Nat} (hb : b < 40) : okB A (l_b l b) := by
  obtain ⟨j, hj, e⟩ := h.w.2.2.1 b hb
  rw [e]; exact (h.s1.2.2.2 j hj).2
theorem Lp.ks (h : Lp A0 A l S) {s : Nat} (hs : s < 8) : okP A (l_s l s) := by
  obtain ⟨j, hj, e⟩ := h.w.1 s hs
  rw [e]; exact (h.s1.1 j hj).2.2.2.2.1
theorem Lp.kbun (h : Lp A0 A l S) {s : Nat} (hs : s < 8) : okH A (l_a l + 229 + 6 * s) := (h.s1.1 s hs).2.2.2.2.2
/-- each heap is one -/
theorem Lp.kh (h : Lp A0 A l S) {x : Nat} (hx : x < 89) : okH A (ha l x) := by
  rcases ha_cases l h.w hx with ⟨-, e⟩ | ⟨-, e⟩ | ⟨-, e⟩ | ⟨s, hs, -, e⟩ | ⟨s, j, hs, hj, -, e, y⟩ | ⟨k, hk, -, e⟩ | ⟨b, j, hb, hj, -, e, y⟩
  · rw [e]; exact h.k218
  · rw [e]; exact h.k221
  · rw [e]; exact h.k223
  · rw [e]; exact h.kbun hs
  · have := (h.ks hs).2.2
    rw [y] at this
    rw [e, show l_a l + 227 + 6 * j = l_a l + 226 + 6 * j + 1 by omega]; exact this
  · have := (h.kp (i := (l_f l + k) % 30) (by omega)).2.2
    rw [e, show l_a l + 7 + 3 * ((l_f l + k) % 30) = l_a l + 6 + 3 * ((l_f l + k) % 30) + 1 by omega]; exact this
  · have := (h.kb hb).2.2
    rw [y] at this
    rw [e, show l_a l + 99 + 3 * j = l_a l + 98 + 3 * j + 1 by omega]; exact this
theorem Lp.m (h : Lp A0 A l S) {x : Nat} (hx : lv S x) {m : Nat} (hm : m < 6) : q_I A (ha l x + 1) m = nI (S 0 x m) := (h.1.2.2.2.1 x hx).1 m hm
theorem Lp.t (h : Lp A0 A l S) {x : Nat} (hx : lv S x) : q_I A (ha l x) 1 = nI (s6 (S 0 x)) := (h.1.2.2.2.1 x hx).2
theorem Lp.c (h : Lp A0 A l S) {t i j : Nat} (d : dm S t i j) : q_I A (ca l t i) (cf t i j) = nI (S t i j) := h.1.2.2.2.2.1 t i j d
theorem Lp.rnd (h : Lp A0 A l S) {s : Nat} (hs : s < S 8 1 0) (h0 : S 4 s 0 ≠ 0) : q_I A (l_s l s) 1 = nI (S 4 s 0 - 1) := h.1.2.2.2.2.2.1 s hs h0
theorem Lp.fs (h : Lp A0 A l S) : q_I A (l_a l + 4) 1 = nI (l_f l) := h.1.2.2.2.2.2.2
theorem dm_1 (S : s_T) {i : Nat} (h : i < 8) : dm S 1 i 0 := ⟨Or.inl ⟨rfl, h, rfl⟩, by simp, by simp, by simp, by simp⟩
theorem dm_2 (S : s_T) {i : Nat} (h : i < 12) : dm S 2 i 0 := ⟨Or.inr (Or.inl ⟨rfl, h, rfl⟩), by simp, by simp, by simp, by simp⟩
theorem dm_3 {S : s_T} {i : Nat} (b : Lb S) (h : i < S 2 10 0) : dm S 3 i 0 := ⟨Or.inr (Or.inr (Or.inl ⟨rfl, by unfold Lb at b; omega, rfl⟩)), fun _ => h, by simp, by simp, by simp⟩
theorem dm_5 {S : s_T} {i j : Nat} (b : Lb S) (h : i < S 8 1 0) (hj : j < 4) : dm S 5 i j := ⟨Or.inr (Or.inr (Or.inr (Or.inl ⟨rfl, by unfold Lb at b; omega, hj⟩))), by simp, fun _ => h, by simp, by simp⟩
theorem dm_6 {S : s_T} {i j : Nat} (b : Lb S) (h : i < S 2 11 0) (hj : j < 4) : dm S 6 i j := ⟨Or.inr (Or.inr (Or.inr (Or.inr (Or.inl ⟨rfl, by unfold Lb at b; omega, hj⟩)))), by simp, by simp, fun _ => h, by simp⟩
theorem dm_7 {S : s_T} {i : Nat} (b : Lb S) (h : i < S 8 2 0) : dm S 7 i 0 := ⟨Or.inr (Or.inr (Or.inr (Or.inr (Or.inr (Or.inl ⟨rfl, by unfold Lb at b; omega, rfl⟩))))), by simp, by simp, by simp, fun _ => h⟩
theorem dm_8 (S : s_T) {i : Nat} (h : i < 3) : dm S 8 i 0 := ⟨Or.inr (Or.inr (Or.inr (Or.inr (Or.inr (Or.inr (Or.inl ⟨rfl, h, rfl⟩)))))), by simp, by simp, by simp, by simp⟩
theorem dm_9 {S : s_T} {i j : Nat} (b : Lb S) (h : i < S 8 1 0) (hj : j < 3) : dm S 9 i j := ⟨Or.inr (Or.inr (Or.inr (Or.inr (Or.inr (Or.inr (Or.inr (Or.inl ⟨rfl, by unfold Lb at b; omega, hj⟩))))))), by simp, fun _ => h, by simp, by simp⟩
theorem dm_10 {S : s_T} {i j : Nat} (b : Lb S) (h : i < S 8 2 0) (hj : j < 5) : dm S 10 i j := ⟨Or.inr (Or.inr (Or.inr (Or.inr (Or.inr (Or.inr (Or.inr (Or.inr (Or.inl ⟨rfl, by unfold Lb at b; omega, hj⟩)))))))), by simp, by simp, by simp, fun _ => h⟩
theorem dm_11 {S : s_T} {i : Nat} (b : Lb S) (h : i < S 8 2 0) : dm S 11 i 0 := ⟨Or.inr (Or.inr (Or.inr (Or.inr (Or.inr (Or.inr (Or.inr (Or.inr (Or.inr ⟨rfl, by unfold Lb at b; omega, rfl⟩)))))))), by simp, by simp, by simp, fun _ => h⟩
theorem Lp.set (h : Lp A0 A l S) {i : Nat} (hi : i < 8) : q_I A (l_a l + 1) i = nI (S 1 i 0) := h.c (dm_1 S hi)
theorem Lp.tal (h : Lp A0 A l S) {i : Nat} (hi : i < 10) : q_I A (l_a l + 220) i = nI (S 2 i 0) := by
  have := h.c (dm_2 S (i := i) (by omega))
  simpa [ca, cf, hi] using this
theorem Lp.wait (h : Lp A0 A l S) : q_I A (l_a l + 4) 2 = nI (S 2 10 0) := h.c (dm_2 S (i := 10) (by omega))
theorem Lp.stock (h : Lp A0 A l S) : q_I A (l_a l + 96) 1 = nI (S 2 11 0) := h.c (dm_2 S (i := 11) (by omega))
theorem Lp.mats (h : Lp A0 A l S) : q_I A (l_a l) 0 = nI (S 8 0 0) := h.c (dm_8 S (i := 0) (by omega))
theorem Lp.nst (h : Lp A0 A l S) : q_I A (l_a l) 3 = nI (S 8 1 0) := h.c (dm_8 S (i := 1) (by omega))
theorem Lp.nby (h : Lp A0 A l S) : q_I A (l_a l) 5 = nI (S 8 2 0) := h.c (dm_8 S (i := 2) (by omega))
theorem Lp.par (h : Lp A0 A l S) {k : Nat} (hk : k < S 2 10 0) : q_I A (l_a l + 6 + 3 * ((l_f l + k) % 30)) 1 = nI (S 3 k 0) := h.c (dm_3 h.b hk)
theorem Lp.pk (h : Lp A0 A l S) {s : Nat} (hs : s < S 8 1 0) : q_I A (l_a l + 225 + 6 * s) 1 = nI (S 5 s 0) := h.c (dm_5 h.b hs (j := 0) (by omega))
theorem Lp.ti (h : Lp A0 A l S) {s : Nat} (hs : s < S 8 1 0) : q_I A (l_a l + 225 + 6 * s) 4 = nI (S 5 s 1) := h.c (dm_5 h.b hs (j := 1) (by omega))
theorem Lp.ba (h : Lp A0 A l S) {s : Nat} (hs : s < S 8 1 0) : q_I A (l_a l + 225 + 6 * s) 5 = nI (S 5 s 2) := h.c (dm_5 h.b hs (j := 2) (by omega))
theorem Lp.pd (h : Lp A0 A l S) {s : Nat} (hs : s < S 8 1 0) : q_I A (l_a l + 225 + 6 * s) 6 = nI (S 5 s 3) := h.c (dm_5 h.b hs (j := 3) (by omega))
theorem Lp.tg (h : Lp A0 A l S) {s : Nat} (hs : s < S 8 1 0) : q_I A (l_a l + 225 + 6 * s) 0 = nI (S 9 s 0) := h.c (dm_9 h.b hs (j := 0) (by omega))
theorem Lp.ra (h : Lp A0 A l S) {s : Nat} (hs : s < S 8 1 0) : q_I A (l_a l + 225 + 6 * s) 2 = nI (S 9 s 1) := h.c (dm_9 h.b hs (j := 1) (by omega))
theorem Lp.er (h : Lp A0 A l S) {s : Nat} (hs : s < S 8 1 0) : q_I A (l_a l + 225 + 6 * s) 3 = nI (S 9 s 2) := h.c (dm_9 h.b hs (j := 2) (by omega))
theorem Lp.bal (h : Lp A0 A l S) {b j : Nat} (hb : b < S 2 11 0) (hj : j < 4) : q_I A (l_b l b) j = nI (S 6 b j) := h.c (dm_6 h.b hb hj)
theorem Lp.paid (h : Lp A0 A l S) {b : Nat} (hb : b < S 8 2 0) : q_I A (l_a l + 273 + b) 6 = nI (S 7 b 0) := h.c (dm_7 h.b hb)
theorem Lp.buy (h : Lp A0 A l S) {b j : Nat} (hb : b < S 8 2 0) (hj : j < 5) : q_I A (l_a l + 273 + b) (j + 1) = nI (S 10 b j) := h.c (dm_10 h.b hb hj)
theorem Lp.name (h : Lp A0 A l S) {b : Nat} (hb : b < S 8 2 0) : q_I A (l_a l + 273 + b) 0 = nI (S 11 b 0) := h.c (dm_11 h.b hb)
theorem Lp.nst8 (h : Lp A0 A l S) {s : Nat} (hs : s < S 8 1 0) : s < 8 := by have := h.b; unfold Lb at this; omega
/-- shapes and pointers as they were -/
theorem Ls.to {A A' : q_H} (h : Ls A l) (hs : q_sh A' = q_sh A) (hr : q_R A' = q_R A) : Ls A' l := by
  unfold Ls Ls0 Ls1 okP okB okH at h ⊢
  rw [hs, hr]; exact h
theorem u2_n {α : Type} (f : Nat → Nat → α) {a k b j : Nat} (v : α) (h : b ≠ a ∨ j ≠ k) : q_u2 f a k v b j = f b j := by
  unfold q_u2; rw [if_neg]; rintro ⟨e1, e2⟩; rcases h with h | h
  · exact h e1
  · exact h e2
/-- a number is written -/
theorem Lp.put (h : Lp A0 A l S) {t i j : Nat} (v : Nat) (d : dm0 t i j) (hc : (t = 2 → i < 10) ∧ (t = 8 → i = 0)) : Lp A0 (q_setI A (ca l t i) (cf t i j) (nI v)) l (s_p S t i j v) := by
  have ht0 : t ≠ 0 := by unfold dm0 at d; omega
  have ht4 : t ≠ 4 := by unfold dm0 at d; omega
  have e8 : ∀ x, x ≠ 0 → s_p S t i j v 8 x 0 = S 8 x 0 := fun x hx => by
    unfold s_p; rw [if_neg]; rintro ⟨a, b, -⟩; have := hc.2 a.symm; omega
  have e2 : ∀ x, 10 ≤ x → s_p S t i j v 2 x 0 = S 2 x 0 := fun x hx => by
    unfold s_p; rw [if_neg]; rintro ⟨a, b, -⟩; have := hc.1 a.symm; omega
  have elv : ∀ x, lv (s_p S t i j v) x ↔ lv S x := fun x => by unfold lv; rw [e8 1 (by decide), e2 10 (by omega), e2 11 (by omega)]
  have edm : ∀ x y z, dm (s_p S t i j v) x y z ↔ dm S x y z := fun x y z => by unfold dm; rw [e8 1 (by decide), e8 2 (by decide), e2 10 (by omega), e2 11 (by omega)]
  have hin := ca_in l h.w d
  refine ⟨⟨h.w, h.1.2.1.to rfl rfl, ?_, ?_, ?_, ?_, ?_⟩, h.2.setI hin.1 hin.2⟩
  · have := h.b
    unfold Lb at this ⊢
    rw [e8 1 (by decide), e8 2 (by decide), e2 10 (by omega), e2 11 (by omega)]
    exact this
  · intro x hx
    rw [elv] at hx
    have hn := ca_ha l h.w d (lv_89 h.b hx)
    rw [s_p_00 ht0, q_I_setI]
    exact ⟨fun m hm => by rw [u2_n _ _ (Or.inl (Ne.symm hn.2))]; exact h.m hx hm, by rw [u2_n _ _ (Or.inl (Ne.symm hn.1))]; exact h.t hx⟩
  · intro x y z hd
    rw [edm] at hd
    rw [q_I_setI]
    by_cases c : x = t ∧ y = i ∧ z = j
    · obtain ⟨rfl, rfl, rfl⟩ := c
      rw [q_u2_s, s_p_s]
    · rw [u2_n _ _ (ca_ne l h.w d hd.1 c)]
      have : s_p S t i j v x y z = S x y z := by unfold s_p; rw [if_neg c]
      rw [this]
      exact h.c hd
  · intro s hs h0
    rw [e8 1 (by decide)] at hs
    rw [s_p_t (Ne.symm ht4)] at h0 ⊢
    rw [q_I_setI, u2_n _ _ (Or.inl (Ne.symm (ca_sl l h.w d (h.nst8 hs))))]
    exact h.rnd hs h0
  · rw [q_I_setI, u2_n _ _ ((ca_fs l h.w d).imp Ne.symm Ne.symm)]
    exact h.fs
/-- a slot's rounds are written -/
theorem Lp.putr (h : Lp A0 A l S) {s : Nat} (v : Nat) (hs : s < 8) : Lp A0 (q_setI A (l_s l s) 1 (nI v)) l (s_p S 4 s 0 (v + 1)) := by
  obtain ⟨y, hy, ey⟩ := h.w.1 s hs
  refine ⟨⟨h.w, h.1.2.1.to rfl rfl, h.b, ?_, ?_, ?_, ?_⟩, h.2.setI (by omega) (by omega)⟩
  · intro x hx
    have hx' : lv S x := hx
    have hn := ha_sl l h.w (lv_89 h.b hx') hs
    rw [s_p_00 (by decide), q_I_setI]
    exact ⟨fun m hm => by rw [u2_n _ _ (Or.inl hn.2)]; exact h.m hx' hm, by rw [u2_n _ _ (Or.inl hn.1)]; exact h.t hx'⟩
  · intro x y z hd
    have hd' : dm S x y z := hd
    have hx4 : x ≠ 4 := by have := hd'.1; unfold dm0 at this; omega
    rw [q_I_setI, u2_n _ _ (Or.inl (ca_sl l h.w hd'.1 hs)), s_p_t hx4]
    exact h.c hd'
  · intro x hx h0
    have hx' : x < S 8 1 0 := hx
    rw [q_I_setI]
    by_cases c : x = s
    · subst c
      rw [q_u2_s, s_p_s]
      rfl
    · have hne : l_s l x ≠ l_s l s := fun e => c (h.w.2.1 x s (h.nst8 hx') hs e)
      rw [s_p_i c] at h0 ⊢
      rw [u2_n _ _ (Or.inl hne)]
      exact h.rnd hx' h0
  · rw [q_I_setI, u2_n _ _ (Or.inl (by omega))]
    exact h.fs
theorem Lp.sr0 (h : Lp A0 A l S) (s : Nat) : Lp A0 A l (s_p S 4 s 0 0) := by
  refine ⟨⟨h.w, h.1.2.1, h.b, ?_, ?_, ?_, h.fs⟩, h.2⟩
  · intro x hx
    rw [s_p_00 (by decide)]
    exact h.1.2.2.2.1 x hx
  · intro x y z hd
    have hx4 : x ≠ 4 := by have := hd.1; unfold dm0 at this; omega
    rw [s_p_t hx4]
    exact h.c hd
  · intro x hx h0
    by_cases c : x = s
    · subst c; exact absurd (s_p_s _ _ _ _ _) h0
    · rw [s_p_i c] at h0 ⊢
      exact h.rnd hx h0
/-- a heap is changed -/
theorem Lp.heap {A' : q_H} (h : Lp A0 A l S) {x : Nat} (f : Nat → Nat) (hx : x < 89) (hz : q_sz A' = q_sz A) (hs : q_sh A' = q_sh A) (hr : q_R A' = q_R A) (ho : ∀ y, y ≠ ha l x → y ≠ ha l x + 1 → q_same A A' y)
    (hm : ∀ m, m < 6 → q_I A' (ha l x + 1) m = nI (f m)) (ht : q_I A' (ha l x) 1 = nI (s6 f)) : Lp A0 A' l (s_h S x f) := by
  have hin := ha_in l h.w hx
  have hI : ∀ y, y ≠ ha l x → y ≠ ha l x + 1 → q_I A' y = q_I A y := fun y a b => (ho y a b).2.1
  refine ⟨⟨h.w, h.1.2.1.to hs hr, h.b, ?_, ?_, ?_, ?_⟩, by have := h.2.1; omega, fun y hy hyz => (h.2.2 y hy hyz).t (ho y (by omega) (by omega))⟩
  · intro y hy
    have hy' : lv S y := hy
    by_cases c : y = x
    · subst c
      rw [s_h_s]
      exact ⟨hm, ht⟩
    · have hn := ha_ne l h.w (lv_89 h.b hy') hx c
      rw [s_h_n c, hI _ hn.1 hn.2.1, hI _ hn.2.2 (by omega)]
      exact h.1.2.2.2.1 y hy'
  · intro t i j hd
    have hd' : dm S t i j := hd
    have ht0 : t ≠ 0 := by have := hd'.1; unfold dm0 at this; omega
    have hn := ca_ha l h.w hd'.1 hx
    rw [s_h_t ht0, hI _ hn.1 hn.2]
    exact h.c hd'
  · intro s hs2 h0
    have hn := ha_sl l h.w hx (h.nst8 hs2)
    rw [s_h_t (by decide)] at h0 ⊢
    rw [hI _ (Ne.symm hn.1) (Ne.symm hn.2)]
    exact h.rnd hs2 h0
  · have hn := ha_fs l h.w hx
    rw [hI _ (Ne.symm hn.1) (Ne.symm hn.2)]
    exact h.fs
end LPS

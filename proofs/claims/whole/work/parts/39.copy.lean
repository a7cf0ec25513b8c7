/-! A LINE THAT IS BEING WRITTEN: its heaps H, cells D, slots' rounds Q hold already what S says (Q 8: the ring's first) -/
abbrev zA (A : q_H) (l : l_T) : q_H := (q_sz A, q_sh A, fun a k => if a = l_a l + 4 ∧ k = 1 then nI (l_f l) else nI 0, q_R A, q_L A, q_D A)
theorem Lz_p {A : q_H} {l : l_T} (w : Lw l) (s : Ls A l) : Lp (zA A l) (zA A l) l (fun _ _ _ => 0) := by
  have hI : ∀ a k, ¬ (a = l_a l + 4 ∧ k = 1) → q_I (zA A l) a k = nI 0 := fun a k h => if_neg h
  have hb : Lb (fun _ _ _ => 0) := ⟨Nat.zero_le _, Nat.zero_le _, Nat.zero_le _, Nat.zero_le _⟩
  refine ⟨⟨w, s, hb, fun x hx => ?_, fun t i j d => ?_, fun s _ h0 => absurd rfl h0, if_pos ⟨rfl, rfl⟩⟩, fr.r _ _ _⟩
  · have hn := ha_fs l w (h := x) (lv_89 hb hx)
    exact ⟨fun m _ => hI _ _ (fun e => hn.2 e.1), hI _ _ (fun e => hn.1 e.1)⟩
  · have hn := ca_fs l w d.1
    exact hI _ _ (fun e => hn.elim (fun q => q e.1) (fun q => q e.2))
theorem okP.sm3 {A A' : q_H} {x : Nat} (h : okP A x) (e : ∀ y, x ≤ y → y < x + 3 → q_same A A' y) : okP A' x := h.sm (e _ (by omega) (by omega)) (e _ (by omega) (by omega)) (e _ (by omega) (by omega))
theorem okB.sm3 {A A' : q_H} {x : Nat} (h : okB A x) (e : ∀ y, x ≤ y → y < x + 3 → q_same A A' y) : okB A' x := h.sm (e _ (by omega) (by omega)) (e _ (by omega) (by omega)) (e _ (by omega) (by omega))
theorem okH.sm2 {A A' : q_H} {x : Nat} (h : okH A x) (e : ∀ y, x ≤ y → y < x + 2 → q_same A A' y) : okH A' x := h.sm (e _ (by omega) (by omega)) (e _ (by omega) (by omega))
theorem Ls.sm {A A' : q_H} {l : l_T} (h : Ls A l) (e : ∀ x, l_a l ≤ x → x < l_a l + 277 → q_same A A' x) : Ls A' l := by
  have zh : ∀ x, l_a l ≤ x → x < l_a l + 277 → q_sh A' x = q_sh A x := fun x a b => (e x a b).1
  have zr : ∀ x j, l_a l ≤ x → x < l_a l + 277 → q_R A' x j = q_R A x j := fun x j a b => by rw [(e x a b).2.2.1]
  obtain ⟨⟨p1, p2, p3, p4, p5, p6, p7, p8, p9, p10, p11, p12⟩, s1, s2, s3, s4⟩ := h
  refine ⟨⟨?_, ?_, ?_, ?_, ?_, ?_, ?_, ?_, p9.sm2 (fun y a b => e y (by omega) (by omega)), ?_, p11.sm2 (fun y a b => e y (by omega) (by omega)), p12.sm2 (fun y a b => e y (by omega) (by omega))⟩, fun s hs => ?_, fun y hy => ?_, fun i hi => ?_, fun y hy => ?_⟩
  · rw [zh _ (by omega) (by omega), zr _ _ (by omega) (by omega), zr _ _ (by omega) (by omega), zr _ _ (by omega) (by omega), zr _ _ (by omega) (by omega), zr _ _ (by omega) (by omega), zr _ _ (by omega) (by omega), zr _ _ (by omega) (by omega), zr _ _ (by omega) (by omega), zr _ _ (by omega) (by omega)]
    exact p1
  · rw [zh _ (by omega) (by omega)]; exact p2
  · rw [zh _ (by omega) (by omega)]; exact p3
  · rw [zh _ (by omega) (by omega)]; exact p4
  · rw [zh _ (by omega) (by omega), zr _ _ (by omega) (by omega)]; exact p5
  · rw [zh _ (by omega) (by omega)]; exact p6
  · rw [zh _ (by omega) (by omega), zr _ _ (by omega) (by omega)]; exact p7
  · rw [zh _ (by omega) (by omega)]; exact p8
  · rw [zh _ (by omega) (by omega)]; exact p10
  · obtain ⟨a1, a2, a3, a4, a5, a6⟩ := s1 s hs
    exact ⟨by rw [zr _ _ (by omega) (by omega)]; exact a1, by rw [zh _ (by omega) (by omega)]; exact a2, by rw [zr _ _ (by omega) (by omega)]; exact a3, by rw [zr _ _ (by omega) (by omega)]; exact a4, a5.sm3 (fun y a b => e y (by omega) (by omega)), a6.sm2 (fun y a b => e y (by omega) (by omega))⟩
  · obtain ⟨a1, a2⟩ := s2 y hy
    exact ⟨by rw [zr _ _ (by omega) (by omega)]; exact a1, by rw [zh _ (by omega) (by omega)]; exact a2⟩
  · obtain ⟨a1, a2⟩ := s3 i hi
    exact ⟨by rw [zr _ _ (by omega) (by omega)]; exact a1, a2.sm3 (fun y a b => e y (by omega) (by omega))⟩
  · obtain ⟨a1, a2⟩ := s4 y hy
    exact ⟨by rw [zr _ _ (by omega) (by omega)]; exact a1, a2.sm3 (fun z a b => e z (by omega) (by omega))⟩
theorem Lr.sm {A A' : q_H} {l : l_T} {S : s_T} (h : Lr A l S) (e : ∀ x, l_a l ≤ x → x < l_a l + 277 → q_same A A' x) : Lr A' l S := by
  have zI : ∀ x j, l_a l ≤ x → x < l_a l + 277 → q_I A' x j = q_I A x j := fun x j a b => by rw [(e x a b).2.1]
  obtain ⟨w, s, b, v1, v2, v3, v4⟩ := h
  refine ⟨w, s.sm e, b, fun x hx => ?_, fun t i j d => ?_, fun s hs h0 => ?_, ?_⟩
  · have hin := ha_in l w (lv_89 b hx)
    exact ⟨fun m hm => by rw [zI _ _ (by omega) (by omega)]; exact (v1 x hx).1 m hm, by rw [zI _ _ (by omega) (by omega)]; exact (v1 x hx).2⟩
  · have hin := ca_in l w d.1
    rw [zI _ _ (by omega) (by omega)]; exact v2 t i j d
  · have hs8 : s < 8 := by unfold Lb at b; omega
    obtain ⟨j, hj, ej⟩ := w.1 s hs8
    rw [zI _ _ (by omega) (by omega)]; exact v3 s hs h0
  · rw [zI _ _ (by omega) (by omega)]; exact v4
theorem Lr.fr {A A' : q_H} {l : l_T} {S : s_T} {a w : Nat} (h : Lr A l S) (f : fr A A' a w) (dj : l_a l + 277 ≤ a ∨ a + w ≤ l_a l) (sz : l_a l + 277 ≤ q_sz A) : Lr A' l S := h.sm fun x h1 h2 => f.2 x (by omega) (by omega)
theorem Ls.fr {A A' : q_H} {l : l_T} {a w : Nat} (h : Ls A l) (f : fr A A' a w) (dj : l_a l + 277 ≤ a ∨ a + w ≤ l_a l) (sz : l_a l + 277 ≤ q_sz A) : Ls A' l := h.sm fun x h1 h2 => f.2 x (by omega) (by omega)
def Lk (A0 A : q_H) (l : l_T) (S : s_T) (H : Nat → Prop) (D : Nat → Nat → Nat → Prop) (Q : Nat → Prop) : Prop :=
  Lw l ∧ Ls A l ∧ fr A0 A (l_a l) 277 ∧ (∀ h, H h → h < 89 ∧ (∀ m, m < 6 → q_I A (ha l h + 1) m = nI (S 0 h m)) ∧ q_I A (ha l h) 1 = nI (s6 (S 0 h))) ∧ (∀ t i j, D t i j → dm0 t i j ∧ q_I A (ca l t i) (cf t i j) = nI (S t i j)) ∧ (∀ s, Q s → (s < 8 → S 4 s 0 ≠ 0 → q_I A (l_s l s) 1 = nI (S 4 s 0 - 1)) ∧ (s = 8 → q_I A (l_a l + 4) 1 = nI (l_f l)))
section LK
variable {A0 A : q_H} {l : l_T} {S : s_T} {H : Nat → Prop} {D : Nat → Nat → Nat → Prop} {Q : Nat → Prop}
theorem Lk.z (h : Lk A0 A l S H D Q) : Lp (zA A l) (zA A l) l (fun _ _ _ => 0) := Lz_p h.1 h.2.1
theorem Lk.mono {H' : Nat → Prop} {D' : Nat → Nat → Nat → Prop} {Q' : Nat → Prop} (h : Lk A0 A l S H D Q) (hH : ∀ x, H' x → H x) (hD : ∀ t i j, D' t i j → D t i j) (hQ : ∀ s, Q' s → Q s) : Lk A0 A l S H' D' Q' :=
  ⟨h.1, h.2.1, h.2.2.1, fun x q => h.2.2.2.1 x (hH x q), fun t i j q => h.2.2.2.2.1 t i j (hD t i j q), fun s q => h.2.2.2.2.2 s (hQ s q)⟩
theorem Lk.to {A' : q_H} (h : Lk A0 A l S H D Q) (e : A' = A) : Lk A0 A' l S H D Q := by rw [e]; exact h
theorem Lk.put (h : Lk A0 A l S H D Q) {t i j : Nat} (d : dm0 t i j) : Lk A0 (q_setI A (ca l t i) (cf t i j) (nI (S t i j))) l S H (fun t' i' j' => D t' i' j' ∨ (t' = t ∧ i' = i ∧ j' = j)) Q := by
  have hin := ca_in l h.1 d
  refine ⟨h.1, h.2.1.to rfl rfl, h.2.2.1.setI hin.1 hin.2, fun x q => ?_, fun t' i' j' q => ?_, fun s q => ?_⟩
  · have a := h.2.2.2.1 x q
    have hn := ca_ha l h.1 d a.1
    exact ⟨a.1, fun m hm => by rw [I_set (Or.inl (Ne.symm hn.2))]; exact a.2.1 m hm, by rw [I_set (Or.inl (Ne.symm hn.1))]; exact a.2.2⟩
  · by_cases c : t' = t ∧ i' = i ∧ j' = j
    · obtain ⟨rfl, rfl, rfl⟩ := c
      exact ⟨d, I_set_s _ _ _ _⟩
    · have a := h.2.2.2.2.1 t' i' j' (q.resolve_right c)
      exact ⟨a.1, by rw [I_set (ca_ne l h.1 d a.1 c)]; exact a.2⟩
  · have a := h.2.2.2.2.2 s q
    exact ⟨fun h8 h0 => by rw [I_set (Or.inl (Ne.symm (ca_sl l h.1 d h8)))]; exact a.1 h8 h0, fun h8 => by rw [I_set ((ca_fs l h.1 d).imp Ne.symm Ne.symm)]; exact a.2 h8⟩
theorem Lk.rnd (h : Lk A0 A l S H D Q) {s : Nat} (v : Int32) (hs : s < 8) (hv : S 4 s 0 ≠ 0 → v = nI (S 4 s 0 - 1)) : Lk A0 (q_setI A (l_s l s) 1 v) l S H D (fun s' => Q s' ∨ s' = s) := by
  obtain ⟨y, hy, ey⟩ := h.1.1 s hs
  refine ⟨h.1, h.2.1.to rfl rfl, h.2.2.1.setI (by omega) (by omega), fun x q => ?_, fun t' i' j' q => ?_, fun s' q => ?_⟩
  · have a := h.2.2.2.1 x q
    have hn := ha_sl l h.1 a.1 hs
    exact ⟨a.1, fun m hm => by rw [I_set (Or.inl hn.2)]; exact a.2.1 m hm, by rw [I_set (Or.inl hn.1)]; exact a.2.2⟩
  · have a := h.2.2.2.2.1 t' i' j' q
    exact ⟨a.1, by rw [I_set (Or.inl (ca_sl l h.1 a.1 hs))]; exact a.2⟩
  · by_cases c : s' = s
    · subst c
      exact ⟨fun _ h0 => by rw [I_set_s, hv h0], fun e => by omega⟩
    · have a := h.2.2.2.2.2 s' (q.resolve_right c)
      refine ⟨fun h8 h0 => ?_, fun h8 => ?_⟩
      · rw [I_set (Or.inl fun e => c (h.1.2.1 s' s h8 hs e))]; exact a.1 h8 h0
      · rw [I_set (Or.inl (by omega))]; exact a.2 h8
theorem Lk.first (h : Lk A0 A l S H D Q) : Lk A0 (q_setI A (l_a l + 4) 1 (nI (l_f l))) l S H D (fun s' => Q s' ∨ s' = 8) := by
  refine ⟨h.1, h.2.1.to rfl rfl, h.2.2.1.setI (by omega) (by omega), fun x q => ?_, fun t' i' j' q => ?_, fun s' q => ?_⟩
  · have a := h.2.2.2.1 x q
    have hn := ha_fs l h.1 a.1
    exact ⟨a.1, fun m hm => by rw [I_set (Or.inl hn.2)]; exact a.2.1 m hm, by rw [I_set (Or.inl hn.1)]; exact a.2.2⟩
  · have a := h.2.2.2.2.1 t' i' j' q
    exact ⟨a.1, by rw [I_set (ca_fs l h.1 a.1)]; exact a.2⟩
  · refine ⟨fun h8 h0 => ?_, fun _ => I_set_s _ _ _ _⟩
    obtain ⟨y, hy, ey⟩ := h.1.1 s' h8
    rw [I_set (Or.inl (by omega))]
    exact (h.2.2.2.2.2 s' (q.resolve_right (by omega))).1 h8 h0
theorem Lk.heap {A' : q_H} (h : Lk A0 A l S H D Q) {x : Nat} (hx : x < 89) (hz : q_sz A' = q_sz A) (hs : q_sh A' = q_sh A) (hr : q_R A' = q_R A) (ho : ∀ y, y ≠ ha l x → y ≠ ha l x + 1 → q_same A A' y)
    (hm : ∀ m, m < 6 → q_I A' (ha l x + 1) m = nI (S 0 x m)) (ht : q_I A' (ha l x) 1 = nI (s6 (S 0 x))) : Lk A0 A' l S (fun y => H y ∨ y = x) D Q := by
  have hin := ha_in l h.1 hx
  have hI : ∀ y, y ≠ ha l x → y ≠ ha l x + 1 → q_I A' y = q_I A y := fun y a b => (ho y a b).2.1
  refine ⟨h.1, h.2.1.to hs hr, ⟨by have := h.2.2.1.1; omega, fun y hy hyz => (h.2.2.1.2 y hy hyz).t (ho y (by omega) (by omega))⟩, fun y q => ?_, fun t i j q => ?_, fun s q => ?_⟩
  · by_cases c : y = x
    · subst c
      exact ⟨hx, hm, ht⟩
    · have a := h.2.2.2.1 y (q.resolve_right c)
      have hn := ha_ne l h.1 a.1 hx c
      exact ⟨a.1, fun m hm => by rw [hI _ hn.2.2 (by omega)]; exact a.2.1 m hm, by rw [hI _ hn.1 hn.2.1]; exact a.2.2⟩
  · have a := h.2.2.2.2.1 t i j q
    have hn := ca_ha l h.1 a.1 hx
    exact ⟨a.1, by rw [hI _ hn.1 hn.2]; exact a.2⟩
  · have a := h.2.2.2.2.2 s q
    refine ⟨fun h8 h0 => ?_, fun h8 => ?_⟩
    · have hn := ha_sl l h.1 hx h8
      rw [hI _ (Ne.symm hn.1) (Ne.symm hn.2)]; exact a.1 h8 h0
    · have hn := ha_fs l h.1 hx
      rw [hI _ (Ne.symm hn.1) (Ne.symm hn.2)]; exact a.2 h8
theorem Lk.done (h : Lk A0 A l S H D Q) (hb : Lb S) (hH : ∀ x, lv S x → H x) (hD : ∀ t i j, dm S t i j → D t i j) (hQ : ∀ s, s < S 8 1 0 ∨ s = 8 → Q s) : Lr A l S := by
  refine ⟨h.1, h.2.1, hb, fun x q => (h.2.2.2.1 x (hH x q)).2, fun t i j q => (h.2.2.2.2.1 t i j (hD t i j q)).2, fun s hs h0 => ?_, (h.2.2.2.2.2 8 (hQ 8 (Or.inr rfl))).2 rfl⟩
  have : s < 8 := by unfold Lb at hb; omega
  exact (h.2.2.2.2.2 s (hQ s (Or.inl hs))).1 this h0
end LK

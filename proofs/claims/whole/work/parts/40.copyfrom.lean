/-! A LINE IS COPIED INTO ANOTHER -/
def Lj (A0 : q_H) (t o : l_T) (S : s_T) : Prop := Lr A0 o S ∧ (l_a o + 277 ≤ l_a t ∨ l_a t + 277 ≤ l_a o) ∧ l_a o + 277 ≤ q_sz A0
section CPY
variable {G : q_G} {X : String → q_H → Prop} {A0 A : q_H} {t o : l_T} {S : s_T} {H : Nat → Prop} {D : Nat → Nat → Nat → Prop} {Q : Nat → Prop}
theorem Lj.p (j : Lj A0 t o S) (h : Lk A0 A t S H D Q) : Lp A A o S := ⟨j.1.fr h.2.2.1 j.2.1 j.2.2, fr.r _ _ _⟩
theorem K_copyH {f : q_H → Prop} (h : Lk A0 A t S H D Q) {x y : Nat} (hx : x < 89) (ko : okH A y) (ne : y ≠ ha t x + 1) (vm : ∀ m, m < 6 → q_I A (y + 1) m = nI (S 0 x m)) (vt : q_I A y 1 = nI (s6 (S 0 x))) (k : ∀ A', Lk A0 A' t S (fun z => H z ∨ z = x) D Q → q_I A' y = q_I A y → f A') (ne2 : y ≠ ha t x) : q_Wc G M_X2_copyFrom [.ref (ha t x), .ref y] A (q_KV f) X := by
  refine c_copyH (h.z.kh hx) ko ne (k _ (h.heap hx rfl rfl rfl (fun y a b => ((q_same.r A y).rowI b).setI a) (fun m hm => ?_) ?_) ?_)
  · rw [I_set (Or.inl (by omega)), I_row_s, if_pos hm]; exact vm m hm
  · rw [I_set_s]; exact vt
  · funext i
    rw [I_set (Or.inl ne2), I_row ne]
/-- from the same heap of the other line -/
theorem K_copyHo {f : q_H → Prop} (h : Lk A0 A t S H D Q) (j : Lj A0 t o S) {x : Nat} (hx : lv S x) (k : ∀ A', Lk A0 A' t S (fun z => H z ∨ z = x) D Q → f A') : q_Wc G M_X2_copyFrom [.ref (ha t x), .ref (ha o x)] A (q_KV f) X := by
  have p := j.p h
  have hx9 := lv_89 p.b hx
  have i1 := ha_in t h.1 hx9
  have i2 := ha_in o p.w hx9
  have dj := j.2.1
  exact K_copyH h hx9 (p.kh hx9) (by omega) (fun m hm => p.m hx hm) (p.t hx) (fun A' h' _ => k A' h') (by omega)
theorem K_slot {f : q_H → Prop} (h : Lk A0 A t S H D Q) (j : Lj A0 t o S) {s : Nat} (hs : s < S 8 1 0) (k : ∀ A', Lk A0 A' t S (fun z => H z ∨ z = 11 + s) D (fun z => Q z ∨ z = s) → f A') : q_Wc G M_X5_copyFrom [.ref (l_s t s), .ref (l_s o s)] A (q_KV f) X := by
  have p := j.p h
  have hs8 := p.nst8 hs
  have dj := j.2.1
  obtain ⟨a, ha1, ea⟩ := h.1.1 s hs8
  obtain ⟨b, hb1, eb⟩ := p.w.1 s hs8
  have zt : q_sh A (l_s t s) = (6, 0) := h.z.zsl hs8
  have zt2 : q_sh A (ha t (11 + s)) = (3, 0) := h.z.zh (x := 11 + s) (by omega)
  refine f_X5_copyFrom ⟨zt, _, h.z.rsl hs8, p.zsl hs8, _, p.rsl hs8, zt2, K_copyHo h j (lv_slot hs) fun A1 h1 => ?_⟩
  have p1 := j.p h1
  exact ⟨p1.zsl hs8, h1.z.zsl hs8, k _ (h1.rnd _ hs8 fun h0 => p1.rnd hs h0)⟩
theorem K_par {f : q_H → Prop} (h : Lk A0 A t S H D Q) (j : Lj A0 t o S) {s : Nat} (hs : s < S 2 10 0) (k : ∀ A', Lk A0 A' t S (fun z => H z ∨ z = 19 + s) (fun t i j => D t i j ∨ (t = 3 ∧ i = s ∧ j = 0)) Q → f A') : q_Wc G M_X5_copyFrom [.ref (pa t s), .ref (pa o s)] A (q_KV f) X := by
  have p := j.p h
  have hb := p.b
  unfold Lb at hb
  have zt : q_sh A (pa t s) = (6, 0) := h.z.zp s
  have zt2 : q_sh A (ha t (19 + s)) = (3, 0) := h.z.zh (x := 19 + s) (by omega)
  refine f_X5_copyFrom ⟨zt, _, h.z.rpa (by omega), p.zp s, _, p.rpa (by omega), zt2, K_copyHo h j (lv_par hs) fun A1 h1 => ?_⟩
  have p1 := j.p h1
  have e : q_I A1 (pa o s) 1 = nI (S 3 s 0) := p1.par hs
  rw [e]
  exact ⟨p1.zp s, h1.z.zp s, k _ (h1.put (t := 3) (i := s) (j := 0) (by unfold dm0; omega))⟩
theorem K_bale {f : q_H → Prop} (h : Lk A0 A t S H D Q) (j : Lj A0 t o S) {s : Nat} (hs : s < S 2 11 0) (k : ∀ A', Lk A0 A' t S (fun z => H z ∨ z = 49 + s) (fun t i j => D t i j ∨ (t = 6 ∧ i = s ∧ j < 4)) Q → f A') : q_Wc G M_X0_copyFrom [.ref (l_b t s), .ref (l_b o s)] A (q_KV f) X := by
  have p := j.p h
  have hb := p.b
  unfold Lb at hb
  have dj := j.2.1
  obtain ⟨a, ha1, ea⟩ := h.1.2.2.1 s (by omega)
  obtain ⟨b, hb1, eb⟩ := p.w.2.2.1 s (by omega)
  have ne : l_b o s ≠ l_b t s := by omega
  have zt : q_sh A (l_b t s) = (1, 0) := (h.z.kb (b := s) (by omega)).1
  have zt2 : q_sh A (ha t (49 + s)) = (3, 0) := h.z.zh (x := 49 + s) (by omega)
  refine f_X0_copyFrom ⟨(p.kb (by omega)).1, zt, fun A3 e3 => ?_⟩
  simp only [I_set (Or.inl ne)] at e3
  rw [p.bal hs (j := 0) (by decide), p.bal hs (j := 1) (by decide), p.bal hs (j := 2) (by decide)] at e3
  have h1 := h.put (t := 6) (i := s) (j := 0) (by unfold dm0; omega)
  have h2 := h1.put (t := 6) (i := s) (j := 1) (by unfold dm0; omega)
  have h3 := h2.put (t := 6) (i := s) (j := 2) (by unfold dm0; omega)
  have h3' := h3.to (A' := A3) e3
  have p3 := j.p h3'
  rw [p3.bal hs (j := 3) (by decide)]
  have h4 := h3'.put (t := 6) (i := s) (j := 3) (by unfold dm0; omega)
  have zz : q_sh A3 = q_sh A := by rw [e3]; rfl
  have rr : q_R A3 = q_R A := by rw [e3]; rfl
  refine ⟨_, h.z.rba (by omega), _, p.rba (by omega), zt2, K_copyHo h4 j (lv_bal hs) fun A1 h5 => k _ (h5.mono (fun z q => q) (fun t i j q => ?_) (fun z q => q))⟩
  rcases q with q | ⟨rfl, rfl, q⟩
  · simp [q]
  · simp; omega
theorem K_buyer {f : q_H → Prop} (h : Lk A0 A t S H D Q) (j : Lj A0 t o S) {s : Nat} (hs : s < S 8 2 0) (k : ∀ A', Lk A0 A' t S H (fun t i j => D t i j ∨ (t = 11 ∧ i = s ∧ j = 0) ∨ (t = 10 ∧ i = s ∧ j < 5) ∨ (t = 7 ∧ i = s ∧ j = 0)) Q → f A') : q_Wc G M_X1_copyFrom [.ref (l_a t + 273 + s), .ref (l_a o + 273 + s)] A (q_KV f) X := by
  have p := j.p h
  have hb := p.b
  unfold Lb at hb
  have dj := j.2.1
  have ne : l_a o + 273 + s ≠ l_a t + 273 + s := by omega
  refine f_X1_copyFrom ⟨p.zb (by omega), h.z.zb (b := s) (by omega), fun A3 e3 A4 e4 => ?_⟩
  simp only [I_set (Or.inl ne)] at e3 e4
  rw [p.name hs, p.buy hs (j := 0) (by decide), p.buy hs (j := 1) (by decide)] at e3
  have h1 := h.put (t := 11) (i := s) (j := 0) (by unfold dm0; omega)
  have h2 := h1.put (t := 10) (i := s) (j := 0) (by unfold dm0; omega)
  have h3 := h2.put (t := 10) (i := s) (j := 1) (by unfold dm0; omega)
  have h3' := h3.to (A' := A3) e3
  have p3 := j.p h3'
  rw [p3.buy hs (j := 2) (by decide), p3.buy hs (j := 3) (by decide), p3.buy hs (j := 4) (by decide)] at e4
  have h4 := h3'.put (t := 10) (i := s) (j := 2) (by unfold dm0; omega)
  have h5 := h4.put (t := 10) (i := s) (j := 3) (by unfold dm0; omega)
  have h6 := h5.put (t := 10) (i := s) (j := 4) (by unfold dm0; omega)
  have h6' := h6.to (A' := A4) e4
  have p4 := j.p h6'
  rw [p4.paid hs]
  refine k _ ((h6'.put (t := 7) (i := s) (j := 0) (by unfold dm0; omega)).mono (fun z q => q) (fun t i j q => ?_) (fun z q => q))
  rcases q with q | ⟨rfl, rfl, rfl⟩ | ⟨rfl, rfl, q⟩ | ⟨rfl, rfl, rfl⟩
  · simp [q]
  · simp
  · simp; omega
  · simp
theorem K_tally {f : q_H → Prop} (h : Lk A0 A t S H D Q) (j : Lj A0 t o S) (k : ∀ A', Lk A0 A' t S H (fun t i j => D t i j ∨ (t = 2 ∧ i < 10 ∧ j = 0)) Q → f A') : q_Wc G M_X8_copyFrom [.ref (l_a t + 220), .ref (l_a o + 220)] A (q_KV f) X := by
  have p := j.p h
  have dj := j.2.1
  have ne : l_a o + 220 ≠ l_a t + 220 := by omega
  refine f_X8_copyFrom ⟨p.z220, h.z.z220, fun A3 e3 A4 e4 A5 e5 => ?_⟩
  simp only [I_set (Or.inl ne)] at e3 e4 e5
  rw [p.tal (i := 0) (by decide), p.tal (i := 1) (by decide), p.tal (i := 2) (by decide)] at e3
  have h1 := h.put (t := 2) (i := 0) (j := 0) (by unfold dm0; omega)
  have h2 := h1.put (t := 2) (i := 1) (j := 0) (by unfold dm0; omega)
  have h3 := h2.put (t := 2) (i := 2) (j := 0) (by unfold dm0; omega)
  have h3' := h3.to (A' := A3) e3
  have p3 := j.p h3'
  rw [p3.tal (i := 3) (by decide), p3.tal (i := 4) (by decide), p3.tal (i := 5) (by decide)] at e4
  have h4 := h3'.put (t := 2) (i := 3) (j := 0) (by unfold dm0; omega)
  have h5 := h4.put (t := 2) (i := 4) (j := 0) (by unfold dm0; omega)
  have h6 := h5.put (t := 2) (i := 5) (j := 0) (by unfold dm0; omega)
  have h6' := h6.to (A' := A4) e4
  have p4 := j.p h6'
  rw [p4.tal (i := 6) (by decide), p4.tal (i := 7) (by decide), p4.tal (i := 8) (by decide)] at e5
  have h7 := h6'.put (t := 2) (i := 6) (j := 0) (by unfold dm0; omega)
  have h8 := h7.put (t := 2) (i := 7) (j := 0) (by unfold dm0; omega)
  have h9 := h8.put (t := 2) (i := 8) (j := 0) (by unfold dm0; omega)
  have h9' := h9.to (A' := A5) e5
  have p5 := j.p h9'
  rw [p5.tal (i := 9) (by decide)]
  refine k _ ((h9'.put (t := 2) (i := 9) (j := 0) (by unfold dm0; omega)).mono (fun z q => q) (fun t i j q => ?_) (fun z q => q))
  rcases q with q | ⟨rfl, q, rfl⟩
  · simp [q]
  · simp; omega
theorem K_station {f : q_H → Prop} (h : Lk A0 A t S H D Q) (j : Lj A0 t o S) {s : Nat} (hs : s < S 8 1 0) (k : ∀ A', Lk A0 A' t S (fun z => (H z ∨ z = 11 + s) ∨ z = 3 + s) (fun t i j => D t i j ∨ (t = 9 ∧ i = s ∧ j < 3) ∨ (t = 5 ∧ i = s ∧ j < 4)) (fun z => Q z ∨ z = s) → f A') : q_Wc G M_X6_copyFrom [.ref (l_a t + 225 + 6 * s), .ref (l_a o + 225 + 6 * s)] A (q_KV f) X := by
  have p := j.p h
  have hs8 := p.nst8 hs
  have dj := j.2.1
  have ne : l_a o + 225 + 6 * s ≠ l_a t + 225 + 6 * s := by omega
  refine f_X6_copyFrom ⟨p.zs hs8, h.z.zs hs8, fun A3 e3 A4 e4 => ?_⟩
  simp only [I_set (Or.inl ne)] at e3 e4
  rw [p.tg hs, p.pk hs, p.ra hs] at e3
  have h1 := h.put (t := 9) (i := s) (j := 0) (by unfold dm0; omega)
  have h2 := h1.put (t := 5) (i := s) (j := 0) (by unfold dm0; omega)
  have h3 := h2.put (t := 9) (i := s) (j := 1) (by unfold dm0; omega)
  have h3' := h3.to (A' := A3) e3
  have p3 := j.p h3'
  rw [p3.er hs, p3.ti hs, p3.ba hs] at e4
  have h4 := h3'.put (t := 9) (i := s) (j := 2) (by unfold dm0; omega)
  have h5 := h4.put (t := 5) (i := s) (j := 1) (by unfold dm0; omega)
  have h6 := h5.put (t := 5) (i := s) (j := 2) (by unfold dm0; omega)
  have h6' := h6.to (A' := A4) e4
  have p4 := j.p h6'
  rw [p4.pd hs]
  have h7 := h6'.put (t := 5) (i := s) (j := 3) (by unfold dm0; omega)
  refine ⟨_, h.z.rs7 hs8, _, p.rs7 hs8, h.z.zsl hs8, K_slot h7 j hs fun A9 h9 => ?_⟩
  have p9 := j.p h9
  refine ⟨h9.z.zs hs8, _, h9.z.rbn hs8, p9.zs hs8, _, p9.rbn hs8, h9.z.zh (x := 3 + s) (by omega), K_copyHo h9 j (lv_bun hs) fun A1 h10 => k _ (h10.mono (fun z q => q) (fun t i j q => ?_) (fun z q => q))⟩
  rcases q with q | ⟨rfl, rfl, q⟩ | ⟨rfl, rfl, q⟩
  · simp [q]
  · simp; omega
  · simp; omega
end CPY

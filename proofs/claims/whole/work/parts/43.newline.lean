/-! new Line -/
def l_new (b : Nat) : l_T := (b, fun s => b + 226 + 6 * s, fun k => b + 98 + 3 * k, 0)
theorem Lw_new (b : Nat) : Lw (l_new b) := by
  refine ⟨fun s hs => ⟨s, hs, rfl⟩, fun s t _ _ e => ?_, fun k hk => ⟨k, hk, rfl⟩, fun s t _ _ e => ?_, (by omega : (0 : Nat) < 30)⟩
  · have e' : b + 226 + 6 * s = b + 226 + 6 * t := e
    omega
  · have e' : b + 98 + 3 * s = b + 98 + 3 * t := e
    omega
def Ls1x (A : q_H) (l : l_T) (i j : Nat) : Prop := (∀ s, s < i → q_R A (l_a l + 2) s = some (l_a l + 225 + 6 * s) ∧ q_sh A (l_a l + 225 + 6 * s) = (7, 0) ∧ q_R A (l_a l + 225 + 6 * s) 7 = some (l_s l s) ∧ q_R A (l_a l + 225 + 6 * s) 8 = some (l_a l + 229 + 6 * s) ∧ okP A (l_a l + 226 + 6 * s) ∧ okH A (l_a l + 229 + 6 * s)) ∧
  (∀ b, b < j → q_R A (l_a l + 3) b = some (l_a l + 273 + b) ∧ q_sh A (l_a l + 273 + b) = (2, 0)) ∧ (∀ i, i < 30 → q_R A (l_a l + 5) i = some (l_a l + 6 + 3 * i) ∧ okP A (l_a l + 6 + 3 * i)) ∧ (∀ b, b < 40 → q_R A (l_a l + 97) b = some (l_b l b) ∧ okB A (l_a l + 98 + 3 * b))
theorem okH.zr {A A' : q_H} {x : Nat} (h : okH A x) (a : q_sh A' x = q_sh A x) (b : q_R A' x 0 = q_R A x 0) (c : q_sh A' (x + 1) = q_sh A (x + 1)) : okH A' x := ⟨a.trans h.1, b.trans h.2.1, c.trans h.2.2⟩
theorem okP.zr {A A' : q_H} {x : Nat} (h : okP A x) (a : ∀ y, x ≤ y → y < x + 3 → q_sh A' y = q_sh A y ∧ q_R A' y 0 = q_R A y 0) : okP A' x := ⟨(a x (by omega) (by omega)).1.trans h.1, (a x (by omega) (by omega)).2.trans h.2.1, h.2.2.zr (a _ (by omega) (by omega)).1 (a _ (by omega) (by omega)).2 (a _ (by omega) (by omega)).1⟩
theorem okB.zr {A A' : q_H} {x : Nat} (h : okB A x) (a : ∀ y, x ≤ y → y < x + 3 → q_sh A' y = q_sh A y ∧ ∀ k, q_R A' y k = q_R A y k) : okB A' x := ⟨(a x (by omega) (by omega)).1.trans h.1, ((a x (by omega) (by omega)).2 _).trans h.2.1, h.2.2.zr (a _ (by omega) (by omega)).1 ((a _ (by omega) (by omega)).2 _) (a _ (by omega) (by omega)).1⟩
theorem Lx.zr {A A' : q_H} {l : l_T} {i j : Nat} (h0 : Ls0 A l) (h1 : Ls1x A l i j) (hi : i ≤ 8) (hj : j = 0 ∨ i = 8) (zh : ∀ x, l_a l ≤ x → x < l_a l + 225 + 6 * i + j → q_sh A' x = q_sh A x) (zr : ∀ x k, l_a l ≤ x → x < l_a l + 225 + 6 * i + j → (x = l_a l + 2 → k < i) → (x = l_a l + 3 → k < j) → q_R A' x k = q_R A x k) : Ls0 A' l ∧ Ls1x A' l i j := by
  obtain ⟨p1, p2, p3, p4, p5, p6, p7, p8, p9, p10, p11, p12⟩ := h0
  obtain ⟨s1, s2, s3, s4⟩ := h1
  have zr' : ∀ x k, l_a l ≤ x → x < l_a l + 225 + 6 * i + j → x ≠ l_a l + 2 → x ≠ l_a l + 3 → q_R A' x k = q_R A x k := fun x k a b c d => zr x k a b (fun e => absurd e c) (fun e => absurd e d)
  refine ⟨⟨?_, ?_, ?_, ?_, ?_, ?_, ?_, ?_, p9.zr (zh _ (by omega) (by omega)) (zr' _ _ (by omega) (by omega) (by omega) (by omega)) (zh _ (by omega) (by omega)), ?_, p11.zr (zh _ (by omega) (by omega)) (zr' _ _ (by omega) (by omega) (by omega) (by omega)) (zh _ (by omega) (by omega)), p12.zr (zh _ (by omega) (by omega)) (zr' _ _ (by omega) (by omega) (by omega) (by omega)) (zh _ (by omega) (by omega))⟩, fun s hs => ?_, fun y hy => ?_, fun i hi => ?_, fun y hy => ?_⟩
  · have r : ∀ k, q_R A' (l_a l) k = q_R A (l_a l) k := fun k => zr' _ _ (by omega) (by omega) (by omega) (by omega)
    rw [zh _ (by omega) (by omega), r, r, r, r, r, r, r, r, r]
    exact p1
  · rw [zh _ (by omega) (by omega)]; exact p2
  · rw [zh _ (by omega) (by omega)]; exact p3
  · rw [zh _ (by omega) (by omega)]; exact p4
  · rw [zh _ (by omega) (by omega), zr' _ _ (by omega) (by omega) (by omega) (by omega)]; exact p5
  · rw [zh _ (by omega) (by omega)]; exact p6
  · rw [zh _ (by omega) (by omega), zr' _ _ (by omega) (by omega) (by omega) (by omega)]; exact p7
  · rw [zh _ (by omega) (by omega)]; exact p8
  · rw [zh _ (by omega) (by omega)]; exact p10
  · obtain ⟨a1, a2, a3, a4, a5, a6⟩ := s1 s hs
    exact ⟨by rw [zr _ _ (by omega) (by omega) (fun _ => hs) (fun e => by omega)]; exact a1, by rw [zh _ (by omega) (by omega)]; exact a2, by rw [zr' _ _ (by omega) (by omega) (by omega) (by omega)]; exact a3, by rw [zr' _ _ (by omega) (by omega) (by omega) (by omega)]; exact a4, a5.zr (fun y a b => ⟨zh _ (by omega) (by omega), zr' _ _ (by omega) (by omega) (by omega) (by omega)⟩), a6.zr (zh _ (by omega) (by omega)) (zr' _ _ (by omega) (by omega) (by omega) (by omega)) (zh _ (by omega) (by omega))⟩
  · obtain ⟨a1, a2⟩ := s2 y hy
    exact ⟨by rw [zr _ _ (by omega) (by omega) (fun e => by omega) (fun _ => hy)]; exact a1, by rw [zh _ (by omega) (by omega)]; exact a2⟩
  · obtain ⟨a1, a2⟩ := s3 i hi
    exact ⟨by rw [zr' _ _ (by omega) (by omega) (by omega) (by omega)]; exact a1, a2.zr (fun y a b => ⟨zh _ (by omega) (by omega), zr' _ _ (by omega) (by omega) (by omega) (by omega)⟩)⟩
  · obtain ⟨a1, a2⟩ := s4 y hy
    exact ⟨by rw [zr' _ _ (by omega) (by omega) (by omega) (by omega)]; exact a1, a2.zr (fun y a b => ⟨zh _ (by omega) (by omega), fun k => zr' _ _ (by omega) (by omega) (by omega) (by omega)⟩)⟩
/-- all numbers are 0 but the settings -/
def gJ (A : q_H) (b : Nat) : Prop := (∀ x, b ≤ x → x < q_sz A → x ≠ b + 1 → ∀ k, q_I A x k = nI 0) ∧ ∀ k, k < 8 → q_I A (b + 1) k = (q_sval 2).getD k 0
theorem gJ.new {A : q_H} {b : Nat} (h : gJ A b) (hb : b + 1 < q_sz A) (c n : Nat) : gJ (q_new A c n) b := ⟨fun x h1 h2 h3 k => by
  have z : q_sz (q_new A c n) = q_sz A + 1 := rfl
  by_cases e : x = q_sz A
  · rw [e, q_I_new, q_rw_s]; rfl
  · rw [q_I_new, q_rw_a _ _ _ e]; exact h.1 x h1 (by omega) h3 k, fun k hk => by rw [q_I_new, q_rw_a _ _ _ (by omega)]; exact h.2 k hk⟩
theorem gJ.sr {A : q_H} {b a k : Nat} {v : Option Nat} (h : gJ A b) : gJ (q_setR A a k v) b := h
theorem gJ.t {A C : q_H} {b n : Nat} (h : gJ A b) (hb : b + 1 < q_sz A) (g : gN A C n) (i : gI A C) : gJ C b := ⟨fun x h1 h2 h3 k => by
  by_cases e : x < q_sz A
  · rw [(g.2 x e).2.1]; exact h.1 x h1 e h3 k
  · exact i x (by omega) h2 k, fun k hk => by rw [(g.2 _ hb).2.1]; exact h.2 k hk⟩
def Nl (B A : q_H) (b i j : Nat) : Prop := gN B A (225 + 6 * i + j) ∧ Ls0 A (l_new b) ∧ Ls1x A (l_new b) i j ∧ q_I A (b + 4) 1 = nI 0 ∧ gJ A b
section NL
variable {G : q_G} {X : String → q_H → Prop} {B : q_H}
theorem w_NlB {f : q_H → Prop} {b : Nat} (eb : b = q_sz B) (k : ∀ A, Nl B A b 8 4 → f A) : ∀ (d j : Nat) (A : q_H), j + d = 4 → Nl B A b 8 j → q_Wp G M_X4_init (q_KV f) X (272 + j) (1165 + 7 * j) 132 [some (.ref b), some (.int (nI j))] [] A
  | 0, j, A, e, h => by
    have ei : j = 4 := by omega
    subst ei
    obtain ⟨h1, h2, h3, h4, h5⟩ := id h
    exact f_X4_init_132 ⟨h2.1.1, _, h2.1.2.2.2.1, 4, h2.2.2.2.1, by decide, fun _ => ⟨⟨by decide, by decide⟩, k A h⟩, fun c => absurd (nI_le (Nat.le_refl _) (by decide)) c⟩
  | d + 1, j, A, e, h => by
    obtain ⟨h1, h2, h3, h4, h5⟩ := id h
    have zA : q_sz A = b + 273 + j := by rw [h1.1, eb]; omega
    have r3 : q_R A b 4 = some (b + 3) := h2.1.2.2.2.1
    have z3 : q_sh A (b + 3) = (61, 4) := h2.2.2.2.1
    have zb : q_sh A b = (5, 0) := h2.1.1
    refine f_X4_init_132 ⟨zb, _, r3, 4, z3, by decide, fun c => absurd c (nI_ge (by omega) (by decide)), fun _ => ⟨⟨by omega, by omega⟩, ⟨by omega, by omega⟩, f_X1_init ⟨4, by rw [sh_new_n (by omega)]; exact z3, by decide, j, rfl, by omega, sh_new_s _ _ _, ?_⟩⟩⟩
    have ec : 272 + j + 1 = 272 + (j + 1) := by omega
    have en : 1165 + 7 * j + 7 = 1165 + 7 * (j + 1) := by omega
    rw [nI_add, ec, en]
    have sm : ∀ y, y < b + 273 + j → y ≠ b + 3 → q_same A (q_setR (q_new A 2 0) (b + 3) j (some (q_sz A))) y := fun y a1 a2 => ((q_same.r A y).new (by omega)).setR a2
    have hh : ∀ y, y < b + 273 + j → q_sh (q_setR (q_new A 2 0) (b + 3) j (some (q_sz A))) y = q_sh A y := fun y a1 => sh_new_n (B := A) (by omega)
    have z := Lx.zr (A' := q_setR (q_new A 2 0) (b + 3) j (some (q_sz A))) h2 h3 (Nat.le_refl _) (Or.inr rfl) (fun x a1 a2 => hh x (by have e0 : l_a (l_new b) = b := rfl; omega)) (fun x k' a1 a2 a3 a4 => by
      have e0 : l_a (l_new b) = b := rfl
      rw [e0] at a1 a2 a3 a4
      by_cases c : x = b + 3
      · rw [R_set (Or.inr (by have := a4 c; omega)), q_R_new, q_rw_a _ _ _ (by omega)]
      · rw [(sm x (by omega) c).2.2.1])
    refine w_NlB eb k d (j + 1) _ (by omega) ⟨⟨by show q_sz A + 1 = _; rw [h1.1]; omega, fun x hx => (h1.2 x hx).t (sm x (by omega) (by omega))⟩, z.1, ⟨z.2.1, fun y hy => ?_, z.2.2.2.1, z.2.2.2.2⟩, ?_, (h5.new (by omega) 2 0).sr⟩
    · by_cases c : y = j
      · subst c
        have ez : q_sz A = l_a (l_new b) + 273 + y := zA
        refine ⟨(R_set_s _ _ _ _).trans (by rw [ez]), ?_⟩
        rw [← ez]
        exact sh_new_s A 2 0
      · exact z.2.2.1 y (by omega)
    · rw [(sm (b + 4) (by omega) (by omega)).2.1]; exact h4
theorem w_NlS {f : q_H → Prop} {b : Nat} (eb : b = q_sz B) (k : ∀ A, Nl B A b 8 4 → f A) : ∀ (d i : Nat) (A : q_H), i + d = 8 → Nl B A b i 0 → q_Wp G M_X4_init (q_KV f) X (224 + 6 * i) (949 + 27 * i) 102 [some (.ref b), some (.int (nI i))] [] A
  | 0, i, A, e, h => by
    have ei : i = 8 := by omega
    subst ei
    obtain ⟨h1, h2, h3, h4, h5⟩ := id h
    exact f_X4_init_102 ⟨h2.1.1, _, h2.1.2.2.1, 8, h2.2.2.1, by decide, fun _ => w_NlB eb k 4 0 A (by omega) h, fun c => absurd (nI_le (Nat.le_refl _) (by decide)) c⟩
  | d + 1, i, A, e, h => by
    obtain ⟨h1, h2, h3, h4, h5⟩ := id h
    have zA : q_sz A = b + 225 + 6 * i := by rw [h1.1, eb]; omega
    have r3 : q_R A b 2 = some (b + 2) := h2.1.2.2.1
    have z3 : q_sh A (b + 2) = (66, 8) := h2.2.2.1
    have zb : q_sh A b = (5, 0) := h2.1.1
    refine f_X4_init_102 ⟨zb, _, r3, 8, z3, by decide, fun c => absurd c (nI_ge (by omega) (by decide)), fun _ => ⟨⟨by omega, by omega⟩, ⟨by omega, by omega⟩, N_station rfl fun A2 g2 i2 t1 t2 t3 t4 t5 => ?_⟩⟩
    have s2 := g2.2 (b + 2) (by omega)
    refine ⟨8, s2.1.trans z3, by decide, i, rfl, by omega, t1, ?_⟩
    have ec : 224 + 6 * i + 1 + 5 = 224 + 6 * (i + 1) := by omega
    have en : 949 + 27 * i + 9 + 18 = 949 + 27 * (i + 1) := by omega
    rw [nI_add, ec, en]
    have sm : ∀ y, y < b + 225 + 6 * i → y ≠ b + 2 → q_same A (q_setR A2 (b + 2) i (some (q_sz A))) y := fun y a1 a2 => (g2.2 y (by omega)).setR a2
    have hh : ∀ y, y < b + 225 + 6 * i → q_sh (q_setR A2 (b + 2) i (some (q_sz A))) y = q_sh A y := fun y a1 => (g2.2 y (by omega)).1
    have z := Lx.zr (A' := q_setR A2 (b + 2) i (some (q_sz A))) h2 h3 (by omega) (Or.inl rfl) (fun x a1 a2 => hh x (by have e0 : l_a (l_new b) = b := rfl; omega)) (fun x k' a1 a2 a3 a4 => by
      have e0 : l_a (l_new b) = b := rfl
      rw [e0] at a1 a2 a3 a4
      by_cases c : x = b + 2
      · rw [R_set (Or.inr (by have := a3 c; omega)), (g2.2 x (by omega)).2.2.1]
      · rw [(sm x (by omega) c).2.2.1])
    refine w_NlS eb k d (i + 1) _ (by omega) ⟨⟨by show q_sz A2 = _; rw [g2.1, h1.1]; omega, fun x hx => (h1.2 x hx).t (sm x (by omega) (by omega))⟩, z.1, ⟨fun y hy => ?_, z.2.2.1, z.2.2.2.1, z.2.2.2.2⟩, ?_, (h5.t (by omega) g2 i2).sr⟩
    · by_cases c : y = i
      · subst c
        have ez : q_sz A = l_a (l_new b) + 225 + 6 * y := zA
        have e1 : l_a (l_new b) + 226 + 6 * y = q_sz A + 1 := by omega
        have e2 : l_a (l_new b) + 229 + 6 * y = q_sz A + 4 := by omega
        have e3 : l_s (l_new b) y = q_sz A + 1 := e1
        have e0 : l_a (l_new b) = b := rfl
        have n2 : ∀ y', q_sz A ≤ y' → q_same A2 (q_setR A2 (b + 2) y (some (q_sz A))) y' := fun y' hy' => (q_same.r _ _).setR (by omega)
        refine ⟨(R_set_s _ _ _ _).trans (by rw [ez]), ?_⟩
        rw [e1, e2, e3, ← ez]
        refine ⟨t1, ?_, ?_, t4.sm (n2 _ (by omega)) (n2 _ (by omega)) (n2 _ (by omega)), t5.sm (n2 _ (by omega)) (n2 _ (by omega))⟩
        · rw [(n2 _ (Nat.le_refl _)).2.2.1]; exact t2
        · rw [(n2 _ (Nat.le_refl _)).2.2.1]; exact t3
      · exact z.2.1 y (by omega)
    · rw [(sm (b + 4) (by omega) (by omega)).2.1]; exact h4
end NL
section NL2
variable {G : q_G} {X : String → q_H → Prop} {B : q_H}

theorem Nl_fin {A5 C1 C2 C3 C4 C5 A9 A13 A17 A24 A26 A30 F : q_H} {b : Nat} (eb : b = q_sz B) (zF : q_sz F = b + 225)
    (s5 : ∀ x, x < b → q_same B A5 x) (sh5 : q_sh A5 b = (5, 0) ∧ q_sh A5 (b + 1) = (50, 8) ∧ q_sh A5 (b + 2) = (66, 8)) (r5 : q_R A5 b 1 = some (b + 1) ∧ q_R A5 b 2 = some (b + 2))
    (shC1 : q_sh C1 b = (5, 0) ∧ q_sh C1 (b + 3) = (61, 4)) (rC1 : q_R C1 b 4 = some (b + 3) ∧ ∀ k, k ≠ 4 → q_R C1 b k = q_R A5 b k)
    (n9a : q_sh A9 (b + 4) = (4, 0)) (n9b : q_R A9 (b + 4) 0 = some (b + 4 + 1)) (n9c : q_sh A9 (b + 4 + 1) = (65, 30)) (n9d : q_I A9 (b + 4) 1 = nI 0) (n9e : ∀ j, j < 30 → q_R A9 (b + 4 + 1) j = some (b + 4 + 2 + 3 * j) ∧ okP A9 (b + 4 + 2 + 3 * j))
    (rC2 : q_R C2 b 6 = some (b + 4) ∧ ∀ k, k ≠ 6 → q_R C2 b k = q_R C1 b k)
    (n13a : q_sh A13 (b + 96) = (8, 0)) (n13b : q_R A13 (b + 96) 0 = some (b + 96 + 1)) (n13c : q_sh A13 (b + 96 + 1) = (60, 40)) (n13e : ∀ j, j < 40 → q_R A13 (b + 96 + 1) j = some (b + 96 + 2 + 3 * j) ∧ okB A13 (b + 96 + 2 + 3 * j))
    (rC3 : q_R C3 b 7 = some (b + 96) ∧ ∀ k, k ≠ 7 → q_R C3 b k = q_R C2 b k) (o17 : okH A17 (b + 218)) (rC4 : q_R C4 b 8 = some (b + 218) ∧ ∀ k, k ≠ 8 → q_R C4 b k = q_R C3 b k)
    (sh24 : q_sh A24 b = (5, 0) ∧ q_sh A24 (b + 220) = (9, 0)) (r24 : q_R A24 b 9 = some (b + 220) ∧ ∀ k, k ≠ 9 → q_R A24 b k = q_R C4 b k) (o26 : okH A26 (b + 221)) (rC5 : q_R C5 b 10 = some (b + 221) ∧ ∀ k, k ≠ 10 → q_R C5 b k = q_R A24 b k)
    (o30 : okH A30 (b + 223)) (sF : ∀ x, x ≠ b → q_same A30 F x) (rF : q_R F b 11 = some (b + 223) ∧ ∀ k, k ≠ 11 → q_R F b k = q_R C5 b k) (shF : q_sh F b = (5, 0))
    (t26 : ∀ x, x < b + 223 → x ≠ b → q_same A26 F x) (t24 : ∀ x, x < b + 221 → x ≠ b → q_same A24 F x) (t17 : ∀ x, x < b + 220 → x ≠ b → q_same A17 F x) (t13 : ∀ x, x < b + 218 → x ≠ b → q_same A13 F x) (t9 : ∀ x, x < b + 96 → x ≠ b → q_same A9 F x) (tC1 : ∀ x, x < b + 4 → x ≠ b → q_same C1 F x) (t5 : ∀ x, x < b + 3 → x ≠ b → q_same A5 F x) (jF : gJ F b) : Nl B F b 0 0 := by
  refine ⟨⟨by rw [zF, eb], fun x hx => (s5 x (by omega)).t (t5 x (by omega) (by omega))⟩, ⟨⟨shF, ?_, ?_, ?_, ?_, ?_, ?_, ?_, ?_, ?_⟩, (t5 (b + 1) (by omega) (by omega)).1.trans sh5.2.1, (t5 (b + 2) (by omega) (by omega)).1.trans sh5.2.2, (tC1 (b + 3) (by omega) (by omega)).1.trans shC1.2, ⟨(t9 (b + 4) (by omega) (by omega)).1.trans n9a, ?_⟩, (t9 (b + 4 + 1) (by omega) (by omega)).1.trans n9c, ⟨(t13 (b + 96) (by omega) (by omega)).1.trans n13a, ?_⟩, (t13 (b + 96 + 1) (by omega) (by omega)).1.trans n13c, o17.sm (t17 _ (by omega) (by omega)) (t17 _ (by omega) (by omega)), (t24 (b + 220) (by omega) (by omega)).1.trans sh24.2, o26.sm (t26 _ (by omega) (by omega)) (t26 _ (by omega) (by omega)), o30.sm (sF _ (by omega)) (sF _ (by omega))⟩, ⟨fun s hs => absurd hs (Nat.not_lt_zero _), fun s hs => absurd hs (Nat.not_lt_zero _), fun i hi => ?_, fun i hi => ?_⟩, ?_, jF⟩
  · exact (rF.2 1 (by decide)).trans ((rC5.2 1 (by decide)).trans ((r24.2 1 (by decide)).trans ((rC4.2 1 (by decide)).trans ((rC3.2 1 (by decide)).trans ((rC2.2 1 (by decide)).trans ((rC1.2 1 (by decide)).trans r5.1))))))
  · exact (rF.2 2 (by decide)).trans ((rC5.2 2 (by decide)).trans ((r24.2 2 (by decide)).trans ((rC4.2 2 (by decide)).trans ((rC3.2 2 (by decide)).trans ((rC2.2 2 (by decide)).trans ((rC1.2 2 (by decide)).trans r5.2))))))
  · exact (rF.2 4 (by decide)).trans ((rC5.2 4 (by decide)).trans ((r24.2 4 (by decide)).trans ((rC4.2 4 (by decide)).trans ((rC3.2 4 (by decide)).trans ((rC2.2 4 (by decide)).trans rC1.1)))))
  · exact (rF.2 6 (by decide)).trans ((rC5.2 6 (by decide)).trans ((r24.2 6 (by decide)).trans ((rC4.2 6 (by decide)).trans ((rC3.2 6 (by decide)).trans rC2.1))))
  · exact (rF.2 7 (by decide)).trans ((rC5.2 7 (by decide)).trans ((r24.2 7 (by decide)).trans ((rC4.2 7 (by decide)).trans rC3.1)))
  · exact (rF.2 8 (by decide)).trans ((rC5.2 8 (by decide)).trans ((r24.2 8 (by decide)).trans rC4.1))
  · exact (rF.2 9 (by decide)).trans ((rC5.2 9 (by decide)).trans r24.1)
  · exact (rF.2 10 (by decide)).trans rC5.1
  · exact rF.1
  · have := (t9 (b + 4) (by omega) (by omega)).2.2.1
    exact (congrFun this 0).trans n9b
  · have := (t13 (b + 96) (by omega) (by omega)).2.2.1
    exact (congrFun this 0).trans n13b
  · have := (t9 (b + 4 + 1) (by omega) (by omega)).2.2.1
    have a := n9e i hi
    have e0 : b + 4 + 2 + 3 * i = b + 6 + 3 * i := by omega
    rw [e0] at a
    refine ⟨(congrFun this i).trans a.1, a.2.sm (t9 _ (by omega) (by omega)) (t9 _ (by omega) (by omega)) (t9 _ (by omega) (by omega))⟩
  · have := (t13 (b + 96 + 1) (by omega) (by omega)).2.2.1
    have a := n13e i hi
    have e0 : b + 96 + 2 + 3 * i = b + 98 + 3 * i := by omega
    rw [e0] at a
    refine ⟨(congrFun this i).trans a.1, a.2.sm (t13 _ (by omega) (by omega)) (t13 _ (by omega) (by omega)) (t13 _ (by omega) (by omega))⟩
  · have := (t9 (b + 4) (by omega) (by omega)).2.1
    exact (congrFun this 1).trans n9d
theorem xb_ {x b : Nat} (h1 : b ≤ x) (h2 : x < b + 2) (h3 : x ≠ b + 1) : x = b := by omega
theorem N_line {f : q_H → Prop} {b : Nat} (eb : b = q_sz B) (k : ∀ A, Nl B A b 8 4 → f A) : q_Wc G M_X4_init [.ref b] (q_new B 5 0) (q_KV f) X := by
  have z1 : q_sz (q_new B 5 0) = b + 1 := by rw [eb]; rfl
  have hsh : q_sh (q_new B 5 0) b = (5, 0) := by rw [eb]; exact sh_new_s _ _ _
  have s0 : ∀ x, x < b → q_same B (q_new B 5 0) x := fun x hx => (q_same.r B x).new (by omega)
  obtain ⟨E, eE⟩ : ∃ E, E = q_new B 5 0 := ⟨_, rfl⟩
  rw [← eE] at z1 hsh s0 ⊢
  have z2 : q_sz (q_rowI (q_new E 50 8) (q_sz E) (fun j => (q_sval 2).getD j 0)) = b + 2 := by show q_sz E + 1 = _; omega
  have hsh1 : q_sh (q_rowI (q_new E 50 8) (q_sz E) (fun j => (q_sval 2).getD j 0)) b = (5, 0) := by
    show q_sh (q_new E 50 8) b = _
    rw [sh_new_n (by omega)]; exact hsh
  have hshs : q_sh (q_rowI (q_new E 50 8) (q_sz E) (fun j => (q_sval 2).getD j 0)) (b + 1) = (50, 8) := by rw [← z1]; exact sh_new_s E 50 8
  have s1 : ∀ x, x < b → q_same E (q_rowI (q_new E 50 8) (q_sz E) (fun j => (q_sval 2).getD j 0)) x := fun x hx => ((q_same.r E x).new (by omega)).rowI (by omega)
  obtain ⟨E1, eE1⟩ : ∃ E1, E1 = q_rowI (q_new E 50 8) (q_sz E) (fun j => (q_sval 2).getD j 0) := ⟨_, rfl⟩
  refine f_X4_init ?_
  rw [← eE1] at z2 hsh1 hshs s1 ⊢
  have z3 : q_sz (q_setR E1 b 1 (some (q_sz E))) = b + 2 := z2
  refine ⟨hsh1, by rw [sh_new_n (by omega)]; exact hsh1, fun A5 e5 => ?_⟩
  have z5 : q_sz A5 = b + 3 := by rw [e5]; show q_sz E1 + 1 = _; omega
  have sh5 : q_sh A5 b = (5, 0) ∧ q_sh A5 (b + 1) = (50, 8) ∧ q_sh A5 (b + 2) = (66, 8) := by
    rw [e5]
    refine ⟨(sh_new_n (by omega)).trans hsh1, (sh_new_n (by omega)).trans hshs, ?_⟩
    rw [← z3]; exact sh_new_s (q_setR E1 b 1 (some (q_sz E))) 66 8
  have r5 : q_R A5 b 1 = some (b + 1) ∧ q_R A5 b 2 = some (b + 2) := by
    rw [e5]
    refine ⟨?_, by rw [R_set_s, z3]⟩
    rw [R_set (Or.inr (by decide)), q_R_new, q_rw_a _ _ _ (by omega), R_set_s, z1]
  have s5 : ∀ x, x < b → q_same B A5 x := fun x hx => by
    rw [e5]
    exact ((((s0 x hx).t (s1 x hx)).setR (by omega)).new (by omega)).setR (by omega)
  have sh55 : q_sh (q_new A5 61 4) b = (5, 0) := by rw [sh_new_n (by omega)]; exact sh5.1
  refine ⟨sh55, ?_⟩
  obtain ⟨C1, eC1⟩ : ∃ C1, C1 = q_setR (q_new A5 61 4) b 4 (some (q_sz A5)) := ⟨_, rfl⟩
  have zC1 : q_sz C1 = b + 4 := by rw [eC1]; show q_sz A5 + 1 = _; omega
  have sC1 : ∀ x, x < b + 3 → x ≠ b → q_same A5 C1 x := fun x h1 h2 => by rw [eC1]; exact ((q_same.r A5 x).new (by omega)).setR h2
  have shC1 : q_sh C1 b = (5, 0) ∧ q_sh C1 (b + 3) = (61, 4) := by
    rw [eC1]
    exact ⟨sh55, by rw [← z5]; exact sh_new_s A5 61 4⟩
  have rC1 : q_R C1 b 4 = some (b + 3) ∧ ∀ k, k ≠ 4 → q_R C1 b k = q_R A5 b k := by
    rw [eC1]
    exact ⟨by rw [R_set_s, z5], fun k hk => by rw [R_set (Or.inr hk), q_R_new, q_rw_a _ _ _ (by omega)]⟩
  rw [← eC1, zC1]
  refine N_hopper zC1.symm fun A9 g9 => ?_
  obtain ⟨⟨n9, i9⟩, n9a, n9b, n9c, n9d, n9e⟩ := g9
  have z9 : q_sz A9 = b + 96 := by rw [n9.1, zC1]
  have b9 := n9.2 b (by omega)
  refine ⟨b9.1.trans shC1.1, ?_⟩
  obtain ⟨C2, eC2⟩ : ∃ C2, C2 = q_setR A9 b 6 (some (b + 4)) := ⟨_, rfl⟩
  have zC2 : q_sz C2 = b + 96 := by rw [eC2]; exact z9
  have sC2 : ∀ x, x ≠ b → q_same A9 C2 x := fun x h2 => by rw [eC2]; exact (q_same.r A9 x).setR h2
  have rC2 : q_R C2 b 6 = some (b + 4) ∧ ∀ k, k ≠ 6 → q_R C2 b k = q_R C1 b k := by
    rw [eC2]
    exact ⟨R_set_s _ _ _ _, fun k hk => by rw [R_set (Or.inr hk), b9.2.2.1]⟩
  have shC2 : q_sh C2 b = (5, 0) := by rw [eC2]; exact b9.1.trans shC1.1
  rw [← eC2, zC2]
  refine N_stock zC2.symm fun A13 g13 => ?_
  obtain ⟨⟨n13, i13⟩, n13a, n13b, n13c, n13e⟩ := g13
  have z13 : q_sz A13 = b + 218 := by rw [n13.1, zC2]
  have b13 := n13.2 b (by omega)
  refine ⟨b13.1.trans shC2, ?_⟩
  obtain ⟨C3, eC3⟩ : ∃ C3, C3 = q_setR A13 b 7 (some (b + 96)) := ⟨_, rfl⟩
  have zC3 : q_sz C3 = b + 218 := by rw [eC3]; exact z13
  have sC3 : ∀ x, x ≠ b → q_same A13 C3 x := fun x h2 => by rw [eC3]; exact (q_same.r A13 x).setR h2
  have rC3 : q_R C3 b 7 = some (b + 96) ∧ ∀ k, k ≠ 7 → q_R C3 b k = q_R C2 b k := by
    rw [eC3]
    exact ⟨R_set_s _ _ _ _, fun k hk => by rw [R_set (Or.inr hk), b13.2.2.1]⟩
  have shC3 : q_sh C3 b = (5, 0) := by rw [eC3]; exact b13.1.trans shC2
  rw [← eC3, zC3]
  refine N_heap zC3.symm fun A17 n17 i17 o17 => ?_
  have z17 : q_sz A17 = b + 220 := by rw [n17.1, zC3]
  have b17 := n17.2 b (by omega)
  refine ⟨b17.1.trans shC3, ?_⟩
  obtain ⟨C4, eC4⟩ : ∃ C4, C4 = q_setR A17 b 8 (some (b + 218)) := ⟨_, rfl⟩
  have zC4 : q_sz C4 = b + 220 := by rw [eC4]; exact z17
  have sC4 : ∀ x, x ≠ b → q_same A17 C4 x := fun x h2 => by rw [eC4]; exact (q_same.r A17 x).setR h2
  have rC4 : q_R C4 b 8 = some (b + 218) ∧ ∀ k, k ≠ 8 → q_R C4 b k = q_R C3 b k := by
    rw [eC4]
    exact ⟨R_set_s _ _ _ _, fun k hk => by rw [R_set (Or.inr hk), b17.2.2.1]⟩
  have shC4 : q_sh C4 b = (5, 0) := by rw [eC4]; exact b17.1.trans shC3
  rw [← eC4, zC4]
  have sh21 : q_sh (q_new C4 9 0) b = (5, 0) := (sh_new_n (by omega)).trans shC4
  refine f_X8_init ⟨sh21, fun A24 e24 => ?_⟩
  have z24 : q_sz A24 = b + 221 := by rw [e24]; show q_sz C4 + 1 = _; omega
  have s24 : ∀ x, x < b + 220 → x ≠ b → q_same C4 A24 x := fun x h1 h2 => by rw [e24]; exact ((q_same.r C4 x).new (by omega)).setR h2
  have sh24 : q_sh A24 b = (5, 0) ∧ q_sh A24 (b + 220) = (9, 0) := by
    rw [e24]
    exact ⟨sh21, by rw [← zC4]; exact sh_new_s C4 9 0⟩
  have r24 : q_R A24 b 9 = some (b + 220) ∧ ∀ k, k ≠ 9 → q_R A24 b k = q_R C4 b k := by
    rw [e24]
    exact ⟨R_set_s _ _ _ _, fun k hk => by rw [R_set (Or.inr hk), q_R_new, q_rw_a _ _ _ (by omega)]⟩
  rw [z24]
  refine N_heap z24.symm fun A26 n26 i26 o26 => ?_
  have z26 : q_sz A26 = b + 223 := by rw [n26.1, z24]
  have b26 := n26.2 b (by omega)
  refine ⟨b26.1.trans sh24.1, ?_⟩
  obtain ⟨C5, eC5⟩ : ∃ C5, C5 = q_setR A26 b 10 (some (b + 221)) := ⟨_, rfl⟩
  have zC5 : q_sz C5 = b + 223 := by rw [eC5]; exact z26
  have sC5 : ∀ x, x ≠ b → q_same A26 C5 x := fun x h2 => by rw [eC5]; exact (q_same.r A26 x).setR h2
  have rC5 : q_R C5 b 10 = some (b + 221) ∧ ∀ k, k ≠ 10 → q_R C5 b k = q_R A24 b k := by
    rw [eC5]
    exact ⟨R_set_s _ _ _ _, fun k hk => by rw [R_set (Or.inr hk), b26.2.2.1]⟩
  have shC5 : q_sh C5 b = (5, 0) := by rw [eC5]; exact b26.1.trans sh24.1
  rw [← eC5, zC5]
  refine N_heap zC5.symm fun A30 n30 i30 o30 => ?_
  have z30 : q_sz A30 = b + 225 := by rw [n30.1, zC5]
  have b30 := n30.2 b (by omega)
  refine ⟨b30.1.trans shC5, ?_⟩
  obtain ⟨F, eF⟩ : ∃ F, F = q_setR A30 b 11 (some (b + 223)) := ⟨_, rfl⟩
  have sF : ∀ x, x ≠ b → q_same A30 F x := fun x h2 => by rw [eF]; exact (q_same.r A30 x).setR h2
  have rF : q_R F b 11 = some (b + 223) ∧ ∀ k, k ≠ 11 → q_R F b k = q_R C5 b k := by
    rw [eF]
    exact ⟨R_set_s _ _ _ _, fun k hk => by rw [R_set (Or.inr hk), b30.2.2.1]⟩
  have shF : q_sh F b = (5, 0) := by rw [eF]; exact b30.1.trans shC5
  have zF : q_sz F = b + 225 := by rw [eF]; exact z30
  rw [← eF]
  have lt1 : ∀ {z k : Nat}, z = b + k → 1 < k → b + 1 < z := fun h hk => h ▸ Nat.add_lt_add_left hk b
  have nb : b ≠ b + 1 := Nat.ne_of_lt (Nat.lt_succ_self b)
  have j1 : gJ E1 b := by
    have e1 : q_I E1 (b + 1) = fun j => (q_sval 2).getD j 0 := by rw [eE1, ← z1, I_row_s]
    refine ⟨fun x h1 h2 h3 k => ?_, fun k _ => by rw [e1]⟩
    rw [z2] at h2
    rw [xb_ h1 h2 h3, eE1, I_row (by rw [z1]; exact nb), q_I_new, q_rw_a _ _ _ (by rw [z1]; exact nb), eE, eb, q_I_new, q_rw_s]
    rfl
  have j5 : gJ A5 b := by
    rw [e5]
    exact (gJ.new (A := q_setR E1 b 1 (some (q_sz E))) j1.sr (lt1 z3 (by decide)) 66 8).sr
  have jC1 : gJ C1 b := by
    rw [eC1]
    exact (j5.new (lt1 z5 (by decide)) 61 4).sr
  have j9 : gJ A9 b := jC1.t (lt1 zC1 (by decide)) n9 i9
  have jC2 : gJ C2 b := by rw [eC2]; exact j9.sr
  have j13 : gJ A13 b := jC2.t (lt1 zC2 (by decide)) n13 i13
  have jC3 : gJ C3 b := by rw [eC3]; exact j13.sr
  have j17 : gJ A17 b := jC3.t (lt1 zC3 (by decide)) n17 i17
  have jC4 : gJ C4 b := by rw [eC4]; exact j17.sr
  have j24 : gJ A24 b := by
    rw [e24]
    exact (jC4.new (lt1 zC4 (by decide)) 9 0).sr
  have j26 : gJ A26 b := j24.t (lt1 z24 (by decide)) n26 i26
  have jC5 : gJ C5 b := by rw [eC5]; exact j26.sr
  have j30 : gJ A30 b := jC5.t (lt1 zC5 (by decide)) n30 i30
  have jF : gJ F b := by rw [eF]; exact j30.sr
  have up : ∀ {x u v : Nat}, x < b + u → u ≤ v → x < b + v := fun h1 h2 => Nat.lt_of_lt_of_le h1 (Nat.add_le_add_left h2 b)
  have t26 : ∀ x, x < b + 223 → x ≠ b → q_same A26 F x := fun x h1 h2 => ((sC5 x h2).t (n30.2 x (Nat.lt_of_lt_of_eq h1 zC5.symm))).t (sF x h2)
  have t24 : ∀ x, x < b + 221 → x ≠ b → q_same A24 F x := fun x h1 h2 => (n26.2 x (Nat.lt_of_lt_of_eq h1 z24.symm)).t (t26 x (up h1 (by decide)) h2)
  have t17 : ∀ x, x < b + 220 → x ≠ b → q_same A17 F x := fun x h1 h2 => ((sC4 x h2).t (s24 x h1 h2)).t (t24 x (up h1 (by decide)) h2)
  have t13 : ∀ x, x < b + 218 → x ≠ b → q_same A13 F x := fun x h1 h2 => ((sC3 x h2).t (n17.2 x (Nat.lt_of_lt_of_eq h1 zC3.symm))).t (t17 x (up h1 (by decide)) h2)
  have t9 : ∀ x, x < b + 96 → x ≠ b → q_same A9 F x := fun x h1 h2 => ((sC2 x h2).t (n13.2 x (Nat.lt_of_lt_of_eq h1 zC2.symm))).t (t13 x (up h1 (by decide)) h2)
  have tC1 : ∀ x, x < b + 4 → x ≠ b → q_same C1 F x := fun x h1 h2 => (n9.2 x (Nat.lt_of_lt_of_eq h1 zC1.symm)).t (t9 x (up h1 (by decide)) h2)
  have t5 : ∀ x, x < b + 3 → x ≠ b → q_same A5 F x := fun x h1 h2 => (sC1 x h1 h2).t (tC1 x (up h1 (by decide)) h2)
  exact w_NlS eb k 8 0 F (by omega) (Nl_fin eb zF s5 sh5 r5 shC1 rC1 n9a n9b n9c n9d n9e rC2 n13a n13b n13c n13e rC3 o17 rC4 sh24 r24 o26 rC5 o30 sF rF shF t26 t24 t17 t13 t9 tC1 t5 jF)
/-- what a new line is: shapes, the ring's first 0 -/
theorem Nl.g {A : q_H} {b : Nat} (h : Nl B A b 8 4) : gN B A 277 ∧ Lw (l_new b) ∧ Ls A (l_new b) ∧ q_I A (b + 4) 1 = nI 0 := ⟨h.1, Lw_new b, ⟨h.2.1, h.2.2.1⟩, h.2.2.2.1⟩
end NL2

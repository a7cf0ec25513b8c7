/-! CONSTRUCTORS -/
def gN (B A : q_H) (n : Nat) : Prop := q_sz A = q_sz B + n ∧ ∀ x, x < q_sz B → q_same B A x
theorem gN.t {B A C : q_H} {n m : Nat} (h : gN B A n) (k : gN A C m) : gN B C (n + m) := ⟨by rw [k.1, h.1]; omega, fun x hx => (h.2 x hx).t (k.2 x (by rw [h.1]; omega))⟩
theorem gN.new (B : q_H) (c n : Nat) : gN B (q_new B c n) 1 := ⟨rfl, fun x hx => (q_same.r B x).new (by omega)⟩
/-- all numbers of what has been made are 0 -/
def gI (B A : q_H) : Prop := ∀ x, q_sz B ≤ x → x < q_sz A → ∀ k, q_I A x k = nI 0
theorem gI.r (B : q_H) : gI B B := fun x h1 h2 => by omega
theorem gI.new {B A : q_H} (h : gI B A) (c n : Nat) : gI B (q_new A c n) := fun x h1 h2 k => by
  have z : q_sz (q_new A c n) = q_sz A + 1 := rfl
  by_cases e : x = q_sz A
  · rw [e, q_I_new, q_rw_s]; rfl
  · rw [q_I_new, q_rw_a _ _ _ e]; exact h x h1 (by omega) k
theorem gI.sr {B A : q_H} {a k : Nat} {v : Option Nat} (h : gI B A) : gI B (q_setR A a k v) := h
theorem gI.t {B A C : q_H} {n : Nat} (h : gI B A) (g : gN A C n) (i : gI A C) : gI B C := fun x h1 h2 k => by
  by_cases e : x < q_sz A
  · rw [(g.2 x e).2.1]; exact h x h1 e k
  · exact i x (by omega) h2 k
theorem sh_new_s (B : q_H) (c n : Nat) : q_sh (q_new B c n) (q_sz B) = (c, n) := by rw [q_sh_new, if_pos rfl]
theorem sh_new_n {B : q_H} {c n x : Nat} (h : x ≠ q_sz B) : q_sh (q_new B c n) x = q_sh B x := by rw [q_sh_new, if_neg h]
theorem R_set_s (A : q_H) (a k : Nat) (v : Option Nat) : q_R (q_setR A a k v) a k = v := q_u2_s _ _ _ _
theorem R_set {A : q_H} {a k b j : Nat} {v : Option Nat} (h : b ≠ a ∨ j ≠ k) : q_R (q_setR A a k v) b j = q_R A b j := u2_n _ _ h
section MK
variable {G : q_G} {X : String → q_H → Prop} {B : q_H}
theorem N_heap {f : q_H → Prop} {b : Nat} (eb : b = q_sz B) (k : ∀ A, gN B A 2 → gI B A → okH A b → f A) : q_Wc G M_X2_init [.ref b] (q_new B 3 0) (q_KV f) X := by
  subst eb
  have z1 : q_sz (q_new B 3 0) = q_sz B + 1 := rfl
  have hsh : q_sh (q_new (q_new B 3 0) 50 6) (q_sz B) = (3, 0) := by rw [sh_new_n (by omega), sh_new_s]
  refine f_X2_init ⟨hsh, k _ ⟨rfl, fun x hx => (((q_same.r B x).new (by omega)).new (by omega)).setR (by omega)⟩ (((gI.r B).new 3 0).new 50 6) ⟨hsh, ?_, ?_⟩⟩
  · rw [R_set_s, z1]
  · exact sh_new_s (q_new B 3 0) 50 6
theorem N_parcel {f : q_H → Prop} {b : Nat} (eb : b = q_sz B) (k : ∀ A, gN B A 3 → gI B A → okP A b → f A) : q_Wc G M_X5_init [.ref b] (q_new B 6 0) (q_KV f) X := by
  subst eb
  refine f_X5_init (N_heap rfl fun A2 g2 i2 o2 => ?_)
  have z1 : q_sz (q_new B 6 0) = q_sz B + 1 := rfl
  have s2 := g2.2 (q_sz B) (by omega)
  have hsh : q_sh A2 (q_sz B) = (6, 0) := s2.1.trans (sh_new_s _ _ _)
  refine ⟨hsh, k _ ⟨by show q_sz A2 = _; rw [g2.1, z1], fun x hx => (((q_same.r B x).new (by omega)).t (g2.2 x (by omega))).setR (by omega)⟩ (((gI.r B).new 6 0).t g2 i2).sr ⟨hsh, ?_, ?_⟩⟩
  · rw [R_set_s, z1]
  · rw [z1] at o2
    exact o2.sm ((q_same.r _ _).setR (by omega)) ((q_same.r _ _).setR (by omega))
theorem N_bale {f : q_H → Prop} {b : Nat} (eb : b = q_sz B) (k : ∀ A, gN B A 3 → gI B A → okB A b → f A) : q_Wc G M_X0_init [.ref b] (q_new B 1 0) (q_KV f) X := by
  subst eb
  refine f_X0_init (N_heap rfl fun A2 g2 i2 o2 => ?_)
  have z1 : q_sz (q_new B 1 0) = q_sz B + 1 := rfl
  have s2 := g2.2 (q_sz B) (by omega)
  have hsh : q_sh A2 (q_sz B) = (1, 0) := s2.1.trans (sh_new_s _ _ _)
  refine ⟨hsh, k _ ⟨by show q_sz A2 = _; rw [g2.1, z1], fun x hx => (((q_same.r B x).new (by omega)).t (g2.2 x (by omega))).setR (by omega)⟩ (((gI.r B).new 1 0).t g2 i2).sr ⟨hsh, ?_, ?_⟩⟩
  · rw [R_set_s, z1]
  · rw [z1] at o2
    exact o2.sm ((q_same.r _ _).setR (by omega)) ((q_same.r _ _).setR (by omega))
theorem N_station {f : q_H → Prop} {b : Nat} (eb : b = q_sz B) (k : ∀ A, gN B A 6 → gI B A → q_sh A b = (7, 0) → q_R A b 7 = some (b + 1) → q_R A b 8 = some (b + 4) → okP A (b + 1) → okH A (b + 4) → f A) : q_Wc G M_X6_init [.ref b] (q_new B 7 0) (q_KV f) X := by
  subst eb
  have z1 : q_sz (q_new B 7 0) = q_sz B + 1 := rfl
  refine f_X6_init (N_parcel rfl fun A2 g2 i2 o2 => ?_)
  rw [z1] at o2
  have s2 := g2.2 (q_sz B) (by omega)
  have hsh : q_sh A2 (q_sz B) = (7, 0) := s2.1.trans (sh_new_s _ _ _)
  refine ⟨hsh, N_heap rfl fun A6 g6 i6 o6 => ?_⟩
  have z2 : q_sz (q_setR A2 (q_sz B) 7 (some (q_sz (q_new B 7 0)))) = q_sz B + 4 := by show q_sz A2 = _; rw [g2.1, z1]
  have s6' := g6.2 (q_sz B) (by omega)
  have hsh6 : q_sh A6 (q_sz B) = (7, 0) := s6'.1.trans hsh
  have sm : ∀ y, y < q_sz B + 4 → y ≠ q_sz B → q_same A2 (q_setR A6 (q_sz B) 8 (some (q_sz B + 4))) y := fun y h1 h2 => ((((q_same.r A2 y).setR h2).t (g6.2 y (by omega)))).setR h2
  rw [z2] at o6 ⊢
  have i60 : gI B A6 := gI.t (A := q_setR A2 (q_sz B) 7 (some (q_sz (q_new B 7 0)))) (((gI.r B).new 7 0).t g2 i2).sr g6 i6
  refine ⟨hsh6, k _ ⟨by show q_sz A6 = _; rw [g6.1, z2], fun x hx => ?_⟩ i60.sr hsh6 ?_ (R_set_s _ _ _ _) ?_ ?_⟩
  · exact ((((q_same.r B x).new (by omega)).t (g2.2 x (by omega)))).t (sm x (by omega) (by omega))
  · rw [R_set (Or.inr (by decide)), s6'.2.2.1, R_set_s, z1]
  · exact o2.sm (sm _ (by omega) (by omega)) (sm _ (by omega) (by omega)) (sm _ (by omega) (by omega))
  · exact o6.sm ((q_same.r _ _).setR (by omega)) ((q_same.r _ _).setR (by omega))
def Nh (B A : q_H) (b i : Nat) : Prop := (gN B A (2 + 3 * i) ∧ gI B A) ∧ q_sh A b = (4, 0) ∧ q_R A b 0 = some (b + 1) ∧ q_sh A (b + 1) = (65, 30) ∧ q_I A b 1 = nI 0 ∧ ∀ j, j < i → q_R A (b + 1) j = some (b + 2 + 3 * j) ∧ okP A (b + 2 + 3 * j)
theorem w_Nh {f : q_H → Prop} {b : Nat} (eb : b = q_sz B) (k : ∀ A, Nh B A b 30 → f A) : ∀ (d i : Nat) (A : q_H), i + d = 30 → Nh B A b i → q_Wp G M_X3_init (q_KV f) X (1 + 3 * i) (30 + 10 * i) 15 [some (.ref b), some (.int (nI i))] [] A
  | 0, i, A, e, h => by
    have ei : i = 30 := by omega
    subst ei
    exact f_X3_init_15 ⟨h.2.1, _, h.2.2.1, 30, h.2.2.2.1, by decide, fun _ => ⟨⟨by decide, by decide⟩, k A h⟩, fun c => absurd (nI_le (Nat.le_refl _) (by decide)) c⟩
  | d + 1, i, A, e, h => by
    obtain ⟨⟨h1, h0⟩, h2, h3, h4, h5, h6⟩ := h
    have zA : q_sz A = b + 2 + 3 * i := by rw [h1.1, eb]; omega
    refine f_X3_init_15 ⟨h2, _, h3, 30, h4, by decide, fun c => absurd c (nI_ge (by omega) (by decide)), fun _ => ⟨⟨by omega, by omega⟩, ⟨by omega, by omega⟩, N_parcel rfl fun A2 g2 i2 o2 => ?_⟩⟩
    have sm : ∀ y, y < b + 2 + 3 * i → y ≠ b + 1 → q_same A (q_setR A2 (b + 1) i (some (q_sz A))) y := fun y a1 a2 => (g2.2 y (by omega)).setR a2
    have s1 := g2.2 (b + 1) (by omega)
    have s0 := g2.2 b (by omega)
    refine ⟨30, s1.1.trans h4, by decide, i, rfl, by omega, o2.1, ?_⟩
    have ec : 1 + 3 * i + 1 + 2 = 1 + 3 * (i + 1) := by omega
    have en : 30 + 10 * i + 2 + 8 = 30 + 10 * (i + 1) := by omega
    rw [nI_add, ec, en]
    refine w_Nh eb k d (i + 1) _ (by omega) ⟨⟨⟨by show q_sz A2 = _; rw [g2.1, zA, eb]; omega, fun x hx => (h1.2 x hx).t (sm x (by omega) (by omega))⟩, (h0.t g2 i2).sr⟩, s0.1.trans h2, ?_, s1.1.trans h4, ?_, fun j hj => ?_⟩
    · rw [R_set (Or.inl (by omega)), s0.2.2.1]; exact h3
    · show q_I A2 b 1 = _
      rw [s0.2.1]; exact h5
    · by_cases c : j = i
      · subst c
        rw [R_set_s, zA]
        refine ⟨rfl, ?_⟩
        rw [zA] at o2
        exact o2.sm ((q_same.r _ _).setR (by omega)) ((q_same.r _ _).setR (by omega)) ((q_same.r _ _).setR (by omega))
      · rw [R_set (Or.inr c), s1.2.2.1]
        have a := h6 j (by omega)
        exact ⟨a.1, a.2.sm (sm _ (by omega) (by omega)) (sm _ (by omega) (by omega)) (sm _ (by omega) (by omega))⟩
theorem N_hopper {f : q_H → Prop} {b : Nat} (eb : b = q_sz B) (k : ∀ A, Nh B A b 30 → f A) : q_Wc G M_X3_init [.ref b] (q_new B 4 0) (q_KV f) X := by
  subst eb
  have z1 : q_sz (q_new B 4 0) = q_sz B + 1 := rfl
  have hsh : q_sh (q_new (q_new B 4 0) 65 30) (q_sz B) = (4, 0) := by rw [sh_new_n (by omega), sh_new_s]
  refine f_X3_init ⟨hsh, w_Nh rfl k 30 0 _ (by omega) ⟨⟨⟨rfl, fun x hx => (((q_same.r B x).new (by omega)).new (by omega)).setR (by omega)⟩, ((gI.r B).new 4 0).new 65 30⟩, hsh, ?_, sh_new_s (q_new B 4 0) 65 30, ?_, fun j hj => absurd hj (Nat.not_lt_zero _)⟩⟩
  · rw [R_set_s, z1]
  · show q_I (q_new (q_new B 4 0) 65 30) (q_sz B) 1 = _
    rw [q_I_new, q_rw_a _ _ _ (by omega), q_I_new, q_rw_s]
    rfl
def Nk (B A : q_H) (b i : Nat) : Prop := (gN B A (2 + 3 * i) ∧ gI B A) ∧ q_sh A b = (8, 0) ∧ q_R A b 0 = some (b + 1) ∧ q_sh A (b + 1) = (60, 40) ∧ ∀ j, j < i → q_R A (b + 1) j = some (b + 2 + 3 * j) ∧ okB A (b + 2 + 3 * j)
theorem w_Nk {f : q_H → Prop} {b : Nat} (eb : b = q_sz B) (k : ∀ A, Nk B A b 40 → f A) : ∀ (d i : Nat) (A : q_H), i + d = 40 → Nk B A b i → q_Wp G M_X7_init (q_KV f) X (1 + 3 * i) (40 + 13 * i) 15 [some (.ref b), some (.int (nI i))] [] A
  | 0, i, A, e, h => by
    have ei : i = 40 := by omega
    subst ei
    exact f_X7_init_15 ⟨h.2.1, _, h.2.2.1, 40, h.2.2.2.1, by decide, fun _ => ⟨⟨by decide, by decide⟩, k A h⟩, fun c => absurd (nI_le (Nat.le_refl _) (by decide)) c⟩
  | d + 1, i, A, e, h => by
    obtain ⟨⟨h1, h0⟩, h2, h3, h4, h6⟩ := h
    have zA : q_sz A = b + 2 + 3 * i := by rw [h1.1, eb]; omega
    refine f_X7_init_15 ⟨h2, _, h3, 40, h4, by decide, fun c => absurd c (nI_ge (by omega) (by decide)), fun _ => ⟨⟨by omega, by omega⟩, ⟨by omega, by omega⟩, N_bale rfl fun A2 g2 i2 o2 => ?_⟩⟩
    have sm : ∀ y, y < b + 2 + 3 * i → y ≠ b + 1 → q_same A (q_setR A2 (b + 1) i (some (q_sz A))) y := fun y a1 a2 => (g2.2 y (by omega)).setR a2
    have s1 := g2.2 (b + 1) (by omega)
    have s0 := g2.2 b (by omega)
    refine ⟨40, s1.1.trans h4, by decide, i, rfl, by omega, o2.1, ?_⟩
    have ec : 1 + 3 * i + 1 + 2 = 1 + 3 * (i + 1) := by omega
    have en : 40 + 13 * i + 5 + 8 = 40 + 13 * (i + 1) := by omega
    rw [nI_add, ec, en]
    refine w_Nk eb k d (i + 1) _ (by omega) ⟨⟨⟨by show q_sz A2 = _; rw [g2.1, zA, eb]; omega, fun x hx => (h1.2 x hx).t (sm x (by omega) (by omega))⟩, (h0.t g2 i2).sr⟩, s0.1.trans h2, ?_, s1.1.trans h4, fun j hj => ?_⟩
    · rw [R_set (Or.inl (by omega)), s0.2.2.1]; exact h3
    · by_cases c : j = i
      · subst c
        rw [R_set_s, zA]
        refine ⟨rfl, ?_⟩
        rw [zA] at o2
        exact o2.sm ((q_same.r _ _).setR (by omega)) ((q_same.r _ _).setR (by omega)) ((q_same.r _ _).setR (by omega))
      · rw [R_set (Or.inr c), s1.2.2.1]
        have a := h6 j (by omega)
        exact ⟨a.1, a.2.sm (sm _ (by omega) (by omega)) (sm _ (by omega) (by omega)) (sm _ (by omega) (by omega))⟩
theorem N_stock {f : q_H → Prop} {b : Nat} (eb : b = q_sz B) (k : ∀ A, Nk B A b 40 → f A) : q_Wc G M_X7_init [.ref b] (q_new B 8 0) (q_KV f) X := by
  subst eb
  have z1 : q_sz (q_new B 8 0) = q_sz B + 1 := rfl
  have hsh : q_sh (q_new (q_new B 8 0) 60 40) (q_sz B) = (8, 0) := by rw [sh_new_n (by omega), sh_new_s]
  refine f_X7_init ⟨hsh, w_Nk rfl k 40 0 _ (by omega) ⟨⟨⟨rfl, fun x hx => (((q_same.r B x).new (by omega)).new (by omega)).setR (by omega)⟩, ((gI.r B).new 8 0).new 60 40⟩, hsh, ?_, sh_new_s (q_new B 8 0) 60 40, fun j hj => absurd hj (Nat.not_lt_zero _)⟩⟩
  rw [R_set_s, z1]
end MK

/-! THE ABSTRACT HEAP: size; shapes (0: unknown; c + 1: an object of kind c of vwCl; 50 int row, 51 byte row, 52 long row, 53 double row, 60 + c: a row of references to kind c; with the length); ints, references, longs, doubles by address and place -/
abbrev q_H : Type := Nat × (Nat → Nat × Nat) × (Nat → Nat → Int32) × (Nat → Nat → Option Nat) × (Nat → Nat → Int64) × (Nat → Nat → UInt64)
def q_sz (A : q_H) : Nat := A.1
def q_sh (A : q_H) : Nat → Nat × Nat := A.2.1
def q_I (A : q_H) : Nat → Nat → Int32 := A.2.2.1
def q_R (A : q_H) : Nat → Nat → Option Nat := A.2.2.2.1
def q_L (A : q_H) : Nat → Nat → Int64 := A.2.2.2.2.1
def q_D (A : q_H) : Nat → Nat → UInt64 := A.2.2.2.2.2
def q_u2 {α : Type} (f : Nat → Nat → α) (a k : Nat) (v : α) : Nat → Nat → α := fun b j => if b = a ∧ j = k then v else f b j
def q_rw {α : Type} (f : Nat → Nat → α) (a : Nat) (g : Nat → α) : Nat → Nat → α := fun b j => if b = a then g j else f b j
def q_setI (A : q_H) (a k : Nat) (v : Int32) : q_H := (A.1, A.2.1, q_u2 A.2.2.1 a k v, A.2.2.2.1, A.2.2.2.2.1, A.2.2.2.2.2)
def q_setR (A : q_H) (a k : Nat) (v : Option Nat) : q_H := (A.1, A.2.1, A.2.2.1, q_u2 A.2.2.2.1 a k v, A.2.2.2.2.1, A.2.2.2.2.2)
def q_setL (A : q_H) (a k : Nat) (v : Int64) : q_H := (A.1, A.2.1, A.2.2.1, A.2.2.2.1, q_u2 A.2.2.2.2.1 a k v, A.2.2.2.2.2)
def q_setD (A : q_H) (a k : Nat) (v : UInt64) : q_H := (A.1, A.2.1, A.2.2.1, A.2.2.2.1, A.2.2.2.2.1, q_u2 A.2.2.2.2.2 a k v)
def q_rowI (A : q_H) (a : Nat) (g : Nat → Int32) : q_H := (A.1, A.2.1, q_rw A.2.2.1 a g, A.2.2.2.1, A.2.2.2.2.1, A.2.2.2.2.2)
def q_new (A : q_H) (c n : Nat) : q_H := (A.1 + 1, fun b => if b = A.1 then (c, n) else A.2.1 b, q_rw A.2.2.1 A.1 (fun _ => 0), q_rw A.2.2.2.1 A.1 (fun _ => none), q_rw A.2.2.2.2.1 A.1 (fun _ => 0), q_rw A.2.2.2.2.2 A.1 (fun _ => 0))
def q_grow (A : q_H) (z : Nat) : q_H := (z, A.2)
theorem q_sz_setI (A a k v) : q_sz (q_setI A a k v) = q_sz A := rfl
theorem q_sz_setR (A a k v) : q_sz (q_setR A a k v) = q_sz A := rfl
theorem q_sz_setL (A a k v) : q_sz (q_setL A a k v) = q_sz A := rfl
theorem q_sz_setD (A a k v) : q_sz (q_setD A a k v) = q_sz A := rfl
theorem q_sz_rowI (A a g) : q_sz (q_rowI A a g) = q_sz A := rfl
theorem q_sz_new (A c n) : q_sz (q_new A c n) = q_sz A + 1 := rfl
theorem q_sz_grow (A z) : q_sz (q_grow A z) = z := rfl
theorem q_sh_setI (A a k v) : q_sh (q_setI A a k v) = q_sh A := rfl
theorem q_sh_setR (A a k v) : q_sh (q_setR A a k v) = q_sh A := rfl
theorem q_sh_setL (A a k v) : q_sh (q_setL A a k v) = q_sh A := rfl
theorem q_sh_setD (A a k v) : q_sh (q_setD A a k v) = q_sh A := rfl
theorem q_sh_rowI (A a g) : q_sh (q_rowI A a g) = q_sh A := rfl
theorem q_sh_grow (A z) : q_sh (q_grow A z) = q_sh A := rfl
theorem q_sh_new (A c n) (b : Nat) : q_sh (q_new A c n) b = if b = q_sz A then (c, n) else q_sh A b := rfl
theorem q_I_setI (A a k v) : q_I (q_setI A a k v) = q_u2 (q_I A) a k v := rfl
theorem q_I_setR (A a k v) : q_I (q_setR A a k v) = q_I A := rfl
theorem q_I_setL (A a k v) : q_I (q_setL A a k v) = q_I A := rfl
theorem q_I_setD (A a k v) : q_I (q_setD A a k v) = q_I A := rfl
theorem q_I_rowI (A a g) : q_I (q_rowI A a g) = q_rw (q_I A) a g := rfl
theorem q_I_grow (A z) : q_I (q_grow A z) = q_I A := rfl
theorem q_I_new (A c n) : q_I (q_new A c n) = q_rw (q_I A) (q_sz A) (fun _ => 0) := rfl
theorem q_R_setI (A a k v) : q_R (q_setI A a k v) = q_R A := rfl
theorem q_R_setR (A a k v) : q_R (q_setR A a k v) = q_u2 (q_R A) a k v := rfl
theorem q_R_setL (A a k v) : q_R (q_setL A a k v) = q_R A := rfl
theorem q_R_setD (A a k v) : q_R (q_setD A a k v) = q_R A := rfl
theorem q_R_rowI (A a g) : q_R (q_rowI A a g) = q_R A := rfl
theorem q_R_grow (A z) : q_R (q_grow A z) = q_R A := rfl
theorem q_R_new (A c n) : q_R (q_new A c n) = q_rw (q_R A) (q_sz A) (fun _ => none) := rfl
theorem q_L_setI (A a k v) : q_L (q_setI A a k v) = q_L A := rfl
theorem q_L_setR (A a k v) : q_L (q_setR A a k v) = q_L A := rfl
theorem q_L_setL (A a k v) : q_L (q_setL A a k v) = q_u2 (q_L A) a k v := rfl
theorem q_L_setD (A a k v) : q_L (q_setD A a k v) = q_L A := rfl
theorem q_L_rowI (A a g) : q_L (q_rowI A a g) = q_L A := rfl
theorem q_L_grow (A z) : q_L (q_grow A z) = q_L A := rfl
theorem q_L_new (A c n) : q_L (q_new A c n) = q_rw (q_L A) (q_sz A) (fun _ => 0) := rfl
theorem q_D_setI (A a k v) : q_D (q_setI A a k v) = q_D A := rfl
theorem q_D_setR (A a k v) : q_D (q_setR A a k v) = q_D A := rfl
theorem q_D_setL (A a k v) : q_D (q_setL A a k v) = q_D A := rfl
theorem q_D_setD (A a k v) : q_D (q_setD A a k v) = q_u2 (q_D A) a k v := rfl
theorem q_D_rowI (A a g) : q_D (q_rowI A a g) = q_D A := rfl
theorem q_D_grow (A z) : q_D (q_grow A z) = q_D A := rfl
theorem q_D_new (A c n) : q_D (q_new A c n) = q_rw (q_D A) (q_sz A) (fun _ => 0) := rfl
theorem q_u2_s {α : Type} (f : Nat → Nat → α) (a k : Nat) (v : α) : q_u2 f a k v a k = v := by simp [q_u2]
theorem q_u2_a {α : Type} (f : Nat → Nat → α) (a k : Nat) (v : α) {b : Nat} (h : b ≠ a) (j : Nat) : q_u2 f a k v b j = f b j := by simp [q_u2, h]
theorem q_u2_k {α : Type} (f : Nat → Nat → α) (a k : Nat) (v : α) (b : Nat) {j : Nat} (h : j ≠ k) : q_u2 f a k v b j = f b j := by simp [q_u2, h]
theorem q_u2_i {α : Type} (f : Nat → Nat → α) (a k : Nat) (v : α) (j : Nat) : q_u2 f a k v a j = if j = k then v else f a j := by simp [q_u2]
theorem q_rw_s {α : Type} (f : Nat → Nat → α) (a : Nat) (g : Nat → α) : q_rw f a g a = g := by funext j; simp [q_rw]
theorem q_rw_a {α : Type} (f : Nat → Nat → α) (a : Nat) (g : Nat → α) {b : Nat} (h : b ≠ a) : q_rw f a g b = f b := by funext j; simp [q_rw, h]
/-- which fields are references, by the kinds of vwCl -/
def q_kd : Nat → List Bool
  | 0 => [false, false, false, false, true]
  | 1 => [false, false, false, false, false, false, false]
  | 2 => [true, false]
  | 3 => [true, false, false]
  | 4 => [false, true, true, false, true, false, true, true, true, true, true, true]
  | 5 => [true, false]
  | 6 => [false, false, false, false, false, false, false, true, true]
  | 7 => [true, false]
  | 8 => [false, false, false, false, false, false, false, false, false, false]
  | 9 => [true, false, true, false, false, false, false, false]
  | 10 => [true, false, true, true, true, false, false]
  | 11 => [false, true, true, true, true, true, true, true, true, true, false, true, false, false, false, false, false, false, false, false, true, true, false]
  | _ => []
def q_fs (c : Nat) (f : Nat → Int32) (g : Nat → Option Nat) : List Value := (q_kd c).mapIdx fun k b => if b = true then va_rf (g k) else .int (f k)
theorem q_fs_len (c : Nat) (f : Nat → Int32) (g : Nat → Option Nat) : (q_fs c f g).length = (q_kd c).length := by simp [q_fs]
theorem q_fs_at {c k : Nat} {b : Bool} (h : (q_kd c)[k]? = some b) (f : Nat → Int32) (g : Nat → Option Nat) : (q_fs c f g)[k]? = some (if b = true then va_rf (g k) else .int (f k)) := by
  simp [q_fs, List.getElem?_mapIdx, h]
theorem q_fs_lt {c k : Nat} {b : Bool} (h : (q_kd c)[k]? = some b) (f : Nat → Int32) (g : Nat → Option Nat) : k < (q_fs c f g).length := by
  rw [q_fs_len]; exact (List.getElem?_eq_some_iff.mp h).1
theorem q_fs_setI {c k : Nat} (h : (q_kd c)[k]? = some false) (f : Nat → Int32) (g : Nat → Option Nat) (v : Int32) : q_fs c (fun j => if j = k then v else f j) g = (q_fs c f g).set k (.int v) := by
  have hl := q_fs_lt h f g
  apply List.ext_getElem?
  intro i
  by_cases hi : i = k
  · subst hi
    rw [List.getElem?_set_self hl, q_fs_at h]
    simp
  · rw [List.getElem?_set_ne (Ne.symm hi)]
    simp [q_fs, List.getElem?_mapIdx, hi]
theorem q_fs_setR {c k : Nat} (h : (q_kd c)[k]? = some true) (f : Nat → Int32) (g : Nat → Option Nat) (v : Option Nat) : q_fs c f (fun j => if j = k then v else g j) = (q_fs c f g).set k (va_rf v) := by
  have hl := q_fs_lt h f g
  apply List.ext_getElem?
  intro i
  by_cases hi : i = k
  · subst hi
    rw [List.getElem?_set_self hl, q_fs_at h]
    simp
  · rw [List.getElem?_set_ne (Ne.symm hi)]
    simp [q_fs, List.getElem?_mapIdx, hi]
/-! what is fixed in one run: the launch, the tables' numbers, the array kinds' numbers, the first new address, the static rows' addresses, the texts', the script -/
abbrev q_G : Type := Launch × va_G × (Nat → ClassId) × Nat × (Nat → Nat) × (Nat → Nat) × (Nat → Nat) × Nat × Nat × (Nat → Int32)
def q_l (G : q_G) : Launch := G.1
def q_Dg (G : q_G) : va_G := G.2.1
def q_tA (G : q_G) : Nat → ClassId := G.2.2.1
def q_bs (G : q_G) : Nat := G.2.2.2.1
def q_st (G : q_G) : Nat → Nat := G.2.2.2.2.1
def q_aK (G : q_G) : Nat → Nat := G.2.2.2.2.2.1
def q_aV (G : q_G) : Nat → Nat := G.2.2.2.2.2.2.1
def q_sb (G : q_G) : Nat := G.2.2.2.2.2.2.2.1
def q_sL (G : q_G) : Nat := G.2.2.2.2.2.2.2.2.1
def q_xs (G : q_G) : Nat → Int32 := G.2.2.2.2.2.2.2.2.2
def q_tys (G : q_G) : List (ClassId × FieldType) := [(q_tA G 50, .int), (q_tA G 51, .byte), (q_tA G 52, .long), (q_tA G 53, .double), (q_tA G 60, .object RX0), (q_tA G 61, .object RX1), (q_tA G 64, .object RX4), (q_tA G 65, .object RX5), (q_tA G 66, .object RX6)]
def q_F (G : q_G) : Nat → Prop := fun q => q_bs G ≤ q
def q_ent (G : q_G) (A : q_H) (a : Nat) : Option va_E :=
  if (q_sh A a).1 = 0 then none
  else if (q_sh A a).1 < 50 then some (.inr ((q_sh A a).1 - 1, q_fs ((q_sh A a).1 - 1) (q_I A a) (q_R A a)))
  else if (q_sh A a).1 < 52 then some (.inl (q_tA G (q_sh A a).1, (q_sh A a).2, .inl (q_I A a)))
  else if (q_sh A a).1 = 52 then some (.inl (q_tA G 52, (q_sh A a).2, .inr (.inl (q_L A a))))
  else if (q_sh A a).1 = 53 then some (.inl (q_tA G 53, (q_sh A a).2, .inr (.inr (.inr (.inl (q_D A a))))))
  else some (.inl (q_tA G (q_sh A a).1, (q_sh A a).2, .inr (.inr (.inr (.inr (q_R A a))))))
theorem q_ent_o {G : q_G} {A : q_H} {a c n : Nat} (h : q_sh A a = (c + 1, n)) (hc : c < 49) : q_ent G A a = some (.inr (c, q_fs c (q_I A a) (q_R A a))) := by
  have h2 : c + 1 < 50 := by omega
  simp [q_ent, h, h2]
theorem q_ent_i {G : q_G} {A : q_H} {a n : Nat} (h : q_sh A a = (50, n)) : q_ent G A a = some (.inl (q_tA G 50, n, .inl (q_I A a))) := by simp [q_ent, h]
theorem q_ent_b {G : q_G} {A : q_H} {a n : Nat} (h : q_sh A a = (51, n)) : q_ent G A a = some (.inl (q_tA G 51, n, .inl (q_I A a))) := by simp [q_ent, h]
theorem q_ent_l {G : q_G} {A : q_H} {a n : Nat} (h : q_sh A a = (52, n)) : q_ent G A a = some (.inl (q_tA G 52, n, .inr (.inl (q_L A a)))) := by simp [q_ent, h]
theorem q_ent_d {G : q_G} {A : q_H} {a n : Nat} (h : q_sh A a = (53, n)) : q_ent G A a = some (.inl (q_tA G 53, n, .inr (.inr (.inr (.inl (q_D A a)))))) := by simp [q_ent, h]
theorem q_ent_r {G : q_G} {A : q_H} {a c n : Nat} (h : q_sh A a = (60 + c, n)) : q_ent G A a = some (.inl (q_tA G (60 + c), n, .inr (.inr (.inr (.inr (q_R A a)))))) := by
  have h1 : ¬ 60 + c < 50 := by omega
  have h2 : ¬ 60 + c < 52 := by omega
  have h3 : ¬ 60 + c = 52 := by omega
  have h4 : ¬ 60 + c = 53 := by omega
  simp [q_ent, h, h1, h2, h3, h4]
theorem q_ent_cg {G : q_G} {A A' : q_H} {a : Nat} (h : q_sh A' a = q_sh A a) (hI : q_I A' a = q_I A a) (hR : q_R A' a = q_R A a) (hL : q_L A' a = q_L A a) (hD : q_D A' a = q_D A a) : q_ent G A' a = q_ent G A a := by
  simp only [q_ent, h, hI, hR, hL, hD]
/-- the concrete heap H (in the state U) is as A says -/
def q_Rep (G : q_G) (A : q_H) (U : State) (H : Heap) : Prop := H.size = q_sz A ∧ va_K (q_Dg G) vwCl (q_tys G) U ∧ (∀ (a : Nat) (e : va_E), q_ent G A a = some e → q_bs G ≤ a ∧ va_at (q_Dg G) vwCl (a, e) H) ∧ q_bs G ≤ H.size
theorem q_Rep.moved {G : q_G} {A : q_H} {u U : State} {H : Heap} (hvm : u.vm.Alike U.vm) (h : q_Rep G A u H) : q_Rep G A U H := ⟨h.1, va_K.moved hvm h.2.1, h.2.2⟩
theorem q_Rep.lt {G : q_G} {A : q_H} {U : State} {H : Heap} (h : q_Rep G A U H) {a : Nat} {e : va_E} (he : q_ent G A a = some e) : a < H.size := (h.2.2.1 a e he).2.lt
theorem q_Rep.P {G : q_G} {A : q_H} {U : State} {H : Heap} (h : q_Rep G A U H) {a : Nat} {e : va_E} (he : q_ent G A a = some e) : va_P (q_Dg G) vwCl [(a, e)] H := by
  intro k q hk
  have hz : k < 1 := (List.getElem?_eq_some_iff.mp hk).1
  rw [show k = 0 by omega] at hk
  cases hk
  exact (h.2.2.1 a e he).2
theorem q_Rep.up {G : q_G} {A A' : q_H} {U : State} {H H' : Heap} {a : Nat} {e0 e' : va_E} (h : q_Rep G A U H) (h0 : q_ent G A a = some e0) (h1 : q_ent G A' a = some e') (hz : q_sz A' = q_sz A) (hA : ∀ b, b ≠ a → q_ent G A' b = q_ent G A b)
    (hH : H'.size = H.size) (he : va_at (q_Dg G) vwCl (a, e') H') (ho : ∀ q : Nat, q ≠ a → H'[q]? = H[q]?) : q_Rep G A' U H' := by
  refine ⟨by rw [hH, hz]; exact h.1, h.2.1, fun b e hb => ?_, by rw [hH]; exact h.2.2.2⟩
  by_cases hba : b = a
  · subst hba
    cases h1.symm.trans hb
    exact ⟨(h.2.2.1 b _ h0).1, he⟩
  · rw [hA b hba] at hb
    exact ⟨(h.2.2.1 b e hb).1, ((h.2.2.1 b e hb).2).kept (ho b hba)⟩
theorem q_Rep.nu {G : q_G} {A : q_H} {U : State} {H H' : Heap} {c n : Nat} {e' : va_E} (h : q_Rep G A U H) (h1 : q_ent G (q_new A c n) (q_sz A) = some e')
    (hH : H'.size = H.size + 1) (he : va_at (q_Dg G) vwCl (q_sz A, e') H') (ho : ∀ q : Nat, q < H.size → H'[q]? = H[q]?) : q_Rep G (q_new A c n) U H' := by
  have hb : q_bs G ≤ H.size := h.2.2.2
  refine ⟨by rw [hH, h.1, q_sz_new], h.2.1, fun b e hb2 => ?_, by rw [hH]; exact Nat.le_succ_of_le hb⟩
  by_cases hba : b = q_sz A
  · subst hba
    cases h1.symm.trans hb2
    exact ⟨by rw [← h.1]; exact hb, he⟩
  · have hx : q_ent G (q_new A c n) b = q_ent G A b := q_ent_cg (by rw [q_sh_new, if_neg hba]) (by rw [q_I_new, q_rw_a _ _ _ hba]) (by rw [q_R_new, q_rw_a _ _ _ hba]) (by rw [q_L_new, q_rw_a _ _ _ hba]) (by rw [q_D_new, q_rw_a _ _ _ hba])
    rw [hx] at hb2
    have hl := h.lt hb2
    exact ⟨(h.2.2.1 b e hb2).1, ((h.2.2.1 b e hb2).2).kept (ho b hl)⟩
theorem q_Rep.gr {G : q_G} {A : q_H} {U : State} {H H' : Heap} (h : q_Rep G A U H) (hs : H.size ≤ H'.size) (ho : ∀ q : Nat, q < H.size → H'[q]? = H[q]?) : q_Rep G (q_grow A H'.size) U H' :=
  ⟨rfl, h.2.1, fun b e hb => ⟨(h.2.2.1 b e hb).1, ((h.2.2.1 b e hb).2).kept (ho b (h.lt hb))⟩, Nat.le_trans h.2.2.2 hs⟩

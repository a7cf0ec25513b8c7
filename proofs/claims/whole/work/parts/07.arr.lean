/-! ROWS OF ARRAYS AND OF NEW CELLS -/
section QA
variable {G : q_G} {M : q_M} {K : Option Value → q_H → Prop} {X : String → q_H → Prop} {k n pc : Nat} {lo lo' : List (Option Value)} {st st' : List Value} {A : q_H}
theorem q_iald {a j z : Nat} {i : Int32} (e : i = nI j) (hd : decode (q_cc M) pc = .ok (.iaload, 1)) (hsh : q_sh A a = (50, z)) (hj : j < z) (hz : z < 2147483648) (h : q_Wp G M K X k n (pc + 1) lo (.int (q_I A a j) :: st) A) : q_Wp G M K X k n pc lo (.int i :: .ref a :: st) A := by
  intro p ee s m args below meth c C H locs ls hR hS hl
  have k2 := h p ee s m args below meth c C H locs ls hR hS hl
  subst e
  exact va_iald (D := q_Dg G) (tys := q_tys G) C.1 C.2.1 hR.2.1 (hR.P (q_ent_i hsh)) 0 0 rfl rfl (vp_in_nI hj hz) hd (by rw [nI_clamp (Nat.lt_trans hj hz)]; exact k2)
theorem q_bald {a j z : Nat} {i : Int32} (e : i = nI j) (hd : decode (q_cc M) pc = .ok (.baload, 1)) (hsh : q_sh A a = (51, z)) (hj : j < z) (hz : z < 2147483648) (h : q_Wp G M K X k n (pc + 1) lo (.int (q_I A a j) :: st) A) : q_Wp G M K X k n pc lo (.int i :: .ref a :: st) A := by
  intro p ee s m args below meth c C H locs ls hR hS hl
  have k2 := h p ee s m args below meth c C H locs ls hR hS hl
  subst e
  exact va_bald (D := q_Dg G) (tys := q_tys G) C.1 C.2.1 hR.2.1 (hR.P (q_ent_b hsh)) 0 1 rfl rfl (vp_in_nI hj hz) hd (by rw [nI_clamp (Nat.lt_trans hj hz)]; exact k2)
theorem q_lald {a j z : Nat} {i : Int32} (e : i = nI j) (hd : decode (q_cc M) pc = .ok (.laload, 1)) (hsh : q_sh A a = (52, z)) (hj : j < z) (hz : z < 2147483648) (h : q_Wp G M K X k n (pc + 1) lo (.long (q_L A a j) :: st) A) : q_Wp G M K X k n pc lo (.int i :: .ref a :: st) A := by
  intro p ee s m args below meth c C H locs ls hR hS hl
  have k2 := h p ee s m args below meth c C H locs ls hR hS hl
  subst e
  exact va_lald (D := q_Dg G) (tys := q_tys G) C.1 C.2.1 hR.2.1 (hR.P (q_ent_l hsh)) 0 2 rfl rfl (vp_in_nI hj hz) hd (by rw [nI_clamp (Nat.lt_trans hj hz)]; exact k2)
theorem q_dald {a j z : Nat} {i : Int32} (e : i = nI j) (hd : decode (q_cc M) pc = .ok (.daload, 1)) (hsh : q_sh A a = (53, z)) (hj : j < z) (hz : z < 2147483648) (h : q_Wp G M K X k n (pc + 1) lo (.double (q_D A a j) :: st) A) : q_Wp G M K X k n pc lo (.int i :: .ref a :: st) A := by
  intro p ee s m args below meth c C H locs ls hR hS hl
  have k2 := h p ee s m args below meth c C H locs ls hR hS hl
  subst e
  exact va_dald (D := q_Dg G) (tys := q_tys G) C.1 C.2.1 hR.2.1 (hR.P (q_ent_d hsh)) 0 3 rfl rfl (vp_in_nI hj hz) hd (by rw [nI_clamp (Nat.lt_trans hj hz)]; exact k2)
/-- the place in q_tys of a row of references to kind c -/
def q_tp (c : Nat) : Nat := if c = 0 then 4 else if c = 1 then 5 else if c = 4 then 6 else if c = 5 then 7 else 8
def q_Rk (G : q_G) (c : Nat) : Prop := ∃ (C : String) (T : u_T) (N : Nat), vwCl[c]? = some (C, T, N) ∧ (q_tys G)[q_tp c]? = some (q_tA G (60 + c), .object C) ∧ C ∈ q_ao
theorem q_rk0 (G : q_G) : q_Rk G 0 := ⟨_, _, _, rfl, rfl, by decide⟩
theorem q_rk1 (G : q_G) : q_Rk G 1 := ⟨_, _, _, rfl, rfl, by decide⟩
theorem q_rk4 (G : q_G) : q_Rk G 4 := ⟨_, _, _, rfl, rfl, by decide⟩
theorem q_rk5 (G : q_G) : q_Rk G 5 := ⟨_, _, _, rfl, rfl, by decide⟩
theorem q_rk6 (G : q_G) : q_Rk G 6 := ⟨_, _, _, rfl, rfl, by decide⟩
theorem q_aald {a j z cc : Nat} {i : Int32} (hc : q_Rk G cc) (e : i = nI j) (hd : decode (q_cc M) pc = .ok (.aaload, 1)) (hsh : q_sh A a = (60 + cc, z)) (hj : j < z) (hz : z < 2147483648) (h : q_Wp G M K X k n (pc + 1) lo (va_rf (q_R A a j) :: st) A) : q_Wp G M K X k n pc lo (.int i :: .ref a :: st) A := by
  intro p ee s m args below meth c C H locs ls hR hS hl
  have k2 := h p ee s m args below meth c C H locs ls hR hS hl
  subst e
  obtain ⟨Cn, T, N, h1, h2, h3⟩ := hc
  exact va_aldq (D := q_Dg G) (tys := q_tys G) C.1 C.2.1 hR.2.1 (hR.P (q_ent_r hsh)) 0 _ rfl h2 (vp_in_nI hj hz) hd (by rw [nI_clamp (Nat.lt_trans hj hz)]; exact k2)
theorem q_alen {a z t0 cc : Nat} {ty : FieldType} {x : (Nat → Int32) ⊕ (Nat → Int64) ⊕ (Nat → UInt32) ⊕ (Nat → UInt64) ⊕ (Nat → Option Nat)} (he : q_ent G A a = some (.inl (q_tA G cc, z, x))) (ht : (q_tys G)[t0]? = some (q_tA G cc, ty)) (hd : decode (q_cc M) pc = .ok (.arraylength, 1)) (h : q_Wp G M K X k n (pc + 1) lo (.int (nI z) :: st) A) : q_Wp G M K X k n pc lo (.ref a :: st) A := by
  intro p ee s m args below meth c C H locs ls hR hS hl
  have k2 := h p ee s m args below meth c C H locs ls hR hS hl
  exact va_alen (D := q_Dg G) (tys := q_tys G) C.1 C.2.1 hR.2.1 (hR.P he) 0 t0 rfl ht rfl hd k2
theorem q_alenI {a z : Nat} (hd : decode (q_cc M) pc = .ok (.arraylength, 1)) (hsh : q_sh A a = (50, z)) (h : q_Wp G M K X k n (pc + 1) lo (.int (nI z) :: st) A) : q_Wp G M K X k n pc lo (.ref a :: st) A := q_alen (t0 := 0) (cc := 50) (q_ent_i hsh) rfl hd h
theorem q_alenB {a z : Nat} (hd : decode (q_cc M) pc = .ok (.arraylength, 1)) (hsh : q_sh A a = (51, z)) (h : q_Wp G M K X k n (pc + 1) lo (.int (nI z) :: st) A) : q_Wp G M K X k n pc lo (.ref a :: st) A := q_alen (t0 := 1) (cc := 51) (q_ent_b hsh) rfl hd h
theorem q_alenR {a z cc : Nat} (hc : q_Rk G cc) (hd : decode (q_cc M) pc = .ok (.arraylength, 1)) (hsh : q_sh A a = (60 + cc, z)) (h : q_Wp G M K X k n (pc + 1) lo (.int (nI z) :: st) A) : q_Wp G M K X k n pc lo (.ref a :: st) A := by
  obtain ⟨Cn, T, N, h1, h2, h3⟩ := hc
  exact q_alen (q_ent_r hsh) h2 hd h
theorem q_updI (f : Nat → Int32) (j : Nat) (x : Int32) : updV (fun q => .int (f q)) j (.int x) = fun q => .int (if q = j then x else f q) := by
  funext q; by_cases h : q = j <;> simp [updV, h]
theorem q_inb {j z : Nat} (hj : j < z) (hz : z < 2147483648) (cA : ClassId) (f : Nat → Value) : ¬ (nI j < 0 ∨ (arrV cA z f).slots.size ≤ (nI j).toNatClampNeg) := by rw [arrV_size]; exact vp_in_nI hj hz
theorem q_iast {a j z : Nat} {i x : Int32} (e : i = nI j) (hd : decode (q_cc M) pc = .ok (.iastore, 1)) (hsh : q_sh A a = (50, z)) (hj : j < z) (hz : z < 2147483648) (h : q_Wp G M K X k n (pc + 1) lo st (q_setI A a j x)) : q_Wp G M K X k n pc lo (.int x :: .int i :: .ref a :: st) A := by
  intro p ee s m args below meth c C H locs ls hR hS hl
  have k2 := h p ee s m args below meth c C
  subst e
  have he := q_ent_i (G := G) hsh
  obtain ⟨hba, hcell⟩ := hR.2.2.1 a _ he
  have hcl : (nI j).toNatClampNeg = j := nI_clamp (Nat.lt_trans hj hz)
  refine W.iast C.1 C.2.1 (cell := arrV (q_tA G 50) z (fun q => .int (q_I A a q))) hcell ((hR.2.1.2 0 _ rfl).1 z _) (fun q => by cases q) (q_inb hj hz _ _) rfl rfl hd fun H' e1 e2 e3 => ?_
  rw [hcl, arrV_store, q_updI] at e1
  refine k2 H' _ ls (hR.up he (q_ent_i (A := q_setI A a j x) hsh) rfl (fun b hb => q_ent_setI hb) e2 ?_ e3) (hS.put e2 e3 hba) hl
  show H'[a]? = some (vp_cell _ _)
  rw [e1, q_I_setI, q_setI_row]
  rfl
theorem q_bast {a j z : Nat} {i x : Int32} (e : i = nI j) (hd : decode (q_cc M) pc = .ok (.bastore, 1)) (hsh : q_sh A a = (51, z)) (hj : j < z) (hz : z < 2147483648) (h : q_Wp G M K X k n (pc + 1) lo st (q_setI A a j x.toInt8.toInt32)) : q_Wp G M K X k n pc lo (.int x :: .int i :: .ref a :: st) A := by
  intro p ee s m args below meth c C H locs ls hR hS hl
  have k2 := h p ee s m args below meth c C
  subst e
  have he := q_ent_b (G := G) hsh
  obtain ⟨hba, hcell⟩ := hR.2.2.1 a _ he
  have hcl : (nI j).toNatClampNeg = j := nI_clamp (Nat.lt_trans hj hz)
  refine W.bast C.1 C.2.1 (cell := arrV (q_tA G 51) z (fun q => .int (q_I A a q))) hcell ((hR.2.1.2 1 _ rfl).1 z _) (fun q => by cases q) (q_inb hj hz _ _) rfl rfl hd fun H' e1 e2 e3 => ?_
  rw [hcl, narrow_byte, arrV_store, q_updI] at e1
  refine k2 H' _ ls (hR.up he (q_ent_b (A := q_setI A a j x.toInt8.toInt32) hsh) rfl (fun b hb => q_ent_setI hb) e2 ?_ e3) (hS.put e2 e3 hba) hl
  show H'[a]? = some (vp_cell _ _)
  rw [e1, q_I_setI, q_setI_row]
  rfl
theorem q_updL (f : Nat → Int64) (j : Nat) (x : Int64) : updV (fun q => .long (f q)) j (.long x) = fun q => .long (if q = j then x else f q) := by
  funext q; by_cases h : q = j <;> simp [updV, h]
theorem q_last {a j z : Nat} {i : Int32} {x : Int64} (e : i = nI j) (hd : decode (q_cc M) pc = .ok (.lastore, 1)) (hsh : q_sh A a = (52, z)) (hj : j < z) (hz : z < 2147483648) (h : q_Wp G M K X k n (pc + 1) lo st (q_setL A a j x)) : q_Wp G M K X k n pc lo (.long x :: .int i :: .ref a :: st) A := by
  intro p ee s m args below meth c C H locs ls hR hS hl
  have k2 := h p ee s m args below meth c C
  subst e
  have he := q_ent_l (G := G) hsh
  obtain ⟨hba, hcell⟩ := hR.2.2.1 a _ he
  have hcl : (nI j).toNatClampNeg = j := nI_clamp (Nat.lt_trans hj hz)
  refine W.last C.1 C.2.1 (cell := arrV (q_tA G 52) z (fun q => .long (q_L A a q))) hcell ((hR.2.1.2 2 _ rfl).1 z _) (fun q => by cases q) (q_inb hj hz _ _) rfl rfl hd fun H' e1 e2 e3 => ?_
  rw [hcl, arrV_store, q_updL] at e1
  refine k2 H' _ ls (hR.up he (q_ent_l (A := q_setL A a j x) hsh) rfl (fun b hb => q_ent_setL hb) e2 ?_ e3) (hS.put e2 e3 hba) hl
  show H'[a]? = some (vp_cell _ _)
  rw [e1, q_L_setL, show q_u2 (q_L A) a j x a = fun q => if q = j then x else q_L A a q by funext q; simp [q_u2]]
  rfl
theorem q_updD (f : Nat → UInt64) (j : Nat) (x : UInt64) : updV (fun q => .double (f q)) j (.double x) = fun q => .double (if q = j then x else f q) := by
  funext q; by_cases h : q = j <;> simp [updV, h]
theorem q_dast {a j z : Nat} {i : Int32} {x : UInt64} (e : i = nI j) (hd : decode (q_cc M) pc = .ok (.dastore, 1)) (hsh : q_sh A a = (53, z)) (hj : j < z) (hz : z < 2147483648) (h : q_Wp G M K X k n (pc + 1) lo st (q_setD A a j x)) : q_Wp G M K X k n pc lo (.double x :: .int i :: .ref a :: st) A := by
  intro p ee s m args below meth c C H locs ls hR hS hl
  have k2 := h p ee s m args below meth c C
  subst e
  have he := q_ent_d (G := G) hsh
  obtain ⟨hba, hcell⟩ := hR.2.2.1 a _ he
  have hcl : (nI j).toNatClampNeg = j := nI_clamp (Nat.lt_trans hj hz)
  refine W.dast C.1 C.2.1 (cell := arrV (q_tA G 53) z (fun q => .double (q_D A a q))) hcell ((hR.2.1.2 3 _ rfl).1 z _) (fun q => by cases q) (q_inb hj hz _ _) rfl rfl hd fun H' e1 e2 e3 => ?_
  rw [hcl, arrV_store, q_updD] at e1
  refine k2 H' _ ls (hR.up he (q_ent_d (A := q_setD A a j x) hsh) rfl (fun b hb => q_ent_setD hb) e2 ?_ e3) (hS.put e2 e3 hba) hl
  show H'[a]? = some (vp_cell _ _)
  rw [e1, q_D_setD, show q_u2 (q_D A) a j x a = fun q => if q = j then x else q_D A a q by funext q; simp [q_u2]]
  rfl
theorem q_updR (f : Nat → Option Nat) (j : Nat) (x : Option Nat) : updV (fun q => va_rf (f q)) j (va_rf x) = fun q => va_rf (if q = j then x else f q) := by
  funext q; by_cases h : q = j <;> simp [updV, h]
/-- a reference to an object of the row's own kind, or null, into a row -/
theorem q_aast {a j z cc : Nat} {i : Int32} {r : Option Nat} (hc : q_Rk G cc) (hc49 : cc < 49) (e : i = nI j) (hd : decode (q_cc M) pc = .ok (.aastore, 1)) (hsh : q_sh A a = (60 + cc, z)) (hj : j < z) (hz : z < 2147483648) (hr : ∀ x, r = some x → q_sh A x = (cc + 1, 0)) (h : q_Wp G M K X k n (pc + 1) lo st (q_setR A a j r)) : q_Wp G M K X k n pc lo (va_rf r :: .int i :: .ref a :: st) A := by
  intro p ee s m args below meth c C H locs ls hR hS hl
  have k2 := h p ee s m args below meth c C
  subst e
  obtain ⟨Cn, T, N, h1, h2, h3⟩ := hc
  have he := q_ent_r (G := G) hsh
  obtain ⟨hba, hcell⟩ := hR.2.2.1 a _ he
  have hcl : (nI j).toNatClampNeg = j := nI_clamp (Nat.lt_trans hj hz)
  have fin2 : ∀ H' : Heap, H'[a]? = some ((arrV (q_tA G (60 + cc)) z (fun q => va_rf (q_R A a q))).setSlot (nI j).toNatClampNeg (va_rf r)) → H'.size = H.size → (∀ q : Nat, q ≠ a → H'[q]? = H[q]?) → W p (q_l G) ee (q_rm M) s m args below meth c H' (locs ++ [⟨a, (nI j).toNatClampNeg⟩]) k n (vx_MQ below (q_Q G K) (q_XC G X) args s (q_rm M).cells (q_rm M).slots (q_F G)) (F0 m (pc + 1) ls st) := by
    intro H' e1 e2 e3
    rw [hcl, arrV_store, q_updR] at e1
    refine k2 H' _ ls (hR.up he (q_ent_r (A := q_setR A a j r) hsh) rfl (fun b hb => q_ent_setR hb) e2 ?_ e3) (hS.put e2 e3 hba) hl
    show H'[a]? = some (vp_cell _ _)
    rw [e1, vp_cell_q, q_R_setR, q_setR_row]
  cases r with
  | none => exact va_WaastN (C := Cn) C.1 C.2.1 (cell := arrV (q_tA G (60 + cc)) z (fun q => va_rf (q_R A a q))) hcell ((hR.2.1.2 _ _ h2).1 z _) (fun q => by cases q) (q_inb hj hz _ _) rfl rfl hd fin2
  | some v =>
    have hev := q_ent_o (G := G) (hr v rfl) hc49
    obtain ⟨-, r', hr', cellV, g1, g2, g3, -⟩ := hR.2.2.1 v _ hev
    have hcls := (hR.2.1.1 cc _ h1).2
    obtain ⟨kA, comp, k1, k2', k3, -⟩ := (hR.2.1.2 _ _ h2).2
    have hcomp : comp = (q_Dg G).1 cc := Option.some.inj (k3.symm.trans hcls.1)
    subst hcomp
    obtain ⟨kC, hkC, -⟩ := hcls.2
    exact W.aast C.1 C.2.1 (cell := arrV (q_tA G (60 + cc)) z (fun q => va_rf (q_R A a q))) hcell (fun q h => by cases h) (fun h => by cases h) k1 k2' rfl hkC ⟨fun q => (vp_in_nI hj hz) (Or.inl q), by rw [arrV_size, hcl]; exact hj⟩ g1 (fun q h => by rw [g3] at h; cases h) (by rw [g2]; exact hkC) (by rw [g2]; exact va_assign hcls) rfl rfl hd fin2
/-- a new object -/
theorem q_newO {idx ci N : Nat} {Cn : String} {T : u_T} (hck : q_CK ci Cn T N) (hci : ci < 49) (hcl : Cond.classLink M.1.cls idx Cn ∈ q_UW) (hin2 : Cond.instantiable Cn N ∈ q_UW) (hini : Cond.initialized Cn ∈ q_UW) (h1 : k + 1 ≤ (q_rm M).cells) (h2 : n + N ≤ (q_rm M).slots) (hd : decode (q_cc M) pc = .ok (.new idx, 3)) (h : q_Wp G M K X (k + 1) (n + N) (pc + 3) lo (.ref (q_sz A) :: st) (q_new A (ci + 1) 0)) : q_Wp G M K X k n pc lo st A := by
  intro p ee s m args below meth c C H locs ls hR hS hl
  have k2 := h p ee s m args below meth c C
  obtain ⟨hx, hb, hr, hml, hown, hts, hlk, hnm, htb, hA, hbs⟩ := C
  obtain ⟨hc, hin, hN, hnms, ty, hty, ht1, ht2⟩ := hck
  have hKn := hR.2.1.1 ci _ hc
  refine W.newcK hx hb hown (hts _ hcl) (hts _ hin2) (hts _ hini) rfl hd h1 h2 hKn.2.1 hR.1 fun H1 kC hkC e1 z1 o1 => ?_
  have hsh : q_sh (q_new A (ci + 1) 0) (q_sz A) = (ci + 1, 0) := by rw [q_sh_new, if_pos rfl]
  have hz1 : H1.size = H.size + 1 := by rw [z1, hR.1]
  have ho : ∀ q : Nat, q < H.size → H1[q]? = H[q]? := fun q hq => o1 q (by rw [← hR.1]; exact hq)
  refine k2 H1 _ ls (hR.nu (q_ent_o hsh hci) hz1 ⟨_, hc, (u_born ty hts hin hKn hkC e1 hty).to fun j hj => ?_⟩ ho) ⟨Nat.le_trans hS.1 (by omega), fun q g1 g2 => (ho q (Nat.lt_of_lt_of_le g1 hS.1)).trans (hS.2.1 q g1 g2), hS.2.2⟩ hl
  have hjk : j < (q_kd ci).length := by rw [← hN]; exact hj
  have hg : (q_kd ci)[j]? = some (q_kd ci)[j] := List.getElem?_eq_getElem hjk
  rw [q_I_new, q_R_new, q_rw_s, q_rw_s]
  show _ = (q_fs ci _ _).getD j .null
  rw [List.getD_eq_getElem?_getD, q_fs_at hg]
  cases hb2 : (q_kd ci)[j] with
  | false =>
    rw [hb2] at hg
    rw [ht1 j hg]
    rfl
  | true =>
    rw [hb2] at hg
    rcases ht2 j hg with ⟨x, hx2⟩ | ⟨x, hx2⟩ <;> rw [hx2] <;> rfl
/-- a new row of a primitive type -/
theorem q_newP {z t0 cc : Nat} {i : Int32} {atype : ArrayType} {ty : FieldType} {x : (Nat → Int32) ⊕ (Nat → Int64) ⊕ (Nat → UInt32) ⊕ (Nat → UInt64) ⊕ (Nat → Option Nat)} (hty : newarray.typeOf atype = ty) (ht : (q_tys G)[t0]? = some (q_tA G cc, ty)) (hRA : ∀ (U : State) (cA : ClassId), va_RA U cA ty = (U.vm.findClass ("[" ++ ty.toString) = some cA)) (hwd : Cond.arrayClass ty ∈ q_UW) (e : i = nI z) (hz : z < 2147483648) (hbytes : z * componentBytes ty ≤ 536870912)
    (he : q_ent G (q_new A cc z) (q_sz A) = some (.inl (q_tA G cc, z, x))) (hcell : ∀ cA : ClassId, vp_cell cA (z, x) = arrV cA z (fun _ => defaultValue ty)) (h1 : k + 1 ≤ (q_rm M).cells) (h2 : n + z ≤ (q_rm M).slots) (hd : decode (q_cc M) pc = .ok (.newarray atype, 2)) (h : q_Wp G M K X (k + 1) (n + z) (pc + 2) lo (.ref (q_sz A) :: st) (q_new A cc z)) : q_Wp G M K X k n pc lo (.int i :: st) A := by
  intro p ee s m args below meth c C H locs ls hR hS hl
  have k2 := h p ee s m args below meth c C
  obtain ⟨hx, hb, hr, hml, hown, hts, hlk, hnm, htb, hA, hbs⟩ := C
  subst e; subst hty
  refine va_newaK hx hb (hts _ hwd) rfl hd rfl (nI_pos hz) (nI_clamp hz) hbytes h1 h2 hR.1 fun H1 cA e1 z1 o1 hAr hNm => ?_
  have hfa := (hR.2.1.2 t0 _ ht).2
  rw [hRA] at hfa
  have hcA : cA = q_tA G cc := Option.some.inj (hNm.symm.trans hfa)
  subst hcA
  have hz1 : H1.size = H.size + 1 := by rw [z1, hR.1]
  have ho : ∀ q : Nat, q < H.size → H1[q]? = H[q]? := fun q hq => o1 q (by rw [← hR.1]; exact hq)
  exact k2 H1 _ ls (hR.nu he hz1 (show H1[q_sz A]? = some (vp_cell _ _) by rw [hcell]; exact e1) ho) ⟨Nat.le_trans hS.1 (by omega), fun q g1 g2 => (ho q (Nat.lt_of_lt_of_le g1 hS.1)).trans (hS.2.1 q g1 g2), hS.2.2⟩ hl
theorem q_shn (A : q_H) (c z : Nat) : q_sh (q_new A c z) (q_sz A) = (c, z) := by rw [q_sh_new, if_pos rfl]
theorem q_newI {z : Nat} {i : Int32} (hwd : Cond.arrayClass .int ∈ q_UW) (e : i = nI z) (hz : z * 4 ≤ 536870912) (h1 : k + 1 ≤ (q_rm M).cells) (h2 : n + z ≤ (q_rm M).slots) (hd : decode (q_cc M) pc = .ok (.newarray .int, 2)) (h : q_Wp G M K X (k + 1) (n + z) (pc + 2) lo (.ref (q_sz A) :: st) (q_new A 50 z)) : q_Wp G M K X k n pc lo (.int i :: st) A :=
  q_newP (ty := .int) (atype := .int) (t0 := 0) (cc := 50) rfl rfl (fun _ _ => rfl) hwd e (by omega) hz (q_ent_i (q_shn A 50 z)) (fun cA => by rw [q_I_new, q_rw_s]; rfl) h1 h2 hd h
theorem q_newB {z : Nat} {i : Int32} (hwd : Cond.arrayClass .byte ∈ q_UW) (e : i = nI z) (hz : z * 1 ≤ 536870912) (h1 : k + 1 ≤ (q_rm M).cells) (h2 : n + z ≤ (q_rm M).slots) (hd : decode (q_cc M) pc = .ok (.newarray .byte, 2)) (h : q_Wp G M K X (k + 1) (n + z) (pc + 2) lo (.ref (q_sz A) :: st) (q_new A 51 z)) : q_Wp G M K X k n pc lo (.int i :: st) A :=
  q_newP (ty := .byte) (atype := .byte) (t0 := 1) (cc := 51) rfl rfl (fun _ _ => rfl) hwd e (by omega) hz (q_ent_b (q_shn A 51 z)) (fun cA => by rw [q_I_new, q_rw_s]; rfl) h1 h2 hd h
theorem q_newL {z : Nat} {i : Int32} (hwd : Cond.arrayClass .long ∈ q_UW) (e : i = nI z) (hz : z * 8 ≤ 536870912) (h1 : k + 1 ≤ (q_rm M).cells) (h2 : n + z ≤ (q_rm M).slots) (hd : decode (q_cc M) pc = .ok (.newarray .long, 2)) (h : q_Wp G M K X (k + 1) (n + z) (pc + 2) lo (.ref (q_sz A) :: st) (q_new A 52 z)) : q_Wp G M K X k n pc lo (.int i :: st) A :=
  q_newP (ty := .long) (atype := .long) (t0 := 2) (cc := 52) rfl rfl (fun _ _ => rfl) hwd e (by omega) hz (q_ent_l (q_shn A 52 z)) (fun cA => by rw [q_L_new, q_rw_s]; rfl) h1 h2 hd h
theorem q_newD {z : Nat} {i : Int32} (hwd : Cond.arrayClass .double ∈ q_UW) (e : i = nI z) (hz : z * 8 ≤ 536870912) (h1 : k + 1 ≤ (q_rm M).cells) (h2 : n + z ≤ (q_rm M).slots) (hd : decode (q_cc M) pc = .ok (.newarray .double, 2)) (h : q_Wp G M K X (k + 1) (n + z) (pc + 2) lo (.ref (q_sz A) :: st) (q_new A 53 z)) : q_Wp G M K X k n pc lo (.int i :: st) A :=
  q_newP (ty := .double) (atype := .double) (t0 := 3) (cc := 53) rfl rfl (fun _ _ => rfl) hwd e (by omega) hz (q_ent_d (q_shn A 53 z)) (fun cA => by rw [q_D_new, q_rw_s]; rfl) h1 h2 hd h
/-- a new row of references -/
theorem q_newR {idx z cc : Nat} {i : Int32} {Cn : String} {T : u_T} {N : Nat} (hc : vwCl[cc]? = some (Cn, T, N)) (hrk : q_Rk G cc) (hcl : Cond.classLink M.1.cls idx Cn ∈ q_UW) (e : i = nI z) (hz : z * 4 ≤ 536870912) (h1 : k + 1 ≤ (q_rm M).cells) (h2 : n + z ≤ (q_rm M).slots) (hd : decode (q_cc M) pc = .ok (.anewarray idx, 3)) (h : q_Wp G M K X (k + 1) (n + z) (pc + 3) lo (.ref (q_sz A) :: st) (q_new A (60 + cc) z)) : q_Wp G M K X k n pc lo (.int i :: st) A := by
  intro p ee s m args below meth c C H locs ls hR hS hl
  have k2 := h p ee s m args below meth c C
  obtain ⟨hx, hb, hr, hml, hown, hts, hlk, hnm, htb, hA, hbs⟩ := C
  subst e
  have hcl2 : (nI z).toNatClampNeg = z := nI_clamp (by omega)
  obtain ⟨C2, T2, N2, g1, g2, g3⟩ := hrk
  cases Option.some.inj (g1.symm.trans hc)
  refine W.anew hx hb hown (hts _ hcl) (va_AO.use (hA.2.2.1 _ g3)) rfl hd rfl (nI_pos (by omega)) (by rw [hcl2]; exact hz) h1 (by rw [hcl2]; exact h2) fun cA kA comp f1 f2 f3 f4 => ?_
  obtain ⟨kA9, comp9, k91, k92, k93, k94⟩ := (hR.2.1.2 _ _ g2).2
  have hcA : cA = q_tA G (60 + cc) := Option.some.inj (f1.symm.trans k94)
  subst hcA
  rw [hcl2]
  generalize hH1 : H.push ({ cls := q_tA G (60 + cc), slots := Array.replicate z .null, vm := .none } : Cell) = H1
  have z1 : H1.size = H.size + 1 := by rw [← hH1, Array.size_push]
  have e1 : H1[H.size]? = some (arrV (q_tA G (60 + cc)) z (fun _ => .null)) := by rw [← hH1, Array.getElem?_push_size, ← arrV_new]
  have o1 : ∀ q : Nat, q < H.size → H1[q]? = H[q]? := fun q hq => by rw [← hH1, Array.getElem?_push, if_neg (Nat.ne_of_lt hq)]
  rw [hR.1]
  refine k2 H1 _ ls (hR.nu (q_ent_r (q_shn A (60 + cc) z)) z1 ?_ o1) ⟨Nat.le_trans hS.1 (by omega), fun q g1 g2 => (o1 q (Nat.lt_of_lt_of_le g1 hS.1)).trans (hS.2.1 q g1 g2), hS.2.2⟩ hl
  show H1[q_sz A]? = some (vp_cell _ _)
  rw [vp_cell_q, q_R_new, q_rw_s, ← hR.1]
  exact e1
end QA

/-! ROWS OF THE HEAP -/
/-- a kind's class, its fields, its words -/
def q_CK (ci : Nat) (C : String) (T : u_T) (N : Nat) : Prop := vwCl[ci]? = some (C, T, N) ∧ (∀ w ∈ u_ws C T N, w ∈ q_UW) ∧ N = (q_kd ci).length ∧ (∀ a, a < N → ∀ b, b < N → a ≠ b → (T a).2.1 ≠ (T b).2.1) ∧
  ∃ ty : Nat → FieldType, (∀ k, k < N → parseFieldDescriptor (T k).2.2.1 = some (ty k)) ∧ (∀ k, (q_kd ci)[k]? = some false → ty k = .int) ∧ (∀ k, (q_kd ci)[k]? = some true → (∃ n, ty k = .object n) ∨ ∃ t, ty k = .array t)
/-- entry idx of own's pool is field k of kind ci -/
def q_FL (own : String) (idx ci k : Nat) (fin : Bool) : Prop := ∃ (C : String) (T : u_T) (N : Nat), q_CK ci C T N ∧ k < N ∧ (T k).2.2.2 = fin ∧ (Cond.fieldLink own idx (T k).1 (T k).2.1 (T k).2.2.1 ∈ q_UW ∨ ∃ host, Cond.fieldLinkNest own idx (T k).1 (T k).2.1 (T k).2.2.1 host ∈ q_NW)
/-- .. a final one of its own -/
def q_FP (own : String) (idx ci k : Nat) : Prop := ∃ (C : String) (T : u_T) (N : Nat), q_CK ci C T N ∧ k < N ∧ (T k).2.2.2 = true ∧ Cond.fieldLink own idx (T k).1 (T k).2.1 (T k).2.2.1 ∈ q_UW ∧ (T k).1 = own
section QM
variable {G : q_G} {M : q_M} {K : Option Value → q_H → Prop} {X : String → q_H → Prop} {k n pc : Nat} {lo lo' : List (Option Value)} {st st' : List Value} {A : q_H}
theorem q_getf {idx ci f a : Nat} {fin b : Bool} (hf : q_FL M.1.cls idx ci f fin) (hkd : (q_kd ci)[f]? = some b) (hci : ci < 49) (hd : decode (q_cc M) pc = .ok (.getfield idx, 3)) (hsh : q_sh A a = (ci + 1, 0)) (h : q_Wp G M K X k n (pc + 3) lo ((if b = true then va_rf (q_R A a f) else .int (q_I A a f)) :: st) A) : q_Wp G M K X k n pc lo (.ref a :: st) A := by
  intro p e s m args below meth c C H locs ls hR hS hl
  have k2 := h p e s m args below meth c C H locs ls hR hS hl
  obtain ⟨hx, hb, hr, hml, hown, hts, hlk, hnm, htb, hA, hbs⟩ := C
  obtain ⟨Cn, T, N, ⟨hc, hin, hN, hnms, ty, hty, -⟩, hk, -, hlink⟩ := hf
  have he : q_ent G A a = some (.inr (ci, q_fs ci (q_I A a) (q_R A a))) := q_ent_o hsh hci
  have hP := hR.P he
  rcases hlink with hlink | ⟨host, hlink⟩
  · exact va_get (D := q_Dg G) hx hb hts hin hown hR.2.1 hP 0 rfl hc f hk (hts _ hlink) (fun _ h9 => h9) (q_fs_at hkd _ _) hd k2
  · exact va_getN (D := q_Dg G) hx hb hts hin hown hR.2.1 hP 0 rfl hc f hk (va_Nw.use (by rfl) (hA.2.1 _ hlink)) (fun _ h9 => h9) (q_fs_at hkd _ _) hd k2
theorem q_getI {idx ci f a : Nat} {fin : Bool} (hf : q_FL M.1.cls idx ci f fin) (hkd : (q_kd ci)[f]? = some false) (hci : ci < 49) (hd : decode (q_cc M) pc = .ok (.getfield idx, 3)) (hsh : q_sh A a = (ci + 1, 0)) (h : q_Wp G M K X k n (pc + 3) lo (.int (q_I A a f) :: st) A) : q_Wp G M K X k n pc lo (.ref a :: st) A := q_getf hf hkd hci hd hsh h
theorem q_getR {idx ci f a r : Nat} {fin : Bool} (hf : q_FL M.1.cls idx ci f fin) (hkd : (q_kd ci)[f]? = some true) (hci : ci < 49) (hd : decode (q_cc M) pc = .ok (.getfield idx, 3)) (hsh : q_sh A a = (ci + 1, 0)) (hr : q_R A a f = some r) (h : q_Wp G M K X k n (pc + 3) lo (.ref r :: st) A) : q_Wp G M K X k n pc lo (.ref a :: st) A :=
  q_getf hf hkd hci hd hsh (by rw [hr]; exact h)
theorem q_getN {idx ci f a : Nat} {fin : Bool} (hf : q_FL M.1.cls idx ci f fin) (hkd : (q_kd ci)[f]? = some true) (hci : ci < 49) (hd : decode (q_cc M) pc = .ok (.getfield idx, 3)) (hsh : q_sh A a = (ci + 1, 0)) (hr : q_R A a f = none) (h : q_Wp G M K X k n (pc + 3) lo (.null :: st) A) : q_Wp G M K X k n pc lo (.ref a :: st) A :=
  q_getf hf hkd hci hd hsh (by rw [hr]; exact h)
/-- what a store into a field does -/
theorem q_putf {idx ci f a : Nat} {A' : q_H} (fin : Bool) (hf : if fin = true then q_FP M.1.cls idx ci f ∧ M.1.name = "<init>" else q_FL M.1.cls idx ci f false) (hci : ci < 49) (v : Value) (hv : ∀ ty : FieldType, ((q_kd ci)[f]? = some false → ty = .int) → ((q_kd ci)[f]? = some true → (∃ n, ty = .object n) ∨ ∃ t, ty = .array t) → narrow ty v = v ∧ fits ty v = true)
    (hd : decode (q_cc M) pc = .ok (.putfield idx, 3)) (hsh : q_sh A a = (ci + 1, 0))
    (hz : q_sz A' = q_sz A) (he' : q_ent G A' a = some (.inr (ci, (q_fs ci (q_I A a) (q_R A a)).set f v))) (hA' : ∀ b, b ≠ a → q_ent G A' b = q_ent G A b) (h : q_Wp G M K X k n (pc + 3) lo st A') : q_Wp G M K X k n pc lo (v :: .ref a :: st) A := by
  intro p e s m args below meth c C H locs ls hR hS hl
  have k2 := h p e s m args below meth c C
  obtain ⟨hx, hb, hr, hml, hown, hts, hlk, hnm, htb, hA, hbs⟩ := C
  have he : q_ent G A a = some (.inr (ci, q_fs ci (q_I A a) (q_R A a))) := q_ent_o hsh hci
  obtain ⟨hba, r, h1, cell, q1, q2, q3, q4⟩ := hR.2.2.1 a _ he
  have key : ∀ (Cn : String) (T : u_T) (N : Nat), q_CK ci Cn T N → f < N → r = (Cn, T, N) ∧ ∃ ty : Nat → FieldType, (∀ k, k < N → parseFieldDescriptor (T k).2.2.1 = some (ty k)) ∧ narrow (ty f) v = v ∧ fits (ty f) v = true ∧ f < (q_fs ci (q_I A a) (q_R A a)).length ∧ ∀ x y, x < N → y < N → x ≠ y → (q_Dg G).2 ci x ≠ (q_Dg G).2 ci y := by
    intro Cn T N ⟨hc, hin, hN, hnms, ty, hty, ht1, ht2⟩ hk
    obtain ⟨w1, w2⟩ := hv (ty f) (ht1 f) (ht2 f)
    exact ⟨Option.some.inj (h1.symm.trans hc), ty, hty, w1, w2, by rw [q_fs_len, ← hN]; exact hk, va_apart (own := M.1.cls) hts hin ty hty hnms hR.2.1 hc⟩
  cases fin with
  | false =>
    obtain ⟨Cn, T, N, hck, hk, hfin, hlink⟩ := (show q_FL M.1.cls idx ci f false from hf)
    obtain ⟨rfl, ty, hty, hn, hfit, hlen, hap⟩ := key Cn T N hck hk
    obtain ⟨hc, hin, -⟩ := hck
    obtain ⟨hSl, hfc, kC, hkC, hkind⟩ := hR.2.1.1 ci _ hc
    obtain ⟨cf, kf, fi, fd, hi, hsl⟩ := hSl f hk
    have hlay := hts _ (hin _ (u_in_lay hk))
    unfold u_lay at hlay
    rw [if_neg (by rw [hfin]; decide)] at hlay
    have hst := (u_facts hfc hkC (u_lays hts hin hk) hi).1
    have h6 := u_store hfc hkC hkind hlay hi (hty f hk) hn hfit
    have fin2 : ∀ H' : Heap, H'[a]? = some (cell.setSlot fd.slot v) → H'.size = H.size → (∀ q : Nat, q ≠ a → H'[q]? = H[q]?) → W p (q_l G) e (q_rm M) s m args below meth c H' (locs ++ [⟨a, fd.slot⟩]) k n (vx_MQ below (q_Q G K) (q_XC G X) args s (q_rm M).cells (q_rm M).slots (q_F G)) (F0 m (pc + 3) ls st) := by
      intro H' e1 e2 e3
      rw [hsl] at e1
      exact k2 H' _ ls (hR.up he he' hz hA' e2 ⟨_, hc, t_OB.to (V := updV (vp_V _) f v) ⟨_, e1, q2, q3, t_set q4 hap hk v⟩ (fun j _ => vp_updV_set hlen v j)⟩ e3) (hS.put e2 e3 hba) hl
    rcases hlink with hlink | ⟨host, hlink⟩
    · exact W.putK hx hb (f := fd) ⟨hown, hts _ hlink, ⟨_, _, _, hi⟩, hst⟩ (by rw [q2]; exact h6) q1 q3 (by rw [hsl]; exact k2_hasslot (q4 f hk)) rfl rfl hd fin2
    · exact va_WputK hx hb (f := fd) hown (va_Nw.use (by rfl) (hA.2.1 _ hlink)) hi hst (by rw [q2]; exact h6) q1 q3 (by rw [hsl]; exact k2_hasslot (q4 f hk)) rfl rfl hd fin2
  | true =>
    obtain ⟨⟨Cn, T, N, hck, hk, hfin, hlink, hdecl⟩, hini⟩ := (show q_FP M.1.cls idx ci f ∧ M.1.name = "<init>" from hf)
    obtain ⟨rfl, ty, hty, hn, hfit, hlen, hap⟩ := key Cn T N hck hk
    obtain ⟨hc, hin, -⟩ := hck
    obtain ⟨hSl, hfc, kC, hkC, hkind⟩ := hR.2.1.1 ci _ hc
    obtain ⟨cf, kf, fi, fd, hi, hsl⟩ := hSl f hk
    have hlay := hts _ (hin _ (u_in_lay hk))
    unfold u_lay at hlay
    rw [if_pos hfin] at hlay
    have hst := (u_facts hfc hkC (u_lays hts hin hk) hi).1
    have hcf : m.cls = cf := by
      obtain ⟨_, _, c', _, _, _, -, -, hf', -, -, -, hown2, -⟩ := Cond.laysFinal_spec hlay
      have e1 : c' = cf := by have := hi.symm.trans hf'; simp at this; exact this.1.symm
      rw [hdecl] at hown2
      rw [← e1]; exact Option.some.inj (hown.symm.trans hown2)
    have h6 := u_fits hfc hkC hkind (Or.inr hlay) hi (hty f hk) hn hfit
    refine W.putFinK hx hb hown (hts _ hlink) hi hst hcf (hnm.trans hini) (by rw [q2]; exact h6) q1 q3 (by rw [hsl]; exact k2_hasslot (q4 f hk)) rfl rfl hd fun H' e1 e2 e3 => ?_
    rw [hsl] at e1
    exact k2 H' _ ls (hR.up he he' hz hA' e2 ⟨_, hc, t_OB.to (V := updV (vp_V _) f v) ⟨_, e1, q2, q3, t_set q4 hap hk v⟩ (fun j _ => vp_updV_set hlen v j)⟩ e3) (hS.put e2 e3 hba) hl
theorem q_setI_row (f : Nat → Nat → Int32) (a k : Nat) (v : Int32) : q_u2 f a k v a = fun j => if j = k then v else f a j := by funext j; simp [q_u2]
theorem q_setR_row (f : Nat → Nat → Option Nat) (a k : Nat) (v : Option Nat) : q_u2 f a k v a = fun j => if j = k then v else f a j := by funext j; simp [q_u2]
theorem q_u2_row {α : Type} (f : Nat → Nat → α) (a k : Nat) (v : α) {b : Nat} (h : b ≠ a) : q_u2 f a k v b = f b := by funext j; simp [q_u2, h]
theorem q_ent_setI {a f : Nat} {v : Int32} {b : Nat} (h : b ≠ a) : q_ent G (q_setI A a f v) b = q_ent G A b := q_ent_cg rfl (by rw [q_I_setI, q_u2_row _ _ _ _ h]) rfl rfl rfl
theorem q_ent_setR {a f : Nat} {v : Option Nat} {b : Nat} (h : b ≠ a) : q_ent G (q_setR A a f v) b = q_ent G A b := q_ent_cg rfl rfl (by rw [q_R_setR, q_u2_row _ _ _ _ h]) rfl rfl
theorem q_ent_setL {a f : Nat} {v : Int64} {b : Nat} (h : b ≠ a) : q_ent G (q_setL A a f v) b = q_ent G A b := q_ent_cg rfl rfl rfl (by rw [q_L_setL, q_u2_row _ _ _ _ h]) rfl
theorem q_ent_setD {a f : Nat} {v : UInt64} {b : Nat} (h : b ≠ a) : q_ent G (q_setD A a f v) b = q_ent G A b := q_ent_cg rfl rfl rfl rfl (by rw [q_D_setD, q_u2_row _ _ _ _ h])
theorem q_ent_rowI {a : Nat} {g : Nat → Int32} {b : Nat} (h : b ≠ a) : q_ent G (q_rowI A a g) b = q_ent G A b := q_ent_cg rfl (by rw [q_I_rowI, q_rw_a _ _ _ h]) rfl rfl rfl
theorem q_fitR {ty : FieldType} (v : Option Nat) (h : (∃ n, ty = .object n) ∨ ∃ t, ty = .array t) : narrow ty (va_rf v) = va_rf v ∧ fits ty (va_rf v) = true := by
  rcases h with ⟨n, rfl⟩ | ⟨t, rfl⟩ <;> cases v <;> exact ⟨rfl, rfl⟩
theorem q_putI {idx ci f a : Nat} {x : Int32} (hf : q_FL M.1.cls idx ci f false) (hkd : (q_kd ci)[f]? = some false) (hci : ci < 49) (hd : decode (q_cc M) pc = .ok (.putfield idx, 3)) (hsh : q_sh A a = (ci + 1, 0)) (h : q_Wp G M K X k n (pc + 3) lo st (q_setI A a f x)) : q_Wp G M K X k n pc lo (.int x :: .ref a :: st) A := by
  refine q_putf (A' := q_setI A a f x) false hf hci (.int x) (fun ty h1 _ => by rw [h1 hkd]; exact ⟨rfl, rfl⟩) hd hsh rfl ?_ (fun b hb => q_ent_setI hb) h
  rw [q_ent_o (A := q_setI A a f x) hsh hci, q_I_setI, q_setI_row, q_fs_setI hkd]
  rfl
theorem q_putR {idx ci f a : Nat} {v : Option Nat} (hf : q_FL M.1.cls idx ci f false) (hkd : (q_kd ci)[f]? = some true) (hci : ci < 49) (hd : decode (q_cc M) pc = .ok (.putfield idx, 3)) (hsh : q_sh A a = (ci + 1, 0)) (h : q_Wp G M K X k n (pc + 3) lo st (q_setR A a f v)) : q_Wp G M K X k n pc lo (va_rf v :: .ref a :: st) A := by
  refine q_putf (A' := q_setR A a f v) false hf hci (va_rf v) (fun ty _ h2 => q_fitR v (h2 hkd)) hd hsh rfl ?_ (fun b hb => q_ent_setR hb) h
  rw [q_ent_o (A := q_setR A a f v) hsh hci, q_R_setR, q_setR_row, q_fs_setR hkd]
  rfl
theorem q_putP {idx ci f a : Nat} {v : Option Nat} (hf : q_FP M.1.cls idx ci f) (hni : M.1.name = "<init>") (hkd : (q_kd ci)[f]? = some true) (hci : ci < 49) (hd : decode (q_cc M) pc = .ok (.putfield idx, 3)) (hsh : q_sh A a = (ci + 1, 0)) (h : q_Wp G M K X k n (pc + 3) lo st (q_setR A a f v)) : q_Wp G M K X k n pc lo (va_rf v :: .ref a :: st) A := by
  refine q_putf (A' := q_setR A a f v) true ⟨hf, hni⟩ hci (va_rf v) (fun ty _ h2 => q_fitR v (h2 hkd)) hd hsh rfl ?_ (fun b hb => q_ent_setR hb) h
  rw [q_ent_o (A := q_setR A a f v) hsh hci, q_R_setR, q_setR_row, q_fs_setR hkd]
  rfl
theorem q_putQ {idx ci f a : Nat} {x : Int32} (hf : q_FP M.1.cls idx ci f) (hni : M.1.name = "<init>") (hkd : (q_kd ci)[f]? = some false) (hci : ci < 49) (hd : decode (q_cc M) pc = .ok (.putfield idx, 3)) (hsh : q_sh A a = (ci + 1, 0)) (h : q_Wp G M K X k n (pc + 3) lo st (q_setI A a f x)) : q_Wp G M K X k n pc lo (.int x :: .ref a :: st) A := by
  refine q_putf (A' := q_setI A a f x) true ⟨hf, hni⟩ hci (.int x) (fun ty h1 _ => by rw [h1 hkd]; exact ⟨rfl, rfl⟩) hd hsh rfl ?_ (fun b hb => q_ent_setI hb) h
  rw [q_ent_o (A := q_setI A a f x) hsh hci, q_I_setI, q_setI_row, q_fs_setI hkd]
  rfl
end QM

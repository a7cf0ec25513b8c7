/-! MORE ROWS: what comes back of a call; calls that may throw, caught; methods with handlers; clone, checkcast; a text's fields -/
section QO
variable {G : q_G} {M Mc : q_M} {K K' : Option Value → q_H → Prop} {X X' : String → q_H → Prop} {k n pc : Nat} {lo lo' : List (Option Value)} {st st' : List Value} {A : q_H}
theorem q_fV {P : Option Value → q_H → Prop} {f : q_H → Prop} (hk : ∀ A', f A' → P none A') : ∀ v A', q_KV f v A' → P v A' := fun _ A' ⟨e, h⟩ => e ▸ hk A' h
theorem q_fI {P : Option Value → q_H → Prop} {f : Int32 → q_H → Prop} (hk : ∀ r A', f r A' → P (some (.int r)) A') : ∀ v A', q_KI f v A' → P v A' := fun _ A' ⟨r, e, h⟩ => e ▸ hk r A' h
theorem q_fB {P : Option Value → q_H → Prop} {f : Bool → q_H → Prop} (hk : ∀ r A', f r A' → P (some (.int (q_i r))) A') : ∀ v A', q_KB f v A' → P v A' := fun _ A' ⟨r, e, h⟩ => e ▸ hk r A' h
theorem q_fL {P : Option Value → q_H → Prop} {f : Int64 → q_H → Prop} (hk : ∀ r A', f r A' → P (some (.long r)) A') : ∀ v A', q_KL f v A' → P v A' := fun _ A' ⟨r, e, h⟩ => e ▸ hk r A' h
theorem q_fF {P : Option Value → q_H → Prop} {f : UInt32 → q_H → Prop} (hk : ∀ r A', f r A' → P (some (.float r)) A') : ∀ v A', q_KF f v A' → P v A' := fun _ A' ⟨r, e, h⟩ => e ▸ hk r A' h
theorem q_fD {P : Option Value → q_H → Prop} {f : UInt64 → q_H → Prop} (hk : ∀ r A', f r A' → P (some (.double r)) A') : ∀ v A', q_KD f v A' → P v A' := fun _ A' ⟨r, e, h⟩ => e ▸ hk r A' h
theorem q_fR {P : Option Value → q_H → Prop} {f : Option Nat → q_H → Prop} (hn : ∀ A', f none A' → P (some .null) A') (hs : ∀ r A', f (some r) A' → P (some (.ref r)) A') : ∀ v A', q_KR f v A' → P v A' := by
  rintro _ A' ⟨r, rfl, h⟩
  cases r with
  | none => exact hn A' h
  | some a => exact hs a A' h
/-- an exception of kind E, thrown at pc, is caught by the row that leads to hpc -/
def q_hnd (M : q_M) (pc : Nat) (E : String) (hpc : Nat) : Prop := ∃ (pre : List ExceptionTableEntry) (x : ExceptionTableEntry) (suf : List ExceptionTableEntry) (nm : String), tableOf (q_hh M) = pre ++ x :: suf ∧ x.handlerPc = hpc ∧ covers x pc = true ∧ x.catchType ≠ 0 ∧ Cond.classLink M.1.cls x.catchType nm ∈ q_UW ∧ Cond.castable E nm ∈ q_NW ∧
  ∀ z ∈ pre, covers z pc = false ∨ (z.catchType ≠ 0 ∧ ∃ nm2 : String, Cond.classLink M.1.cls z.catchType nm2 ∈ q_UW ∧ (E, nm2) ∈ q_ncs)
theorem q_callVX {idx z ci b N : Nat} {T : u_T} {As stk : List Value} (hm : q_MO Mc z) (hi : q_MI Mc) (hl : q_CL M.1.cls idx Mc) (hh : q_hh Mc = []) (hc : vwCl[ci]? = some (Mc.1.cls, T, N)) (hci : ci < 49) (hz : As.length = z)
    (hrm : (q_rm Mc).frames + 1 ≤ (q_rm M).frames ∧ 8 + (q_ml Mc + 11) + (q_rm Mc).locals ≤ (q_rm M).locals) (hf : k + (q_rm Mc).cells ≤ (q_rm M).cells ∧ n + (q_rm Mc).slots ≤ (q_rm M).slots) (hs : stk = As.reverse ++ .ref b :: st) (hcat : (st.map fun v => v.category).sum ≤ 8) (hd : decode (q_cc M) pc = .ok (.invokevirtual idx, 3))
    (hsh : q_sh A b = (ci + 1, 0)) (h : q_Wc G Mc (.ref b :: As) A K' X') (hk : ∀ v A', K' v A' → q_Wp G M K X (k + (q_rm Mc).cells) (n + (q_rm Mc).slots) (pc + 3) lo (v.toList ++ st) A')
    (hx : ∀ E A', X' E A' → ∃ hpc, q_hnd M pc E hpc ∧ ∀ q : Nat, q_Wp G M K X (k + (q_rm Mc).cells) (n + (q_rm Mc).slots) hpc lo [.ref q] A') : q_Wp G M K X k n pc lo stk A := by
  intro p e s m args below meth c C H locs ls hR hS hlo
  subst hs
  have C0 := C
  obtain ⟨hxx, hb, hr, hml, hown, hts, hlk, hnm, htb, hA, hbs⟩ := C
  have hMO := hm
  obtain ⟨w1, w2, w3, w4, w5, w6⟩ := hm
  have hrun := vx_runV (R := q_rm M) (l := q_l G) (e := e) (below := below) (meth := meth) (locs := locs) (cells := k) (slots := n) (H := H) (g := F0 m pc ls (As.reverse ++ .ref b :: st)) (rest := st) (As := As) (b := b) ⟨hxx, hb, hml, hown, hts⟩ h (cwV (R := q_rm M) (index := idx) (own := M.1.cls) z hts (q_goodIn fun w hw => by
    unfold wsV at hw
    rcases List.mem_append.mp hw with hw | hw
    · simp only [List.mem_cons, List.not_mem_nil, or_false] at hw
      rcases hw with rfl | rfl | rfl | rfl
      · exact hl
      · exact hi.1
      · exact hi.2
      · exact w2
    · exact q_wsU hMO w hw) (q_wsE hh) rfl rfl ⟨rfl, w3, w4, w5⟩ hrm) ⟨q_blind, va_recv (ci := ci) hR.2.1 (hR.P (q_ent_o hsh hci)) hc (q0 := 0) rfl, fun U hU hW => q_pre hR hS hA U hU hW⟩ rfl hz hlo.1 rfl (lv_room hcat) hd hf
  intro T9 hT XX
  rcases hrun T9 hT XX with ⟨v, s0, t, T', L, h0, X2, hL, e1, e2, ⟨v', A', hv, hR', hF, hK⟩, stp⟩ | ⟨q, s0, t, T', L, E, ce, h0, X2, hL, e1, e2, ⟨A', hR', hF, hXX⟩, hce, hcv, hcl, stp⟩
  · cases hv
    have hal : s.vm.Alike T'.vm := X2.warmed.alike
    obtain ⟨k1, k2, k3⟩ := vx_keep h0 e1 hS (fun q _ h => h) (fun q h => h) hL hF
    obtain ⟨t2, a1, b1⟩ := hk v A' hK p e s m args below meth c C0 T'.heap (locs ++ L) ls (by rw [e1]; exact hR'.moved (by rw [← e2]; exact hal.symm)) k3 hlo T' rfl X2
    exact ⟨t2, stp t2 a1, b1⟩
  · have hal : s.vm.Alike T'.vm := X2.warmed.alike
    obtain ⟨k1, k2, k3⟩ := vx_keep h0 e1 hS (fun q _ h => h) (fun q h => h) hL hF
    obtain ⟨hpc, ⟨pre, x, suf, nm, g1, g2, g3, g4, g5, g6, g7⟩, hwp⟩ := hx E A' hXX
    have k4 := hwp q p e s m args below meth c C0 T'.heap (locs ++ L) ls (by rw [e1]; exact hR'.moved (by rw [← e2]; exact hal.symm)) k3 hlo
    rw [← g2] at k4
    obtain ⟨t2, a1, b1⟩ := vx_catch hown pre x suf (htb.trans g1) (fun z hz => (g7 z hz).imp id fun ⟨z1, nm2, z2, z3⟩ => ⟨z1, nm2, hts _ z2, hA.2.2.2.1 (E, nm2) z3⟩) g3 g4 (hts _ g5) (va_Nw.use (by rfl) (hA.2.1 _ g6)) (by rw [e1]; exact hce) hcv hcl (pc := pc) (rest := st) k4 T' rfl X2
    exact ⟨t2, stp.trans a1, b1⟩
/-- the contract of a method with handlers -/
theorem q_Wc.ofH {as : List Value} (lo : List (Option Value)) (hp : plainName M.1.cls = true) (hh : ∃ h t, q_hh M = h :: t) (hle : (q_arg as).length ≤ q_ml M) (hlo : q_arg as ++ List.replicate (q_ml M - (q_arg as).length) none = lo)
    (h : q_Wp G M K X 0 0 0 lo [] A) : q_Wc G M as A K X := by
  subst hlo
  obtain ⟨h9, t9, hh⟩ := hh
  have e9 : q_hd M = Cond.codeWith M.1 (q_cc M) (q_ml M) (q_rt M) (q_hh M) := by
    unfold q_hd
    split
    · rename_i h8; exact absurd ((show q_hh M = [] from h8).symm.trans hh) (by simp)
    · rename_i h8; rw [show q_hh M = _ from h8]
  refine vx_ofWH (cc := q_cc M) (maxL := q_ml M) (ret := q_rt M) (hh := q_hh M) (ws' := q_UW) hp ?_ ?_
  · show q_hd M :: q_UW = _
    rw [e9]
  · intro p e s m args below meth c s₁ B hml hv
    obtain ⟨rfl, hR, hA⟩ := hv
    rw [lg_entry_eq]
    exact h p e s m as.toArray below meth c ⟨B.exec, B.bytes, B.returns, hml, findClass_of_methodNamed B.named, fun w hw => atoms_spec (ws := q_ws M) B.pre w (List.mem_cons_of_mem _ hw), B.notSynchronized, (name_of_methodNamed B.named B.method).1, vx_table (x := M.1) B (e9 ▸ atoms_spec (ws := q_ws M) B.pre (q_hd M) List.mem_cons_self), hA, hR.2.2.2⟩ s.heap [] _ hR va_S.rf (q_has.entry as hle)
theorem q_wsH (hh : ∃ h t, q_hh Mc = h :: t) : q_ws Mc = Cond.codeWith Mc.1 (q_cc Mc) (q_ml Mc) (q_rt Mc) (q_hh Mc) :: q_UW := by
  obtain ⟨h9, t9, hh⟩ := hh
  show q_hd Mc :: q_UW = _
  have e9 : q_hd Mc = Cond.codeWith Mc.1 (q_cc Mc) (q_ml Mc) (q_rt Mc) (q_hh Mc) := by
    unfold q_hd
    split
    · rename_i h8; exact absurd ((show q_hh Mc = [] from h8).symm.trans hh) (by simp)
    · rename_i h8; rw [show q_hh Mc = _ from h8]
  rw [e9]
theorem q_callSH {idx z : Nat} {As stk : List Value} (hm : q_MO Mc z) (hi : Cond.static Mc.1 ∈ q_UW) (hl : q_CL M.1.cls idx Mc) (hh : ∃ h t, q_hh Mc = h :: t) (hz : As.length = z)
    (hrm : (q_rm Mc).frames + 1 ≤ (q_rm M).frames ∧ 8 + (q_ml Mc + 11) + (q_rm Mc).locals ≤ (q_rm M).locals) (hf : k + (q_rm Mc).cells ≤ (q_rm M).cells ∧ n + (q_rm Mc).slots ≤ (q_rm M).slots) (hs : stk = As.reverse ++ st) (hcat : (st.map fun v => v.category).sum ≤ 8) (hd : decode (q_cc M) pc = .ok (.invokestatic idx, 3))
    (h : q_Wc G Mc As A K' q_nX) (hk : ∀ v A', K' v A' → q_Wp G M K X (k + (q_rm Mc).cells) (n + (q_rm Mc).slots) (pc + 3) lo (v.toList ++ st) A') : q_Wp G M K X k n pc lo stk A := by
  intro p e s m args below meth c C H locs ls hR hS hlo
  subst hs
  have C0 := C
  obtain ⟨hx, hb, hr, hml, hown, hts, hlk, hnm, htb, hA, hbs⟩ := C
  have hMO := hm
  obtain ⟨w1, w2, w3, w4, w5, w6⟩ := hm
  refine q_back C0 hS hlo (vx_runSW (As := As) ⟨hx, hb, hml, hown, hts⟩ h.met (vx_cwSW z hts (q_goodIn fun w hw => ?_) (q_wsH hh) rfl rfl ⟨w3, w4, w5⟩ hrm) ⟨q_blind, fun U hU hW => q_pre hR hS hA U hU hW⟩ rfl hz hlo.1 rfl (lv_room hcat) hd hf) hk
  unfold va_wsS at hw
  rcases List.mem_append.mp hw with hw | hw
  · simp only [List.mem_cons, List.not_mem_nil, or_false] at hw
    rcases hw with rfl | rfl | rfl
    · exact hl
    · exact hi
    · exact w2
  · exact q_wsU hMO w hw
theorem q_fcI {U : State} (h : va_K (q_Dg G) vwCl (q_tys G) U) : U.vm.findClass "[I" = some (q_tA G 50) := (h.2 0 _ rfl).2
/-- a clone of a static row, and the cast behind it -/
theorem q_cloneS {idx i : Nat} (hi : i < 3) (hl : Cond.methodLink M.1.cls idx ⟨"[I", "clone", "()Ljava/lang/Object;"⟩ ∈ q_UW) (hw1 : Cond.sameMethod "[I" "java/lang/Object" "clone" "()Ljava/lang/Object;" ∈ q_UW) (hw2 : Cond.native ⟨"java/lang/Object", "clone", "()Ljava/lang/Object;"⟩ ∈ q_UW) (hw3 : Cond.instanceMethod ⟨"java/lang/Object", "clone", "()Ljava/lang/Object;"⟩ ∈ q_UW) (hw4 : Cond.selects "[I" ⟨"[I", "clone", "()Ljava/lang/Object;"⟩ ⟨"java/lang/Object", "clone", "()Ljava/lang/Object;"⟩ ∈ q_UW) (hw5 : Cond.castable "[I" "java/lang/Cloneable" ∈ q_NW)
    (hfr : 1 ≤ (q_rm M).frames) (hlo2 : (st.map fun v => v.category).sum + 14 ≤ (q_rm M).locals) (h1 : k + 1 ≤ (q_rm M).cells) (h2 : n + 8 ≤ (q_rm M).slots) (hd : decode (q_cc M) pc = .ok (.invokevirtual idx, 3)) (h : q_Wp G M K X (k + 1) (n + 8) (pc + 3) lo (.ref (q_sz A) :: st) (q_rowI (q_new A 50 8) (q_sz A) (fun j => (q_sval i).getD j 0))) : q_Wp G M K X k n pc lo (.ref (q_st G i) :: st) A := by
  intro p e s m args below meth c C H locs ls hR hS hl2
  have k2 := h p e s m args below meth c C
  obtain ⟨hx, hb, hr, hml, hown, hts, hlk, hnm, htb, hA, hbs⟩ := C
  obtain ⟨ce, hcs, hcls, hslo, hv1, hv2⟩ : ∃ ce : Cell, H[q_st G i]? = some ce ∧ ce.cls = q_tA G 50 ∧ ce.slots = (vp_cell (q_tA G 50) (8, .inl (fun j => (q_sval i).getD j 0))).slots ∧ (∀ k, ce.vm ≠ .statics k) ∧ ce.vm ≠ .unknown := by
    obtain ⟨-, ⟨ce, h1, ⟨h2, -⟩, h3, -, -, h5, -⟩, ⟨cell, g1, g2, g3, -⟩⟩ := (hA.2.2.2.2.1 i hi).kept hS.2.1
    cases h1.symm.trans g1
    refine ⟨ce, h1, g2, ?_, h2, h3⟩
    apply Array.ext_getElem?
    intro j
    show _ = (arrV (q_tA G 50) 8 (fun j => .int ((q_sval i).getD j 0))).slots[j]?
    by_cases hj : j < 8
    · rw [h5 j hj, arrV_read _ _ hj]
    · rw [Array.getElem?_eq_none (by omega), Array.getElem?_eq_none (by rw [arrV_size]; omega)]
  generalize hff : (fun j => (q_sval i).getD j 0) = ff at hslo k2
  have hfc := q_fcI hR.2.1
  obtain ⟨c0, t0', f1, f2, f3⟩ := Cond.castable_spec (va_Nw.use (A := args) (by rfl) (hA.2.1 _ hw5))
  cases hfc.symm.trans f1
  intro T hT XX
  have hcellT : T.heap[q_st G i]? = some ce := by rw [hT]; exact hcs
  obtain ⟨-, kA, hkA, comp, hkind⟩ := State.isArrayOf_alike XX.warmed.alike ((hR.2.1.2 0 _ rfl).1 0 (fun _ => .null))
  obtain ⟨-, kS, hkS, compS, hkindS⟩ := (hR.2.1.2 0 _ rfl).1 0 (fun _ => .null)
  have hsz : ce.slots.size = 8 := by rw [hslo]; exact arrV_size _ _ _
  obtain ⟨vm', X', stp⟩ := XX.cloneArray hx hown (hts _ hl) (hts _ hw1) (hts _ hw2) (hts _ hw3) (hts _ hw4) (a := q_st G i) (cell := ce) hcellT hv1 hv2 (by rw [hcls]; exact hfc) f2 (by rw [hcls]; exact f3)
    (fun j v hv => by
      have hk' : T.vm.classes[q_tA G 50]? = some kA := hkA
      have hjl : j < 8 := by rw [← hsz]; exact (Array.getElem?_eq_some_iff.mp hv).1
      have hv2 : v = .int (ff j) := by
        have := arrV_read (q_tA G 50) (fun j => .int (ff j)) hjl
        rw [hslo] at hv
        exact Option.some.inj (hv.symm.trans this)
      subst hv2
      have e9 : ce.cls = q_tA G 50 := hcls
      simp [State.fitsSlot, State.slotType?, e9, hk', hkind, fits])
    (g := F0 m pc ls (.ref (q_st G i) :: st)) rfl (by rw [hml]; exact hl2.1) rfl (by rw [hb]; exact hd) hfr (by show 2 * 0 + _ + 14 ≤ _; omega) h1 (by rw [hsz]; exact h2) (hloader := by rw [hcls]; exact Vm.clonesLoader_of_array hkS hkindS)
  have hcellE : ({ cls := ce.cls, slots := ce.slots } : Cell) = vp_cell (q_tA G 50) (8, .inl ff) := by rw [hcls, hslo]; rfl
  rw [hcellE, hsz] at X'
  generalize hH1 : H.push (vp_cell (q_tA G 50) (8, .inl ff)) = H1
  have z1 : H1.size = H.size + 1 := by rw [← hH1, Array.size_push]
  have e1 : H1[H.size]? = some (vp_cell (q_tA G 50) (8, .inl ff)) := by rw [← hH1, Array.getElem?_push_size]
  have o1 : ∀ q : Nat, q < H.size → H1[q]? = H[q]? := fun q hq => by rw [← hH1, Array.getElem?_push, if_neg (Nat.ne_of_lt hq)]
  have hnew : q_Rep G (q_rowI (q_new A 50 8) (q_sz A) ff) s H1 := by
    refine ⟨by rw [z1, hR.1]; rfl, hR.2.1, fun b ee hb2 => ?_, by rw [z1]; exact Nat.le_succ_of_le hR.2.2.2⟩
    by_cases hba : b = q_sz A
    · subst hba
      have hh : q_ent G (q_rowI (q_new A 50 8) (q_sz A) ff) (q_sz A) = some (.inl (q_tA G 50, 8, .inl ff)) := by
        rw [q_ent_i (A := q_rowI (q_new A 50 8) (q_sz A) ff) (q_shn A 50 8), q_I_rowI, q_rw_s]
      cases hh.symm.trans hb2
      exact ⟨by rw [← hR.1]; exact hR.2.2.2, by rw [← hR.1]; exact e1⟩
    · have hx2 : q_ent G (q_rowI (q_new A 50 8) (q_sz A) ff) b = q_ent G A b := by
        rw [q_ent_rowI hba]
        exact q_ent_cg (by rw [q_sh_new, if_neg hba]) (by rw [q_I_new, q_rw_a _ _ _ hba]) (by rw [q_R_new, q_rw_a _ _ _ hba]) (by rw [q_L_new, q_rw_a _ _ _ hba]) (by rw [q_D_new, q_rw_a _ _ _ hba])
      rw [hx2] at hb2
      exact ⟨(hR.2.2.1 b ee hb2).1, ((hR.2.2.1 b ee hb2).2).kept (o1 b (hR.lt hb2))⟩
  obtain ⟨t, b1, b2⟩ := k2 H1 _ ls hnew ⟨Nat.le_trans hS.1 (by omega), fun y g1 g2 => (o1 y (Nat.lt_of_lt_of_le g1 hS.1)).trans (hS.2.1 y g1 g2), hS.2.2⟩ hl2 ((T.setVm vm').pushCell (vp_cell (q_tA G 50) (8, .inl ff))) (by rw [← hH1, ← hT]; rfl) X'
  refine ⟨t, stp t ?_, b2⟩
  rw [hcellE, hT, hR.1]
  exact b1
theorem q_castI {idx a z : Nat} (hl : Cond.classLink M.1.cls idx "[I" ∈ q_UW) (hd : decode (q_cc M) pc = .ok (.checkcast idx, 3)) (hsh : q_sh A a = (50, z)) (h : q_Wp G M K X k n (pc + 3) lo (.ref a :: st) A) : q_Wp G M K X k n pc lo (.ref a :: st) A := by
  intro p e s m args below meth c C H locs ls hR hS hl2
  have k2 := h p e s m args below meth c C H locs ls hR hS hl2
  obtain ⟨hx, hb, hr, hml, hown, hts, hlk, hnm, htb, hA, hbs⟩ := C
  exact va_castA hx hb hown (hts _ hl) (hR.P (q_ent_i hsh)) 0 rfl (q_fcI hR.2.1) hd k2
/-- a text's own members -/
theorem q_strV {idx i : Nat} {q : String × Nat × String × List Int32} (hq : q_txt[i]? = some q) (hw : Cond.fieldLink M.1.cls idx "java/lang/String" "value" "[B" ∈ q_UW) (hd : decode (q_cc M) pc = .ok (.getfield idx, 3)) (h : q_Wp G M K X k n (pc + 3) lo (.ref (q_aV G i) :: st) A) : q_Wp G M K X k n pc lo (.ref (q_aK G i) :: st) A := by
  intro p e s m args below meth c C H locs ls hR hS hl
  have k2 := h p e s m args below meth c C H locs ls hR hS hl
  obtain ⟨hx, hb, hr, hml, hown, hts, hlk, hnm, htb, hA, hbs⟩ := C
  exact vk_getf hx hb (hA.2.2.2.2.2.1 i q hq).2.2.2.1 hS hown (hts _ hw) (fun _ h9 => h9) hd k2
theorem q_strC {idx i : Nat} {q : String × Nat × String × List Int32} (hq : q_txt[i]? = some q) (hw : Cond.fieldLink M.1.cls idx "java/lang/String" "coder" "B" ∈ q_UW) (hd : decode (q_cc M) pc = .ok (.getfield idx, 3)) (h : q_Wp G M K X k n (pc + 3) lo (.int 0 :: st) A) : q_Wp G M K X k n pc lo (.ref (q_aK G i) :: st) A := by
  intro p e s m args below meth c C H locs ls hR hS hl
  have k2 := h p e s m args below meth c C H locs ls hR hS hl
  obtain ⟨hx, hb, hr, hml, hown, hts, hlk, hnm, htb, hA, hbs⟩ := C
  exact vk_getf hx hb (hA.2.2.2.2.2.1 i q hq).2.2.1 hS hown (hts _ hw) (fun _ h9 => h9) hd k2
theorem q_strL {i : Nat} {q : String × Nat × String × List Int32} (hq : q_txt[i]? = some q) (hd : decode (q_cc M) pc = .ok (.arraylength, 1)) (h : q_Wp G M K X k n (pc + 1) lo (.int (nI q.2.2.2.length) :: st) A) : q_Wp G M K X k n pc lo (.ref (q_aV G i) :: st) A := by
  intro p e s m args below meth c C H locs ls hR hS hl
  have k2 := h p e s m args below meth c C H locs ls hR hS hl
  obtain ⟨hx, hb, hr, hml, hown, hts, hlk, hnm, htb, hA, hbs⟩ := C
  exact va_tlen hx hb (hA.2.2.2.2.2.1 i q hq).2.2.2.2 hS rfl hd k2
theorem q_strB {i j : Nat} {x : Int32} {q : String × Nat × String × List Int32} (hq : q_txt[i]? = some q) (e : x = nI j) (hj : j < q.2.2.2.length) (hj2 : q.2.2.2.length < 2147483648) (hd : decode (q_cc M) pc = .ok (.baload, 1)) (h : q_Wp G M K X k n (pc + 1) lo (.int (q.2.2.2.getD j 0) :: st) A) : q_Wp G M K X k n pc lo (.int x :: .ref (q_aV G i) :: st) A := by
  intro p ee s m args below meth c C H locs ls hR hS hl
  have k2 := h p ee s m args below meth c C H locs ls hR hS hl
  obtain ⟨hx, hb, hr, hml, hown, hts, hlk, hnm, htb, hA, hbs⟩ := C
  subst e
  exact va_tb hx hb (hA.2.2.2.2.2.1 i q hq).2.2.2.2 hS (vp_in_nI hj hj2) (by rw [nI_clamp (Nat.lt_trans hj hj2)]) hd k2
theorem q_getCS {idx : Nat} (hw : Cond.fieldLink M.1.cls idx RJ0 "COMPACT_STRINGS" "Z" ∈ q_UW) (hd : decode (q_cc M) pc = .ok (.getstatic idx, 3)) (h : q_Wp G M K X k n (pc + 3) lo (.int 1 :: st) A) : q_Wp G M K X k n pc lo st A := by
  intro p e s m args below meth c C H locs ls hR hS hl2
  have k2 := h p e s m args below meth c C H locs ls hR hS hl2
  obtain ⟨hx, hb, hr, hml, hown, hts, hlk, hnm, htb, hA, hbs⟩ := C
  exact va_gets hx hb hA.2.2.2.2.2.2.2.2.2.2.1 hS hown (hts _ hw) (fun _ h9 => h9) hd k2
theorem q_getFo {idx : Nat} (hw : Cond.fieldLink M.1.cls idx RJ3 "SIOOBE_FORMATTER" "Ljava/util/function/BiFunction;" ∈ q_UW) (hd : decode (q_cc M) pc = .ok (.getstatic idx, 3)) (h : ∀ t : Nat, q_Wp G M K X k n (pc + 3) lo (.ref t :: st) A) (hn : q_Wp G M K X k n (pc + 3) lo (.null :: st) A) : q_Wp G M K X k n pc lo st A := by
  intro p e s m args below meth c C H locs ls hR hS hl2
  have k2 := fun t => h t p e s m args below meth c C H locs ls hR hS hl2
  have k3 := hn p e s m args below meth c C H locs ls hR hS hl2
  obtain ⟨hx, hb, hr, hml, hown, hts, hlk, hnm, htb, hA, hbs⟩ := C
  rcases hA.2.2.2.2.2.2.2.2.2.2.2 with ht | ⟨t, ht⟩
  · exact va_gets hx hb ht hS hown (hts _ hw) (fun _ h9 => h9) hd k3
  · exact va_gets hx hb ht hS hown (hts _ hw) (fun _ h9 => h9) hd (k2 t)
/-- a call upon a text -/
theorem q_callVS {idx z i : Nat} {q : String × Nat × String × List Int32} {As stk : List Value} (hq : q_txt[i]? = some q) (hm : q_MO Mc z) (hi : q_MI Mc) (hl : q_CL M.1.cls idx Mc) (hh : q_hh Mc = []) (hcls : Mc.1.cls = "java/lang/String") (hz : As.length = z)
    (hrm : (q_rm Mc).frames + 1 ≤ (q_rm M).frames ∧ 8 + (q_ml Mc + 11) + (q_rm Mc).locals ≤ (q_rm M).locals) (hf : k + (q_rm Mc).cells ≤ (q_rm M).cells ∧ n + (q_rm Mc).slots ≤ (q_rm M).slots) (hs : stk = As.reverse ++ .ref (q_aK G i) :: st) (hcat : (st.map fun v => v.category).sum ≤ 8) (hd : decode (q_cc M) pc = .ok (.invokevirtual idx, 3))
    (h : q_Wc G Mc (.ref (q_aK G i) :: As) A K' q_nX) (hk : ∀ v A', K' v A' → q_Wp G M K X (k + (q_rm Mc).cells) (n + (q_rm Mc).slots) (pc + 3) lo (v.toList ++ st) A') : q_Wp G M K X k n pc lo stk A := by
  intro p e s m args below meth c C H locs ls hR hS hlo
  subst hs
  have C0 := C
  obtain ⟨hx, hb, hr, hml, hown, hts, hlk, hnm, htb, hA, hbs⟩ := C
  have hMO := hm
  obtain ⟨w1, w2, w3, w4, w5, w6⟩ := hm
  refine q_back C0 hS hlo (va_runV (As := As) (b := q_aK G i) ⟨hx, hb, hml, hown, hts⟩ h.met (cwV z hts (q_goodIn fun w hw => ?_) (q_wsE hh) rfl rfl ⟨rfl, w3, w4, w5⟩ hrm) ⟨q_blind, ?_, fun U hU hW => q_pre hR hS hA U hU hW⟩ rfl hz hlo.1 rfl (lv_room hcat) hd hf) hk
  · unfold wsV at hw
    rcases List.mem_append.mp hw with hw | hw
    · simp only [List.mem_cons, List.not_mem_nil, or_false] at hw
      rcases hw with rfl | rfl | rfl | rfl
      · exact hl
      · exact hi.1
      · exact hi.2
      · exact w2
    · exact q_wsU hMO w hw
  · obtain ⟨cell, h1, h2, h3, -⟩ := ((hA.2.2.2.2.2.1 i q hq).2.1).kept hS.2.1
    exact ⟨cell, h1, h2, by rw [hcls]; exact h3⟩
end QO

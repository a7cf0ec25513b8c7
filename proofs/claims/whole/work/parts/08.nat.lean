/-! ROWS OF STATIC ROWS, COPIES, Math, TEXTS -/
section QN
variable {G : q_G} {M : q_M} {K : Option Value → q_H → Prop} {X : String → q_H → Prop} {k n pc : Nat} {lo lo' : List (Option Value)} {st st' : List Value} {A : q_H}
/-- a static row's reference -/
theorem q_gets {idx i : Nat} (hi : i < 3) (hl : Cond.fieldLink M.1.cls idx RX10 (q_sname i) "[I" ∈ q_UW ∨ ∃ host, Cond.fieldLinkNest M.1.cls idx RX10 (q_sname i) "[I" host ∈ q_NW) (hd : decode (q_cc M) pc = .ok (.getstatic idx, 3)) (h : q_Wp G M K X k n (pc + 3) lo (.ref (q_st G i) :: st) A) : q_Wp G M K X k n pc lo st A := by
  intro p ee s m args below meth c C H locs ls hR hS hl2
  have k2 := h p ee s m args below meth c C H locs ls hR hS hl2
  obtain ⟨hx, hb, hr, hml, hown, hts, hlk, hnm, htb, hA, hbs⟩ := C
  rcases hl with hl | ⟨host, hl⟩
  · exact va_gets hx hb (hA.2.2.2.2.1 i hi).1 hS hown (hts _ hl) (fun _ h9 => h9) hd k2
  · exact va_getsN hx hb (hA.2.2.2.2.1 i hi).1 hS hown (va_Nw.use (by rfl) (hA.2.1 _ hl)) (fun _ h9 => h9) hd k2
theorem q_ialdS {i j : Nat} {x : Int32} (hi : i < 3) (e : x = nI j) (hj : j < 8) (hd : decode (q_cc M) pc = .ok (.iaload, 1)) (h : q_Wp G M K X k n (pc + 1) lo (.int ((q_sval i).getD j 0) :: st) A) : q_Wp G M K X k n pc lo (.int x :: .ref (q_st G i) :: st) A := by
  intro p ee s m args below meth c C H locs ls hR hS hl
  have k2 := h p ee s m args below meth c C H locs ls hR hS hl
  subst e
  exact va_ti C.1 C.2.1 (C.2.2.2.2.2.2.2.2.2.1.2.2.2.2.1 i hi).2.1 hS (vp_in_nI hj (by decide)) (v := .int ((q_sval i).getD j 0)) (by rw [nI_clamp (Nat.lt_trans hj (by decide))]) hd k2
/-- the script -/
theorem q_sld {x : Int32} {j : Nat} (e : x = nI j) (hj : j < q_sL G) (hL : q_sL G < 2147483648) (hd : decode (q_cc M) pc = .ok (.iaload, 1)) (h : q_Wp G M K X k n (pc + 1) lo (.int (q_xs G j) :: st) A) : q_Wp G M K X k n pc lo (.int x :: .ref (q_sb G) :: st) A := by
  intro p ee s m args below meth c C H locs ls hR hS hl
  have k2 := h p ee s m args below meth c C H locs ls hR hS hl
  obtain ⟨hx, hb, hr, hml, hown, hts, hlk, hnm, htb, hA, hbs⟩ := C
  subst e
  have hX := hA.2.2.2.2.2.2.2.2.1
  exact va_sld hx hb hX (by obtain ⟨scr, h1, -⟩ := hX; exact (Array.getElem?_eq_some_iff.mp h1).1) hA.2.2.2.2.2.2.2.2.2.1 hS (vp_in_nI hj hL) hd (by rw [nI_clamp (Nat.lt_trans hj hL)]; exact k2)
theorem q_slen (hd : decode (q_cc M) pc = .ok (.arraylength, 1)) (h : q_Wp G M K X k n (pc + 1) lo (.int (nI (q_sL G)) :: st) A) : q_Wp G M K X k n pc lo (.ref (q_sb G) :: st) A := by
  intro p ee s m args below meth c C H locs ls hR hS hl
  have k2 := h p ee s m args below meth c C H locs ls hR hS hl
  obtain ⟨hx, hb, hr, hml, hown, hts, hlk, hnm, htb, hA, hbs⟩ := C
  have hX := hA.2.2.2.2.2.2.2.2.1
  exact va_slen hx hb hX (by obtain ⟨scr, h1, -⟩ := hX; exact (Array.getElem?_eq_some_iff.mp h1).1) hA.2.2.2.2.2.2.2.2.2.1 hS hd k2
/-- a copy of z ints from the beginning of one row to the beginning of another; f: what the source holds -/
theorem q_acg {idx a0 a z0 z1 z : Nat} {y : Int32} {f : Nat → Int32} (hsrc : ∀ (s : State) (H : Heap) (locs : List Loc), q_Amb G s s.heap → va_S (q_F G) s.heap H locs → q_Rep G A s H → ∃ scr : Cell, H[a0]? = some scr ∧ s.isArrayOf scr .int ∧ scr.vm ≠ .unknown ∧ z0 ≤ scr.slots.size ∧ ∀ j : Nat, j < z0 → scr.slots[j]? = some (.int (f j)))
    (hw1 : Cond.methodLink M.1.cls idx arraycopyName ∈ q_UW) (hw2 : Cond.native arraycopyName ∈ q_UW) (hw3 : Cond.static arraycopyName ∈ q_UW) (hw4 : Cond.initialized "java/lang/System" ∈ q_UW) (hsh : q_sh A a = (50, z1)) (e : y = nI z) (h0 : z ≤ z0) (h1 : z ≤ z1) (hz : z1 < 2147483648) (hz0 : z0 < 2147483648)
    (hfr : 1 ≤ (q_rm M).frames) (hlo : (st.map fun v => v.category).sum + (nativeFrameWords "java/lang/System" "arraycopy" 5 + 11) ≤ (q_rm M).locals) (hd : decode (q_cc M) pc = .ok (.invokestatic idx, 3)) (h : q_Wp G M K X k n (pc + 3) lo st (q_rowI A a (fun j => if j < z then f j else q_I A a j))) : q_Wp G M K X k n pc lo (.int y :: .int 0 :: .ref a :: .int 0 :: .ref a0 :: st) A := by
  intro p ee s m args below meth c C H locs ls hR hS hl
  have k2 := h p ee s m args below meth c C
  obtain ⟨hx, hb, hr, hml, hown, hts, hlk, hnm, htb, hA, hbs⟩ := C
  subst e
  have nn : ∀ z : Int32, ¬ z < 0 → z.toInt = (z.toNatClampNeg : Int) := by
    intro z hz
    have hz0 : (0 : Int) ≤ z.toInt := by
      have := Int32.not_lt.mp hz
      simpa using Int32.le_iff_toInt_le.mp this
    show z.toInt = ((z.toInt.toNat : Nat) : Int)
    omega
  have c0 : (0 : Int32).toNatClampNeg = 0 := by decide
  have cz : (nI z).toNatClampNeg = z := nI_clamp (by omega)
  have p0 : ¬ (0 : Int32) < 0 := by decide
  have pz : ¬ nI z < 0 := nI_pos (by omega)
  have he := q_ent_i (G := G) hsh
  obtain ⟨hba, hcell⟩ := hR.2.2.1 a _ he
  obtain ⟨scr, hc0, ⟨hs6, k0, hk0, cm0, hkk0⟩, hs3, hs4, hs5⟩ := hsrc s H locs hA hS hR
  have hc1 : H[a]? = some (vp_cell (q_tA G 50) (z1, .inl (q_I A a))) := hcell
  obtain ⟨-, k1, hk1, cm1, hkk1⟩ := (hR.2.1.2 0 _ rfl).1 z1 (fun j => .int (q_I A a j))
  intro T hT XX
  obtain ⟨vm', X', step⟩ := XX.arraycopy hx hown (hts _ hw1) (hts _ hw2) (hts _ hw3) (hts _ hw4) (src := a0) (dst := a) (cs := scr) (cd := vp_cell (q_tA G 50) (z1, .inl (q_I A a))) (srcPos := 0) (destPos := 0) (n := nI z) (by rw [hT]; exact hc0) (by rw [hT]; exact hc1)
    hs6 (fun _ h => by cases h) hs3 (fun h => by cases h) hk0 hk1 hkk0 hkk1 (by simp [refKind]) p0 p0 pz
    (by rw [nn 0 p0, nn (nI z) pz, c0, cz]; omega)
    (by rw [nn 0 p0, nn (nI z) pz, c0, cz]; show ¬ _ > ((arrV (q_tA G 50) z1 (fun j => .int (q_I A a j))).slots.size : Int); rw [arrV_size]; omega)
    (fun vm₁ _ i hi => by
      rw [cz] at hi
      have e : scr.slots.getD ((0 : Int32).toNatClampNeg + i) .null = .int (f i) := by
        rw [c0, Nat.zero_add, Array.getD_eq_getD_getElem?, hs5 _ (by omega)]
        rfl
      refine ⟨?_, ?_⟩
      · rw [e]
        rfl
      · rw [e]
        exact trivial)
    (g := F0 m pc ls (.int (nI z) :: .int 0 :: .ref a :: .int 0 :: .ref a0 :: st)) rfl (by rw [hml]; exact hl.1) (rest := st) rfl (by rw [hb]; exact hd) hfr (by show 2 * 0 + _ + _ ≤ _; omega)
  have e1 : copied scr (vp_cell (q_tA G 50) (z1, .inl (q_I A a))) 0 0 (nI z) = vp_cell (q_tA G 50) (z1, .inl (va_cpy f (q_I A a) (0 : Int32).toNatClampNeg (0 : Int32).toNatClampNeg (nI z).toNatClampNeg)) := va_copiedX (fun z => .int z) scr _ f (q_I A a) hs5 (by rw [c0, cz]; omega)
  have e2 : va_cpy f (q_I A a) (0 : Int32).toNatClampNeg (0 : Int32).toNatClampNeg (nI z).toNatClampNeg = fun j => if j < z then f j else q_I A a j := by
    funext j
    rw [c0, cz]
    simp [va_cpy]
  rw [e1, e2] at X' step
  have hlt : a < H.size := (Array.getElem?_eq_some_iff.mp hc1).1
  generalize hgd : (fun j => if j < z then f j else q_I A a j) = gg at X' step k2
  have oq : ∀ q : Nat, q ≠ a → (H.setIfInBounds a (vp_cell (q_tA G 50) (z1, .inl gg)))[q]? = H[q]? := fun q hq => by simp [Array.getElem?_setIfInBounds, Ne.symm hq]
  have he' : q_ent G (q_rowI A a gg) a = some (.inl (q_tA G 50, z1, .inl gg)) := by
    rw [q_ent_i (A := q_rowI A a gg) hsh, q_I_rowI, q_rw_s]
  obtain ⟨t, a1, b1⟩ := k2 (H.setIfInBounds a (vp_cell (q_tA G 50) (z1, .inl gg))) _ ls (hR.up he he' rfl (fun b hb => q_ent_rowI hb) (by simp) (show (H.setIfInBounds a _)[a]? = some _ by simp [Array.getElem?_setIfInBounds, hlt]) oq)
    ⟨by simp; exact hS.1, fun q g1 g2 => by
      rw [oq q (fun e => g2 (by rw [e]; exact hba))]
      exact hS.2.1 q g1 g2, fun q hq => by
      rcases List.mem_append.mp hq with h | h
      · exact hS.2.2 q h
      · obtain ⟨z, -, hz⟩ := List.mem_map.mp h
        rw [← hz]
        exact hba⟩ hl _ (by rw [← hT]; rfl) X'
  exact ⟨t, step t a1, b1⟩
theorem q_acpy {idx a0 a z0 z1 z : Nat} {y : Int32} (hw1 : Cond.methodLink M.1.cls idx arraycopyName ∈ q_UW) (hw2 : Cond.native arraycopyName ∈ q_UW) (hw3 : Cond.static arraycopyName ∈ q_UW) (hw4 : Cond.initialized "java/lang/System" ∈ q_UW) (hfr : 1 ≤ (q_rm M).frames) (hlo : (st.map fun v => v.category).sum + (nativeFrameWords "java/lang/System" "arraycopy" 5 + 11) ≤ (q_rm M).locals) (hd : decode (q_cc M) pc = .ok (.invokestatic idx, 3))
    (e : y = nI z) (hs0 : q_sh A a0 = (50, z0)) (hsh : q_sh A a = (50, z1)) (h0 : z ≤ z0) (h1 : z ≤ z1) (hz : z1 < 2147483648) (hz0 : z0 < 2147483648) (h : q_Wp G M K X k n (pc + 3) lo st (q_rowI A a (fun j => if j < z then q_I A a0 j else q_I A a j))) : q_Wp G M K X k n pc lo (.int y :: .int 0 :: .ref a :: .int 0 :: .ref a0 :: st) A :=
  q_acg (fun s H locs _ _ hR => ⟨_, (hR.2.2.1 a0 _ (q_ent_i hs0)).2, (hR.2.1.2 0 _ rfl).1 z0 (fun j => .int (q_I A a0 j)), fun h => (by cases h), (by show z0 ≤ (arrV (q_tA G 50) z0 (fun j => .int (q_I A a0 j))).slots.size; rw [arrV_size]; exact Nat.le_refl _), fun j hj => (by show (arrV (q_tA G 50) z0 (fun j => .int (q_I A a0 j))).slots[j]? = _; exact arrV_read _ _ hj)⟩) hw1 hw2 hw3 hw4 hsh e h0 h1 hz hz0 hfr hlo hd h
theorem q_acpyS {idx i a z1 z : Nat} {y : Int32} (hi : i < 3) (hw1 : Cond.methodLink M.1.cls idx arraycopyName ∈ q_UW) (hw2 : Cond.native arraycopyName ∈ q_UW) (hw3 : Cond.static arraycopyName ∈ q_UW) (hw4 : Cond.initialized "java/lang/System" ∈ q_UW) (hfr : 1 ≤ (q_rm M).frames) (hlo : (st.map fun v => v.category).sum + (nativeFrameWords "java/lang/System" "arraycopy" 5 + 11) ≤ (q_rm M).locals) (hd : decode (q_cc M) pc = .ok (.invokestatic idx, 3))
    (e : y = nI z) (hsh : q_sh A a = (50, z1)) (h0 : z ≤ 8) (h1 : z ≤ z1) (hz : z1 < 2147483648) (h : q_Wp G M K X k n (pc + 3) lo st (q_rowI A a (fun j => if j < z then (q_sval i).getD j 0 else q_I A a j))) : q_Wp G M K X k n pc lo (.int y :: .int 0 :: .ref a :: .int 0 :: .ref (q_st G i) :: st) A :=
  q_acg (fun s H locs hA hS _ => (by obtain ⟨scr, h1, h2, h3, h4, -, h5, h6⟩ := ((hA.2.2.2.2.1 i hi).kept hS.2.1).2.1; exact ⟨scr, h1, h2, h3, h4, h5⟩)) hw1 hw2 hw3 hw4 hsh e h0 h1 hz (by decide) hfr hlo hd h
theorem q_mmin {idx : Nat} {x y : Int32} (hw1 : Cond.methodLink M.1.cls idx Lib.Math.min.name ∈ q_UW) (hw2 : Cond.static Lib.Math.min.name ∈ q_UW) (hw3 : Cond.initialized "java/lang/Math" ∈ q_UW) (hw4 : Cond.code Lib.Math.min.name Lib.Math.min.code 2 (some .int) ∈ q_UW) (hfr : 1 ≤ (q_rm M).frames) (hlo : (st.map fun v => v.category).sum + 13 ≤ (q_rm M).locals) (hk : k ≤ (q_rm M).cells) (hn : n ≤ (q_rm M).slots) (hd : decode (q_cc M) pc = .ok (.invokestatic idx, 3)) (h : q_Wp G M K X k n (pc + 3) lo (.int (if y < x then y else x) :: st) A) : q_Wp G M K X k n pc lo (.int y :: .int x :: st) A := by
  intro p ee s m args below meth c C H locs ls hR hS hl
  have k2 := h p ee s m args below meth c C H locs ls hR hS hl
  obtain ⟨hx, hb, hr, hml, hown, hts, hlk, hnm, htb, hA, hbs⟩ := C
  exact va_mmin hx hb (hml.trans hl.1.symm) hown (hts _ hw1) (hts _ hw2) (hts _ hw3) (hts _ hw4) hfr hlo hk hn hd k2
theorem q_mmax {idx : Nat} {x y : Int32} (hw1 : Cond.methodLink M.1.cls idx Lib.Math.max.name ∈ q_UW) (hw2 : Cond.static Lib.Math.max.name ∈ q_UW) (hw3 : Cond.initialized "java/lang/Math" ∈ q_UW) (hw4 : Cond.code Lib.Math.max.name Lib.Math.max.code 2 (some .int) ∈ q_UW) (hfr : 1 ≤ (q_rm M).frames) (hlo : (st.map fun v => v.category).sum + 13 ≤ (q_rm M).locals) (hk : k ≤ (q_rm M).cells) (hn : n ≤ (q_rm M).slots) (hd : decode (q_cc M) pc = .ok (.invokestatic idx, 3)) (h : q_Wp G M K X k n (pc + 3) lo (.int (if x < y then y else x) :: st) A) : q_Wp G M K X k n pc lo (.int y :: .int x :: st) A := by
  intro p ee s m args below meth c C H locs ls hR hS hl
  have k2 := h p ee s m args below meth c C H locs ls hR hS hl
  obtain ⟨hx, hb, hr, hml, hown, hts, hlk, hnm, htb, hA, hbs⟩ := C
  exact va_mmax hx hb (hml.trans hl.1.symm) hown (hts _ hw1) (hts _ hw2) (hts _ hw3) (hts _ hw4) hfr hlo hk hn hd k2
theorem q_lmin {idx : Nat} {x y : Int64} (hw1 : Cond.methodLink M.1.cls idx Lib.MathLoose.min_long.x ∈ q_UW) (hw2 : Cond.static Lib.MathLoose.min_long.x ∈ q_UW) (hw3 : Cond.initialized "java/lang/Math" ∈ q_UW) (hw4 : Cond.code Lib.MathLoose.min_long.x Lib.MathLoose.min_long.code 4 (some .long) ∈ q_UW) (hfr : 1 ≤ (q_rm M).frames) (hlo : (st.map fun v => v.category).sum + 15 ≤ (q_rm M).locals) (hk : k ≤ (q_rm M).cells) (hn : n ≤ (q_rm M).slots) (hd : decode (q_cc M) pc = .ok (.invokestatic idx, 3)) (h : q_Wp G M K X k n (pc + 3) lo (.long (if y < x then y else x) :: st) A) : q_Wp G M K X k n pc lo (.long y :: .long x :: st) A := by
  intro p ee s m args below meth c C H locs ls hR hS hl
  have k2 := h p ee s m args below meth c C H locs ls hR hS hl
  obtain ⟨hx, hb, hr, hml, hown, hts, hlk, hnm, htb, hA, hbs⟩ := C
  exact va_mmin_long hx hb (hml.trans hl.1.symm) hown (hts _ hw1) (hts _ hw2) (hts _ hw3) (hts _ hw4) hfr hlo hk hn hd k2
/-- a text -/
theorem q_ldc {idx i : Nat} {q : String × Nat × String × List Int32} (hq : q_txt[i]? = some q) (h1 : q.1 = M.1.cls) (h2 : q.2.1 = idx) (hd : decode (q_cc M) pc = .ok (.ldc idx, 2)) (h : q_Wp G M K X k n (pc + 2) lo (.ref (q_aK G i) :: st) A) : q_Wp G M K X k n pc lo st A := by
  intro p ee s m args below meth c C H locs ls hR hS hl
  have k2 := h p ee s m args below meth c C H locs ls hR hS hl
  obtain ⟨hx, hb, hr, hml, hown, hts, hlk, hnm, htb, hA, hbs⟩ := C
  have hs := (hA.2.2.2.2.2.1 i q hq).1
  rw [h1, h2] at hs
  exact va_ldcS hx hb hown hs hd k2
end QN

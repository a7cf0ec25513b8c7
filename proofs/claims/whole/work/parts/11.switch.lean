/-! SWITCHES, TRUTH VALUES, the wide throw -/
section QP
variable {G : q_G} {M : q_M} {K K' : Option Value → q_H → Prop} {X X' : String → q_H → Prop} {k n pc : Nat} {lo lo' : List (Option Value)} {st st' : List Value} {A : q_H}
def q_all : List Nat → Nat → (Nat → Nat → Prop) → Prop
  | [], _, _ => True
  | t :: r, j, P => P j t ∧ q_all r (j + 1) P
theorem q_all_at {P : Nat → Nat → Prop} : ∀ (l : List Nat) (j i t : Nat), q_all l j P → l[i]? = some t → P (j + i) t
  | [], j, i, t, _, h => by simp at h
  | t0 :: r, j, 0, t, h, e => by simp at e; subst e; exact h.1
  | t0 :: r, j, i + 1, t, h, e => by
    have := q_all_at r (j + 1) i t h.2 (by simpa using e)
    rw [show j + (i + 1) = j + 1 + i by omega]
    exact this
def q_tgs (pc : Nat) (offs : Array Int) (tg : List Nat) : Bool := decide (offs.toList = tg.map fun (t : Nat) => (t : Int) - (pc : Int))
theorem q_tsw {x : Int32} {dflt hi : Int} {offs : Array Int} {len : Nat} (tg : List Nat) (dt : Nat) (hd : decode (q_cc M) pc = .ok (.tableswitch dflt 0 hi offs, len)) (hhi : hi = (tg.length : Int) - 1) (hlen : tg.length < 1000) (ho : q_tgs pc offs tg = true) (ht : (pc : Int) + dflt = (dt : Int))
    (h1 : q_all tg 0 fun j t => x = nI j → q_Wp G M K X k n t lo st A) (h2 : (∀ j, j < tg.length → ¬ x = nI j) → q_Wp G M K X k n dt lo st A) : q_Wp G M K X k n pc lo (.int x :: st) A := by
  intro p e s m args below meth c C H locs ls hR hS hl
  by_cases hin : 0 ≤ x.toInt ∧ x.toInt ≤ hi
  · obtain ⟨j, hj⟩ : ∃ j : Nat, x.toInt = (j : Int) := ⟨x.toInt.toNat, by omega⟩
    have hjl : j < tg.length := by omega
    have hx : x = nI j := Int32.toInt_inj.mp (by rw [hj, nI_toInt (by omega)])
    obtain ⟨t, ht2⟩ : ∃ t, tg[j]? = some t := ⟨tg[j], List.getElem?_eq_getElem hjl⟩
    have hk := q_all_at tg 0 j t h1 ht2
    rw [Nat.zero_add] at hk
    unfold q_tgs at ho
    rw [decide_eq_true_eq] at ho
    have ho2 : offs[(x.toInt - 0).toNat]? = some ((t : Int) - (pc : Int)) := by
      rw [hj, show ((j : Int) - 0).toNat = j by omega, ← Array.getElem?_toList, ho]
      simp [ht2]
    exact lv_tableIn C.1 C.2.1 hd (by omega) (by omega) ho2 (by omega) (hk hx p e s m args below meth c C H locs ls hR hS hl)
  · refine lv_tableOut C.1 C.2.1 hd (by omega) ht (h2 (fun j hj hx => hin ?_) p e s m args below meth c C H locs ls hR hS hl)
    rw [hx, nI_toInt (by omega)]
    omega
/-- worthOf's own -/
theorem q_lsw {x : Int32} {dflt o0 o1 : Int} {len : Nat} (t0 t1 dt : Nat) (hd : decode (q_cc M) pc = .ok (.lookupswitch dflt #[(0, o0), (1, o1)], len)) (h0 : (pc : Int) + o0 = (t0 : Int)) (h1 : (pc : Int) + o1 = (t1 : Int)) (ht : (pc : Int) + dflt = (dt : Int))
    (k0 : x = nI 0 → q_Wp G M K X k n t0 lo st A) (k1 : x = nI 1 → q_Wp G M K X k n t1 lo st A) (k2 : ¬ x = nI 0 → ¬ x = nI 1 → q_Wp G M K X k n dt lo st A) : q_Wp G M K X k n pc lo (.int x :: st) A := by
  intro p e s m args below meth c C H locs ls hR hS hl
  by_cases c0 : x = nI 0
  · exact lv_lookup C.1 C.2.1 hd (by rfl) (off := o0) (by rw [c0]; show Op.lookupswitch.offset [(0, o0), (1, o1)] dflt (nI 0).toInt = o0; rw [Op.lookupswitch.offset_cons, if_pos (by decide)]) h0 (k0 c0 p e s m args below meth c C H locs ls hR hS hl)
  · by_cases c1 : x = nI 1
    · exact lv_lookup C.1 C.2.1 hd (by rfl) (off := o1) (by rw [c1]; show Op.lookupswitch.offset [(0, o0), (1, o1)] dflt (nI 1).toInt = o1; rw [Op.lookupswitch.offset_cons, if_neg (by decide), Op.lookupswitch.offset_cons, if_pos (by decide)]) h1 (k1 c1 p e s m args below meth c C H locs ls hR hS hl)
    · refine lv_lookup C.1 C.2.1 hd (by rfl) (off := dflt) ?_ ht (k2 c0 c1 p e s m args below meth c C H locs ls hR hS hl)
      show Op.lookupswitch.offset [(0, o0), (1, o1)] dflt x.toInt = dflt
      rw [lv_osw c0 (by decide), lv_osw c1 (by decide)]
      rfl
theorem q_ib0 {b : Bool} : q_i b = 0 ↔ b = false := by cases b <;> decide
theorem q_ifB_eq {b : Bool} {off : Int} (tgt : Nat) (hd : decode (q_cc M) pc = .ok (.ifCond .eq off, 3)) (ht : (pc : Int) + off = (tgt : Int)) (h1 : b = false → q_Wp G M K X k n tgt lo st A) (h2 : b = true → q_Wp G M K X k n (pc + 3) lo st A) : q_Wp G M K X k n pc lo (.int (q_i b) :: st) A :=
  q_if_eq tgt hd ht (fun c => h1 (q_ib0.mp c)) (fun c => h2 (by cases b with | true => rfl | false => exact absurd rfl c))
theorem q_ifB_ne {b : Bool} {off : Int} (tgt : Nat) (hd : decode (q_cc M) pc = .ok (.ifCond .ne off, 3)) (ht : (pc : Int) + off = (tgt : Int)) (h1 : b = true → q_Wp G M K X k n tgt lo st A) (h2 : b = false → q_Wp G M K X k n (pc + 3) lo st A) : q_Wp G M K X k n pc lo (.int (q_i b) :: st) A :=
  q_if_ne tgt hd ht (fun c => h1 (by cases b with | true => rfl | false => exact absurd rfl c)) (fun c => h2 (q_ib0.mp c))
theorem q_throwW {ik is ic i : Nat} {cls : String} {q : String × Nat × String × List Int32} (hcls : Bundle.fit cls = true) (hk : Cond.classLink M.1.cls ik cls ∈ q_UW) (hini : Cond.initialized cls ∈ q_UW) (hq : q_txt[i]? = some q) (hq1 : q.1 = M.1.cls) (hq2 : q.2.1 = is)
    (hg1 : ∀ w ∈ (vx_atS M.1.cls ic cls ["java/lang/RuntimeException", "java/lang/Exception"]).filter goodWord, w ∈ q_UW) (hg2 : ∀ w ∈ (vx_atS M.1.cls ic cls ["java/lang/RuntimeException", "java/lang/Exception"]).filter (fun w => !goodWord w), w ∈ q_NW) (hgood : ∀ w ∈ Cond.classLink M.1.cls ik cls :: Cond.initialized cls :: vx_atS M.1.cls ic cls ["java/lang/RuntimeException", "java/lang/Exception"], vx_ot w = true)
    (hh : q_hh M = []) (hrm : 6 ≤ (q_rm M).frames ∧ (st.map fun v => v.category).sum + 82 ≤ (q_rm M).locals) (hf : k + 1 ≤ (q_rm M).cells ∧ n + 6 ≤ (q_rm M).slots)
    (d0 : decode (q_cc M) pc = .ok (.new ik, 3)) (d3 : decode (q_cc M) (pc + 3) = .ok (.dup, 1)) (d4 : decode (q_cc M) (pc + 4) = .ok (.ldc_w is, 3)) (d7 : decode (q_cc M) (pc + 7) = .ok (.invokespecial ic, 3)) (d10 : decode (q_cc M) (pc + 10) = .ok (.athrow, 1))
    (h : ∀ z, q_sz A ≤ z → X cls (q_grow A z)) : q_Wp G M K X k n pc lo st A := by
  intro p e s m args below meth c C H locs ls hR hS hl
  obtain ⟨hx, hb, hr, hml, hown, hts, hlk, hnm, htb, hA, hbs⟩ := C
  have htbl : ∀ x ∈ c.exceptionTable.toList, covers x (pc + 10) = false := by
    rw [htb, show q_hh M = [] from hh]
    intro x hx
    cases hx
  have hstr := (hA.2.2.2.2.2.1 i q hq).1
  rw [hq1, hq2] at hstr
  refine vx_throwSW hx hb hA.1 (names := ["java/lang/RuntimeException", "java/lang/Exception"]) hown hcls (by decide +kernel) (hts _ hk) (hts _ hini) hstr ?_ hgood hA.2.2.2.2.2.2.1 hA.2.2.2.2.2.2.2.1 hS (hl.1.trans hml.symm) d0 d3 d4 d7 d10 htbl (by show 2 + 3 < _; omega) (by show _ + (13 * (2 + 1) + 43) ≤ _; omega) hf.1 hf.2 hlk (fun t hW hz ho => ?_) hS.2.2 hf.1 hf.2
  · exact vx_hat (B := (vx_atS M.1.cls ic cls ["java/lang/RuntimeException", "java/lang/Exception"]).filter (fun w => !goodWord w)) (fun w hw => hts _ (hg1 w hw)) (fun w hw => hw) (fun w hw => va_Nw.use (by have := q_NW_nw (hg2 w hw); cases w <;> first | rfl | (simp [q_nw] at this)) (hA.2.1 _ (hg2 w hw)))
  · have hz2 : q_sz A ≤ t.heap.size := by rw [← hR.1]; exact hz
    refine ⟨q_grow A t.heap.size, (hR.gr hz ho).moved hW, ?_, h _ hz2⟩
    exact ⟨Nat.le_trans hS.1 hz, fun q g1 g2 => (ho q (Nat.lt_of_lt_of_le g1 hS.1)).trans (hS.2.1 q g1 g2)⟩
end QP
section QZ
variable {G : q_G} {M : q_M} {K : Option Value → q_H → Prop} {X : String → q_H → Prop} {k n pc : Nat} {lo lo' : List (Option Value)} {st st' : List Value} {A : q_H}
theorem q_aaldS {a j z cc r : Nat} {i : Int32} (hc : q_Rk G cc) (e : i = nI j) (hd : decode (q_cc M) pc = .ok (.aaload, 1)) (hsh : q_sh A a = (60 + cc, z)) (hj : j < z) (hz : z < 2147483648) (hr : q_R A a j = some r) (h : q_Wp G M K X k n (pc + 1) lo (.ref r :: st) A) : q_Wp G M K X k n pc lo (.int i :: .ref a :: st) A :=
  q_aald hc e hd hsh hj hz (by rw [hr]; exact h)
theorem q_aaldN {a j z cc : Nat} {i : Int32} (hc : q_Rk G cc) (e : i = nI j) (hd : decode (q_cc M) pc = .ok (.aaload, 1)) (hsh : q_sh A a = (60 + cc, z)) (hj : j < z) (hz : z < 2147483648) (hr : q_R A a j = none) (h : q_Wp G M K X k n (pc + 1) lo (.null :: st) A) : q_Wp G M K X k n pc lo (.int i :: .ref a :: st) A :=
  q_aald hc e hd hsh hj hz (by rw [hr]; exact h)
end QZ

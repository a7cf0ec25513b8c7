/-! ROWS OF CALLS -/
section QC
variable {G : q_G} {M Mc : q_M} {K K' : Option Value → q_H → Prop} {X X' : String → q_H → Prop} {k n pc : Nat} {lo lo' : List (Option Value)} {st st' : List Value} {A : q_H}
theorem q_Wc.met {as : List Value} (h : q_Wc G M as A K q_nX) : Met (q_l G) M.1 (q_ws M) (q_rm M) (q_Pre G as A) (q_Q G K) (q_rm M).cells (q_rm M).slots (q_F G) := by
  refine MetFree.mono h (fun _ _ h => h) (fun _ _ _ _ _ h => h) (fun a st o t _ h => ?_)
  rcases h with h | ⟨q, rfl, E, ce, L, ⟨A', h1, h2, h3⟩, -⟩
  · exact h
  · exact h3.elim
theorem q_Wc.imp {as : List Value} {K2 : Option Value → q_H → Prop} {X2 : String → q_H → Prop} (h : q_Wc G M as A K X) (hK : ∀ v A', K v A' → K2 v A') (hX : ∀ E A', X E A' → X2 E A') : q_Wc G M as A K2 X2 := by
  refine MetFree.mono h (fun _ _ h => h) (fun _ _ _ _ _ h => h) (fun a st o t _ h => ?_)
  rcases h with ⟨⟨v, A', h1, h2, h3, h4⟩, h5⟩ | ⟨q, rfl, E, ce, L, ⟨A', h1, h2, h3⟩, h4⟩
  · exact Or.inl ⟨⟨v, A', h1, h2, h3, hK _ _ h4⟩, h5⟩
  · exact Or.inr ⟨q, rfl, E, ce, L, ⟨A', h1, h2, hX _ _ h3⟩, h4⟩
theorem q_blind {as : List Value} : FrameBlind (q_Pre G as A) := fun a U g mk ⟨h1, h2, h3⟩ => ⟨h1, h2.moved (U := U.calling g mk a) (Vm.Alike.refl U.vm), q_Amb.same (u := U) (U := U.calling g mk a) rfl h3⟩
theorem q_pre {as : List Value} {s : State} {H : Heap} {locs : List Loc} (hR : q_Rep G A s H) (hS : va_S (q_F G) s.heap H locs) (hA : q_Amb G s s.heap) (U : State) (hU : U.heap = H) (hW : s.WarmedH U.vm) : q_Pre G as A as.toArray U :=
  ⟨rfl, by rw [hU]; exact hR.moved hW.alike, by rw [hU]; exact (hA.kept hS.2.1).warm hW⟩
theorem q_goodIn {L : List Cond} (h : ∀ w ∈ L, w ∈ q_UW) : GoodIn q_UW L := fun w hw => ⟨h w hw, q_UW_good (h w hw)⟩
theorem q_back {p : Program} {e : Env} {s : State} {m : MethodId} {args : Array Value} {below : List Frame} {meth : Method} {c : Code} {H : Heap} {locs : List Loc} {ls : Array Slot} {st0 : List Value} {a : Array Value} (C : q_Cx G M p s m args meth c) (hS : va_S (q_F G) s.heap H locs) (hl : q_has ls lo (q_ml M)) {mc ms : Nat}
    (hr : va_Run p (q_l G) e (q_rm M) s m args below meth c H locs k n mc ms (F0 m pc ls st0) st (q_Q G K' a) (q_F G)) (hk : ∀ v A', K' v A' → q_Wp G M K X (k + mc) (n + ms) (pc + 3) lo (v.toList ++ st) A') :
    W p (q_l G) e (q_rm M) s m args below meth c H locs k n (vx_MQ below (q_Q G K) (q_XC G X) args s (q_rm M).cells (q_rm M).slots (q_F G)) (F0 m pc ls st0) := by
  intro T hT XX
  obtain ⟨v, s0, t, T', L, h0, X2, hL, e1, e2, ⟨v', A', hv, hR', hF, hK⟩, stp⟩ := hr T hT XX
  cases hv
  have hal : s.vm.Alike T'.vm := X2.warmed.alike
  obtain ⟨k1, k2, k3⟩ := vx_keep h0 e1 hS (fun q _ h => h) (fun q h => h) hL hF
  obtain ⟨t2, a1, b1⟩ := hk v A' hK p e s m args below meth c C T'.heap (locs ++ L) ls (by rw [e1]; exact hR'.moved (by rw [← e2]; exact hal.symm)) k3 hl T' rfl X2
  exact ⟨t2, stp t2 a1, b1⟩
/-- the words of a call of Mc at entry idx of own's pool -/
def q_CL (own : String) (idx : Nat) (Mc : q_M) : Prop := Cond.methodLink own idx Mc.1 ∈ q_UW
theorem q_wsU (h : q_MO Mc n) : ∀ w ∈ q_ws Mc, w ∈ q_UW := fun w hw => (List.mem_cons.mp hw).elim (fun e => by rw [e]; exact h.1) id
theorem q_wsE (hh : q_hh Mc = []) : q_ws Mc = Cond.code Mc.1 (q_cc Mc) (q_ml Mc) (q_rt Mc) :: q_UW := by
  show q_hd Mc :: q_UW = _
  have e : q_hd Mc = Cond.code Mc.1 (q_cc Mc) (q_ml Mc) (q_rt Mc) := by
    unfold q_hd
    split
    · rfl
    · rename_i h9; rw [show Mc.2.2.2.2.1 = [] from hh] at h9; cases h9
  rw [e]
theorem q_callV {idx z ci b N : Nat} {T : u_T} {As stk : List Value} (hm : q_MO Mc z) (hi : q_MI Mc) (hl : q_CL M.1.cls idx Mc) (hh : q_hh Mc = []) (hc : vwCl[ci]? = some (Mc.1.cls, T, N)) (hci : ci < 49) (hz : As.length = z)
    (hrm : (q_rm Mc).frames + 1 ≤ (q_rm M).frames ∧ 8 + (q_ml Mc + 11) + (q_rm Mc).locals ≤ (q_rm M).locals) (hf : k + (q_rm Mc).cells ≤ (q_rm M).cells ∧ n + (q_rm Mc).slots ≤ (q_rm M).slots) (hs : stk = As.reverse ++ .ref b :: st) (hcat : (st.map fun v => v.category).sum ≤ 8) (hd : decode (q_cc M) pc = .ok (.invokevirtual idx, 3))
    (hsh : q_sh A b = (ci + 1, 0)) (h : q_Wc G Mc (.ref b :: As) A K' q_nX) (hk : ∀ v A', K' v A' → q_Wp G M K X (k + (q_rm Mc).cells) (n + (q_rm Mc).slots) (pc + 3) lo (v.toList ++ st) A') : q_Wp G M K X k n pc lo stk A := by
  intro p e s m args below meth c C H locs ls hR hS hlo
  subst hs
  have C0 := C
  obtain ⟨hx, hb, hr, hml, hown, hts, hlk, hnm, htb, hA, hbs⟩ := C
  have hMO := hm
  obtain ⟨w1, w2, w3, w4, w5, w6⟩ := hm
  refine q_back C0 hS hlo (va_runV (As := As) (b := b) ⟨hx, hb, hml, hown, hts⟩ h.met (cwV z hts (q_goodIn fun w hw => ?_) (q_wsE hh) rfl rfl ⟨rfl, w3, w4, w5⟩ hrm) ⟨q_blind, va_recv (ci := ci) hR.2.1 (hR.P (q_ent_o hsh hci)) hc (q0 := 0) rfl, fun U hU hW => q_pre hR hS hA U hU hW⟩ rfl hz hlo.1 rfl (lv_room hcat) hd hf) hk
  unfold wsV at hw
  rcases List.mem_append.mp hw with hw | hw
  · simp only [List.mem_cons, List.not_mem_nil, or_false] at hw
    rcases hw with rfl | rfl | rfl | rfl
    · exact hl
    · exact hi.1
    · exact hi.2
    · exact w2
  · exact q_wsU hMO w hw
theorem q_callS {idx z : Nat} {As stk : List Value} (hm : q_MO Mc z) (hi : Cond.static Mc.1 ∈ q_UW) (hl : q_CL M.1.cls idx Mc) (hh : q_hh Mc = []) (hz : As.length = z)
    (hrm : (q_rm Mc).frames + 1 ≤ (q_rm M).frames ∧ 8 + (q_ml Mc + 11) + (q_rm Mc).locals ≤ (q_rm M).locals) (hf : k + (q_rm Mc).cells ≤ (q_rm M).cells ∧ n + (q_rm Mc).slots ≤ (q_rm M).slots) (hs : stk = As.reverse ++ st) (hcat : (st.map fun v => v.category).sum ≤ 8) (hd : decode (q_cc M) pc = .ok (.invokestatic idx, 3))
    (h : q_Wc G Mc As A K' q_nX) (hk : ∀ v A', K' v A' → q_Wp G M K X (k + (q_rm Mc).cells) (n + (q_rm Mc).slots) (pc + 3) lo (v.toList ++ st) A') : q_Wp G M K X k n pc lo stk A := by
  intro p e s m args below meth c C H locs ls hR hS hlo
  subst hs
  have C0 := C
  obtain ⟨hx, hb, hr, hml, hown, hts, hlk, hnm, htb, hA, hbs⟩ := C
  have hMO := hm
  obtain ⟨w1, w2, w3, w4, w5, w6⟩ := hm
  refine q_back C0 hS hlo (va_runS (As := As) ⟨hx, hb, hml, hown, hts⟩ h.met (va_cwS z hts (q_goodIn fun w hw => ?_) (q_wsE hh) rfl rfl ⟨w3, w4, w5⟩ hrm) ⟨q_blind, fun U hU hW => q_pre hR hS hA U hU hW⟩ rfl hz hlo.1 rfl (lv_room hcat) hd hf) hk
  unfold va_wsS at hw
  rcases List.mem_append.mp hw with hw | hw
  · simp only [List.mem_cons, List.not_mem_nil, or_false] at hw
    rcases hw with rfl | rfl | rfl
    · exact hl
    · exact hi
    · exact w2
  · exact q_wsU hMO w hw
/-- a constructor, by an ordinary link or by a nest mate's -/
theorem q_callI {idx z b : Nat} {As stk : List Value} (hm : q_MO Mc z) (hi : Cond.instanceMethod Mc.1 ∈ q_UW) (hl : q_CL M.1.cls idx Mc ∨ ∃ host, Cond.methodLinkNest M.1.cls idx Mc.1 host ∈ q_NW) (hh : q_hh Mc = []) (hni : Mc.1.name = "<init>") (hrt : q_rt Mc = none) (hz : As.length = z)
    (hrm : (q_rm Mc).frames + 1 ≤ (q_rm M).frames ∧ 8 + (q_ml Mc + 11) + (q_rm Mc).locals ≤ (q_rm M).locals) (hf : k + (q_rm Mc).cells ≤ (q_rm M).cells ∧ n + (q_rm Mc).slots ≤ (q_rm M).slots) (hs : stk = As.reverse ++ .ref b :: st) (hcat : (st.map fun v => v.category).sum ≤ 8) (hd : decode (q_cc M) pc = .ok (.invokespecial idx, 3))
    (h : q_Wc G Mc (.ref b :: As) A K' q_nX) (hk : ∀ v A', K' v A' → q_Wp G M K X (k + (q_rm Mc).cells) (n + (q_rm Mc).slots) (pc + 3) lo (v.toList ++ st) A') : q_Wp G M K X k n pc lo stk A := by
  intro p e s m args below meth c C H locs ls hR hS hlo
  subst hs
  have C0 := C
  obtain ⟨hx, hb, hr, hml, hown, hts, hlk, hnm, htb, hA, hbs⟩ := C
  have hMO := hm
  obtain ⟨w1, w2, w3, w4, w5, w6⟩ := hm
  have hE : q_ws Mc = Cond.code Mc.1 (q_cc Mc) (q_ml Mc) none :: q_UW := by rw [q_wsE hh, show q_rt Mc = none from hrt]
  rcases hl with hl | ⟨host, hl⟩
  · exact q_back C0 hS hlo (va_runI (As := As) (b := b) ⟨hx, hb, hml, hown, hts⟩ h.met (cwI z hts (q_goodIn (q_wsU hMO)) hE rfl rfl (hts _ w2) (hts _ hl) (hts _ hi) hni ⟨w3, w4, w5⟩ hrm) ⟨q_blind, fun U hU hW => q_pre hR hS hA U hU hW⟩ rfl hz hlo.1 rfl (lv_room hcat) hd hf) hk
  · exact q_back C0 hS hlo (va_runIN (As := As) (b := b) ⟨hx, hb, hml, hown, hts⟩ h.met ⟨va_cnB z hts (q_goodIn (q_wsU hMO)) hE rfl rfl (hA.2.1 _ hl) (hts _ w2) ⟨w3, w4, w5⟩ hrm, hni, hts _ hi⟩ ⟨q_blind, fun U hU hW => q_pre hR hS hA U hU hW⟩ rfl hz hlo.1 rfl (lv_room hcat) hd hf) hk
/-- Object's own constructor -/
theorem q_obj {idx b : Nat} (hw1 : Cond.methodLink M.1.cls idx Lib.objectInit ∈ q_UW) (hw2 : Cond.instanceMethod Lib.objectInit ∈ q_UW) (hw3 : Cond.code Lib.objectInit ⟨#[0xb1]⟩ 1 none ∈ q_UW) (hfr : 1 ≤ (q_rm M).frames) (hlo2 : (st.map fun v => v.category).sum + 12 ≤ (q_rm M).locals) (hd : decode (q_cc M) pc = .ok (.invokespecial idx, 3)) (h : q_Wp G M K X k n (pc + 3) lo st A) : q_Wp G M K X k n pc lo (.ref b :: st) A := by
  intro p e s m args below meth c C H locs ls hR hS hl
  have k2 := h p e s m args below meth c C H locs ls hR hS hl
  obtain ⟨hx, hb, hr, hml, hown, hts, hlk, hnm, htb, hA, hbs⟩ := C
  refine W.objInit hx hb hown (hts _ hw1) (hts _ hw2) (hts _ hw3) rfl (by rw [hml]; exact hl.1) rfl hd hfr (by show 2 * 0 + _ + 12 ≤ _; omega) ?_
  exact k2
/-- 'throw new E("text")' -/
theorem q_throw {ik is ic i : Nat} {cls : String} {q : String × Nat × String × List Int32} (hcls : Bundle.fit cls = true) (hk : Cond.classLink M.1.cls ik cls ∈ q_UW) (hini : Cond.initialized cls ∈ q_UW) (hq : q_txt[i]? = some q) (hq1 : q.1 = M.1.cls) (hq2 : q.2.1 = is)
    (hg1 : ∀ w ∈ (vx_atS M.1.cls ic cls ["java/lang/RuntimeException", "java/lang/Exception"]).filter goodWord, w ∈ q_UW) (hg2 : ∀ w ∈ (vx_atS M.1.cls ic cls ["java/lang/RuntimeException", "java/lang/Exception"]).filter (fun w => !goodWord w), w ∈ q_NW) (hgood : ∀ w ∈ Cond.classLink M.1.cls ik cls :: Cond.initialized cls :: vx_atS M.1.cls ic cls ["java/lang/RuntimeException", "java/lang/Exception"], vx_ot w = true)
    (hh : q_hh M = []) (hrm : 6 ≤ (q_rm M).frames ∧ (st.map fun v => v.category).sum + 82 ≤ (q_rm M).locals) (hf : k + 1 ≤ (q_rm M).cells ∧ n + 6 ≤ (q_rm M).slots)
    (d0 : decode (q_cc M) pc = .ok (.new ik, 3)) (d3 : decode (q_cc M) (pc + 3) = .ok (.dup, 1)) (d4 : decode (q_cc M) (pc + 4) = .ok (.ldc is, 2)) (d6 : decode (q_cc M) (pc + 6) = .ok (.invokespecial ic, 3)) (d9 : decode (q_cc M) (pc + 9) = .ok (.athrow, 1))
    (h : ∀ z, q_sz A ≤ z → X cls (q_grow A z)) : q_Wp G M K X k n pc lo st A := by
  intro p e s m args below meth c C H locs ls hR hS hl
  obtain ⟨hx, hb, hr, hml, hown, hts, hlk, hnm, htb, hA, hbs⟩ := C
  have htbl : ∀ x ∈ c.exceptionTable.toList, covers x (pc + 9) = false := by
    rw [htb, show q_hh M = [] from hh]
    intro x hx
    cases hx
  have hstr := (hA.2.2.2.2.2.1 i q hq).1
  rw [hq1, hq2] at hstr
  refine vx_throwS hx hb hA.1 (names := ["java/lang/RuntimeException", "java/lang/Exception"]) hown hcls (by decide +kernel) (hts _ hk) (hts _ hini) hstr ?_ hgood hA.2.2.2.2.2.2.1 hA.2.2.2.2.2.2.2.1 hS (hl.1.trans hml.symm) d0 d3 d4 d6 d9 htbl (by show 2 + 3 < _; omega) (by show _ + (13 * (2 + 1) + 43) ≤ _; omega) hf.1 hf.2 hlk (fun t hW hz ho => ?_) hS.2.2 hf.1 hf.2
  · exact vx_hat (B := (vx_atS M.1.cls ic cls ["java/lang/RuntimeException", "java/lang/Exception"]).filter (fun w => !goodWord w)) (fun w hw => hts _ (hg1 w hw)) (fun w hw => hw) (fun w hw => va_Nw.use (by have := q_NW_nw (hg2 w hw); cases w <;> first | rfl | (simp [q_nw] at this)) (hA.2.1 _ (hg2 w hw)))
  · have hz2 : q_sz A ≤ t.heap.size := by rw [← hR.1]; exact hz
    refine ⟨q_grow A t.heap.size, (hR.gr hz ho).moved hW, ?_, h _ hz2⟩
    exact ⟨Nat.le_trans hS.1 hz, fun q g1 g2 => (ho q (Nat.lt_of_lt_of_le g1 hS.1)).trans (hS.2.1 q g1 g2)⟩
end QC

/-! WHAT STANDS BESIDE THE HEAP AT THE START -/
abbrev st_NL : List Cond := flatC (Jvm.Cond.and given_1 narrow_1)
def st_tx (q : String × Nat × String × List Int32) : List Cond := [.exactly (.string q.1 q.2.1) "java/lang/String", .eq (.field (.string q.1 q.2.1) "java/lang/String" "coder" "B") (.int 0), .arrayOf (.field (.string q.1 q.2.1) "java/lang/String" "value" "[B") .byte, .eq (.length (.field (.string q.1 q.2.1) "java/lang/String" "value" "[B")) (.int (Int32.ofNat q.2.2.2.length))] ++ (List.range q.2.2.2.length).map fun j => .eq (.elem (.field (.string q.1 q.2.1) "java/lang/String" "value" "[B") (.int (Int32.ofNat j))) (.int (q.2.2.2.getD j 0))
def st_ne : Cond → Bool
  | .eq (.string _ _) (.string _ _) => false
  | _ => true
theorem st_txs : ((st_NL.drop 166).take 531).filter st_ne = q_txt.flatMap st_tx := by decide +kernel
theorem st_in {c : Cond} {q : String × Nat × String × List Int32} (hq : q ∈ q_txt) (hc : c ∈ st_tx q) : c ∈ st_NL := by
  have : c ∈ ((st_NL.drop 166).take 531).filter st_ne := by
    rw [st_txs]
    exact List.mem_flatMap.mpr ⟨q, hq, hc⟩
  exact List.mem_of_mem_drop (List.mem_of_mem_take (List.mem_filter.mp this).1)
theorem st_strs : (q_txt.all fun q => lw_tbl.contains (.stringRef q.1 q.2.1 q.2.2.1) && decide (q.2.2.2.length < 100)) = true := by decide +kernel
def st_sa (i : Nat) : List Cond := [.exactly (.static RX10 (q_sname i) "[I") "[I", .arrayOf (.static RX10 (q_sname i) "[I") .int, .eq (.length (.static RX10 (q_sname i) "[I")) (.int (Int32.ofNat 8))] ++ (List.range 8).map fun j => .eq (.elem (.static RX10 (q_sname i) "[I") (.int (Int32.ofNat j))) (.int ((q_sval i).getD j 0))
theorem st_sas : ([0, 1, 2].all fun i => lw_tbl.contains (.laysStatic RX10 (q_sname i) "[I") && (st_sa i).all fun c => st_NL.contains c) = true := by decide +kernel
theorem st_nc : (q_ncs.all fun q => st_NL.contains (.not (.castable q.1 q.2))) = true := by decide +kernel
theorem st_ao : (q_ao.all fun C => lw_tbl.contains (.arrayOver (.object C))) = true := by decide +kernel
theorem st_nw_on {w : Cond} (h : q_nw w = true) : w.onTables = true := by
  cases w <;> first | rfl | (simp [q_nw] at h)
theorem st_len {args : Array Value} {s : State} {t : Term} {v : Value} (h : (Term.length t).eval args s none [] s = some v) : ∃ a cell, t.eval args s none [] s = some (.ref a) ∧ s.heap[a]? = some cell ∧ cell.slots.size < 2147483648 ∧ v = .int cell.slots.size.toInt32 := by
  obtain ⟨a, cell, ht, harr, e⟩ := Term.length_spec h
  have hsz : cell.slots.size < 2147483648 := by
    simp only [Term.eval, ht, harr, Option.bind_eq_bind, Option.bind_some] at h
    by_cases hlt : cell.slots.size < 2147483648
    · exact hlt
    · simp [hlt] at h
  exact ⟨a, cell, ht, (State.arrayAt?_spec harr).1, hsz, e⟩
set_option maxHeartbeats 4000000 in
theorem st_amb {s : State} {b L : Nat} {xs : Nat → Int32} (l : Launch) (hflags : l.flags = flags0) (hts : ∀ w ∈ lw_tbl, w.before #[Value.ref b] s = true) (hgv : (Jvm.Cond.and given_1 narrow_1).before #[Value.ref b] s = true) (hX : va_X b L xs s s.heap) (hbl : b < s.heap.size) :
    ∃ st aK aV : Nat → Nat, ∀ (D : va_G) (tA : Nat → ClassId), s.vm.findClass "[I" = some (tA 50) → q_Amb (l, D, tA, s.heap.size, st, aK, aV, b, L, xs) s s.heap := by
  have hn : ∀ c ∈ st_NL, c.before #[Value.ref b] s = true := flat_of_before _ hgv
  have hA : ∀ a : Nat, a < s.heap.size → ¬ (fun q : Nat => s.heap.size ≤ q) a := fun a ha => Nat.not_le.mpr ha
  have h0 : ∀ i : Nat, ∃ t : Nat, i < 3 → va_Z RX10 (q_sname i) "[I" (.ref t) (fun q : Nat => s.heap.size ≤ q) s s.heap ∧ va_T .int t 8 (fun j => .int ((q_sval i).getD j 0)) (fun q : Nat => s.heap.size ≤ q) s s.heap ∧ ∀ cI : ClassId, s.vm.findClass "[I" = some cI → ∃ cell : Cell, s.heap[t]? = some cell ∧ cell.cls = cI ∧ cell.slots.size = 8 ∧ ¬ (fun q : Nat => s.heap.size ≤ q) t := by
    intro i
    by_cases hi : i < 3
    · have m := List.all_eq_true.mp st_sas i (by
        have : i = 0 ∨ i = 1 ∨ i = 2 := by omega
        rcases this with e | e | e <;> subst e <;> simp)
      rw [Bool.and_eq_true] at m
      have hs : ∀ c ∈ st_sa i, c.before #[Value.ref b] s = true := fun c hc => hn c (by
        have := List.all_eq_true.mp m.2 c hc
        simpa using this)
      have hl : (Cond.laysStatic RX10 (q_sname i) "[I").before #[Value.ref b] s = true := hts _ (by simpa using m.1)
      obtain ⟨t, ht, hT⟩ := va_Tof (tm := .static RX10 (q_sname i) "[I") (ty := .int) (N := 8) (f := fun j => .int ((q_sval i).getD j 0)) (by decide) (hs _ (by simp [st_sa])) (va_eqt (hs _ (by simp [st_sa]))) (fun j hj => va_eqt (hs _ (List.mem_append_right _ (List.mem_map.mpr ⟨j, List.mem_range.mpr hj, rfl⟩)))) hA
      refine ⟨t, fun _ => ⟨va_Zref hl (hts (.initialized RX10) (by decide +kernel)) ht hA, hT, fun cI hcI => ?_⟩⟩
      have hex : (Cond.exactly (.static RX10 (q_sname i) "[I") "[I").before #[Value.ref b] s = true := hs _ (by simp [st_sa])
      obtain ⟨a, c, cA, kA, q1, q2, q3, q4, q5, q6, -⟩ := Cond.exactly_spec (args := #[Value.ref b]) (first := s) (o := none) (s := s) (idx := []) (t := .static RX10 (q_sname i) "[I") (cls := "[I") hex
      cases ht.symm.trans q1
      cases hcI.symm.trans q2
      have hlen : (Term.length (.static RX10 (q_sname i) "[I")).eval #[Value.ref b] s none [] s = some (.int (Int32.ofNat 8)) := va_eqt (hs _ (by simp [st_sa]))
      refine ⟨cA, q3, q6, ?_, hA _ (Array.getElem?_eq_some_iff.mp q3).1⟩
      obtain ⟨t2, cell, ht2, hcell, hlt, hv⟩ := st_len hlen
      cases ht.symm.trans ht2
      cases q3.symm.trans hcell
      have e8 : nI 8 = nI cA.slots.size := Value.int.inj hv
      exact ((nI_eq (by decide) hlt).mp e8).symm
    · exact ⟨0, fun h => absurd h hi⟩
  obtain ⟨st, hst⟩ := Classical.axiomOfChoice h0
  have h1 : ∀ i : Nat, ∃ p : Nat × Nat, ∀ q, q_txt[i]? = some q → vk_R q.1 q.2.1 q.2.2.1 p.1 s ∧ va_O "java/lang/String" p.1 (fun q : Nat => s.heap.size ≤ q) s s.heap ∧ va_OF "java/lang/String" "coder" "B" (.int 0) p.1 (fun q : Nat => s.heap.size ≤ q) s s.heap ∧ va_OF "java/lang/String" "value" "[B" (.ref p.2) p.1 (fun q : Nat => s.heap.size ≤ q) s s.heap ∧ va_T .byte p.2 q.2.2.2.length (fun j => .int (q.2.2.2.getD j 0)) (fun q : Nat => s.heap.size ≤ q) s s.heap := by
    intro i
    cases hq : q_txt[i]? with
    | none => exact ⟨(0, 0), fun q e => by cases e⟩
    | some q =>
      have hm := List.mem_of_getElem? hq
      have m := List.all_eq_true.mp st_strs q hm
      rw [Bool.and_eq_true] at m
      have hlen : q.2.2.2.length < 100 := of_decide_eq_true m.2
      have hex : (Cond.exactly (.string q.1 q.2.1) "java/lang/String").before #[Value.ref b] s = true := hn _ (st_in hm (by simp [st_tx]))
      obtain ⟨a, c, cA, kA, q1, -⟩ := Cond.exactly_spec (args := #[Value.ref b]) (first := s) (o := none) (s := s) (idx := []) (t := .string q.1 q.2.1) (cls := "java/lang/String") hex
      obtain ⟨t, ht, hT⟩ := va_Tof (tm := .field (.string q.1 q.2.1) "java/lang/String" "value" "[B") (ty := .byte) (N := q.2.2.2.length) (f := fun j => .int (q.2.2.2.getD j 0)) (by omega) (hn _ (st_in hm (by simp [st_tx]))) (va_eqt (hn _ (st_in hm (by simp [st_tx])))) (fun j hj => va_eqt (hn _ (st_in hm (List.mem_append_right _ (List.mem_map.mpr ⟨j, List.mem_range.mpr hj, rfl⟩))))) hA
      refine ⟨(a, t), fun q' e => ?_⟩
      cases e
      exact ⟨vk_R.of (hts (.stringRef q.1 q.2.1 q.2.2.1) (by simpa using m.1)) q1, va_Oof hex q1 hA, vk_OFof q1 (va_eqt (hn _ (st_in hm (by simp [st_tx])))) hA, vk_OFof q1 ht hA, hT⟩
  obtain ⟨ad, had⟩ := Classical.axiomOfChoice h1
  refine ⟨st, fun i => (ad i).1, fun i => (ad i).2, fun D tA htA => ⟨?_, fun w hw => ?_, fun C hC => ?_, fun q hq => ?_, fun i hi => ⟨(hst i hi).1, (hst i hi).2.1, (hst i hi).2.2 _ htA⟩, fun i q hq => had i q hq, ?_, ?_, hX, Nat.not_le.mpr hbl, ?_, ?_⟩⟩
  · show l.stackTraces = false
    unfold Launch.stackTraces
    rw [hflags]
    decide +kernel
  · have h2 := List.mem_filter.mp hw
    exact va_Nw.of (st_nw_on h2.2) (hts w h2.1)
  · have := List.all_eq_true.mp st_ao C hC
    exact va_AO.of (hts _ (by simpa using this))
  · have := List.all_eq_true.mp st_nc q hq
    exact va_Nc.of (hn _ (by simpa using this))
  · exact vx_Zqof (args := #[Value.ref b]) (hts _ (by decide +kernel)) (hts _ (by decide +kernel)) (hn _ (by decide +kernel)) hA
  · exact vx_Zqof (args := #[Value.ref b]) (hts _ (by decide +kernel)) (hts _ (by decide +kernel)) (hn _ (by decide +kernel)) hA
  · exact va_Zof (args := #[Value.ref b]) (hts (.laysStatic RJ0 "COMPACT_STRINGS" "Z") (by decide +kernel)) (hts (.initialized RJ0) (by decide +kernel)) (va_eqi (hn (.eq (.static RJ0 "COMPACT_STRINGS" "Z") (.int 1)) (by decide +kernel))) hA
  · exact va_Zqof (args := #[Value.ref b]) (hts (.laysStatic RJ3 "SIOOBE_FORMATTER" "Ljava/util/function/BiFunction;") (by decide +kernel)) (hts (.initialized RJ3) (by decide +kernel)) (hn (.isRef (.static RJ3 "SIOOBE_FORMATTER" "Ljava/util/function/BiFunction;")) (by decide +kernel)) hA

/-! CONDITIONS: Heap -/
theorem f_J7_fill_53178 {G : q_G} {X : String → q_H → Prop} {f : q_H → Prop} {A : q_H} {a0 : Nat} {x1 : Int32} (h : ∃ z2 : Nat, q_sh A a0 = (50, z2) ∧ z2 < 2147483648 ∧ q_Wp G M_J7_fill_53178 (q_KV f) X 0 0 5 [some (.ref a0), some (.int x1), some (.int (nI 0)), some (.int (nI z2))] [] A) : q_Wc G M_J7_fill_53178 [.ref a0, .int x1] A (q_KV f) X := by
  refine q_Wc.of [some (.ref a0), some (.int x1), none, none] mo_J7_fill_53178.2.2.2.2.2 rfl (Nat.le_of_ble_eq_true rfl) rfl ?_
  refine q_blk (pc' := 3) (lo' := [some (.ref a0), some (.int x1), some (.int (nI 0)), none]) (st' := [.ref a0]) [.iconst 0, .istore_n 2, .aload_n 0] (by decide +kernel) rfl ?_
  obtain ⟨z2, s1, b3, h⟩ := h
  refine q_alenI (by decide +kernel) s1 ?_
  refine q_blk (pc' := 5) (lo' := [some (.ref a0), some (.int x1), some (.int (nI 0)), some (.int (nI z2))]) (st' := []) [.istore_n 3] (by decide +kernel) rfl ?_
  exact h
theorem f_J7_fill_53178_5 {G : q_G} {X : String → q_H → Prop} {f : q_H → Prop} {A : q_H} {a0 : Nat} {x1 : Int32} {x2 : Int32} {x3 : Int32} (h : ((x3 ≤ x2 → f A) ∧ (¬ x3 ≤ x2 → ∃ z3 : Nat, q_sh A a0 = (50, z3) ∧ z3 < 2147483648 ∧ ∃ j5 : Nat, x2 = nI j5 ∧ j5 < z3 ∧ q_Wp G M_J7_fill_53178 (q_KV f) X 0 0 5 [some (.ref a0), some (.int x1), some (.int (x2 + (nI 1))), some (.int x3)] [] (q_setI A a0 j5 x1)))) : q_Wp G M_J7_fill_53178 (q_KV f) X 0 0 5 [some (.ref a0), some (.int x1), some (.int x2), some (.int x3)] [] A := by
  refine q_blk (pc' := 7) (lo' := [some (.ref a0), some (.int x1), some (.int x2), some (.int x3)]) (st' := [.int x3, .int x2]) [.iload_n 2, .iload_n 3] (by decide +kernel) rfl ?_
  refine q_icmp_ge 20 (off := 13) (by decide +kernel) (by decide) (fun c1 => ?_) (fun c1 => ?_)
  · have h := h.1 c1
    exact q_ret0 rfl (by decide) (by decide) (by decide +kernel) ⟨rfl, h⟩
  · have h := h.2 c1
    refine q_blk (pc' := 13) (lo' := [some (.ref a0), some (.int x1), some (.int x2), some (.int x3)]) (st' := [.int x1, .int x2, .ref a0]) [.aload_n 0, .iload_n 2, .iload_n 1] (by decide +kernel) rfl ?_
    obtain ⟨z3, s2, b4, h⟩ := h
    obtain ⟨j5, e6, h⟩ := h
    obtain ⟨l7, h⟩ := h
    refine q_iast e6 (by decide +kernel) s2 l7 b4 ?_
    refine q_blk (pc' := 17) (lo' := [some (.ref a0), some (.int x1), some (.int (x2 + (nI 1))), some (.int x3)]) (st' := []) [.iinc 2 1] (by decide +kernel) rfl ?_
    refine q_goto 5 (off := -12) (by decide +kernel) (by decide) ?_
    exact h
theorem f_X2_init {G : q_G} {X : String → q_H → Prop} {f : q_H → Prop} {A : q_H} {a0 : Nat} (h : q_sh (q_new A 50 6) a0 = (3, 0) ∧ f (q_setR (q_new A 50 6) a0 0 (some (q_sz A)))) : q_Wc G M_X2_init [.ref a0] A (q_KV f) X := by
  refine q_Wc.of [some (.ref a0)] mo_X2_init.2.2.2.2.2 rfl (Nat.le_of_ble_eq_true rfl) rfl ?_
  refine q_blk (pc' := 1) (lo' := [some (.ref a0)]) (st' := [.ref a0]) [.aload_n 0] (by decide +kernel) rfl ?_
  refine q_obj ob_X2_3.1 ob_X2_3.2.1 ob_X2_3.2.2 (by decide) (Nat.le_of_ble_eq_true rfl) (by decide +kernel) ?_
  refine q_blk (pc' := 7) (lo' := [some (.ref a0)]) (st' := [.int (nI 6), .ref a0]) [.aload_n 0, .bipush 6] (by decide +kernel) rfl ?_
  refine q_newI (z := 6) ac_int rfl (by decide) (by decide) (by decide) (by decide +kernel) ?_
  have s1 : q_sh (q_new A 50 6) (q_sz A) = (50, 6) := q_shn _ _ _
  obtain ⟨s2, h⟩ := h
  refine q_putP (v := (some (q_sz A))) fp_X2_9 rfl rfl (by decide) (by decide +kernel) s2 ?_
  exact q_ret0 rfl (by decide) (by decide) (by decide +kernel) ⟨rfl, h⟩
theorem f_X2_of {G : q_G} {X : String → q_H → Prop} {f : Int32 → q_H → Prop} {A : q_H} {a0 : Nat} {x1 : Int32} (h : ((x1 < nI 0 → f (nI 0) A) ∧ (¬ x1 < nI 0 → q_sh A a0 = (3, 0) ∧ ∃ r3 : Nat, q_R A a0 0 = some r3 ∧ ∃ z6 : Nat, q_sh A r3 = (50, z6) ∧ z6 < 2147483648 ∧ (((nI z6) ≤ x1 → f (nI 0) A) ∧ (¬ (nI z6) ≤ x1 → ∃ j9 : Nat, x1 = nI j9 ∧ j9 < z6 ∧ f (q_I A r3 j9) A))))) : q_Wc G M_X2_of [.ref a0, .int x1] A (q_KI f) X := by
  refine q_Wc.of [some (.ref a0), some (.int x1)] mo_X2_of.2.2.2.2.2 rfl (Nat.le_of_ble_eq_true rfl) rfl ?_
  refine q_blk (pc' := 1) (lo' := [some (.ref a0), some (.int x1)]) (st' := [.int x1]) [.iload_n 1] (by decide +kernel) rfl ?_
  refine q_if_lt 22 (off := 21) (by decide +kernel) (by decide) (fun c1 => ?_) (fun c1 => ?_)
  · have h := h.1 c1
    refine q_blk (pc' := 23) (lo' := [some (.ref a0), some (.int x1)]) (st' := [.int (nI 0)]) [.iconst 0] (by decide +kernel) rfl ?_
    exact q_retI rfl (by decide) (by decide) (by decide +kernel) ⟨_, rfl, h⟩
  · have h := h.2 c1
    refine q_blk (pc' := 6) (lo' := [some (.ref a0), some (.int x1)]) (st' := [.ref a0, .int x1]) [.iload_n 1, .aload_n 0] (by decide +kernel) rfl ?_
    obtain ⟨s2, h⟩ := h
    obtain ⟨r3, e4, h⟩ := h
    refine q_getR fl_X2_9 rfl (by decide) (by decide +kernel) s2 e4 ?_
    obtain ⟨z6, s5, b7, h⟩ := h
    refine q_alenI (by decide +kernel) s5 ?_
    refine q_icmp_ge 22 (off := 12) (by decide +kernel) (by decide) (fun c8 => ?_) (fun c8 => ?_)
    · have h := h.1 c8
      refine q_blk (pc' := 23) (lo' := [some (.ref a0), some (.int x1)]) (st' := [.int (nI 0)]) [.iconst 0] (by decide +kernel) rfl ?_
      exact q_retI rfl (by decide) (by decide) (by decide +kernel) ⟨_, rfl, h⟩
    · have h := h.2 c8
      refine q_blk (pc' := 14) (lo' := [some (.ref a0), some (.int x1)]) (st' := [.ref a0]) [.aload_n 0] (by decide +kernel) rfl ?_
      refine q_getR fl_X2_9 rfl (by decide) (by decide +kernel) s2 e4 ?_
      refine q_blk (pc' := 18) (lo' := [some (.ref a0), some (.int x1)]) (st' := [.int x1, .ref r3]) [.iload_n 1] (by decide +kernel) rfl ?_
      obtain ⟨j9, e10, h⟩ := h
      obtain ⟨l11, h⟩ := h
      refine q_iald e10 (by decide +kernel) s5 l11 b7 ?_
      refine q_goto 23 (off := 4) (by decide +kernel) (by decide) ?_
      exact q_retI rfl (by decide) (by decide) (by decide +kernel) ⟨_, rfl, h⟩
theorem f_X2_put {G : q_G} {X : String → q_H → Prop} {f : q_H → Prop} {A : q_H} {a0 : Nat} {x1 : Int32} {x2 : Int32} (h : ((x1 < nI 0 → f A) ∧ (¬ x1 < nI 0 → q_sh A a0 = (3, 0) ∧ ∃ r3 : Nat, q_R A a0 0 = some r3 ∧ ∃ z6 : Nat, q_sh A r3 = (50, z6) ∧ z6 < 2147483648 ∧ (((nI z6) ≤ x1 → f A) ∧ (¬ (nI z6) ≤ x1 → ∃ j9 : Nat, x1 = nI j9 ∧ j9 < z6 ∧ f (q_setI (q_setI A r3 j9 ((q_I A r3 j9) + x2)) a0 1 ((q_I (q_setI A r3 j9 ((q_I A r3 j9) + x2)) a0 1) + x2))))))) : q_Wc G M_X2_put [.ref a0, .int x1, .int x2] A (q_KV f) X := by
  refine q_Wc.of [some (.ref a0), some (.int x1), some (.int x2)] mo_X2_put.2.2.2.2.2 rfl (Nat.le_of_ble_eq_true rfl) rfl ?_
  refine q_blk (pc' := 1) (lo' := [some (.ref a0), some (.int x1), some (.int x2)]) (st' := [.int x1]) [.iload_n 1] (by decide +kernel) rfl ?_
  refine q_if_lt 33 (off := 32) (by decide +kernel) (by decide) (fun c1 => ?_) (fun c1 => ?_)
  · have h := h.1 c1
    exact q_ret0 rfl (by decide) (by decide) (by decide +kernel) ⟨rfl, h⟩
  · have h := h.2 c1
    refine q_blk (pc' := 6) (lo' := [some (.ref a0), some (.int x1), some (.int x2)]) (st' := [.ref a0, .int x1]) [.iload_n 1, .aload_n 0] (by decide +kernel) rfl ?_
    obtain ⟨s2, h⟩ := h
    obtain ⟨r3, e4, h⟩ := h
    refine q_getR fl_X2_9 rfl (by decide) (by decide +kernel) s2 e4 ?_
    obtain ⟨z6, s5, b7, h⟩ := h
    refine q_alenI (by decide +kernel) s5 ?_
    refine q_icmp_ge 33 (off := 23) (by decide +kernel) (by decide) (fun c8 => ?_) (fun c8 => ?_)
    · have h := h.1 c8
      exact q_ret0 rfl (by decide) (by decide) (by decide +kernel) ⟨rfl, h⟩
    · have h := h.2 c8
      refine q_blk (pc' := 14) (lo' := [some (.ref a0), some (.int x1), some (.int x2)]) (st' := [.ref a0]) [.aload_n 0] (by decide +kernel) rfl ?_
      refine q_getR fl_X2_9 rfl (by decide) (by decide +kernel) s2 e4 ?_
      refine q_blk (pc' := 19) (lo' := [some (.ref a0), some (.int x1), some (.int x2)]) (st' := [.int x1, .ref r3, .int x1, .ref r3]) [.iload_n 1, .dup2] (by decide +kernel) rfl ?_
      obtain ⟨j9, e10, h⟩ := h
      obtain ⟨l11, h⟩ := h
      refine q_iald e10 (by decide +kernel) s5 l11 b7 ?_
      refine q_blk (pc' := 22) (lo' := [some (.ref a0), some (.int x1), some (.int x2)]) (st' := [.int ((q_I A r3 j9) + x2), .int x1, .ref r3]) [.iload_n 2, .iadd] (by decide +kernel) rfl ?_
      refine q_iast e10 (by decide +kernel) s5 l11 b7 ?_
      refine q_blk (pc' := 25) (lo' := [some (.ref a0), some (.int x1), some (.int x2)]) (st' := [.ref a0, .ref a0]) [.aload_n 0, .dup] (by decide +kernel) rfl ?_
      refine q_getI fl_X2_15 rfl (by decide) (by decide +kernel) s2 ?_
      refine q_blk (pc' := 30) (lo' := [some (.ref a0), some (.int x1), some (.int x2)]) (st' := [.int ((q_I (q_setI A r3 j9 ((q_I A r3 j9) + x2)) a0 1) + x2), .ref a0]) [.iload_n 2, .iadd] (by decide +kernel) rfl ?_
      refine q_putI fw_X2_15 rfl (by decide) (by decide +kernel) s2 ?_
      exact q_ret0 rfl (by decide) (by decide) (by decide +kernel) ⟨rfl, h⟩
theorem f_X2_clear {G : q_G} {X : String → q_H → Prop} {f : q_H → Prop} {A : q_H} {a0 : Nat} (h : q_sh A a0 = (3, 0) ∧ ∃ r2 : Nat, q_R A a0 0 = some r2 ∧ q_Wc G M_J7_fill_53178 [.ref r2, .int (nI 0)] A (q_KV fun A4 => q_sh A4 a0 = (3, 0) ∧ f (q_setI A4 a0 1 (nI 0))) q_nX) : q_Wc G M_X2_clear [.ref a0] A (q_KV f) X := by
  refine q_Wc.of [some (.ref a0)] mo_X2_clear.2.2.2.2.2 rfl (Nat.le_of_ble_eq_true rfl) rfl ?_
  refine q_blk (pc' := 1) (lo' := [some (.ref a0)]) (st' := [.ref a0]) [.aload_n 0] (by decide +kernel) rfl ?_
  obtain ⟨s1, h⟩ := h
  obtain ⟨r2, e3, h⟩ := h
  refine q_getR fl_X2_9 rfl (by decide) (by decide +kernel) s1 e3 ?_
  refine q_blk (pc' := 5) (lo' := [some (.ref a0)]) (st' := [.int (nI 0), .ref r2]) [.iconst 0] (by decide +kernel) rfl ?_
  refine q_callS (Mc := M_J7_fill_53178) (z := 2) (As := [.ref r2, .int (nI 0)]) (st := []) mo_J7_fill_53178 ms_J7_fill_53178 ml_X2_19_J7_fill_53178 rfl rfl (by decide) (by decide) rfl (Nat.le_of_ble_eq_true rfl) (by decide +kernel) h (q_fV fun A4 h => ?_)
  show q_Wp _ _ _ _ 0 0 8 [some (.ref a0)] [] A4
  refine q_blk (pc' := 10) (lo' := [some (.ref a0)]) (st' := [.int (nI 0), .ref a0]) [.aload_n 0, .iconst 0] (by decide +kernel) rfl ?_
  obtain ⟨s6, h⟩ := h
  refine q_putI fw_X2_15 rfl (by decide) (by decide +kernel) s6 ?_
  exact q_ret0 rfl (by decide) (by decide) (by decide +kernel) ⟨rfl, h⟩
theorem f_X2_copyFrom {G : q_G} {X : String → q_H → Prop} {f : q_H → Prop} {A : q_H} {a0 : Nat} {a1 : Nat} (h : q_sh A a1 = (3, 0) ∧ ∃ r2 : Nat, q_R A a1 0 = some r2 ∧ q_sh A a0 = (3, 0) ∧ ∃ r5 : Nat, q_R A a0 0 = some r5 ∧ ∃ z8 : Nat, q_sh A r5 = (50, z8) ∧ z8 < 2147483648 ∧ ∃ z11 : Nat, q_sh A r2 = (50, z11) ∧ z11 < 2147483648 ∧ z8 ≤ z11 ∧ z8 ≤ z8 ∧ f (q_setI (q_rowI A r5 (fun j => if j < z8 then q_I A r2 j else q_I A r5 j)) a0 1 (q_I (q_rowI A r5 (fun j => if j < z8 then q_I A r2 j else q_I A r5 j)) a1 1))) : q_Wc G M_X2_copyFrom [.ref a0, .ref a1] A (q_KV f) X := by
  refine q_Wc.of [some (.ref a0), some (.ref a1)] mo_X2_copyFrom.2.2.2.2.2 rfl (Nat.le_of_ble_eq_true rfl) rfl ?_
  refine q_blk (pc' := 1) (lo' := [some (.ref a0), some (.ref a1)]) (st' := [.ref a1]) [.aload_n 1] (by decide +kernel) rfl ?_
  obtain ⟨s1, h⟩ := h
  obtain ⟨r2, e3, h⟩ := h
  refine q_getR fl_X2_9 rfl (by decide) (by decide +kernel) s1 e3 ?_
  refine q_blk (pc' := 6) (lo' := [some (.ref a0), some (.ref a1)]) (st' := [.ref a0, .int (nI 0), .ref r2]) [.iconst 0, .aload_n 0] (by decide +kernel) rfl ?_
  obtain ⟨s4, h⟩ := h
  obtain ⟨r5, e6, h⟩ := h
  refine q_getR fl_X2_9 rfl (by decide) (by decide +kernel) s4 e6 ?_
  refine q_blk (pc' := 11) (lo' := [some (.ref a0), some (.ref a1)]) (st' := [.ref a0, .int (nI 0), .ref r5, .int (nI 0), .ref r2]) [.iconst 0, .aload_n 0] (by decide +kernel) rfl ?_
  refine q_getR fl_X2_9 rfl (by decide) (by decide +kernel) s4 e6 ?_
  obtain ⟨z8, s7, b9, h⟩ := h
  refine q_alenI (by decide +kernel) s7 ?_
  obtain ⟨z11, s10, b12, h⟩ := h
  obtain ⟨l13, l14, h⟩ := h
  refine q_acpy cp_X2_25.1 cp_X2_25.2.1 cp_X2_25.2.2.1 cp_X2_25.2.2.2 (by decide) (Nat.le_of_ble_eq_true rfl) (by decide +kernel) rfl s10 s7 l13 l14 b9 b12 ?_
  refine q_blk (pc' := 20) (lo' := [some (.ref a0), some (.ref a1)]) (st' := [.ref a1, .ref a0]) [.aload_n 0, .aload_n 1] (by decide +kernel) rfl ?_
  refine q_getI fl_X2_15 rfl (by decide) (by decide +kernel) s1 ?_
  refine q_putI fw_X2_15 rfl (by decide) (by decide +kernel) s4 ?_
  exact q_ret0 rfl (by decide) (by decide) (by decide +kernel) ⟨rfl, h⟩
theorem f_X2_putAll {G : q_G} {X : String → q_H → Prop} {f : q_H → Prop} {A : q_H} {a0 : Nat} {a1 : Nat} (h : q_Wp G M_X2_putAll (q_KV f) X 0 0 2 [some (.ref a0), some (.ref a1), some (.int (nI 0))] [] A) : q_Wc G M_X2_putAll [.ref a0, .ref a1] A (q_KV f) X := by
  refine q_Wc.of [some (.ref a0), some (.ref a1), none] mo_X2_putAll.2.2.2.2.2 rfl (Nat.le_of_ble_eq_true rfl) rfl ?_
  refine q_blk (pc' := 2) (lo' := [some (.ref a0), some (.ref a1), some (.int (nI 0))]) (st' := []) [.iconst 0, .istore_n 2] (by decide +kernel) rfl ?_
  exact h
theorem f_X2_putAll_2 {G : q_G} {X : String → q_H → Prop} {f : q_H → Prop} {A : q_H} {a0 : Nat} {a1 : Nat} {x2 : Int32} (h : q_sh A a0 = (3, 0) ∧ ∃ r2 : Nat, q_R A a0 0 = some r2 ∧ ∃ z5 : Nat, q_sh A r2 = (50, z5) ∧ z5 < 2147483648 ∧ (((nI z5) ≤ x2 → q_sh A a1 = (3, 0) ∧ f (q_setI A a0 1 ((q_I A a0 1) + (q_I A a1 1)))) ∧ (¬ (nI z5) ≤ x2 → ∃ j9 : Nat, x2 = nI j9 ∧ j9 < z5 ∧ q_sh A a1 = (3, 0) ∧ ∃ r13 : Nat, q_R A a1 0 = some r13 ∧ ∃ z16 : Nat, q_sh A r13 = (50, z16) ∧ z16 < 2147483648 ∧ j9 < z16 ∧ q_Wp G M_X2_putAll (q_KV f) X 0 0 2 [some (.ref a0), some (.ref a1), some (.int (x2 + (nI 1)))] [] (q_setI A r2 j9 ((q_I A r2 j9) + (q_I A r13 j9)))))) : q_Wp G M_X2_putAll (q_KV f) X 0 0 2 [some (.ref a0), some (.ref a1), some (.int x2)] [] A := by
  refine q_blk (pc' := 4) (lo' := [some (.ref a0), some (.ref a1), some (.int x2)]) (st' := [.ref a0, .int x2]) [.iload_n 2, .aload_n 0] (by decide +kernel) rfl ?_
  obtain ⟨s1, h⟩ := h
  obtain ⟨r2, e3, h⟩ := h
  refine q_getR fl_X2_9 rfl (by decide) (by decide +kernel) s1 e3 ?_
  obtain ⟨z5, s4, b6, h⟩ := h
  refine q_alenI (by decide +kernel) s4 ?_
  refine q_icmp_ge 32 (off := 24) (by decide +kernel) (by decide) (fun c7 => ?_) (fun c7 => ?_)
  · have h := h.1 c7
    refine q_blk (pc' := 34) (lo' := [some (.ref a0), some (.ref a1), some (.int x2)]) (st' := [.ref a0, .ref a0]) [.aload_n 0, .dup] (by decide +kernel) rfl ?_
    refine q_getI fl_X2_15 rfl (by decide) (by decide +kernel) s1 ?_
    refine q_blk (pc' := 38) (lo' := [some (.ref a0), some (.ref a1), some (.int x2)]) (st' := [.ref a1, .int (q_I A a0 1), .ref a0]) [.aload_n 1] (by decide +kernel) rfl ?_
    obtain ⟨s8, h⟩ := h
    refine q_getI fl_X2_15 rfl (by decide) (by decide +kernel) s8 ?_
    refine q_blk (pc' := 42) (lo' := [some (.ref a0), some (.ref a1), some (.int x2)]) (st' := [.int ((q_I A a0 1) + (q_I A a1 1)), .ref a0]) [.iadd] (by decide +kernel) rfl ?_
    refine q_putI fw_X2_15 rfl (by decide) (by decide +kernel) s1 ?_
    exact q_ret0 rfl (by decide) (by decide) (by decide +kernel) ⟨rfl, h⟩
  · have h := h.2 c7
    refine q_blk (pc' := 12) (lo' := [some (.ref a0), some (.ref a1), some (.int x2)]) (st' := [.ref a0]) [.aload_n 0] (by decide +kernel) rfl ?_
    refine q_getR fl_X2_9 rfl (by decide) (by decide +kernel) s1 e3 ?_
    refine q_blk (pc' := 17) (lo' := [some (.ref a0), some (.ref a1), some (.int x2)]) (st' := [.int x2, .ref r2, .int x2, .ref r2]) [.iload_n 2, .dup2] (by decide +kernel) rfl ?_
    obtain ⟨j9, e10, h⟩ := h
    obtain ⟨l11, h⟩ := h
    refine q_iald e10 (by decide +kernel) s4 l11 b6 ?_
    refine q_blk (pc' := 19) (lo' := [some (.ref a0), some (.ref a1), some (.int x2)]) (st' := [.ref a1, .int (q_I A r2 j9), .int x2, .ref r2]) [.aload_n 1] (by decide +kernel) rfl ?_
    obtain ⟨s12, h⟩ := h
    obtain ⟨r13, e14, h⟩ := h
    refine q_getR fl_X2_9 rfl (by decide) (by decide +kernel) s12 e14 ?_
    refine q_blk (pc' := 23) (lo' := [some (.ref a0), some (.ref a1), some (.int x2)]) (st' := [.int x2, .ref r13, .int (q_I A r2 j9), .int x2, .ref r2]) [.iload_n 2] (by decide +kernel) rfl ?_
    obtain ⟨z16, s15, b17, h⟩ := h
    obtain ⟨l18, h⟩ := h
    refine q_iald e10 (by decide +kernel) s15 l18 b17 ?_
    refine q_blk (pc' := 25) (lo' := [some (.ref a0), some (.ref a1), some (.int x2)]) (st' := [.int ((q_I A r2 j9) + (q_I A r13 j9)), .int x2, .ref r2]) [.iadd] (by decide +kernel) rfl ?_
    refine q_iast e10 (by decide +kernel) s4 l11 b6 ?_
    refine q_blk (pc' := 29) (lo' := [some (.ref a0), some (.ref a1), some (.int (x2 + (nI 1)))]) (st' := []) [.iinc 2 1] (by decide +kernel) rfl ?_
    refine q_goto 2 (off := -27) (by decide +kernel) (by decide) ?_
    exact h
theorem f_X2_move {G : q_G} {X : String → q_H → Prop} {f : q_H → Prop} {A : q_H} {a0 : Nat} {x1 : Int32} {x2 : Int32} {a3 : Nat} (h : ((x1 < nI 0 → f A) ∧ (¬ x1 < nI 0 → q_sh A a0 = (3, 0) ∧ ∃ r3 : Nat, q_R A a0 0 = some r3 ∧ ∃ z6 : Nat, q_sh A r3 = (50, z6) ∧ z6 < 2147483648 ∧ (((nI z6) ≤ x1 → f A) ∧ (¬ (nI z6) ≤ x1 → ∃ j9 : Nat, x1 = nI j9 ∧ j9 < z6 ∧ q_sh A a3 = (3, 0) ∧ ∃ r13 : Nat, q_R A a3 0 = some r13 ∧ ∃ z16 : Nat, q_sh A r13 = (50, z16) ∧ z16 < 2147483648 ∧ j9 < z16 ∧ (∀ A19 : q_H, A19 = (q_setI (q_setI (q_setI A r3 j9 ((q_I A r3 j9) - x2)) a0 1 ((q_I (q_setI A r3 j9 ((q_I A r3 j9) - x2)) a0 1) - x2)) r13 j9 ((q_I (q_setI (q_setI A r3 j9 ((q_I A r3 j9) - x2)) a0 1 ((q_I (q_setI A r3 j9 ((q_I A r3 j9) - x2)) a0 1) - x2)) r13 j9) + x2)) → f (q_setI A19 a3 1 ((q_I A19 a3 1) + x2)))))))) : q_Wc G M_X2_move [.ref a0, .int x1, .int x2, .ref a3] A (q_KV f) X := by
  refine q_Wc.of [some (.ref a0), some (.int x1), some (.int x2), some (.ref a3)] mo_X2_move.2.2.2.2.2 rfl (Nat.le_of_ble_eq_true rfl) rfl ?_
  refine q_blk (pc' := 1) (lo' := [some (.ref a0), some (.int x1), some (.int x2), some (.ref a3)]) (st' := [.int x1]) [.iload_n 1] (by decide +kernel) rfl ?_
  refine q_if_lt 53 (off := 52) (by decide +kernel) (by decide) (fun c1 => ?_) (fun c1 => ?_)
  · have h := h.1 c1
    exact q_ret0 rfl (by decide) (by decide) (by decide +kernel) ⟨rfl, h⟩
  · have h := h.2 c1
    refine q_blk (pc' := 6) (lo' := [some (.ref a0), some (.int x1), some (.int x2), some (.ref a3)]) (st' := [.ref a0, .int x1]) [.iload_n 1, .aload_n 0] (by decide +kernel) rfl ?_
    obtain ⟨s2, h⟩ := h
    obtain ⟨r3, e4, h⟩ := h
    refine q_getR fl_X2_9 rfl (by decide) (by decide +kernel) s2 e4 ?_
    obtain ⟨z6, s5, b7, h⟩ := h
    refine q_alenI (by decide +kernel) s5 ?_
    refine q_icmp_ge 53 (off := 43) (by decide +kernel) (by decide) (fun c8 => ?_) (fun c8 => ?_)
    · have h := h.1 c8
      exact q_ret0 rfl (by decide) (by decide) (by decide +kernel) ⟨rfl, h⟩
    · have h := h.2 c8
      refine q_blk (pc' := 14) (lo' := [some (.ref a0), some (.int x1), some (.int x2), some (.ref a3)]) (st' := [.ref a0]) [.aload_n 0] (by decide +kernel) rfl ?_
      refine q_getR fl_X2_9 rfl (by decide) (by decide +kernel) s2 e4 ?_
      refine q_blk (pc' := 19) (lo' := [some (.ref a0), some (.int x1), some (.int x2), some (.ref a3)]) (st' := [.int x1, .ref r3, .int x1, .ref r3]) [.iload_n 1, .dup2] (by decide +kernel) rfl ?_
      obtain ⟨j9, e10, h⟩ := h
      obtain ⟨l11, h⟩ := h
      refine q_iald e10 (by decide +kernel) s5 l11 b7 ?_
      refine q_blk (pc' := 22) (lo' := [some (.ref a0), some (.int x1), some (.int x2), some (.ref a3)]) (st' := [.int ((q_I A r3 j9) - x2), .int x1, .ref r3]) [.iload_n 2, .isub] (by decide +kernel) rfl ?_
      refine q_iast e10 (by decide +kernel) s5 l11 b7 ?_
      refine q_blk (pc' := 25) (lo' := [some (.ref a0), some (.int x1), some (.int x2), some (.ref a3)]) (st' := [.ref a0, .ref a0]) [.aload_n 0, .dup] (by decide +kernel) rfl ?_
      refine q_getI fl_X2_15 rfl (by decide) (by decide +kernel) s2 ?_
      refine q_blk (pc' := 30) (lo' := [some (.ref a0), some (.int x1), some (.int x2), some (.ref a3)]) (st' := [.int ((q_I (q_setI A r3 j9 ((q_I A r3 j9) - x2)) a0 1) - x2), .ref a0]) [.iload_n 2, .isub] (by decide +kernel) rfl ?_
      refine q_putI fw_X2_15 rfl (by decide) (by decide +kernel) s2 ?_
      refine q_blk (pc' := 34) (lo' := [some (.ref a0), some (.int x1), some (.int x2), some (.ref a3)]) (st' := [.ref a3]) [.aload_n 3] (by decide +kernel) rfl ?_
      obtain ⟨s12, h⟩ := h
      obtain ⟨r13, e14, h⟩ := h
      refine q_getR fl_X2_9 rfl (by decide) (by decide +kernel) s12 e14 ?_
      refine q_blk (pc' := 39) (lo' := [some (.ref a0), some (.int x1), some (.int x2), some (.ref a3)]) (st' := [.int x1, .ref r13, .int x1, .ref r13]) [.iload_n 1, .dup2] (by decide +kernel) rfl ?_
      obtain ⟨z16, s15, b17, h⟩ := h
      obtain ⟨l18, h⟩ := h
      refine q_iald e10 (by decide +kernel) s15 l18 b17 ?_
      refine q_blk (pc' := 42) (lo' := [some (.ref a0), some (.int x1), some (.int x2), some (.ref a3)]) (st' := [.int ((q_I (q_setI (q_setI A r3 j9 ((q_I A r3 j9) - x2)) a0 1 ((q_I (q_setI A r3 j9 ((q_I A r3 j9) - x2)) a0 1) - x2)) r13 j9) + x2), .int x1, .ref r13]) [.iload_n 2, .iadd] (by decide +kernel) rfl ?_
      refine q_iast e10 (by decide +kernel) s15 l18 b17 ?_
      let A19 : q_H := (q_setI (q_setI (q_setI A r3 j9 ((q_I A r3 j9) - x2)) a0 1 ((q_I (q_setI A r3 j9 ((q_I A r3 j9) - x2)) a0 1) - x2)) r13 j9 ((q_I (q_setI (q_setI A r3 j9 ((q_I A r3 j9) - x2)) a0 1 ((q_I (q_setI A r3 j9 ((q_I A r3 j9) - x2)) a0 1) - x2)) r13 j9) + x2))
      have h := h A19 rfl
      show q_Wp _ _ _ _ 0 0 43 [some (.ref a0), some (.int x1), some (.int x2), some (.ref a3)] [] A19
      refine q_blk (pc' := 45) (lo' := [some (.ref a0), some (.int x1), some (.int x2), some (.ref a3)]) (st' := [.ref a3, .ref a3]) [.aload_n 3, .dup] (by decide +kernel) rfl ?_
      refine q_getI fl_X2_15 rfl (by decide) (by decide +kernel) s12 ?_
      refine q_blk (pc' := 50) (lo' := [some (.ref a0), some (.int x1), some (.int x2), some (.ref a3)]) (st' := [.int ((q_I A19 a3 1) + x2), .ref a3]) [.iload_n 2, .iadd] (by decide +kernel) rfl ?_
      refine q_putI fw_X2_15 rfl (by decide) (by decide +kernel) s12 ?_
      exact q_ret0 rfl (by decide) (by decide) (by decide +kernel) ⟨rfl, h⟩
theorem f_X2_movePortion {G : q_G} {X : String → q_H → Prop} {f : q_H → Prop} {A : q_H} {a0 : Nat} {x1 : Int32} {a2 : Nat} (h : q_sh A a0 = (3, 0) ∧ (((q_I A a0 1) ≤ nI 0 → q_sh A a2 = (3, 0) ∧ q_Wc G M_X2_putAll [.ref a2, .ref a0] A (q_KV fun A3 => q_sh A3 a0 = (3, 0) ∧ q_Wc G M_X2_clear [.ref a0] A3 (q_KV fun A6 => f A6) q_nX) q_nX) ∧ (¬ (q_I A a0 1) ≤ nI 0 → ((x1 < (q_I A a0 1) → q_Wp G M_X2_movePortion (q_KV f) X 0 0 30 [some (.ref a0), some (.int x1), some (.ref a2), some (.int (q_I A a0 1)), some (.int x1), some (.int (nI 0)), none] [] A) ∧ (¬ x1 < (q_I A a0 1) → q_sh A a2 = (3, 0) ∧ q_Wc G M_X2_putAll [.ref a2, .ref a0] A (q_KV fun A10 => q_sh A10 a0 = (3, 0) ∧ q_Wc G M_X2_clear [.ref a0] A10 (q_KV fun A13 => f A13) q_nX) q_nX))))) : q_Wc G M_X2_movePortion [.ref a0, .int x1, .ref a2] A (q_KV f) X := by
  refine q_Wc.of [some (.ref a0), some (.int x1), some (.ref a2), none, none, none, none] mo_X2_movePortion.2.2.2.2.2 rfl (Nat.le_of_ble_eq_true rfl) rfl ?_
  refine q_blk (pc' := 1) (lo' := [some (.ref a0), some (.int x1), some (.ref a2), none, none, none, none]) (st' := [.ref a0]) [.aload_n 0] (by decide +kernel) rfl ?_
  obtain ⟨s1, h⟩ := h
  refine q_getI fl_X2_15 rfl (by decide) (by decide +kernel) s1 ?_
  refine q_blk (pc' := 6) (lo' := [some (.ref a0), some (.int x1), some (.ref a2), some (.int (q_I A a0 1)), none, none, none]) (st' := [.int (q_I A a0 1)]) [.istore_n 3, .iload_n 3] (by decide +kernel) rfl ?_
  refine q_if_le 14 (off := 8) (by decide +kernel) (by decide) (fun c2 => ?_) (fun c2 => ?_)
  · have h := h.1 c2
    refine q_blk (pc' := 16) (lo' := [some (.ref a0), some (.int x1), some (.ref a2), some (.int (q_I A a0 1)), none, none, none]) (st' := [.ref a0, .ref a2]) [.aload_n 2, .aload_n 0] (by decide +kernel) rfl ?_
    obtain ⟨s5, h⟩ := h
    refine q_callV (ci := 2) (Mc := M_X2_putAll) (z := 1) (b := a2) (As := [.ref a0]) (st := []) mo_X2_putAll mi_X2_putAll ml_X2_31_X2_putAll rfl rfl (by decide) rfl (by decide) (by decide) rfl (Nat.le_of_ble_eq_true rfl) (by decide +kernel) s5 h (q_fV fun A3 h => ?_)
    show q_Wp _ _ _ _ 0 0 19 [some (.ref a0), some (.int x1), some (.ref a2), some (.int (q_I A a0 1)), none, none, none] [] A3
    refine q_blk (pc' := 20) (lo' := [some (.ref a0), some (.int x1), some (.ref a2), some (.int (q_I A a0 1)), none, none, none]) (st' := [.ref a0]) [.aload_n 0] (by decide +kernel) rfl ?_
    obtain ⟨s8, h⟩ := h
    refine q_callV (ci := 2) (Mc := M_X2_clear) (z := 0) (b := a0) (As := []) (st := []) mo_X2_clear mi_X2_clear ml_X2_35_X2_clear rfl rfl (by decide) rfl (by decide) (by decide) rfl (Nat.le_of_ble_eq_true rfl) (by decide +kernel) s8 h (q_fV fun A6 h => ?_)
    show q_Wp _ _ _ _ 0 0 23 [some (.ref a0), some (.int x1), some (.ref a2), some (.int (q_I A a0 1)), none, none, none] [] A6
    exact q_ret0 rfl (by decide) (by decide) (by decide +kernel) ⟨rfl, h⟩
  · have h := h.2 c2
    refine q_blk (pc' := 11) (lo' := [some (.ref a0), some (.int x1), some (.ref a2), some (.int (q_I A a0 1)), none, none, none]) (st' := [.int (q_I A a0 1), .int x1]) [.iload_n 1, .iload_n 3] (by decide +kernel) rfl ?_
    refine q_icmp_lt 24 (off := 13) (by decide +kernel) (by decide) (fun c9 => ?_) (fun c9 => ?_)
    · have h := h.1 c9
      refine q_blk (pc' := 30) (lo' := [some (.ref a0), some (.int x1), some (.ref a2), some (.int (q_I A a0 1)), some (.int x1), some (.int (nI 0)), none]) (st' := []) [.iload_n 1, .istore 4, .iconst 0, .istore 5] (by decide +kernel) rfl ?_
      exact h
    · have h := h.2 c9
      refine q_blk (pc' := 16) (lo' := [some (.ref a0), some (.int x1), some (.ref a2), some (.int (q_I A a0 1)), none, none, none]) (st' := [.ref a0, .ref a2]) [.aload_n 2, .aload_n 0] (by decide +kernel) rfl ?_
      obtain ⟨s12, h⟩ := h
      refine q_callV (ci := 2) (Mc := M_X2_putAll) (z := 1) (b := a2) (As := [.ref a0]) (st := []) mo_X2_putAll mi_X2_putAll ml_X2_31_X2_putAll rfl rfl (by decide) rfl (by decide) (by decide) rfl (Nat.le_of_ble_eq_true rfl) (by decide +kernel) s12 h (q_fV fun A10 h => ?_)
      show q_Wp _ _ _ _ 0 0 19 [some (.ref a0), some (.int x1), some (.ref a2), some (.int (q_I A a0 1)), none, none, none] [] A10
      refine q_blk (pc' := 20) (lo' := [some (.ref a0), some (.int x1), some (.ref a2), some (.int (q_I A a0 1)), none, none, none]) (st' := [.ref a0]) [.aload_n 0] (by decide +kernel) rfl ?_
      obtain ⟨s15, h⟩ := h
      refine q_callV (ci := 2) (Mc := M_X2_clear) (z := 0) (b := a0) (As := []) (st := []) mo_X2_clear mi_X2_clear ml_X2_35_X2_clear rfl rfl (by decide) rfl (by decide) (by decide) rfl (Nat.le_of_ble_eq_true rfl) (by decide +kernel) s15 h (q_fV fun A13 h => ?_)
      show q_Wp _ _ _ _ 0 0 23 [some (.ref a0), some (.int x1), some (.ref a2), some (.int (q_I A a0 1)), none, none, none] [] A13
      exact q_ret0 rfl (by decide) (by decide) (by decide +kernel) ⟨rfl, h⟩
theorem f_X2_movePortion_30 {G : q_G} {X : String → q_H → Prop} {f : q_H → Prop} {A : q_H} {a0 : Nat} {x1 : Int32} {a2 : Nat} {x3 : Int32} {x4 : Int32} {x5 : Int32} (h : q_sh A a0 = (3, 0) ∧ ∃ r2 : Nat, q_R A a0 0 = some r2 ∧ ∃ z5 : Nat, q_sh A r2 = (50, z5) ∧ z5 < 2147483648 ∧ (((nI z5) ≤ x5 → q_Wp G M_X2_movePortion (q_KV f) X 0 0 78 [some (.ref a0), none, some (.ref a2), none, some (.int x4), some (.int (nI 0)), none] [] A) ∧ (¬ (nI z5) ≤ x5 → ∃ j8 : Nat, x5 = nI j8 ∧ j8 < z5 ∧ (¬ x3 = nI 0) ∧ q_Wc G M_X2_move [.ref a0, .int x5, .int (((q_I A r2 j8) * x1) / x3), .ref a2] A (q_KV fun A12 => q_Wp G M_X2_movePortion (q_KV f) X 0 0 30 [some (.ref a0), some (.int x1), some (.ref a2), some (.int x3), some (.int (x4 - (((q_I A r2 j8) * x1) / x3))), some (.int (x5 + (nI 1))), none] [] A12) q_nX))) : q_Wp G M_X2_movePortion (q_KV f) X 0 0 30 [some (.ref a0), some (.int x1), some (.ref a2), some (.int x3), some (.int x4), some (.int x5), none] [] A := by
  refine q_blk (pc' := 33) (lo' := [some (.ref a0), some (.int x1), some (.ref a2), some (.int x3), some (.int x4), some (.int x5), none]) (st' := [.ref a0, .int x5]) [.iload 5, .aload_n 0] (by decide +kernel) rfl ?_
  obtain ⟨s1, h⟩ := h
  obtain ⟨r2, e3, h⟩ := h
  refine q_getR fl_X2_9 rfl (by decide) (by decide +kernel) s1 e3 ?_
  obtain ⟨z5, s4, b6, h⟩ := h
  refine q_alenI (by decide +kernel) s4 ?_
  refine q_icmp_ge 75 (off := 38) (by decide +kernel) (by decide) (fun c7 => ?_) (fun c7 => ?_)
  · have h := h.1 c7
    refine q_blk (pc' := 78) (lo' := [some (.ref a0), some (.int x1), some (.ref a2), some (.int x3), some (.int x4), some (.int (nI 0)), none]) (st' := []) [.iconst 0, .istore 5] (by decide +kernel) rfl ?_
    exact q_wk [some (.ref a0), none, some (.ref a2), none, some (.int x4), some (.int (nI 0)), none] (And.intro rfl (And.intro rfl (And.intro rfl (And.intro rfl trivial)))) h
  · have h := h.2 c7
    refine q_blk (pc' := 41) (lo' := [some (.ref a0), some (.int x1), some (.ref a2), some (.int x3), some (.int x4), some (.int x5), none]) (st' := [.ref a0]) [.aload_n 0] (by decide +kernel) rfl ?_
    refine q_getR fl_X2_9 rfl (by decide) (by decide +kernel) s1 e3 ?_
    refine q_blk (pc' := 46) (lo' := [some (.ref a0), some (.int x1), some (.ref a2), some (.int x3), some (.int x4), some (.int x5), none]) (st' := [.int x5, .ref r2]) [.iload 5] (by decide +kernel) rfl ?_
    obtain ⟨j8, e9, h⟩ := h
    obtain ⟨l10, h⟩ := h
    refine q_iald e9 (by decide +kernel) s4 l10 b6 ?_
    refine q_blk (pc' := 50) (lo' := [some (.ref a0), some (.int x1), some (.ref a2), some (.int x3), some (.int x4), some (.int x5), none]) (st' := [.int x3, .int ((q_I A r2 j8) * x1)]) [.iload_n 1, .imul, .iload_n 3] (by decide +kernel) rfl ?_
    obtain ⟨d11, h⟩ := h
    refine q_idiv (by decide +kernel) d11 ?_
    refine q_blk (pc' := 59) (lo' := [some (.ref a0), some (.int x1), some (.ref a2), some (.int x3), some (.int x4), some (.int x5), some (.int (((q_I A r2 j8) * x1) / x3))]) (st' := [.ref a2, .int (((q_I A r2 j8) * x1) / x3), .int x5, .ref a0]) [.istore 6, .aload_n 0, .iload 5, .iload 6, .aload_n 2] (by decide +kernel) rfl ?_
    refine q_callV (ci := 2) (Mc := M_X2_move) (z := 3) (b := a0) (As := [.int x5, .int (((q_I A r2 j8) * x1) / x3), .ref a2]) (st := []) mo_X2_move mi_X2_move ml_X2_38_X2_move rfl rfl (by decide) rfl (by decide) (by decide) rfl (Nat.le_of_ble_eq_true rfl) (by decide +kernel) s1 h (q_fV fun A12 h => ?_)
    show q_Wp _ _ _ _ 0 0 62 [some (.ref a0), some (.int x1), some (.ref a2), some (.int x3), some (.int x4), some (.int x5), some (.int (((q_I A r2 j8) * x1) / x3))] [] A12
    refine q_blk (pc' := 72) (lo' := [some (.ref a0), some (.int x1), some (.ref a2), some (.int x3), some (.int (x4 - (((q_I A r2 j8) * x1) / x3))), some (.int (x5 + (nI 1))), some (.int (((q_I A r2 j8) * x1) / x3))]) (st' := []) [.iload 4, .iload 6, .isub, .istore 4, .iinc 5 1] (by decide +kernel) rfl ?_
    refine q_goto 30 (off := -42) (by decide +kernel) (by decide) ?_
    exact q_wk [some (.ref a0), some (.int x1), some (.ref a2), some (.int x3), some (.int (x4 - (((q_I A r2 j8) * x1) / x3))), some (.int (x5 + (nI 1))), none] (And.intro rfl (And.intro rfl (And.intro rfl (And.intro rfl (And.intro rfl (And.intro rfl trivial)))))) h
theorem f_X2_movePortion_78 {G : q_G} {X : String → q_H → Prop} {f : q_H → Prop} {A : q_H} {a0 : Nat} {a2 : Nat} {x4 : Int32} {x5 : Int32} (h : ((x4 ≤ x5 → f A) ∧ (¬ x4 ≤ x5 → q_sh A a0 = (3, 0) ∧ q_Wc G M_X2_mostBut [.ref a0, .int (-1)] A (q_KI fun r3 A2 => q_sh A2 a0 = (3, 0) ∧ q_Wc G M_X2_move [.ref a0, .int r3, .int (nI 1), .ref a2] A2 (q_KV fun A5 => q_Wp G M_X2_movePortion (q_KV f) X 0 0 78 [some (.ref a0), none, some (.ref a2), none, some (.int x4), some (.int (x5 + (nI 1))), none] [] A5) q_nX) q_nX))) : q_Wp G M_X2_movePortion (q_KV f) X 0 0 78 [some (.ref a0), none, some (.ref a2), none, some (.int x4), some (.int x5), none] [] A := by
  refine q_blk (pc' := 82) (lo' := [some (.ref a0), none, some (.ref a2), none, some (.int x4), some (.int x5), none]) (st' := [.int x4, .int x5]) [.iload 5, .iload 4] (by decide +kernel) rfl ?_
  refine q_icmp_ge 102 (off := 20) (by decide +kernel) (by decide) (fun c1 => ?_) (fun c1 => ?_)
  · have h := h.1 c1
    exact q_ret0 rfl (by decide) (by decide) (by decide +kernel) ⟨rfl, h⟩
  · have h := h.2 c1
    refine q_blk (pc' := 88) (lo' := [some (.ref a0), none, some (.ref a2), none, some (.int x4), some (.int x5), none]) (st' := [.int (-1), .ref a0, .ref a0]) [.aload_n 0, .aload_n 0, .iconst (-1)] (by decide +kernel) rfl ?_
    obtain ⟨s4, h⟩ := h
    refine q_callV (ci := 2) (Mc := M_X2_mostBut) (z := 1) (b := a0) (As := [.int (-1)]) (st := [.ref a0]) mo_X2_mostBut mi_X2_mostBut ml_X2_42_X2_mostBut rfl rfl (by decide) rfl (by decide) (by decide) rfl (Nat.le_of_ble_eq_true rfl) (by decide +kernel) s4 h (q_fI fun r3 A2 h => ?_)
    show q_Wp _ _ _ _ 0 0 91 [some (.ref a0), none, some (.ref a2), none, some (.int x4), some (.int x5), none] [.int r3, .ref a0] A2
    refine q_blk (pc' := 93) (lo' := [some (.ref a0), none, some (.ref a2), none, some (.int x4), some (.int x5), none]) (st' := [.ref a2, .int (nI 1), .int r3, .ref a0]) [.iconst 1, .aload_n 2] (by decide +kernel) rfl ?_
    obtain ⟨s7, h⟩ := h
    refine q_callV (ci := 2) (Mc := M_X2_move) (z := 3) (b := a0) (As := [.int r3, .int (nI 1), .ref a2]) (st := []) mo_X2_move mi_X2_move ml_X2_38_X2_move rfl rfl (by decide) rfl (by decide) (by decide) rfl (Nat.le_of_ble_eq_true rfl) (by decide +kernel) s7 h (q_fV fun A5 h => ?_)
    show q_Wp _ _ _ _ 0 0 96 [some (.ref a0), none, some (.ref a2), none, some (.int x4), some (.int x5), none] [] A5
    refine q_blk (pc' := 99) (lo' := [some (.ref a0), none, some (.ref a2), none, some (.int x4), some (.int (x5 + (nI 1))), none]) (st' := []) [.iinc 5 1] (by decide +kernel) rfl ?_
    refine q_goto 78 (off := -21) (by decide +kernel) (by decide) ?_
    exact h
theorem f_X2_mostBut {G : q_G} {X : String → q_H → Prop} {f : Int32 → q_H → Prop} {A : q_H} {a0 : Nat} {x1 : Int32} (h : q_Wp G M_X2_mostBut (q_KI f) X 0 0 7 [some (.ref a0), some (.int x1), some (.int (-1)), some (.int (-1)), some (.int (nI 0))] [] A) : q_Wc G M_X2_mostBut [.ref a0, .int x1] A (q_KI f) X := by
  refine q_Wc.of [some (.ref a0), some (.int x1), none, none, none] mo_X2_mostBut.2.2.2.2.2 rfl (Nat.le_of_ble_eq_true rfl) rfl ?_
  refine q_blk (pc' := 7) (lo' := [some (.ref a0), some (.int x1), some (.int (-1)), some (.int (-1)), some (.int (nI 0))]) (st' := []) [.iconst (-1), .istore_n 2, .iconst (-1), .istore_n 3, .iconst 0, .istore 4] (by decide +kernel) rfl ?_
  exact h
theorem f_X2_mostBut_7 {G : q_G} {X : String → q_H → Prop} {f : Int32 → q_H → Prop} {A : q_H} {a0 : Nat} {x1 : Int32} {x2 : Int32} {x3 : Int32} {x4 : Int32} (h : q_sh A a0 = (3, 0) ∧ ∃ r2 : Nat, q_R A a0 0 = some r2 ∧ ∃ z5 : Nat, q_sh A r2 = (50, z5) ∧ z5 < 2147483648 ∧ (((nI z5) ≤ x4 → f x2 A) ∧ (¬ (nI z5) ≤ x4 → ((x4 = x1 → q_Wp G M_X2_mostBut (q_KI f) X 0 0 7 [some (.ref a0), some (.int x1), some (.int x2), some (.int x3), some (.int (x4 + (nI 1)))] [] A) ∧ (¬ x4 = x1 → ∃ j9 : Nat, x4 = nI j9 ∧ j9 < z5 ∧ (((q_I A r2 j9) ≤ x3 → q_Wp G M_X2_mostBut (q_KI f) X 0 0 7 [some (.ref a0), some (.int x1), some (.int x2), some (.int x3), some (.int (x4 + (nI 1)))] [] A) ∧ (¬ (q_I A r2 j9) ≤ x3 → q_Wp G M_X2_mostBut (q_KI f) X 0 0 7 [some (.ref a0), some (.int x1), some (.int x4), some (.int (q_I A r2 j9)), some (.int (x4 + (nI 1)))] [] A))))))) : q_Wp G M_X2_mostBut (q_KI f) X 0 0 7 [some (.ref a0), some (.int x1), some (.int x2), some (.int x3), some (.int x4)] [] A := by
  refine q_blk (pc' := 10) (lo' := [some (.ref a0), some (.int x1), some (.int x2), some (.int x3), some (.int x4)]) (st' := [.ref a0, .int x4]) [.iload 4, .aload_n 0] (by decide +kernel) rfl ?_
  obtain ⟨s1, h⟩ := h
  obtain ⟨r2, e3, h⟩ := h
  refine q_getR fl_X2_9 rfl (by decide) (by decide +kernel) s1 e3 ?_
  obtain ⟨z5, s4, b6, h⟩ := h
  refine q_alenI (by decide +kernel) s4 ?_
  refine q_icmp_ge 51 (off := 37) (by decide +kernel) (by decide) (fun c7 => ?_) (fun c7 => ?_)
  · have h := h.1 c7
    refine q_blk (pc' := 52) (lo' := [some (.ref a0), some (.int x1), some (.int x2), some (.int x3), some (.int x4)]) (st' := [.int x2]) [.iload_n 2] (by decide +kernel) rfl ?_
    exact q_retI rfl (by decide) (by decide) (by decide +kernel) ⟨_, rfl, h⟩
  · have h := h.2 c7
    refine q_blk (pc' := 20) (lo' := [some (.ref a0), some (.int x1), some (.int x2), some (.int x3), some (.int x4)]) (st' := [.int x1, .int x4]) [.iload 4, .iload_n 1] (by decide +kernel) rfl ?_
    refine q_icmp_eq 45 (off := 25) (by decide +kernel) (by decide) (fun c8 => ?_) (fun c8 => ?_)
    · have h := h.1 c8
      refine q_blk (pc' := 48) (lo' := [some (.ref a0), some (.int x1), some (.int x2), some (.int x3), some (.int (x4 + (nI 1)))]) (st' := []) [.iinc 4 1] (by decide +kernel) rfl ?_
      refine q_goto 7 (off := -41) (by decide +kernel) (by decide) ?_
      exact h
    · have h := h.2 c8
      refine q_blk (pc' := 24) (lo' := [some (.ref a0), some (.int x1), some (.int x2), some (.int x3), some (.int x4)]) (st' := [.ref a0]) [.aload_n 0] (by decide +kernel) rfl ?_
      refine q_getR fl_X2_9 rfl (by decide) (by decide +kernel) s1 e3 ?_
      refine q_blk (pc' := 29) (lo' := [some (.ref a0), some (.int x1), some (.int x2), some (.int x3), some (.int x4)]) (st' := [.int x4, .ref r2]) [.iload 4] (by decide +kernel) rfl ?_
      obtain ⟨j9, e10, h⟩ := h
      obtain ⟨l11, h⟩ := h
      refine q_iald e10 (by decide +kernel) s4 l11 b6 ?_
      refine q_blk (pc' := 31) (lo' := [some (.ref a0), some (.int x1), some (.int x2), some (.int x3), some (.int x4)]) (st' := [.int x3, .int (q_I A r2 j9)]) [.iload_n 3] (by decide +kernel) rfl ?_
      refine q_icmp_le 45 (off := 14) (by decide +kernel) (by decide) (fun c12 => ?_) (fun c12 => ?_)
      · have h := h.1 c12
        refine q_blk (pc' := 48) (lo' := [some (.ref a0), some (.int x1), some (.int x2), some (.int x3), some (.int (x4 + (nI 1)))]) (st' := []) [.iinc 4 1] (by decide +kernel) rfl ?_
        refine q_goto 7 (off := -41) (by decide +kernel) (by decide) ?_
        exact h
      · have h := h.2 c12
        refine q_blk (pc' := 38) (lo' := [some (.ref a0), some (.int x1), some (.int x4), some (.int x3), some (.int x4)]) (st' := [.ref a0]) [.iload 4, .istore_n 2, .aload_n 0] (by decide +kernel) rfl ?_
        refine q_getR fl_X2_9 rfl (by decide) (by decide +kernel) s1 e3 ?_
        refine q_blk (pc' := 43) (lo' := [some (.ref a0), some (.int x1), some (.int x4), some (.int x3), some (.int x4)]) (st' := [.int x4, .ref r2]) [.iload 4] (by decide +kernel) rfl ?_
        refine q_iald e10 (by decide +kernel) s4 l11 b6 ?_
        refine q_blk (pc' := 48) (lo' := [some (.ref a0), some (.int x1), some (.int x4), some (.int (q_I A r2 j9)), some (.int (x4 + (nI 1)))]) (st' := []) [.istore_n 3, .iinc 4 1] (by decide +kernel) rfl ?_
        refine q_goto 7 (off := -41) (by decide +kernel) (by decide) ?_
        exact h

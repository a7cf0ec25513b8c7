/-! CONDITIONS: TextReader -/
theorem f_X9_init {G : q_G} {X : String → q_H → Prop} {f : q_H → Prop} {A : q_H} {a0 : Nat} {a1 : Nat} {x2 : Int32} {a3 : Nat} (h : q_sh A a0 = (10, 0) ∧ f (q_setR (q_setI (q_setR A a0 0 (some a1)) a0 1 x2) a0 2 (some a3))) : q_Wc G M_X9_init [.ref a0, .ref a1, .int x2, .ref a3] A (q_KV f) X := by
  refine q_Wc.of [some (.ref a0), some (.ref a1), some (.int x2), some (.ref a3)] mo_X9_init.2.2.2.2.2 rfl (Nat.le_of_ble_eq_true rfl) rfl ?_
  refine q_blk (pc' := 1) (lo' := [some (.ref a0), some (.ref a1), some (.int x2), some (.ref a3)]) (st' := [.ref a0]) [.aload_n 0] (by decide +kernel) rfl ?_
  refine q_obj ob_X9_3.1 ob_X9_3.2.1 ob_X9_3.2.2 (by decide) (Nat.le_of_ble_eq_true rfl) (by decide +kernel) ?_
  refine q_blk (pc' := 6) (lo' := [some (.ref a0), some (.ref a1), some (.int x2), some (.ref a3)]) (st' := [.ref a1, .ref a0]) [.aload_n 0, .aload_n 1] (by decide +kernel) rfl ?_
  obtain ⟨s1, h⟩ := h
  refine q_putP (v := (some a1)) fp_X9_9 rfl rfl (by decide) (by decide +kernel) s1 ?_
  refine q_blk (pc' := 11) (lo' := [some (.ref a0), some (.ref a1), some (.int x2), some (.ref a3)]) (st' := [.int x2, .ref a0]) [.aload_n 0, .iload_n 2] (by decide +kernel) rfl ?_
  refine q_putQ fp_X9_15 rfl rfl (by decide) (by decide +kernel) s1 ?_
  refine q_blk (pc' := 16) (lo' := [some (.ref a0), some (.ref a1), some (.int x2), some (.ref a3)]) (st' := [.ref a3, .ref a0]) [.aload_n 0, .aload_n 3] (by decide +kernel) rfl ?_
  refine q_putP (v := (some a3)) fp_X9_19 rfl rfl (by decide) (by decide +kernel) s1 ?_
  exact q_ret0 rfl (by decide) (by decide) (by decide +kernel) ⟨rfl, h⟩
theorem f_X9_nameCode {G : q_G} {X : String → q_H → Prop} {f : Int32 → q_H → Prop} {A : q_H} {a0 : Nat} {x1 : Int32} {x2 : Int32} (h : ((x1 < nI 0 → f (-1) A) ∧ (¬ x1 < nI 0 → ((x2 ≤ x1 → f (-1) A) ∧ (¬ x2 ≤ x1 → ∃ z4 : Nat, q_sh A a0 = (51, z4) ∧ z4 < 2147483648 ∧ (((nI z4) < x2 → f (-1) A) ∧ (¬ (nI z4) < x2 → (((x2 - x1) ≤ (nI 6) → q_Wp G M_X9_nameCode (q_KI f) X 0 0 30 [some (.ref a0), none, some (.int x2), some (.int (nI 0)), some (.int x1)] [] A) ∧ (¬ (x2 - x1) ≤ (nI 6) → f (-1) A))))))))) : q_Wc G M_X9_nameCode [.ref a0, .int x1, .int x2] A (q_KI f) X := by
  refine q_Wc.of [some (.ref a0), some (.int x1), some (.int x2), none, none] mo_X9_nameCode.2.2.2.2.2 rfl (Nat.le_of_ble_eq_true rfl) rfl ?_
  refine q_blk (pc' := 1) (lo' := [some (.ref a0), some (.int x1), some (.int x2), none, none]) (st' := [.int x1]) [.iload_n 1] (by decide +kernel) rfl ?_
  refine q_if_lt 23 (off := 22) (by decide +kernel) (by decide) (fun c1 => ?_) (fun c1 => ?_)
  · have h := h.1 c1
    refine q_blk (pc' := 24) (lo' := [some (.ref a0), some (.int x1), some (.int x2), none, none]) (st' := [.int (-1)]) [.iconst (-1)] (by decide +kernel) rfl ?_
    exact q_retI rfl (by decide) (by decide) (by decide +kernel) ⟨_, rfl, h⟩
  · have h := h.2 c1
    refine q_blk (pc' := 6) (lo' := [some (.ref a0), some (.int x1), some (.int x2), none, none]) (st' := [.int x2, .int x1]) [.iload_n 1, .iload_n 2] (by decide +kernel) rfl ?_
    refine q_icmp_ge 23 (off := 17) (by decide +kernel) (by decide) (fun c2 => ?_) (fun c2 => ?_)
    · have h := h.1 c2
      refine q_blk (pc' := 24) (lo' := [some (.ref a0), some (.int x1), some (.int x2), none, none]) (st' := [.int (-1)]) [.iconst (-1)] (by decide +kernel) rfl ?_
      exact q_retI rfl (by decide) (by decide) (by decide +kernel) ⟨_, rfl, h⟩
    · have h := h.2 c2
      refine q_blk (pc' := 11) (lo' := [some (.ref a0), some (.int x1), some (.int x2), none, none]) (st' := [.ref a0, .int x2]) [.iload_n 2, .aload_n 0] (by decide +kernel) rfl ?_
      obtain ⟨z4, s3, b5, h⟩ := h
      refine q_alenB (by decide +kernel) s3 ?_
      refine q_icmp_gt 23 (off := 11) (by decide +kernel) (by decide) (fun c6 => ?_) (fun c6 => ?_)
      · have h := h.1 c6
        refine q_blk (pc' := 24) (lo' := [some (.ref a0), some (.int x1), some (.int x2), none, none]) (st' := [.int (-1)]) [.iconst (-1)] (by decide +kernel) rfl ?_
        exact q_retI rfl (by decide) (by decide) (by decide +kernel) ⟨_, rfl, h⟩
      · have h := h.2 c6
        refine q_blk (pc' := 20) (lo' := [some (.ref a0), some (.int x1), some (.int x2), none, none]) (st' := [.int (nI 6), .int (x2 - x1)]) [.iload_n 2, .iload_n 1, .isub, .bipush 6] (by decide +kernel) rfl ?_
        refine q_icmp_le 25 (off := 5) (by decide +kernel) (by decide) (fun c7 => ?_) (fun c7 => ?_)
        · have h := h.1 c7
          refine q_blk (pc' := 30) (lo' := [some (.ref a0), some (.int x1), some (.int x2), some (.int (nI 0)), some (.int x1)]) (st' := []) [.iconst 0, .istore_n 3, .iload_n 1, .istore 4] (by decide +kernel) rfl ?_
          exact q_wk [some (.ref a0), none, some (.int x2), some (.int (nI 0)), some (.int x1)] (And.intro rfl (And.intro rfl (And.intro rfl (And.intro rfl trivial)))) h
        · have h := h.2 c7
          refine q_blk (pc' := 24) (lo' := [some (.ref a0), some (.int x1), some (.int x2), none, none]) (st' := [.int (-1)]) [.iconst (-1)] (by decide +kernel) rfl ?_
          exact q_retI rfl (by decide) (by decide) (by decide +kernel) ⟨_, rfl, h⟩
theorem f_X9_nameCode_30 {G : q_G} {X : String → q_H → Prop} {f : Int32 → q_H → Prop} {A : q_H} {a0 : Nat} {x2 : Int32} {x3 : Int32} {x4 : Int32} (h : ((x2 ≤ x4 → f x3 A) ∧ (¬ x2 ≤ x4 → ∃ z3 : Nat, q_sh A a0 = (51, z3) ∧ z3 < 2147483648 ∧ ∃ j5 : Nat, x4 = nI j5 ∧ j5 < z3 ∧ q_Wc G M_X9_isLetter [.int (q_I A a0 j5)] A (q_KB fun b9 A8 => ((b9 = true → ∃ z13 : Nat, q_sh A8 a0 = (51, z13) ∧ z13 < 2147483648 ∧ j5 < z13 ∧ q_Wp G M_X9_nameCode (q_KI f) X 0 0 30 [some (.ref a0), none, some (.int x2), some (.int ((x3 * (nI 32)) + (((q_I A8 a0 j5) - (nI 97)) + (nI 1)))), some (.int (x4 + (nI 1)))] [] A8) ∧ (b9 = false → f (-1) A8))) q_nX))) : q_Wp G M_X9_nameCode (q_KI f) X 0 0 30 [some (.ref a0), none, some (.int x2), some (.int x3), some (.int x4)] [] A := by
  refine q_blk (pc' := 33) (lo' := [some (.ref a0), none, some (.int x2), some (.int x3), some (.int x4)]) (st' := [.int x2, .int x4]) [.iload 4, .iload_n 2] (by decide +kernel) rfl ?_
  refine q_icmp_ge 69 (off := 36) (by decide +kernel) (by decide) (fun c1 => ?_) (fun c1 => ?_)
  · have h := h.1 c1
    refine q_blk (pc' := 70) (lo' := [some (.ref a0), none, some (.int x2), some (.int x3), some (.int x4)]) (st' := [.int x3]) [.iload_n 3] (by decide +kernel) rfl ?_
    exact q_retI rfl (by decide) (by decide) (by decide +kernel) ⟨_, rfl, h⟩
  · have h := h.2 c1
    refine q_blk (pc' := 39) (lo' := [some (.ref a0), none, some (.int x2), some (.int x3), some (.int x4)]) (st' := [.int x4, .ref a0]) [.aload_n 0, .iload 4] (by decide +kernel) rfl ?_
    obtain ⟨z3, s2, b4, h⟩ := h
    obtain ⟨j5, e6, h⟩ := h
    obtain ⟨l7, h⟩ := h
    refine q_bald e6 (by decide +kernel) s2 l7 b4 ?_
    refine q_callS (Mc := M_X9_isLetter) (z := 1) (As := [.int (q_I A a0 j5)]) (st := []) mo_X9_isLetter ms_X9_isLetter ml_X9_23_X9_isLetter rfl rfl (by decide) (by decide) rfl (Nat.le_of_ble_eq_true rfl) (by decide +kernel) h (q_fB fun b9 A8 h => ?_)
    show q_Wp _ _ _ _ 0 0 43 [some (.ref a0), none, some (.int x2), some (.int x3), some (.int x4)] [.int (q_i b9)] A8
    refine q_ifB_ne 48 (off := 5) (by decide +kernel) (by decide) (fun c10 => ?_) (fun c10 => ?_)
    · have h := h.1 c10
      refine q_blk (pc' := 55) (lo' := [some (.ref a0), none, some (.int x2), some (.int x3), some (.int x4)]) (st' := [.int x4, .ref a0, .int (x3 * (nI 32))]) [.iload_n 3, .bipush 32, .imul, .aload_n 0, .iload 4] (by decide +kernel) rfl ?_
      obtain ⟨z13, s12, b14, h⟩ := h
      obtain ⟨l15, h⟩ := h
      refine q_bald e6 (by decide +kernel) s12 l15 b14 ?_
      refine q_blk (pc' := 66) (lo' := [some (.ref a0), none, some (.int x2), some (.int ((x3 * (nI 32)) + (((q_I A8 a0 j5) - (nI 97)) + (nI 1)))), some (.int (x4 + (nI 1)))]) (st' := []) [.bipush 97, .isub, .iconst 1, .iadd, .iadd, .istore_n 3, .iinc 4 1] (by decide +kernel) rfl ?_
      refine q_goto 30 (off := -36) (by decide +kernel) (by decide) ?_
      exact h
    · have h := h.2 c10
      refine q_blk (pc' := 47) (lo' := [some (.ref a0), none, some (.int x2), some (.int x3), some (.int x4)]) (st' := [.int (-1)]) [.iconst (-1)] (by decide +kernel) rfl ?_
      exact q_retI rfl (by decide) (by decide) (by decide +kernel) ⟨_, rfl, h⟩
theorem f_X9_readText {G : q_G} {X : String → q_H → Prop} {f : Int32 → q_H → Prop} {A : q_H} {a0 : Nat} (h : q_sh A a0 = (10, 0) ∧ ∃ r2 : Nat, q_R A a0 2 = some r2 ∧ q_sh A r2 = (5, 0) ∧ q_Wc G M_X4_reset [.ref r2] A (q_KV fun A4 => q_sh A4 a0 = (10, 0) ∧ q_Wc G M_X9_nextToken [.ref a0] A4 (q_KV fun A7 => q_sh A7 a0 = (10, 0) ∧ q_Wc G M_X9_isWord [.ref a0, .ref (q_aK G 0)] A7 (q_KB fun b11 A10 => ((b11 = true → q_sh A10 a0 = (10, 0) ∧ q_Wc G M_X9_nextToken [.ref a0] A10 (q_KV fun A18 => q_sh A18 a0 = (10, 0) ∧ ∃ r22 : Nat, q_R A18 a0 2 = some r22 ∧ q_Wc G M_X9_readNumber [.ref a0, .int (nI 1), .int (nI 6)] A18 (q_KI fun r25 A24 => q_sh A24 r22 = (5, 0) ∧ q_sh A24 a0 = (10, 0) ∧ q_Wc G M_X9_readSemicolon [.ref a0] (q_setI A24 r22 0 r25) (q_KV fun A27 => q_Wp G M_X9_readText (q_KI f) X 1 10 52 [some (.ref a0), some (.int (nI 0))] [] A27) q_nX) q_nX) q_nX) ∧ (b11 = false → q_sh A10 a0 = (10, 0) ∧ q_Wc G M_X9_fail [.ref a0, .int (nI 1)] A10 (q_KV fun A15 => q_Wp G M_X9_readText (q_KI f) X 1 10 52 [some (.ref a0), some (.int (nI 0))] [] A15) q_nX))) q_nX) q_nX) q_nX) : q_Wc G M_X9_readText [.ref a0] A (q_KI f) X := by
  refine q_Wc.of [some (.ref a0), none] mo_X9_readText.2.2.2.2.2 rfl (Nat.le_of_ble_eq_true rfl) rfl ?_
  refine q_blk (pc' := 1) (lo' := [some (.ref a0), none]) (st' := [.ref a0]) [.aload_n 0] (by decide +kernel) rfl ?_
  obtain ⟨s1, h⟩ := h
  obtain ⟨r2, e3, h⟩ := h
  refine q_getR fl_X9_19 rfl (by decide) (by decide +kernel) s1 e3 ?_
  obtain ⟨s6, h⟩ := h
  refine q_callV (ci := 4) (Mc := M_X4_reset) (z := 0) (b := r2) (As := []) (st := []) mo_X4_reset mi_X4_reset ml_X9_27_X4_reset rfl rfl (by decide) rfl (by decide) (by decide) rfl (Nat.le_of_ble_eq_true rfl) (by decide +kernel) s6 h (q_fV fun A4 h => ?_)
  show q_Wp _ _ _ _ 1 10 7 [some (.ref a0), none] [] A4
  refine q_blk (pc' := 8) (lo' := [some (.ref a0), none]) (st' := [.ref a0]) [.aload_n 0] (by decide +kernel) rfl ?_
  obtain ⟨s9, h⟩ := h
  refine q_callV (ci := 9) (Mc := M_X9_nextToken) (z := 0) (b := a0) (As := []) (st := []) mo_X9_nextToken mi_X9_nextToken ml_X9_32_X9_nextToken rfl rfl (by decide) rfl (by decide) (by decide) rfl (Nat.le_of_ble_eq_true rfl) (by decide +kernel) s9 h (q_fV fun A7 h => ?_)
  show q_Wp _ _ _ _ 1 10 11 [some (.ref a0), none] [] A7
  refine q_blk (pc' := 12) (lo' := [some (.ref a0), none]) (st' := [.ref a0]) [.aload_n 0] (by decide +kernel) rfl ?_
  refine q_ldc (i := 0) rfl rfl rfl (by decide +kernel) ?_
  obtain ⟨s12, h⟩ := h
  refine q_callV (ci := 9) (Mc := M_X9_isWord) (z := 1) (b := a0) (As := [.ref (q_aK G 0)]) (st := []) mo_X9_isWord mi_X9_isWord ml_X9_37_X9_isWord rfl rfl (by decide) rfl (by decide) (by decide) rfl (Nat.le_of_ble_eq_true rfl) (by decide +kernel) s12 h (q_fB fun b11 A10 h => ?_)
  show q_Wp _ _ _ _ 1 10 17 [some (.ref a0), none] [.int (q_i b11)] A10
  refine q_ifB_eq 45 (off := 28) (by decide +kernel) (by decide) (fun c13 => ?_) (fun c13 => ?_)
  · have h := h.2 c13
    refine q_blk (pc' := 47) (lo' := [some (.ref a0), none]) (st' := [.int (nI 1), .ref a0]) [.aload_n 0, .iconst 1] (by decide +kernel) rfl ?_
    obtain ⟨s17, h⟩ := h
    refine q_callV (ci := 9) (Mc := M_X9_fail) (z := 1) (b := a0) (As := [.int (nI 1)]) (st := []) mo_X9_fail mi_X9_fail ml_X9_50_X9_fail rfl rfl (by decide) rfl (by decide) (by decide) rfl (Nat.le_of_ble_eq_true rfl) (by decide +kernel) s17 h (q_fV fun A15 h => ?_)
    show q_Wp _ _ _ _ 1 10 50 [some (.ref a0), none] [] A15
    refine q_blk (pc' := 52) (lo' := [some (.ref a0), some (.int (nI 0))]) (st' := []) [.iconst 0, .istore_n 1] (by decide +kernel) rfl ?_
    exact h
  · have h := h.1 c13
    refine q_blk (pc' := 21) (lo' := [some (.ref a0), none]) (st' := [.ref a0]) [.aload_n 0] (by decide +kernel) rfl ?_
    obtain ⟨s20, h⟩ := h
    refine q_callV (ci := 9) (Mc := M_X9_nextToken) (z := 0) (b := a0) (As := []) (st := []) mo_X9_nextToken mi_X9_nextToken ml_X9_32_X9_nextToken rfl rfl (by decide) rfl (by decide) (by decide) rfl (Nat.le_of_ble_eq_true rfl) (by decide +kernel) s20 h (q_fV fun A18 h => ?_)
    show q_Wp _ _ _ _ 1 10 24 [some (.ref a0), none] [] A18
    refine q_blk (pc' := 25) (lo' := [some (.ref a0), none]) (st' := [.ref a0]) [.aload_n 0] (by decide +kernel) rfl ?_
    obtain ⟨s21, h⟩ := h
    obtain ⟨r22, e23, h⟩ := h
    refine q_getR fl_X9_19 rfl (by decide) (by decide +kernel) s21 e23 ?_
    refine q_blk (pc' := 32) (lo' := [some (.ref a0), none]) (st' := [.int (nI 6), .int (nI 1), .ref a0, .ref r22]) [.aload_n 0, .iconst 1, .bipush 6] (by decide +kernel) rfl ?_
    refine q_callV (ci := 9) (Mc := M_X9_readNumber) (z := 2) (b := a0) (As := [.int (nI 1), .int (nI 6)]) (st := [.ref r22]) mo_X9_readNumber mi_X9_readNumber ml_X9_41_X9_readNumber rfl rfl (by decide) rfl (by decide) (by decide) rfl (Nat.le_of_ble_eq_true rfl) (by decide +kernel) s21 h (q_fI fun r25 A24 h => ?_)
    show q_Wp _ _ _ _ 1 10 35 [some (.ref a0), none] [.int r25, .ref r22] A24
    obtain ⟨s26, h⟩ := h
    refine q_putI fw_X9_45 rfl (by decide) (by decide +kernel) s26 ?_
    refine q_blk (pc' := 39) (lo' := [some (.ref a0), none]) (st' := [.ref a0]) [.aload_n 0] (by decide +kernel) rfl ?_
    obtain ⟨s29, h⟩ := h
    refine q_callV (ci := 9) (Mc := M_X9_readSemicolon) (z := 0) (b := a0) (As := []) (st := []) mo_X9_readSemicolon mi_X9_readSemicolon ml_X9_47_X9_readSemicolon rfl rfl (by decide) rfl (by decide) (by decide) rfl (Nat.le_of_ble_eq_true rfl) (by decide +kernel) s29 h (q_fV fun A27 h => ?_)
    show q_Wp _ _ _ _ 1 10 42 [some (.ref a0), none] [] A27
    refine q_goto 50 (off := 8) (by decide +kernel) (by decide) ?_
    refine q_blk (pc' := 52) (lo' := [some (.ref a0), some (.int (nI 0))]) (st' := []) [.iconst 0, .istore_n 1] (by decide +kernel) rfl ?_
    exact h
theorem f_X9_readText_52 {G : q_G} {X : String → q_H → Prop} {f : Int32 → q_H → Prop} {A : q_H} {a0 : Nat} {x1 : Int32} {k n : Nat} (h : (((nI 700) ≤ x1 → q_sh A a0 = (10, 0) ∧ ∃ r3 : Nat, q_R A a0 2 = some r3 ∧ q_sh A r3 = (5, 0) ∧ (((q_I A r3 3) = nI 0 → (k ≤ 1 ∧ n ≤ 10) ∧ q_Wc G M_X9_fail [.ref a0, .int (nI 1)] A (q_KV fun A9 => q_sh A9 a0 = (10, 0) ∧ (k ≤ 1 ∧ n ≤ 10) ∧ f (q_I A9 a0 7) A9) q_nX) ∧ (¬ (q_I A r3 3) = nI 0 → (k ≤ 1 ∧ n ≤ 10) ∧ f (q_I A a0 7) A))) ∧ (¬ (nI 700) ≤ x1 → q_sh A a0 = (10, 0) ∧ (((q_I A a0 7) = nI 0 → (((q_I A a0 3) = nI 0 → ∃ r26 : Nat, q_R A a0 2 = some r26 ∧ q_sh A r26 = (5, 0) ∧ (((q_I A r26 3) = nI 0 → (k ≤ 1 ∧ n ≤ 10) ∧ q_Wc G M_X9_fail [.ref a0, .int (nI 1)] A (q_KV fun A32 => q_sh A32 a0 = (10, 0) ∧ (k ≤ 1 ∧ n ≤ 10) ∧ f (q_I A32 a0 7) A32) q_nX) ∧ (¬ (q_I A r26 3) = nI 0 → (k ≤ 1 ∧ n ≤ 10) ∧ f (q_I A a0 7) A))) ∧ (¬ (q_I A a0 3) = nI 0 → (k ≤ 1 ∧ n ≤ 10) ∧ q_Wc G M_X9_readStatement [.ref a0] A (q_KV fun A37 => (k ≤ 1 ∧ n ≤ 10) ∧ q_sh A37 a0 = (10, 0) ∧ q_Wc G M_X9_readSemicolon [.ref a0] A37 (q_KV fun A40 => q_Wp G M_X9_readText (q_KI f) X k n 52 [some (.ref a0), some (.int (x1 + (nI 1)))] [] A40) q_nX) q_nX))) ∧ (¬ (q_I A a0 7) = nI 0 → ∃ r15 : Nat, q_R A a0 2 = some r15 ∧ q_sh A r15 = (5, 0) ∧ (((q_I A r15 3) = nI 0 → (k ≤ 1 ∧ n ≤ 10) ∧ q_Wc G M_X9_fail [.ref a0, .int (nI 1)] A (q_KV fun A21 => q_sh A21 a0 = (10, 0) ∧ (k ≤ 1 ∧ n ≤ 10) ∧ f (q_I A21 a0 7) A21) q_nX) ∧ (¬ (q_I A r15 3) = nI 0 → (k ≤ 1 ∧ n ≤ 10) ∧ f (q_I A a0 7) A))))))) : q_Wp G M_X9_readText (q_KI f) X k n 52 [some (.ref a0), some (.int x1)] [] A := by
  refine q_blk (pc' := 56) (lo' := [some (.ref a0), some (.int x1)]) (st' := [.int (nI 700), .int x1]) [.iload_n 1, .sipush 700] (by decide +kernel) rfl ?_
  refine q_icmp_ge 87 (off := 31) (by decide +kernel) (by decide) (fun c1 => ?_) (fun c1 => ?_)
  · have h := h.1 c1
    refine q_blk (pc' := 88) (lo' := [some (.ref a0), some (.int x1)]) (st' := [.ref a0]) [.aload_n 0] (by decide +kernel) rfl ?_
    obtain ⟨s2, h⟩ := h
    obtain ⟨r3, e4, h⟩ := h
    refine q_getR fl_X9_19 rfl (by decide) (by decide +kernel) s2 e4 ?_
    obtain ⟨s5, h⟩ := h
    refine q_getI fl_X9_63 rfl (by decide) (by decide +kernel) s5 ?_
    refine q_if_ne 102 (off := 8) (by decide +kernel) (by decide) (fun c6 => ?_) (fun c6 => ?_)
    · have h := h.2 c6
      refine q_blk (pc' := 103) (lo' := [some (.ref a0), some (.int x1)]) (st' := [.ref a0]) [.aload_n 0] (by decide +kernel) rfl ?_
      refine q_getI fl_X9_54 rfl (by decide) (by decide +kernel) s2 ?_
      obtain ⟨g7, h⟩ := h
      exact q_retI rfl g7.1 g7.2 (by decide +kernel) ⟨_, rfl, h⟩
    · have h := h.1 c6
      refine q_blk (pc' := 99) (lo' := [some (.ref a0), some (.int x1)]) (st' := [.int (nI 1), .ref a0]) [.aload_n 0, .iconst 1] (by decide +kernel) rfl ?_
      obtain ⟨g8, h⟩ := h
      refine q_callV (ci := 9) (Mc := M_X9_fail) (z := 1) (b := a0) (As := [.int (nI 1)]) (st := []) mo_X9_fail mi_X9_fail ml_X9_50_X9_fail rfl rfl (by decide) rfl (by decide) g8 rfl (Nat.le_of_ble_eq_true rfl) (by decide +kernel) s2 h (q_fV fun A9 h => ?_)
      show q_Wp _ _ _ _ k n 102 [some (.ref a0), some (.int x1)] [] A9
      refine q_blk (pc' := 103) (lo' := [some (.ref a0), some (.int x1)]) (st' := [.ref a0]) [.aload_n 0] (by decide +kernel) rfl ?_
      obtain ⟨s11, h⟩ := h
      refine q_getI fl_X9_54 rfl (by decide) (by decide +kernel) s11 ?_
      obtain ⟨g12, h⟩ := h
      exact q_retI rfl g12.1 g12.2 (by decide +kernel) ⟨_, rfl, h⟩
  · have h := h.2 c1
    refine q_blk (pc' := 60) (lo' := [some (.ref a0), some (.int x1)]) (st' := [.ref a0]) [.aload_n 0] (by decide +kernel) rfl ?_
    obtain ⟨s13, h⟩ := h
    refine q_getI fl_X9_54 rfl (by decide) (by decide +kernel) s13 ?_
    refine q_if_ne 87 (off := 24) (by decide +kernel) (by decide) (fun c14 => ?_) (fun c14 => ?_)
    · have h := h.2 c14
      refine q_blk (pc' := 88) (lo' := [some (.ref a0), some (.int x1)]) (st' := [.ref a0]) [.aload_n 0] (by decide +kernel) rfl ?_
      obtain ⟨r15, e16, h⟩ := h
      refine q_getR fl_X9_19 rfl (by decide) (by decide +kernel) s13 e16 ?_
      obtain ⟨s17, h⟩ := h
      refine q_getI fl_X9_63 rfl (by decide) (by decide +kernel) s17 ?_
      refine q_if_ne 102 (off := 8) (by decide +kernel) (by decide) (fun c18 => ?_) (fun c18 => ?_)
      · have h := h.2 c18
        refine q_blk (pc' := 103) (lo' := [some (.ref a0), some (.int x1)]) (st' := [.ref a0]) [.aload_n 0] (by decide +kernel) rfl ?_
        refine q_getI fl_X9_54 rfl (by decide) (by decide +kernel) s13 ?_
        obtain ⟨g19, h⟩ := h
        exact q_retI rfl g19.1 g19.2 (by decide +kernel) ⟨_, rfl, h⟩
      · have h := h.1 c18
        refine q_blk (pc' := 99) (lo' := [some (.ref a0), some (.int x1)]) (st' := [.int (nI 1), .ref a0]) [.aload_n 0, .iconst 1] (by decide +kernel) rfl ?_
        obtain ⟨g20, h⟩ := h
        refine q_callV (ci := 9) (Mc := M_X9_fail) (z := 1) (b := a0) (As := [.int (nI 1)]) (st := []) mo_X9_fail mi_X9_fail ml_X9_50_X9_fail rfl rfl (by decide) rfl (by decide) g20 rfl (Nat.le_of_ble_eq_true rfl) (by decide +kernel) s13 h (q_fV fun A21 h => ?_)
        show q_Wp _ _ _ _ k n 102 [some (.ref a0), some (.int x1)] [] A21
        refine q_blk (pc' := 103) (lo' := [some (.ref a0), some (.int x1)]) (st' := [.ref a0]) [.aload_n 0] (by decide +kernel) rfl ?_
        obtain ⟨s23, h⟩ := h
        refine q_getI fl_X9_54 rfl (by decide) (by decide +kernel) s23 ?_
        obtain ⟨g24, h⟩ := h
        exact q_retI rfl g24.1 g24.2 (by decide +kernel) ⟨_, rfl, h⟩
    · have h := h.1 c14
      refine q_blk (pc' := 67) (lo' := [some (.ref a0), some (.int x1)]) (st' := [.ref a0]) [.aload_n 0] (by decide +kernel) rfl ?_
      refine q_getI fl_X9_57 rfl (by decide) (by decide +kernel) s13 ?_
      refine q_if_eq 87 (off := 17) (by decide +kernel) (by decide) (fun c25 => ?_) (fun c25 => ?_)
      · have h := h.1 c25
        refine q_blk (pc' := 88) (lo' := [some (.ref a0), some (.int x1)]) (st' := [.ref a0]) [.aload_n 0] (by decide +kernel) rfl ?_
        obtain ⟨r26, e27, h⟩ := h
        refine q_getR fl_X9_19 rfl (by decide) (by decide +kernel) s13 e27 ?_
        obtain ⟨s28, h⟩ := h
        refine q_getI fl_X9_63 rfl (by decide) (by decide +kernel) s28 ?_
        refine q_if_ne 102 (off := 8) (by decide +kernel) (by decide) (fun c29 => ?_) (fun c29 => ?_)
        · have h := h.2 c29
          refine q_blk (pc' := 103) (lo' := [some (.ref a0), some (.int x1)]) (st' := [.ref a0]) [.aload_n 0] (by decide +kernel) rfl ?_
          refine q_getI fl_X9_54 rfl (by decide) (by decide +kernel) s13 ?_
          obtain ⟨g30, h⟩ := h
          exact q_retI rfl g30.1 g30.2 (by decide +kernel) ⟨_, rfl, h⟩
        · have h := h.1 c29
          refine q_blk (pc' := 99) (lo' := [some (.ref a0), some (.int x1)]) (st' := [.int (nI 1), .ref a0]) [.aload_n 0, .iconst 1] (by decide +kernel) rfl ?_
          obtain ⟨g31, h⟩ := h
          refine q_callV (ci := 9) (Mc := M_X9_fail) (z := 1) (b := a0) (As := [.int (nI 1)]) (st := []) mo_X9_fail mi_X9_fail ml_X9_50_X9_fail rfl rfl (by decide) rfl (by decide) g31 rfl (Nat.le_of_ble_eq_true rfl) (by decide +kernel) s13 h (q_fV fun A32 h => ?_)
          show q_Wp _ _ _ _ k n 102 [some (.ref a0), some (.int x1)] [] A32
          refine q_blk (pc' := 103) (lo' := [some (.ref a0), some (.int x1)]) (st' := [.ref a0]) [.aload_n 0] (by decide +kernel) rfl ?_
          obtain ⟨s34, h⟩ := h
          refine q_getI fl_X9_54 rfl (by decide) (by decide +kernel) s34 ?_
          obtain ⟨g35, h⟩ := h
          exact q_retI rfl g35.1 g35.2 (by decide +kernel) ⟨_, rfl, h⟩
      · have h := h.2 c25
        refine q_blk (pc' := 74) (lo' := [some (.ref a0), some (.int x1)]) (st' := [.ref a0]) [.aload_n 0] (by decide +kernel) rfl ?_
        obtain ⟨g36, h⟩ := h
        refine q_callV (ci := 9) (Mc := M_X9_readStatement) (z := 0) (b := a0) (As := []) (st := []) mo_X9_readStatement mi_X9_readStatement ml_X9_60_X9_readStatement rfl rfl (by decide) rfl (by decide) g36 rfl (Nat.le_of_ble_eq_true rfl) (by decide +kernel) s13 h (q_fV fun A37 h => ?_)
        show q_Wp _ _ _ _ k n 77 [some (.ref a0), some (.int x1)] [] A37
        refine q_blk (pc' := 78) (lo' := [some (.ref a0), some (.int x1)]) (st' := [.ref a0]) [.aload_n 0] (by decide +kernel) rfl ?_
        obtain ⟨g39, h⟩ := h
        obtain ⟨s42, h⟩ := h
        refine q_callV (ci := 9) (Mc := M_X9_readSemicolon) (z := 0) (b := a0) (As := []) (st := []) mo_X9_readSemicolon mi_X9_readSemicolon ml_X9_47_X9_readSemicolon rfl rfl (by decide) rfl (by decide) g39 rfl (Nat.le_of_ble_eq_true rfl) (by decide +kernel) s42 h (q_fV fun A40 h => ?_)
        show q_Wp _ _ _ _ k n 81 [some (.ref a0), some (.int x1)] [] A40
        refine q_blk (pc' := 84) (lo' := [some (.ref a0), some (.int (x1 + (nI 1)))]) (st' := []) [.iinc 1 1] (by decide +kernel) rfl ?_
        refine q_goto 52 (off := -32) (by decide +kernel) (by decide) ?_
        exact h
theorem f_X9_readStatement {G : q_G} {X : String → q_H → Prop} {f : q_H → Prop} {A : q_H} {a0 : Nat} (h : q_sh A a0 = (10, 0) ∧ q_Wc G M_X9_isWord [.ref a0, .ref (q_aK G 1)] A (q_KB fun b2 A1 => ((b2 = true → q_sh A1 a0 = (10, 0) ∧ q_Wc G M_X9_readStation [.ref a0] A1 (q_KV fun A33 => f A33) q_nX) ∧ (b2 = false → q_sh A1 a0 = (10, 0) ∧ q_Wc G M_X9_isWord [.ref a0, .ref (q_aK G 2)] A1 (q_KB fun b7 A6 => ((b7 = true → q_sh A6 a0 = (10, 0) ∧ q_Wc G M_X9_readSetting [.ref a0] A6 (q_KV fun A30 => f A30) q_nX) ∧ (b7 = false → q_sh A6 a0 = (10, 0) ∧ q_Wc G M_X9_isWord [.ref a0, .ref (q_aK G 3)] A6 (q_KB fun b12 A11 => ((b12 = true → q_sh A11 a0 = (10, 0) ∧ q_Wc G M_X9_readLoad [.ref a0] A11 (q_KV fun A27 => f A27) q_nX) ∧ (b12 = false → q_sh A11 a0 = (10, 0) ∧ q_Wc G M_X9_isWord [.ref a0, .ref (q_aK G 4)] A11 (q_KB fun b17 A16 => ((b17 = true → q_sh A16 a0 = (10, 0) ∧ q_Wc G M_X9_readBuyer [.ref a0] A16 (q_KV fun A24 => f A24) q_nX) ∧ (b17 = false → q_sh A16 a0 = (10, 0) ∧ q_Wc G M_X9_fail [.ref a0, .int (nI 1)] A16 (q_KV fun A21 => f A21) q_nX))) q_nX))) q_nX))) q_nX))) q_nX) : q_Wc G M_X9_readStatement [.ref a0] A (q_KV f) X := by
  refine q_Wc.of [some (.ref a0)] mo_X9_readStatement.2.2.2.2.2 rfl (Nat.le_of_ble_eq_true rfl) rfl ?_
  refine q_blk (pc' := 1) (lo' := [some (.ref a0)]) (st' := [.ref a0]) [.aload_n 0] (by decide +kernel) rfl ?_
  refine q_ldc (i := 1) rfl rfl rfl (by decide +kernel) ?_
  obtain ⟨s3, h⟩ := h
  refine q_callV (ci := 9) (Mc := M_X9_isWord) (z := 1) (b := a0) (As := [.ref (q_aK G 1)]) (st := []) mo_X9_isWord mi_X9_isWord ml_X9_37_X9_isWord rfl rfl (by decide) rfl (by decide) (by decide) rfl (Nat.le_of_ble_eq_true rfl) (by decide +kernel) s3 h (q_fB fun b2 A1 h => ?_)
  show q_Wp _ _ _ _ 0 0 6 [some (.ref a0)] [.int (q_i b2)] A1
  refine q_ifB_eq 16 (off := 10) (by decide +kernel) (by decide) (fun c4 => ?_) (fun c4 => ?_)
  · have h := h.2 c4
    refine q_blk (pc' := 17) (lo' := [some (.ref a0)]) (st' := [.ref a0]) [.aload_n 0] (by decide +kernel) rfl ?_
    refine q_ldc (i := 2) rfl rfl rfl (by decide +kernel) ?_
    obtain ⟨s8, h⟩ := h
    refine q_callV (ci := 9) (Mc := M_X9_isWord) (z := 1) (b := a0) (As := [.ref (q_aK G 2)]) (st := []) mo_X9_isWord mi_X9_isWord ml_X9_37_X9_isWord rfl rfl (by decide) rfl (by decide) (by decide) rfl (Nat.le_of_ble_eq_true rfl) (by decide +kernel) s8 h (q_fB fun b7 A6 h => ?_)
    show q_Wp _ _ _ _ 0 0 22 [some (.ref a0)] [.int (q_i b7)] A6
    refine q_ifB_eq 32 (off := 10) (by decide +kernel) (by decide) (fun c9 => ?_) (fun c9 => ?_)
    · have h := h.2 c9
      refine q_blk (pc' := 33) (lo' := [some (.ref a0)]) (st' := [.ref a0]) [.aload_n 0] (by decide +kernel) rfl ?_
      refine q_ldc (i := 3) rfl rfl rfl (by decide +kernel) ?_
      obtain ⟨s13, h⟩ := h
      refine q_callV (ci := 9) (Mc := M_X9_isWord) (z := 1) (b := a0) (As := [.ref (q_aK G 3)]) (st := []) mo_X9_isWord mi_X9_isWord ml_X9_37_X9_isWord rfl rfl (by decide) rfl (by decide) (by decide) rfl (Nat.le_of_ble_eq_true rfl) (by decide +kernel) s13 h (q_fB fun b12 A11 h => ?_)
      show q_Wp _ _ _ _ 0 0 38 [some (.ref a0)] [.int (q_i b12)] A11
      refine q_ifB_eq 48 (off := 10) (by decide +kernel) (by decide) (fun c14 => ?_) (fun c14 => ?_)
      · have h := h.2 c14
        refine q_blk (pc' := 49) (lo' := [some (.ref a0)]) (st' := [.ref a0]) [.aload_n 0] (by decide +kernel) rfl ?_
        refine q_ldc (i := 4) rfl rfl rfl (by decide +kernel) ?_
        obtain ⟨s18, h⟩ := h
        refine q_callV (ci := 9) (Mc := M_X9_isWord) (z := 1) (b := a0) (As := [.ref (q_aK G 4)]) (st := []) mo_X9_isWord mi_X9_isWord ml_X9_37_X9_isWord rfl rfl (by decide) rfl (by decide) (by decide) rfl (Nat.le_of_ble_eq_true rfl) (by decide +kernel) s18 h (q_fB fun b17 A16 h => ?_)
        show q_Wp _ _ _ _ 0 0 54 [some (.ref a0)] [.int (q_i b17)] A16
        refine q_ifB_eq 64 (off := 10) (by decide +kernel) (by decide) (fun c19 => ?_) (fun c19 => ?_)
        · have h := h.2 c19
          refine q_blk (pc' := 66) (lo' := [some (.ref a0)]) (st' := [.int (nI 1), .ref a0]) [.aload_n 0, .iconst 1] (by decide +kernel) rfl ?_
          obtain ⟨s23, h⟩ := h
          refine q_callV (ci := 9) (Mc := M_X9_fail) (z := 1) (b := a0) (As := [.int (nI 1)]) (st := []) mo_X9_fail mi_X9_fail ml_X9_50_X9_fail rfl rfl (by decide) rfl (by decide) (by decide) rfl (Nat.le_of_ble_eq_true rfl) (by decide +kernel) s23 h (q_fV fun A21 h => ?_)
          show q_Wp _ _ _ _ 0 0 69 [some (.ref a0)] [] A21
          exact q_ret0 rfl (by decide) (by decide) (by decide +kernel) ⟨rfl, h⟩
        · have h := h.1 c19
          refine q_blk (pc' := 58) (lo' := [some (.ref a0)]) (st' := [.ref a0]) [.aload_n 0] (by decide +kernel) rfl ?_
          obtain ⟨s26, h⟩ := h
          refine q_callV (ci := 9) (Mc := M_X9_readBuyer) (z := 0) (b := a0) (As := []) (st := []) mo_X9_readBuyer mi_X9_readBuyer ml_X9_83_X9_readBuyer rfl rfl (by decide) rfl (by decide) (by decide) rfl (Nat.le_of_ble_eq_true rfl) (by decide +kernel) s26 h (q_fV fun A24 h => ?_)
          show q_Wp _ _ _ _ 0 0 61 [some (.ref a0)] [] A24
          refine q_goto 69 (off := 8) (by decide +kernel) (by decide) ?_
          exact q_ret0 rfl (by decide) (by decide) (by decide +kernel) ⟨rfl, h⟩
      · have h := h.1 c14
        refine q_blk (pc' := 42) (lo' := [some (.ref a0)]) (st' := [.ref a0]) [.aload_n 0] (by decide +kernel) rfl ?_
        obtain ⟨s29, h⟩ := h
        refine q_callV (ci := 9) (Mc := M_X9_readLoad) (z := 0) (b := a0) (As := []) (st := []) mo_X9_readLoad mi_X9_readLoad ml_X9_78_X9_readLoad rfl rfl (by decide) rfl (by decide) (by decide) rfl (Nat.le_of_ble_eq_true rfl) (by decide +kernel) s29 h (q_fV fun A27 h => ?_)
        show q_Wp _ _ _ _ 0 0 45 [some (.ref a0)] [] A27
        refine q_goto 69 (off := 24) (by decide +kernel) (by decide) ?_
        exact q_ret0 rfl (by decide) (by decide) (by decide +kernel) ⟨rfl, h⟩
    · have h := h.1 c9
      refine q_blk (pc' := 26) (lo' := [some (.ref a0)]) (st' := [.ref a0]) [.aload_n 0] (by decide +kernel) rfl ?_
      obtain ⟨s32, h⟩ := h
      refine q_callV (ci := 9) (Mc := M_X9_readSetting) (z := 0) (b := a0) (As := []) (st := []) mo_X9_readSetting mi_X9_readSetting ml_X9_73_X9_readSetting rfl rfl (by decide) rfl (by decide) (by decide) rfl (Nat.le_of_ble_eq_true rfl) (by decide +kernel) s32 h (q_fV fun A30 h => ?_)
      show q_Wp _ _ _ _ 0 0 29 [some (.ref a0)] [] A30
      refine q_goto 69 (off := 40) (by decide +kernel) (by decide) ?_
      exact q_ret0 rfl (by decide) (by decide) (by decide +kernel) ⟨rfl, h⟩
  · have h := h.1 c4
    refine q_blk (pc' := 10) (lo' := [some (.ref a0)]) (st' := [.ref a0]) [.aload_n 0] (by decide +kernel) rfl ?_
    obtain ⟨s35, h⟩ := h
    refine q_callV (ci := 9) (Mc := M_X9_readStation) (z := 0) (b := a0) (As := []) (st := []) mo_X9_readStation mi_X9_readStation ml_X9_68_X9_readStation rfl rfl (by decide) rfl (by decide) (by decide) rfl (Nat.le_of_ble_eq_true rfl) (by decide +kernel) s35 h (q_fV fun A33 h => ?_)
    show q_Wp _ _ _ _ 0 0 13 [some (.ref a0)] [] A33
    refine q_goto 69 (off := 56) (by decide +kernel) (by decide) ?_
    exact q_ret0 rfl (by decide) (by decide) (by decide +kernel) ⟨rfl, h⟩
theorem f_X9_readStation {G : q_G} {X : String → q_H → Prop} {f : q_H → Prop} {A : q_H} {a0 : Nat} (h : q_sh A a0 = (10, 0) ∧ ∃ r2 : Nat, q_R A a0 2 = some r2 ∧ q_sh A r2 = (5, 0) ∧ (((q_I A r2 3) < (nI 8) → q_Wc G M_X9_nextToken [.ref a0] A (q_KV fun A6 => q_sh A6 a0 = (10, 0) ∧ ∃ r9 : Nat, q_R A6 a0 2 = some r9 ∧ q_sh A6 r9 = (5, 0) ∧ q_Wc G M_X9_readNumber [.ref a0, .int (nI 0), .int ((q_I A6 r9 0) - (nI 1))] A6 (q_KI fun r13 A12 => q_sh A12 a0 = (10, 0) ∧ q_Wc G M_X9_readNumber [.ref a0, .int (nI 0), .int (nI 9)] A12 (q_KI fun r15 A14 => q_sh A14 a0 = (10, 0) ∧ q_Wc G M_X9_readNumber [.ref a0, .int (nI 1), .int (nI 50)] A14 (q_KI fun r18 A17 => q_sh A17 a0 = (10, 0) ∧ q_Wc G M_X9_readNumber [.ref a0, .int (nI 0), .int (nI 30)] A17 (q_KI fun r21 A20 => q_sh A20 a0 = (10, 0) ∧ (((q_I A20 a0 7) = nI 0 → ∃ r25 : Nat, q_R A20 a0 2 = some r25 ∧ q_sh A20 r25 = (5, 0) ∧ q_Wc G M_X4_addStation [.ref r25, .int r13, .int r15, .int r18, .int r21] A20 (q_KV fun A27 => f A27) q_nX) ∧ (¬ (q_I A20 a0 7) = nI 0 → f A20))) q_nX) q_nX) q_nX) q_nX) q_nX) ∧ (¬ (q_I A r2 3) < (nI 8) → q_Wc G M_X9_fail [.ref a0, .int (nI 5)] A (q_KV fun A30 => f A30) q_nX))) : q_Wc G M_X9_readStation [.ref a0] A (q_KV f) X := by
  refine q_Wc.of [some (.ref a0), none, none, none, none] mo_X9_readStation.2.2.2.2.2 rfl (Nat.le_of_ble_eq_true rfl) rfl ?_
  refine q_blk (pc' := 1) (lo' := [some (.ref a0), none, none, none, none]) (st' := [.ref a0]) [.aload_n 0] (by decide +kernel) rfl ?_
  obtain ⟨s1, h⟩ := h
  obtain ⟨r2, e3, h⟩ := h
  refine q_getR fl_X9_19 rfl (by decide) (by decide +kernel) s1 e3 ?_
  obtain ⟨s4, h⟩ := h
  refine q_getI fl_X9_63 rfl (by decide) (by decide +kernel) s4 ?_
  refine q_blk (pc' := 9) (lo' := [some (.ref a0), none, none, none, none]) (st' := [.int (nI 8), .int (q_I A r2 3)]) [.bipush 8] (by decide +kernel) rfl ?_
  refine q_icmp_lt 18 (off := 9) (by decide +kernel) (by decide) (fun c5 => ?_) (fun c5 => ?_)
  · have h := h.1 c5
    refine q_blk (pc' := 19) (lo' := [some (.ref a0), none, none, none, none]) (st' := [.ref a0]) [.aload_n 0] (by decide +kernel) rfl ?_
    refine q_callV (ci := 9) (Mc := M_X9_nextToken) (z := 0) (b := a0) (As := []) (st := []) mo_X9_nextToken mi_X9_nextToken ml_X9_32_X9_nextToken rfl rfl (by decide) rfl (by decide) (by decide) rfl (Nat.le_of_ble_eq_true rfl) (by decide +kernel) s1 h (q_fV fun A6 h => ?_)
    show q_Wp _ _ _ _ 0 0 22 [some (.ref a0), none, none, none, none] [] A6
    refine q_blk (pc' := 25) (lo' := [some (.ref a0), none, none, none, none]) (st' := [.ref a0, .int (nI 0), .ref a0]) [.aload_n 0, .iconst 0, .aload_n 0] (by decide +kernel) rfl ?_
    obtain ⟨s8, h⟩ := h
    obtain ⟨r9, e10, h⟩ := h
    refine q_getR fl_X9_19 rfl (by decide) (by decide +kernel) s8 e10 ?_
    obtain ⟨s11, h⟩ := h
    refine q_getI fl_X9_45 rfl (by decide) (by decide +kernel) s11 ?_
    refine q_blk (pc' := 33) (lo' := [some (.ref a0), none, none, none, none]) (st' := [.int ((q_I A6 r9 0) - (nI 1)), .int (nI 0), .ref a0]) [.iconst 1, .isub] (by decide +kernel) rfl ?_
    refine q_callV (ci := 9) (Mc := M_X9_readNumber) (z := 2) (b := a0) (As := [.int (nI 0), .int ((q_I A6 r9 0) - (nI 1))]) (st := []) mo_X9_readNumber mi_X9_readNumber ml_X9_41_X9_readNumber rfl rfl (by decide) rfl (by decide) (by decide) rfl (Nat.le_of_ble_eq_true rfl) (by decide +kernel) s8 h (q_fI fun r13 A12 h => ?_)
    show q_Wp _ _ _ _ 0 0 36 [some (.ref a0), none, none, none, none] [.int r13] A12
    refine q_blk (pc' := 41) (lo' := [some (.ref a0), some (.int r13), none, none, none]) (st' := [.int (nI 9), .int (nI 0), .ref a0]) [.istore_n 1, .aload_n 0, .iconst 0, .bipush 9] (by decide +kernel) rfl ?_
    obtain ⟨s16, h⟩ := h
    refine q_callV (ci := 9) (Mc := M_X9_readNumber) (z := 2) (b := a0) (As := [.int (nI 0), .int (nI 9)]) (st := []) mo_X9_readNumber mi_X9_readNumber ml_X9_41_X9_readNumber rfl rfl (by decide) rfl (by decide) (by decide) rfl (Nat.le_of_ble_eq_true rfl) (by decide +kernel) s16 h (q_fI fun r15 A14 h => ?_)
    show q_Wp _ _ _ _ 0 0 44 [some (.ref a0), some (.int r13), none, none, none] [.int r15] A14
    refine q_blk (pc' := 49) (lo' := [some (.ref a0), some (.int r13), some (.int r15), none, none]) (st' := [.int (nI 50), .int (nI 1), .ref a0]) [.istore_n 2, .aload_n 0, .iconst 1, .bipush 50] (by decide +kernel) rfl ?_
    obtain ⟨s19, h⟩ := h
    refine q_callV (ci := 9) (Mc := M_X9_readNumber) (z := 2) (b := a0) (As := [.int (nI 1), .int (nI 50)]) (st := []) mo_X9_readNumber mi_X9_readNumber ml_X9_41_X9_readNumber rfl rfl (by decide) rfl (by decide) (by decide) rfl (Nat.le_of_ble_eq_true rfl) (by decide +kernel) s19 h (q_fI fun r18 A17 h => ?_)
    show q_Wp _ _ _ _ 0 0 52 [some (.ref a0), some (.int r13), some (.int r15), none, none] [.int r18] A17
    refine q_blk (pc' := 57) (lo' := [some (.ref a0), some (.int r13), some (.int r15), some (.int r18), none]) (st' := [.int (nI 30), .int (nI 0), .ref a0]) [.istore_n 3, .aload_n 0, .iconst 0, .bipush 30] (by decide +kernel) rfl ?_
    obtain ⟨s22, h⟩ := h
    refine q_callV (ci := 9) (Mc := M_X9_readNumber) (z := 2) (b := a0) (As := [.int (nI 0), .int (nI 30)]) (st := []) mo_X9_readNumber mi_X9_readNumber ml_X9_41_X9_readNumber rfl rfl (by decide) rfl (by decide) (by decide) rfl (Nat.le_of_ble_eq_true rfl) (by decide +kernel) s22 h (q_fI fun r21 A20 h => ?_)
    show q_Wp _ _ _ _ 0 0 60 [some (.ref a0), some (.int r13), some (.int r15), some (.int r18), none] [.int r21] A20
    refine q_blk (pc' := 63) (lo' := [some (.ref a0), some (.int r13), some (.int r15), some (.int r18), some (.int r21)]) (st' := [.ref a0]) [.istore 4, .aload_n 0] (by decide +kernel) rfl ?_
    obtain ⟨s23, h⟩ := h
    refine q_getI fl_X9_54 rfl (by decide) (by decide +kernel) s23 ?_
    refine q_if_ne 81 (off := 15) (by decide +kernel) (by decide) (fun c24 => ?_) (fun c24 => ?_)
    · have h := h.2 c24
      exact q_ret0 rfl (by decide) (by decide) (by decide +kernel) ⟨rfl, h⟩
    · have h := h.1 c24
      refine q_blk (pc' := 70) (lo' := [some (.ref a0), some (.int r13), some (.int r15), some (.int r18), some (.int r21)]) (st' := [.ref a0]) [.aload_n 0] (by decide +kernel) rfl ?_
      obtain ⟨r25, e26, h⟩ := h
      refine q_getR fl_X9_19 rfl (by decide) (by decide +kernel) s23 e26 ?_
      refine q_blk (pc' := 78) (lo' := [some (.ref a0), some (.int r13), some (.int r15), some (.int r18), some (.int r21)]) (st' := [.int r21, .int r18, .int r15, .int r13, .ref r25]) [.iload_n 1, .iload_n 2, .iload_n 3, .iload 4] (by decide +kernel) rfl ?_
      obtain ⟨s29, h⟩ := h
      refine q_callV (ci := 4) (Mc := M_X4_addStation) (z := 4) (b := r25) (As := [.int r13, .int r15, .int r18, .int r21]) (st := []) mo_X4_addStation mi_X4_addStation ml_X9_86_X4_addStation rfl rfl (by decide) rfl (by decide) (by decide) rfl (Nat.le_of_ble_eq_true rfl) (by decide +kernel) s29 h (q_fV fun A27 h => ?_)
      show q_Wp _ _ _ _ 0 0 81 [some (.ref a0), some (.int r13), some (.int r15), some (.int r18), some (.int r21)] [] A27
      exact q_ret0 rfl (by decide) (by decide) (by decide +kernel) ⟨rfl, h⟩
  · have h := h.2 c5
    refine q_blk (pc' := 14) (lo' := [some (.ref a0), none, none, none, none]) (st' := [.int (nI 5), .ref a0]) [.aload_n 0, .iconst 5] (by decide +kernel) rfl ?_
    refine q_callV (ci := 9) (Mc := M_X9_fail) (z := 1) (b := a0) (As := [.int (nI 5)]) (st := []) mo_X9_fail mi_X9_fail ml_X9_50_X9_fail rfl rfl (by decide) rfl (by decide) (by decide) rfl (Nat.le_of_ble_eq_true rfl) (by decide +kernel) s1 h (q_fV fun A30 h => ?_)
    show q_Wp _ _ _ _ 0 0 17 [some (.ref a0), none, none, none, none] [] A30
    exact q_ret0 rfl (by decide) (by decide) (by decide +kernel) ⟨rfl, h⟩
theorem f_X9_readSetting {G : q_G} {X : String → q_H → Prop} {f : q_H → Prop} {A : q_H} {a0 : Nat} (h : q_sh A a0 = (10, 0) ∧ q_Wc G M_X9_nextToken [.ref a0] A (q_KV fun A1 => q_sh A1 a0 = (10, 0) ∧ q_Wc G M_X9_readNumber [.ref a0, .int (nI 0), .int (nI 7)] A1 (q_KI fun r5 A4 => ((r5 < nI 0 → f A4) ∧ (¬ r5 < nI 0 → (((nI 8) ≤ r5 → f A4) ∧ (¬ (nI 8) ≤ r5 → q_sh A4 a0 = (10, 0) ∧ ∃ r10 : Nat, q_R A4 a0 2 = some r10 ∧ q_sh A4 r10 = (5, 0) ∧ ∃ r13 : Nat, q_R A4 r10 1 = some r13 ∧ ∃ j15 : Nat, r5 = nI j15 ∧ j15 < 8 ∧ q_Wc G M_X9_readNumber [.ref a0, .int ((q_sval 0).getD j15 0), .int ((q_sval 1).getD j15 0)] A4 (q_KI fun r19 A18 => ∃ z21 : Nat, q_sh A18 r13 = (50, z21) ∧ z21 < 2147483648 ∧ j15 < z21 ∧ f (q_setI A18 r13 j15 r19)) q_nX))))) q_nX) q_nX) : q_Wc G M_X9_readSetting [.ref a0] A (q_KV f) X := by
  refine q_Wc.of [some (.ref a0), none] mo_X9_readSetting.2.2.2.2.2 rfl (Nat.le_of_ble_eq_true rfl) rfl ?_
  refine q_blk (pc' := 1) (lo' := [some (.ref a0), none]) (st' := [.ref a0]) [.aload_n 0] (by decide +kernel) rfl ?_
  obtain ⟨s3, h⟩ := h
  refine q_callV (ci := 9) (Mc := M_X9_nextToken) (z := 0) (b := a0) (As := []) (st := []) mo_X9_nextToken mi_X9_nextToken ml_X9_32_X9_nextToken rfl rfl (by decide) rfl (by decide) (by decide) rfl (Nat.le_of_ble_eq_true rfl) (by decide +kernel) s3 h (q_fV fun A1 h => ?_)
  show q_Wp _ _ _ _ 0 0 4 [some (.ref a0), none] [] A1
  refine q_blk (pc' := 8) (lo' := [some (.ref a0), none]) (st' := [.int (nI 7), .int (nI 0), .ref a0]) [.aload_n 0, .iconst 0, .bipush 7] (by decide +kernel) rfl ?_
  obtain ⟨s6, h⟩ := h
  refine q_callV (ci := 9) (Mc := M_X9_readNumber) (z := 2) (b := a0) (As := [.int (nI 0), .int (nI 7)]) (st := []) mo_X9_readNumber mi_X9_readNumber ml_X9_41_X9_readNumber rfl rfl (by decide) rfl (by decide) (by decide) rfl (Nat.le_of_ble_eq_true rfl) (by decide +kernel) s6 h (q_fI fun r5 A4 h => ?_)
  show q_Wp _ _ _ _ 0 0 11 [some (.ref a0), none] [.int r5] A4
  refine q_blk (pc' := 13) (lo' := [some (.ref a0), some (.int r5)]) (st' := [.int r5]) [.istore_n 1, .iload_n 1] (by decide +kernel) rfl ?_
  refine q_if_lt 45 (off := 32) (by decide +kernel) (by decide) (fun c7 => ?_) (fun c7 => ?_)
  · have h := h.1 c7
    exact q_ret0 rfl (by decide) (by decide) (by decide +kernel) ⟨rfl, h⟩
  · have h := h.2 c7
    refine q_blk (pc' := 19) (lo' := [some (.ref a0), some (.int r5)]) (st' := [.int (nI 8), .int r5]) [.iload_n 1, .bipush 8] (by decide +kernel) rfl ?_
    refine q_icmp_ge 45 (off := 26) (by decide +kernel) (by decide) (fun c8 => ?_) (fun c8 => ?_)
    · have h := h.1 c8
      exact q_ret0 rfl (by decide) (by decide) (by decide +kernel) ⟨rfl, h⟩
    · have h := h.2 c8
      refine q_blk (pc' := 23) (lo' := [some (.ref a0), some (.int r5)]) (st' := [.ref a0]) [.aload_n 0] (by decide +kernel) rfl ?_
      obtain ⟨s9, h⟩ := h
      obtain ⟨r10, e11, h⟩ := h
      refine q_getR fl_X9_19 rfl (by decide) (by decide +kernel) s9 e11 ?_
      obtain ⟨s12, h⟩ := h
      obtain ⟨r13, e14, h⟩ := h
      refine q_getR fl_X9_90 rfl (by decide) (by decide +kernel) s12 e14 ?_
      refine q_blk (pc' := 31) (lo' := [some (.ref a0), some (.int r5)]) (st' := [.ref a0, .int r5, .ref r13]) [.iload_n 1, .aload_n 0] (by decide +kernel) rfl ?_
      refine q_gets (i := 0) (by decide) gs_X9_94_0 (by decide +kernel) ?_
      refine q_blk (pc' := 35) (lo' := [some (.ref a0), some (.int r5)]) (st' := [.int r5, .ref (q_st G 0), .ref a0, .int r5, .ref r13]) [.iload_n 1] (by decide +kernel) rfl ?_
      obtain ⟨j15, e16, h⟩ := h
      obtain ⟨l17, h⟩ := h
      refine q_ialdS (by decide) e16 l17 (by decide +kernel) ?_
      refine q_gets (i := 1) (by decide) gs_X9_97_1 (by decide +kernel) ?_
      refine q_blk (pc' := 40) (lo' := [some (.ref a0), some (.int r5)]) (st' := [.int r5, .ref (q_st G 1), .int ((q_sval 0).getD j15 0), .ref a0, .int r5, .ref r13]) [.iload_n 1] (by decide +kernel) rfl ?_
      refine q_ialdS (by decide) e16 l17 (by decide +kernel) ?_
      refine q_callV (ci := 9) (Mc := M_X9_readNumber) (z := 2) (b := a0) (As := [.int ((q_sval 0).getD j15 0), .int ((q_sval 1).getD j15 0)]) (st := [.int r5, .ref r13]) mo_X9_readNumber mi_X9_readNumber ml_X9_41_X9_readNumber rfl rfl (by decide) rfl (by decide) (by decide) rfl (Nat.le_of_ble_eq_true rfl) (by decide +kernel) s9 h (q_fI fun r19 A18 h => ?_)
      show q_Wp _ _ _ _ 0 0 44 [some (.ref a0), some (.int r5)] [.int r19, .int r5, .ref r13] A18
      obtain ⟨z21, s20, b22, h⟩ := h
      obtain ⟨l23, h⟩ := h
      refine q_iast e16 (by decide +kernel) s20 l23 b22 ?_
      exact q_ret0 rfl (by decide) (by decide) (by decide +kernel) ⟨rfl, h⟩
theorem f_X9_readLoad {G : q_G} {X : String → q_H → Prop} {f : q_H → Prop} {A : q_H} {a0 : Nat} (h : q_sh A a0 = (10, 0) ∧ ∃ r2 : Nat, q_R A a0 2 = some r2 ∧ q_sh A r2 = (5, 0) ∧ ∃ r5 : Nat, q_R A r2 6 = some r5 ∧ q_sh A r5 = (4, 0) ∧ q_Wc G M_X3_addLast [.ref r5, .int (nI 0)] A (q_KR fun o10 A7 => (o10 = none → q_sh A7 a0 = (10, 0) ∧ q_Wc G M_X9_fail [.ref a0, .int (nI 5)] A7 (q_KV fun A11 => f A11) q_nX) ∧ (∀ r8 : Nat, o10 = some r8 → q_sh A7 a0 = (10, 0) ∧ q_Wc G M_X9_nextToken [.ref a0] A7 (q_KV fun A14 => q_sh A14 r8 = (6, 0) ∧ ∃ r18 : Nat, q_R A14 r8 0 = some r18 ∧ q_sh A14 a0 = (10, 0) ∧ q_Wc G M_X9_readNumber [.ref a0, .int (nI 0), .int (nI 999)] A14 (q_KI fun r21 A20 => q_sh A20 r18 = (3, 0) ∧ q_Wc G M_X2_put [.ref r18, .int (nI 0), .int r21] A20 (q_KV fun A23 => q_Wp G M_X9_readLoad (q_KV f) X 0 0 44 [some (.ref a0), some (.ref r8), some (.int (nI 1))] [] A23) q_nX) q_nX) q_nX)) q_nX) : q_Wc G M_X9_readLoad [.ref a0] A (q_KV f) X := by
  refine q_Wc.of [some (.ref a0), none, none] mo_X9_readLoad.2.2.2.2.2 rfl (Nat.le_of_ble_eq_true rfl) rfl ?_
  refine q_blk (pc' := 1) (lo' := [some (.ref a0), none, none]) (st' := [.ref a0]) [.aload_n 0] (by decide +kernel) rfl ?_
  obtain ⟨s1, h⟩ := h
  obtain ⟨r2, e3, h⟩ := h
  refine q_getR fl_X9_19 rfl (by decide) (by decide +kernel) s1 e3 ?_
  obtain ⟨s4, h⟩ := h
  obtain ⟨r5, e6, h⟩ := h
  refine q_getR fl_X9_100 rfl (by decide) (by decide +kernel) s4 e6 ?_
  refine q_blk (pc' := 8) (lo' := [some (.ref a0), none, none]) (st' := [.int (nI 0), .ref r5]) [.iconst 0] (by decide +kernel) rfl ?_
  obtain ⟨s9, h⟩ := h
  refine q_callV (ci := 3) (Mc := M_X3_addLast) (z := 1) (b := r5) (As := [.int (nI 0)]) (st := []) mo_X3_addLast mi_X3_addLast ml_X9_104_X3_addLast rfl rfl (by decide) rfl (by decide) (by decide) rfl (Nat.le_of_ble_eq_true rfl) (by decide +kernel) s9 h (q_fR (fun A7 h => ?_) (fun r8 A7 h => ?_))
  · have h := h.1 rfl
    show q_Wp _ _ _ _ 0 0 11 [some (.ref a0), none, none] [.null] A7
    refine q_blk (pc' := 13) (lo' := [some (.ref a0), some (.null), none]) (st' := [.null]) [.astore_n 1, .aload_n 1] (by decide +kernel) rfl ?_
    refine q_nnl_n (off := 9) (by decide +kernel) ?_
    refine q_blk (pc' := 18) (lo' := [some (.ref a0), some (.null), none]) (st' := [.int (nI 5), .ref a0]) [.aload_n 0, .iconst 5] (by decide +kernel) rfl ?_
    obtain ⟨s13, h⟩ := h
    refine q_callV (ci := 9) (Mc := M_X9_fail) (z := 1) (b := a0) (As := [.int (nI 5)]) (st := []) mo_X9_fail mi_X9_fail ml_X9_50_X9_fail rfl rfl (by decide) rfl (by decide) (by decide) rfl (Nat.le_of_ble_eq_true rfl) (by decide +kernel) s13 h (q_fV fun A11 h => ?_)
    show q_Wp _ _ _ _ 0 0 21 [some (.ref a0), some (.null), none] [] A11
    exact q_ret0 rfl (by decide) (by decide) (by decide +kernel) ⟨rfl, h⟩
  · have h := h.2 r8 rfl
    show q_Wp _ _ _ _ 0 0 11 [some (.ref a0), none, none] [.ref r8] A7
    refine q_blk (pc' := 13) (lo' := [some (.ref a0), some (.ref r8), none]) (st' := [.ref r8]) [.astore_n 1, .aload_n 1] (by decide +kernel) rfl ?_
    refine q_nnl_y 22 (off := 9) (by decide +kernel) (by decide) ?_
    refine q_blk (pc' := 23) (lo' := [some (.ref a0), some (.ref r8), none]) (st' := [.ref a0]) [.aload_n 0] (by decide +kernel) rfl ?_
    obtain ⟨s16, h⟩ := h
    refine q_callV (ci := 9) (Mc := M_X9_nextToken) (z := 0) (b := a0) (As := []) (st := []) mo_X9_nextToken mi_X9_nextToken ml_X9_32_X9_nextToken rfl rfl (by decide) rfl (by decide) (by decide) rfl (Nat.le_of_ble_eq_true rfl) (by decide +kernel) s16 h (q_fV fun A14 h => ?_)
    show q_Wp _ _ _ _ 0 0 26 [some (.ref a0), some (.ref r8), none] [] A14
    refine q_blk (pc' := 27) (lo' := [some (.ref a0), some (.ref r8), none]) (st' := [.ref r8]) [.aload_n 1] (by decide +kernel) rfl ?_
    obtain ⟨s17, h⟩ := h
    obtain ⟨r18, e19, h⟩ := h
    refine q_getR fl_X9_110 rfl (by decide) (by decide +kernel) s17 e19 ?_
    refine q_blk (pc' := 36) (lo' := [some (.ref a0), some (.ref r8), none]) (st' := [.int (nI 999), .int (nI 0), .ref a0, .int (nI 0), .ref r18]) [.iconst 0, .aload_n 0, .iconst 0, .sipush 999] (by decide +kernel) rfl ?_
    obtain ⟨s22, h⟩ := h
    refine q_callV (ci := 9) (Mc := M_X9_readNumber) (z := 2) (b := a0) (As := [.int (nI 0), .int (nI 999)]) (st := [.int (nI 0), .ref r18]) mo_X9_readNumber mi_X9_readNumber ml_X9_41_X9_readNumber rfl rfl (by decide) rfl (by decide) (by decide) rfl (Nat.le_of_ble_eq_true rfl) (by decide +kernel) s22 h (q_fI fun r21 A20 h => ?_)
    show q_Wp _ _ _ _ 0 0 39 [some (.ref a0), some (.ref r8), none] [.int r21, .int (nI 0), .ref r18] A20
    obtain ⟨s25, h⟩ := h
    refine q_callV (ci := 2) (Mc := M_X2_put) (z := 2) (b := r18) (As := [.int (nI 0), .int r21]) (st := []) mo_X2_put mi_X2_put ml_X9_116_X2_put rfl rfl (by decide) rfl (by decide) (by decide) rfl (Nat.le_of_ble_eq_true rfl) (by decide +kernel) s25 h (q_fV fun A23 h => ?_)
    show q_Wp _ _ _ _ 0 0 42 [some (.ref a0), some (.ref r8), none] [] A23
    refine q_blk (pc' := 44) (lo' := [some (.ref a0), some (.ref r8), some (.int (nI 1))]) (st' := []) [.iconst 1, .istore_n 2] (by decide +kernel) rfl ?_
    exact h
theorem f_X9_readLoad_44 {G : q_G} {X : String → q_H → Prop} {f : q_H → Prop} {A : q_H} {a0 : Nat} {a1 : Nat} {x2 : Int32} (h : q_sh A a0 = (10, 0) ∧ ∃ r2 : Nat, q_R A a0 2 = some r2 ∧ q_sh A r2 = (5, 0) ∧ (((q_I A r2 0) ≤ x2 → ∃ r6 : Nat, q_R A r2 9 = some r6 ∧ q_sh A r6 = (9, 0) ∧ q_sh A a1 = (6, 0) ∧ ∃ r10 : Nat, q_R A a1 0 = some r10 ∧ q_sh A r10 = (3, 0) ∧ (((q_I (q_setI A r6 7 ((q_I A r6 7) + (q_I A r10 1))) r10 1) = nI 0 → ∃ r14 : Nat, q_R A r2 6 = some r14 ∧ q_sh A r14 = (4, 0) ∧ q_Wc G M_X3_dropLast [.ref r14] (q_setI A r6 7 ((q_I A r6 7) + (q_I A r10 1))) (q_KV fun A16 => f A16) q_nX) ∧ (¬ (q_I (q_setI A r6 7 ((q_I A r6 7) + (q_I A r10 1))) r10 1) = nI 0 → f (q_setI A r6 7 ((q_I A r6 7) + (q_I A r10 1)))))) ∧ (¬ (q_I A r2 0) ≤ x2 → (((q_I A a0 3) = (nI 2) → q_sh A a1 = (6, 0) ∧ ∃ r34 : Nat, q_R A a1 0 = some r34 ∧ q_Wc G M_X9_readNumber [.ref a0, .int (nI 0), .int (nI 999)] A (q_KI fun r37 A36 => q_sh A36 r34 = (3, 0) ∧ q_Wc G M_X2_put [.ref r34, .int x2, .int r37] A36 (q_KV fun A38 => q_Wp G M_X9_readLoad (q_KV f) X 0 0 44 [some (.ref a0), some (.ref a1), some (.int (x2 + (nI 1)))] [] A38) q_nX) q_nX) ∧ (¬ (q_I A a0 3) = (nI 2) → ∃ r20 : Nat, q_R A r2 9 = some r20 ∧ q_sh A r20 = (9, 0) ∧ q_sh A a1 = (6, 0) ∧ ∃ r24 : Nat, q_R A a1 0 = some r24 ∧ q_sh A r24 = (3, 0) ∧ (((q_I (q_setI A r20 7 ((q_I A r20 7) + (q_I A r24 1))) r24 1) = nI 0 → ∃ r28 : Nat, q_R A r2 6 = some r28 ∧ q_sh A r28 = (4, 0) ∧ q_Wc G M_X3_dropLast [.ref r28] (q_setI A r20 7 ((q_I A r20 7) + (q_I A r24 1))) (q_KV fun A30 => f A30) q_nX) ∧ (¬ (q_I (q_setI A r20 7 ((q_I A r20 7) + (q_I A r24 1))) r24 1) = nI 0 → f (q_setI A r20 7 ((q_I A r20 7) + (q_I A r24 1)))))))))) : q_Wp G M_X9_readLoad (q_KV f) X 0 0 44 [some (.ref a0), some (.ref a1), some (.int x2)] [] A := by
  refine q_blk (pc' := 46) (lo' := [some (.ref a0), some (.ref a1), some (.int x2)]) (st' := [.ref a0, .int x2]) [.iload_n 2, .aload_n 0] (by decide +kernel) rfl ?_
  obtain ⟨s1, h⟩ := h
  obtain ⟨r2, e3, h⟩ := h
  refine q_getR fl_X9_19 rfl (by decide) (by decide +kernel) s1 e3 ?_
  obtain ⟨s4, h⟩ := h
  refine q_getI fl_X9_45 rfl (by decide) (by decide +kernel) s4 ?_
  refine q_icmp_ge 85 (off := 33) (by decide +kernel) (by decide) (fun c5 => ?_) (fun c5 => ?_)
  · have h := h.1 c5
    refine q_blk (pc' := 86) (lo' := [some (.ref a0), some (.ref a1), some (.int x2)]) (st' := [.ref a0]) [.aload_n 0] (by decide +kernel) rfl ?_
    refine q_getR fl_X9_19 rfl (by decide) (by decide +kernel) s1 e3 ?_
    obtain ⟨r6, e7, h⟩ := h
    refine q_getR fl_X9_122 rfl (by decide) (by decide +kernel) s4 e7 ?_
    refine q_blk (pc' := 93) (lo' := [some (.ref a0), some (.ref a1), some (.int x2)]) (st' := [.ref r6, .ref r6]) [.dup] (by decide +kernel) rfl ?_
    obtain ⟨s8, h⟩ := h
    refine q_getI fl_X9_126 rfl (by decide) (by decide +kernel) s8 ?_
    refine q_blk (pc' := 97) (lo' := [some (.ref a0), some (.ref a1), some (.int x2)]) (st' := [.ref a1, .int (q_I A r6 7), .ref r6]) [.aload_n 1] (by decide +kernel) rfl ?_
    obtain ⟨s9, h⟩ := h
    obtain ⟨r10, e11, h⟩ := h
    refine q_getR fl_X9_110 rfl (by decide) (by decide +kernel) s9 e11 ?_
    obtain ⟨s12, h⟩ := h
    refine q_getI fl_X9_131 rfl (by decide) (by decide +kernel) s12 ?_
    refine q_blk (pc' := 104) (lo' := [some (.ref a0), some (.ref a1), some (.int x2)]) (st' := [.int ((q_I A r6 7) + (q_I A r10 1)), .ref r6]) [.iadd] (by decide +kernel) rfl ?_
    refine q_putI fw_X9_126 rfl (by decide) (by decide +kernel) s8 ?_
    refine q_blk (pc' := 108) (lo' := [some (.ref a0), some (.ref a1), some (.int x2)]) (st' := [.ref a1]) [.aload_n 1] (by decide +kernel) rfl ?_
    refine q_getR fl_X9_110 rfl (by decide) (by decide +kernel) s9 e11 ?_
    refine q_getI fl_X9_131 rfl (by decide) (by decide +kernel) s12 ?_
    refine q_if_ne 127 (off := 13) (by decide +kernel) (by decide) (fun c13 => ?_) (fun c13 => ?_)
    · have h := h.2 c13
      exact q_ret0 rfl (by decide) (by decide) (by decide +kernel) ⟨rfl, h⟩
    · have h := h.1 c13
      refine q_blk (pc' := 118) (lo' := [some (.ref a0), some (.ref a1), some (.int x2)]) (st' := [.ref a0]) [.aload_n 0] (by decide +kernel) rfl ?_
      refine q_getR fl_X9_19 rfl (by decide) (by decide +kernel) s1 e3 ?_
      obtain ⟨r14, e15, h⟩ := h
      refine q_getR fl_X9_100 rfl (by decide) (by decide +kernel) s4 e15 ?_
      obtain ⟨s18, h⟩ := h
      refine q_callV (ci := 3) (Mc := M_X3_dropLast) (z := 0) (b := r14) (As := []) (st := []) mo_X3_dropLast mi_X3_dropLast ml_X9_134_X3_dropLast rfl rfl (by decide) rfl (by decide) (by decide) rfl (Nat.le_of_ble_eq_true rfl) (by decide +kernel) s18 h (q_fV fun A16 h => ?_)
      show q_Wp _ _ _ _ 0 0 127 [some (.ref a0), some (.ref a1), some (.int x2)] [] A16
      exact q_ret0 rfl (by decide) (by decide) (by decide +kernel) ⟨rfl, h⟩
  · have h := h.2 c5
    refine q_blk (pc' := 56) (lo' := [some (.ref a0), some (.ref a1), some (.int x2)]) (st' := [.ref a0]) [.aload_n 0] (by decide +kernel) rfl ?_
    refine q_getI fl_X9_57 rfl (by decide) (by decide +kernel) s1 ?_
    refine q_blk (pc' := 60) (lo' := [some (.ref a0), some (.ref a1), some (.int x2)]) (st' := [.int (nI 2), .int (q_I A a0 3)]) [.iconst 2] (by decide +kernel) rfl ?_
    refine q_icmp_ne 85 (off := 25) (by decide +kernel) (by decide) (fun c19 => ?_) (fun c19 => ?_)
    · have h := h.2 c19
      refine q_blk (pc' := 86) (lo' := [some (.ref a0), some (.ref a1), some (.int x2)]) (st' := [.ref a0]) [.aload_n 0] (by decide +kernel) rfl ?_
      refine q_getR fl_X9_19 rfl (by decide) (by decide +kernel) s1 e3 ?_
      obtain ⟨r20, e21, h⟩ := h
      refine q_getR fl_X9_122 rfl (by decide) (by decide +kernel) s4 e21 ?_
      refine q_blk (pc' := 93) (lo' := [some (.ref a0), some (.ref a1), some (.int x2)]) (st' := [.ref r20, .ref r20]) [.dup] (by decide +kernel) rfl ?_
      obtain ⟨s22, h⟩ := h
      refine q_getI fl_X9_126 rfl (by decide) (by decide +kernel) s22 ?_
      refine q_blk (pc' := 97) (lo' := [some (.ref a0), some (.ref a1), some (.int x2)]) (st' := [.ref a1, .int (q_I A r20 7), .ref r20]) [.aload_n 1] (by decide +kernel) rfl ?_
      obtain ⟨s23, h⟩ := h
      obtain ⟨r24, e25, h⟩ := h
      refine q_getR fl_X9_110 rfl (by decide) (by decide +kernel) s23 e25 ?_
      obtain ⟨s26, h⟩ := h
      refine q_getI fl_X9_131 rfl (by decide) (by decide +kernel) s26 ?_
      refine q_blk (pc' := 104) (lo' := [some (.ref a0), some (.ref a1), some (.int x2)]) (st' := [.int ((q_I A r20 7) + (q_I A r24 1)), .ref r20]) [.iadd] (by decide +kernel) rfl ?_
      refine q_putI fw_X9_126 rfl (by decide) (by decide +kernel) s22 ?_
      refine q_blk (pc' := 108) (lo' := [some (.ref a0), some (.ref a1), some (.int x2)]) (st' := [.ref a1]) [.aload_n 1] (by decide +kernel) rfl ?_
      refine q_getR fl_X9_110 rfl (by decide) (by decide +kernel) s23 e25 ?_
      refine q_getI fl_X9_131 rfl (by decide) (by decide +kernel) s26 ?_
      refine q_if_ne 127 (off := 13) (by decide +kernel) (by decide) (fun c27 => ?_) (fun c27 => ?_)
      · have h := h.2 c27
        exact q_ret0 rfl (by decide) (by decide) (by decide +kernel) ⟨rfl, h⟩
      · have h := h.1 c27
        refine q_blk (pc' := 118) (lo' := [some (.ref a0), some (.ref a1), some (.int x2)]) (st' := [.ref a0]) [.aload_n 0] (by decide +kernel) rfl ?_
        refine q_getR fl_X9_19 rfl (by decide) (by decide +kernel) s1 e3 ?_
        obtain ⟨r28, e29, h⟩ := h
        refine q_getR fl_X9_100 rfl (by decide) (by decide +kernel) s4 e29 ?_
        obtain ⟨s32, h⟩ := h
        refine q_callV (ci := 3) (Mc := M_X3_dropLast) (z := 0) (b := r28) (As := []) (st := []) mo_X3_dropLast mi_X3_dropLast ml_X9_134_X3_dropLast rfl rfl (by decide) rfl (by decide) (by decide) rfl (Nat.le_of_ble_eq_true rfl) (by decide +kernel) s32 h (q_fV fun A30 h => ?_)
        show q_Wp _ _ _ _ 0 0 127 [some (.ref a0), some (.ref a1), some (.int x2)] [] A30
        exact q_ret0 rfl (by decide) (by decide) (by decide +kernel) ⟨rfl, h⟩
    · have h := h.1 c19
      refine q_blk (pc' := 64) (lo' := [some (.ref a0), some (.ref a1), some (.int x2)]) (st' := [.ref a1]) [.aload_n 1] (by decide +kernel) rfl ?_
      obtain ⟨s33, h⟩ := h
      obtain ⟨r34, e35, h⟩ := h
      refine q_getR fl_X9_110 rfl (by decide) (by decide +kernel) s33 e35 ?_
      refine q_blk (pc' := 73) (lo' := [some (.ref a0), some (.ref a1), some (.int x2)]) (st' := [.int (nI 999), .int (nI 0), .ref a0, .int x2, .ref r34]) [.iload_n 2, .aload_n 0, .iconst 0, .sipush 999] (by decide +kernel) rfl ?_
      refine q_callV (ci := 9) (Mc := M_X9_readNumber) (z := 2) (b := a0) (As := [.int (nI 0), .int (nI 999)]) (st := [.int x2, .ref r34]) mo_X9_readNumber mi_X9_readNumber ml_X9_41_X9_readNumber rfl rfl (by decide) rfl (by decide) (by decide) rfl (Nat.le_of_ble_eq_true rfl) (by decide +kernel) s1 h (q_fI fun r37 A36 h => ?_)
      show q_Wp _ _ _ _ 0 0 76 [some (.ref a0), some (.ref a1), some (.int x2)] [.int r37, .int x2, .ref r34] A36
      obtain ⟨s40, h⟩ := h
      refine q_callV (ci := 2) (Mc := M_X2_put) (z := 2) (b := r34) (As := [.int x2, .int r37]) (st := []) mo_X2_put mi_X2_put ml_X9_116_X2_put rfl rfl (by decide) rfl (by decide) (by decide) rfl (Nat.le_of_ble_eq_true rfl) (by decide +kernel) s40 h (q_fV fun A38 h => ?_)
      show q_Wp _ _ _ _ 0 0 79 [some (.ref a0), some (.ref a1), some (.int x2)] [] A38
      refine q_blk (pc' := 82) (lo' := [some (.ref a0), some (.ref a1), some (.int (x2 + (nI 1)))]) (st' := []) [.iinc 2 1] (by decide +kernel) rfl ?_
      refine q_goto 44 (off := -38) (by decide +kernel) (by decide) ?_
      exact h
theorem f_X9_readBuyer {G : q_G} {X : String → q_H → Prop} {f : q_H → Prop} {A : q_H} {a0 : Nat} (h : q_sh A a0 = (10, 0) ∧ ∃ r2 : Nat, q_R A a0 2 = some r2 ∧ q_sh A r2 = (5, 0) ∧ (((q_I A r2 5) < (nI 4) → q_Wc G M_X9_nextToken [.ref a0] A (q_KV fun A6 => q_sh A6 a0 = (10, 0) ∧ ∃ r9 : Nat, q_R A6 a0 2 = some r9 ∧ q_sh A6 r9 = (5, 0) ∧ ∃ r12 : Nat, q_R A6 r9 4 = some r12 ∧ ∃ z15 : Nat, q_sh A6 r12 = (61, z15) ∧ z15 < 2147483648 ∧ ∃ j17 : Nat, (q_I A6 r9 5) = nI j17 ∧ j17 < z15 ∧ ∃ r20 : Nat, q_R A6 r12 j17 = some r20 ∧ q_Wc G M_X9_readName [.ref a0] A6 (q_KI fun r23 A22 => q_sh A22 r20 = (2, 0) ∧ q_sh A22 a0 = (10, 0) ∧ ∃ r26 : Nat, q_R A22 a0 2 = some r26 ∧ q_sh A22 r26 = (5, 0) ∧ q_Wc G M_X9_readNumber [.ref a0, .int (nI 0), .int ((q_I (q_setI A22 r20 0 r23) r26 0) - (nI 1))] (q_setI A22 r20 0 r23) (q_KI fun r30 A29 => q_sh A29 r20 = (2, 0) ∧ q_sh A29 a0 = (10, 0) ∧ q_Wc G M_X9_readNumber [.ref a0, .int (nI 0), .int (nI 2)] (q_setI A29 r20 1 r30) (q_KI fun r33 A32 => q_sh A32 r20 = (2, 0) ∧ q_sh A32 a0 = (10, 0) ∧ q_Wc G M_X9_readNumber [.ref a0, .int (nI 1), .int (nI 9999)] (q_setI A32 r20 2 r33) (q_KI fun r37 A36 => q_sh A36 r20 = (2, 0) ∧ q_sh A36 a0 = (10, 0) ∧ q_Wc G M_X9_readNumber [.ref a0, .int (nI 0), .int (nI 100)] (q_setI A36 r20 3 r37) (q_KI fun r41 A40 => q_sh A40 r20 = (2, 0) ∧ q_sh A40 a0 = (10, 0) ∧ q_Wc G M_X9_readNumber [.ref a0, .int (nI 0), .int (nI 100)] (q_setI A40 r20 4 r41) (q_KI fun r45 A44 => q_sh A44 r20 = (2, 0) ∧ q_sh A44 a0 = (10, 0) ∧ ∃ r49 : Nat, q_R A44 a0 2 = some r49 ∧ q_sh A44 r49 = (5, 0) ∧ f (q_setI (q_setI (q_setI A44 r20 5 r45) r20 6 (nI 0)) r49 5 ((q_I (q_setI (q_setI A44 r20 5 r45) r20 6 (nI 0)) r49 5) + (nI 1)))) q_nX) q_nX) q_nX) q_nX) q_nX) q_nX) q_nX) ∧ (¬ (q_I A r2 5) < (nI 4) → q_Wc G M_X9_fail [.ref a0, .int (nI 5)] A (q_KV fun A52 => f A52) q_nX))) : q_Wc G M_X9_readBuyer [.ref a0] A (q_KV f) X := by
  refine q_Wc.of [some (.ref a0), none] mo_X9_readBuyer.2.2.2.2.2 rfl (Nat.le_of_ble_eq_true rfl) rfl ?_
  refine q_blk (pc' := 1) (lo' := [some (.ref a0), none]) (st' := [.ref a0]) [.aload_n 0] (by decide +kernel) rfl ?_
  obtain ⟨s1, h⟩ := h
  obtain ⟨r2, e3, h⟩ := h
  refine q_getR fl_X9_19 rfl (by decide) (by decide +kernel) s1 e3 ?_
  obtain ⟨s4, h⟩ := h
  refine q_getI fl_X9_137 rfl (by decide) (by decide +kernel) s4 ?_
  refine q_blk (pc' := 8) (lo' := [some (.ref a0), none]) (st' := [.int (nI 4), .int (q_I A r2 5)]) [.iconst 4] (by decide +kernel) rfl ?_
  refine q_icmp_lt 17 (off := 9) (by decide +kernel) (by decide) (fun c5 => ?_) (fun c5 => ?_)
  · have h := h.1 c5
    refine q_blk (pc' := 18) (lo' := [some (.ref a0), none]) (st' := [.ref a0]) [.aload_n 0] (by decide +kernel) rfl ?_
    refine q_callV (ci := 9) (Mc := M_X9_nextToken) (z := 0) (b := a0) (As := []) (st := []) mo_X9_nextToken mi_X9_nextToken ml_X9_32_X9_nextToken rfl rfl (by decide) rfl (by decide) (by decide) rfl (Nat.le_of_ble_eq_true rfl) (by decide +kernel) s1 h (q_fV fun A6 h => ?_)
    show q_Wp _ _ _ _ 0 0 21 [some (.ref a0), none] [] A6
    refine q_blk (pc' := 22) (lo' := [some (.ref a0), none]) (st' := [.ref a0]) [.aload_n 0] (by decide +kernel) rfl ?_
    obtain ⟨s8, h⟩ := h
    obtain ⟨r9, e10, h⟩ := h
    refine q_getR fl_X9_19 rfl (by decide) (by decide +kernel) s8 e10 ?_
    obtain ⟨s11, h⟩ := h
    obtain ⟨r12, e13, h⟩ := h
    refine q_getR fl_X9_140 rfl (by decide) (by decide +kernel) s11 e13 ?_
    refine q_blk (pc' := 29) (lo' := [some (.ref a0), none]) (st' := [.ref a0, .ref r12]) [.aload_n 0] (by decide +kernel) rfl ?_
    refine q_getR fl_X9_19 rfl (by decide) (by decide +kernel) s8 e10 ?_
    refine q_getI fl_X9_137 rfl (by decide) (by decide +kernel) s11 ?_
    obtain ⟨z15, s14, b16, h⟩ := h
    obtain ⟨j17, e18, h⟩ := h
    obtain ⟨l19, h⟩ := h
    obtain ⟨r20, e21, h⟩ := h
    refine q_aaldS (q_rk1 G) e18 (by decide +kernel) s14 l19 b16 e21 ?_
    refine q_blk (pc' := 39) (lo' := [some (.ref a0), some (.ref r20)]) (st' := [.ref a0, .ref r20]) [.astore_n 1, .aload_n 1, .aload_n 0] (by decide +kernel) rfl ?_
    refine q_callV (ci := 9) (Mc := M_X9_readName) (z := 0) (b := a0) (As := []) (st := [.ref r20]) mo_X9_readName mi_X9_readName ml_X9_144_X9_readName rfl rfl (by decide) rfl (by decide) (by decide) rfl (Nat.le_of_ble_eq_true rfl) (by decide +kernel) s8 h (q_fI fun r23 A22 h => ?_)
    show q_Wp _ _ _ _ 0 0 42 [some (.ref a0), some (.ref r20)] [.int r23, .ref r20] A22
    obtain ⟨s24, h⟩ := h
    refine q_putI fw_X9_148 rfl (by decide) (by decide +kernel) s24 ?_
    refine q_blk (pc' := 49) (lo' := [some (.ref a0), some (.ref r20)]) (st' := [.ref a0, .int (nI 0), .ref a0, .ref r20]) [.aload_n 1, .aload_n 0, .iconst 0, .aload_n 0] (by decide +kernel) rfl ?_
    obtain ⟨s25, h⟩ := h
    obtain ⟨r26, e27, h⟩ := h
    refine q_getR fl_X9_19 rfl (by decide) (by decide +kernel) s25 e27 ?_
    obtain ⟨s28, h⟩ := h
    refine q_getI fl_X9_45 rfl (by decide) (by decide +kernel) s28 ?_
    refine q_blk (pc' := 57) (lo' := [some (.ref a0), some (.ref r20)]) (st' := [.int ((q_I (q_setI A22 r20 0 r23) r26 0) - (nI 1)), .int (nI 0), .ref a0, .ref r20]) [.iconst 1, .isub] (by decide +kernel) rfl ?_
    refine q_callV (ci := 9) (Mc := M_X9_readNumber) (z := 2) (b := a0) (As := [.int (nI 0), .int ((q_I (q_setI A22 r20 0 r23) r26 0) - (nI 1))]) (st := [.ref r20]) mo_X9_readNumber mi_X9_readNumber ml_X9_41_X9_readNumber rfl rfl (by decide) rfl (by decide) (by decide) rfl (Nat.le_of_ble_eq_true rfl) (by decide +kernel) s25 h (q_fI fun r30 A29 h => ?_)
    show q_Wp _ _ _ _ 0 0 60 [some (.ref a0), some (.ref r20)] [.int r30, .ref r20] A29
    obtain ⟨s31, h⟩ := h
    refine q_putI fw_X9_153 rfl (by decide) (by decide +kernel) s31 ?_
    refine q_blk (pc' := 67) (lo' := [some (.ref a0), some (.ref r20)]) (st' := [.int (nI 2), .int (nI 0), .ref a0, .ref r20]) [.aload_n 1, .aload_n 0, .iconst 0, .iconst 2] (by decide +kernel) rfl ?_
    obtain ⟨s34, h⟩ := h
    refine q_callV (ci := 9) (Mc := M_X9_readNumber) (z := 2) (b := a0) (As := [.int (nI 0), .int (nI 2)]) (st := [.ref r20]) mo_X9_readNumber mi_X9_readNumber ml_X9_41_X9_readNumber rfl rfl (by decide) rfl (by decide) (by decide) rfl (Nat.le_of_ble_eq_true rfl) (by decide +kernel) s34 h (q_fI fun r33 A32 h => ?_)
    show q_Wp _ _ _ _ 0 0 70 [some (.ref a0), some (.ref r20)] [.int r33, .ref r20] A32
    obtain ⟨s35, h⟩ := h
    refine q_putI fw_X9_156 rfl (by decide) (by decide +kernel) s35 ?_
    refine q_blk (pc' := 79) (lo' := [some (.ref a0), some (.ref r20)]) (st' := [.int (nI 9999), .int (nI 1), .ref a0, .ref r20]) [.aload_n 1, .aload_n 0, .iconst 1, .sipush 9999] (by decide +kernel) rfl ?_
    obtain ⟨s38, h⟩ := h
    refine q_callV (ci := 9) (Mc := M_X9_readNumber) (z := 2) (b := a0) (As := [.int (nI 1), .int (nI 9999)]) (st := [.ref r20]) mo_X9_readNumber mi_X9_readNumber ml_X9_41_X9_readNumber rfl rfl (by decide) rfl (by decide) (by decide) rfl (Nat.le_of_ble_eq_true rfl) (by decide +kernel) s38 h (q_fI fun r37 A36 h => ?_)
    show q_Wp _ _ _ _ 0 0 82 [some (.ref a0), some (.ref r20)] [.int r37, .ref r20] A36
    obtain ⟨s39, h⟩ := h
    refine q_putI fw_X9_159 rfl (by decide) (by decide +kernel) s39 ?_
    refine q_blk (pc' := 90) (lo' := [some (.ref a0), some (.ref r20)]) (st' := [.int (nI 100), .int (nI 0), .ref a0, .ref r20]) [.aload_n 1, .aload_n 0, .iconst 0, .bipush 100] (by decide +kernel) rfl ?_
    obtain ⟨s42, h⟩ := h
    refine q_callV (ci := 9) (Mc := M_X9_readNumber) (z := 2) (b := a0) (As := [.int (nI 0), .int (nI 100)]) (st := [.ref r20]) mo_X9_readNumber mi_X9_readNumber ml_X9_41_X9_readNumber rfl rfl (by decide) rfl (by decide) (by decide) rfl (Nat.le_of_ble_eq_true rfl) (by decide +kernel) s42 h (q_fI fun r41 A40 h => ?_)
    show q_Wp _ _ _ _ 0 0 93 [some (.ref a0), some (.ref r20)] [.int r41, .ref r20] A40
    obtain ⟨s43, h⟩ := h
    refine q_putI fw_X9_162 rfl (by decide) (by decide +kernel) s43 ?_
    refine q_blk (pc' := 101) (lo' := [some (.ref a0), some (.ref r20)]) (st' := [.int (nI 100), .int (nI 0), .ref a0, .ref r20]) [.aload_n 1, .aload_n 0, .iconst 0, .bipush 100] (by decide +kernel) rfl ?_
    obtain ⟨s46, h⟩ := h
    refine q_callV (ci := 9) (Mc := M_X9_readNumber) (z := 2) (b := a0) (As := [.int (nI 0), .int (nI 100)]) (st := [.ref r20]) mo_X9_readNumber mi_X9_readNumber ml_X9_41_X9_readNumber rfl rfl (by decide) rfl (by decide) (by decide) rfl (Nat.le_of_ble_eq_true rfl) (by decide +kernel) s46 h (q_fI fun r45 A44 h => ?_)
    show q_Wp _ _ _ _ 0 0 104 [some (.ref a0), some (.ref r20)] [.int r45, .ref r20] A44
    obtain ⟨s47, h⟩ := h
    refine q_putI fw_X9_165 rfl (by decide) (by decide +kernel) s47 ?_
    refine q_blk (pc' := 109) (lo' := [some (.ref a0), some (.ref r20)]) (st' := [.int (nI 0), .ref r20]) [.aload_n 1, .iconst 0] (by decide +kernel) rfl ?_
    refine q_putI fw_X9_168 rfl (by decide) (by decide +kernel) s47 ?_
    refine q_blk (pc' := 113) (lo' := [some (.ref a0), some (.ref r20)]) (st' := [.ref a0]) [.aload_n 0] (by decide +kernel) rfl ?_
    obtain ⟨s48, h⟩ := h
    obtain ⟨r49, e50, h⟩ := h
    refine q_getR fl_X9_19 rfl (by decide) (by decide +kernel) s48 e50 ?_
    refine q_blk (pc' := 117) (lo' := [some (.ref a0), some (.ref r20)]) (st' := [.ref r49, .ref r49]) [.dup] (by decide +kernel) rfl ?_
    obtain ⟨s51, h⟩ := h
    refine q_getI fl_X9_137 rfl (by decide) (by decide +kernel) s51 ?_
    refine q_blk (pc' := 122) (lo' := [some (.ref a0), some (.ref r20)]) (st' := [.int ((q_I (q_setI (q_setI A44 r20 5 r45) r20 6 (nI 0)) r49 5) + (nI 1)), .ref r49]) [.iconst 1, .iadd] (by decide +kernel) rfl ?_
    refine q_putI fw_X9_137 rfl (by decide) (by decide +kernel) s51 ?_
    exact q_ret0 rfl (by decide) (by decide) (by decide +kernel) ⟨rfl, h⟩
  · have h := h.2 c5
    refine q_blk (pc' := 13) (lo' := [some (.ref a0), none]) (st' := [.int (nI 5), .ref a0]) [.aload_n 0, .iconst 5] (by decide +kernel) rfl ?_
    refine q_callV (ci := 9) (Mc := M_X9_fail) (z := 1) (b := a0) (As := [.int (nI 5)]) (st := []) mo_X9_fail mi_X9_fail ml_X9_50_X9_fail rfl rfl (by decide) rfl (by decide) (by decide) rfl (Nat.le_of_ble_eq_true rfl) (by decide +kernel) s1 h (q_fV fun A52 h => ?_)
    show q_Wp _ _ _ _ 0 0 16 [some (.ref a0), none] [] A52
    exact q_ret0 rfl (by decide) (by decide) (by decide +kernel) ⟨rfl, h⟩
theorem f_X9_readName {G : q_G} {X : String → q_H → Prop} {f : Int32 → q_H → Prop} {A : q_H} {a0 : Nat} (h : q_sh A a0 = (10, 0) ∧ (((q_I A a0 3) = (nI 1) → q_Wc G M_X9_isKeyword [.ref a0] A (q_KB fun b7 A6 => ((b7 = true → q_sh A6 a0 = (10, 0) ∧ q_Wc G M_X9_fail [.ref a0, .int (nI 1)] A6 (q_KV fun A11 => f (-1) A11) q_nX) ∧ (b7 = false → q_sh A6 a0 = (10, 0) ∧ ∃ r15 : Nat, q_R A6 a0 0 = some r15 ∧ q_Wc G M_X9_nameCode [.ref r15, .int (q_I A6 a0 4), .int (q_I A6 a0 5)] A6 (q_KI fun r18 A17 => ((r18 = (-1) → q_sh A17 a0 = (10, 0) ∧ q_Wc G M_X9_fail [.ref a0, .int (nI 1)] A17 (q_KV fun A33 => f r18 A33) q_nX) ∧ (¬ r18 = (-1) → q_sh A17 a0 = (10, 0) ∧ ∃ r21 : Nat, q_R A17 a0 2 = some r21 ∧ q_sh A17 r21 = (5, 0) ∧ q_Wc G M_X4_buyerNamed [.ref r21, .int r18] A17 (q_KI fun r24 A23 => ((r24 = (-1) → q_sh A23 a0 = (10, 0) ∧ q_Wc G M_X9_nextToken [.ref a0] A23 (q_KV fun A27 => f r18 A27) q_nX) ∧ (¬ r24 = (-1) → q_sh A23 a0 = (10, 0) ∧ q_Wc G M_X9_fail [.ref a0, .int (nI 3)] A23 (q_KV fun A30 => f r18 A30) q_nX))) q_nX))) q_nX))) q_nX) ∧ (¬ (q_I A a0 3) = (nI 1) → q_Wc G M_X9_fail [.ref a0, .int (nI 1)] A (q_KV fun A4 => f (-1) A4) q_nX))) : q_Wc G M_X9_readName [.ref a0] A (q_KI f) X := by
  refine q_Wc.of [some (.ref a0), none] mo_X9_readName.2.2.2.2.2 rfl (Nat.le_of_ble_eq_true rfl) rfl ?_
  refine q_blk (pc' := 1) (lo' := [some (.ref a0), none]) (st' := [.ref a0]) [.aload_n 0] (by decide +kernel) rfl ?_
  obtain ⟨s1, h⟩ := h
  refine q_getI fl_X9_57 rfl (by decide) (by decide +kernel) s1 ?_
  refine q_blk (pc' := 5) (lo' := [some (.ref a0), none]) (st' := [.int (nI 1), .int (q_I A a0 3)]) [.iconst 1] (by decide +kernel) rfl ?_
  refine q_icmp_ne 33 (off := 28) (by decide +kernel) (by decide) (fun c2 => ?_) (fun c2 => ?_)
  · have h := h.2 c2
    refine q_blk (pc' := 37) (lo' := [some (.ref a0), some (.int (-1))]) (st' := [.int (-1), .int (-1)]) [.iconst (-1), .istore_n 1, .iload_n 1, .iconst (-1)] (by decide +kernel) rfl ?_
    refine q_icmp_ne 48 (off := 11) (by decide +kernel) (by decide) (fun c9 => absurd (by decide) c9) (fun _ => ?_)
    refine q_blk (pc' := 42) (lo' := [some (.ref a0), some (.int (-1))]) (st' := [.int (nI 1), .ref a0]) [.aload_n 0, .iconst 1] (by decide +kernel) rfl ?_
    refine q_callV (ci := 9) (Mc := M_X9_fail) (z := 1) (b := a0) (As := [.int (nI 1)]) (st := []) mo_X9_fail mi_X9_fail ml_X9_50_X9_fail rfl rfl (by decide) rfl (by decide) (by decide) rfl (Nat.le_of_ble_eq_true rfl) (by decide +kernel) s1 h (q_fV fun A4 h => ?_)
    show q_Wp _ _ _ _ 0 0 45 [some (.ref a0), some (.int (-1))] [] A4
    refine q_goto 72 (off := 27) (by decide +kernel) (by decide) ?_
    refine q_blk (pc' := 73) (lo' := [some (.ref a0), some (.int (-1))]) (st' := [.int (-1)]) [.iload_n 1] (by decide +kernel) rfl ?_
    exact q_retI rfl (by decide) (by decide) (by decide +kernel) ⟨_, rfl, h⟩
  · have h := h.1 c2
    refine q_blk (pc' := 9) (lo' := [some (.ref a0), none]) (st' := [.ref a0]) [.aload_n 0] (by decide +kernel) rfl ?_
    refine q_callV (ci := 9) (Mc := M_X9_isKeyword) (z := 0) (b := a0) (As := []) (st := []) mo_X9_isKeyword mi_X9_isKeyword ml_X9_171_X9_isKeyword rfl rfl (by decide) rfl (by decide) (by decide) rfl (Nat.le_of_ble_eq_true rfl) (by decide +kernel) s1 h (q_fB fun b7 A6 h => ?_)
    show q_Wp _ _ _ _ 0 0 12 [some (.ref a0), none] [.int (q_i b7)] A6
    refine q_ifB_ne 33 (off := 21) (by decide +kernel) (by decide) (fun c8 => ?_) (fun c8 => ?_)
    · have h := h.1 c8
      refine q_blk (pc' := 37) (lo' := [some (.ref a0), some (.int (-1))]) (st' := [.int (-1), .int (-1)]) [.iconst (-1), .istore_n 1, .iload_n 1, .iconst (-1)] (by decide +kernel) rfl ?_
      refine q_icmp_ne 48 (off := 11) (by decide +kernel) (by decide) (fun c9 => absurd (by decide) c9) (fun _ => ?_)
      refine q_blk (pc' := 42) (lo' := [some (.ref a0), some (.int (-1))]) (st' := [.int (nI 1), .ref a0]) [.aload_n 0, .iconst 1] (by decide +kernel) rfl ?_
      obtain ⟨s13, h⟩ := h
      refine q_callV (ci := 9) (Mc := M_X9_fail) (z := 1) (b := a0) (As := [.int (nI 1)]) (st := []) mo_X9_fail mi_X9_fail ml_X9_50_X9_fail rfl rfl (by decide) rfl (by decide) (by decide) rfl (Nat.le_of_ble_eq_true rfl) (by decide +kernel) s13 h (q_fV fun A11 h => ?_)
      show q_Wp _ _ _ _ 0 0 45 [some (.ref a0), some (.int (-1))] [] A11
      refine q_goto 72 (off := 27) (by decide +kernel) (by decide) ?_
      refine q_blk (pc' := 73) (lo' := [some (.ref a0), some (.int (-1))]) (st' := [.int (-1)]) [.iload_n 1] (by decide +kernel) rfl ?_
      exact q_retI rfl (by decide) (by decide) (by decide +kernel) ⟨_, rfl, h⟩
    · have h := h.2 c8
      refine q_blk (pc' := 16) (lo' := [some (.ref a0), none]) (st' := [.ref a0]) [.aload_n 0] (by decide +kernel) rfl ?_
      obtain ⟨s14, h⟩ := h
      obtain ⟨r15, e16, h⟩ := h
      refine q_getR fl_X9_9 rfl (by decide) (by decide +kernel) s14 e16 ?_
      refine q_blk (pc' := 20) (lo' := [some (.ref a0), none]) (st' := [.ref a0, .ref r15]) [.aload_n 0] (by decide +kernel) rfl ?_
      refine q_getI fl_X9_175 rfl (by decide) (by decide +kernel) s14 ?_
      refine q_blk (pc' := 24) (lo' := [some (.ref a0), none]) (st' := [.ref a0, .int (q_I A6 a0 4), .ref r15]) [.aload_n 0] (by decide +kernel) rfl ?_
      refine q_getI fl_X9_178 rfl (by decide) (by decide +kernel) s14 ?_
      refine q_callS (Mc := M_X9_nameCode) (z := 3) (As := [.ref r15, .int (q_I A6 a0 4), .int (q_I A6 a0 5)]) (st := []) mo_X9_nameCode ms_X9_nameCode ml_X9_181_X9_nameCode rfl rfl (by decide) (by decide) rfl (Nat.le_of_ble_eq_true rfl) (by decide +kernel) h (q_fI fun r18 A17 h => ?_)
      show q_Wp _ _ _ _ 0 0 30 [some (.ref a0), none] [.int r18] A17
      refine q_goto 34 (off := 4) (by decide +kernel) (by decide) ?_
      refine q_blk (pc' := 37) (lo' := [some (.ref a0), some (.int r18)]) (st' := [.int (-1), .int r18]) [.istore_n 1, .iload_n 1, .iconst (-1)] (by decide +kernel) rfl ?_
      refine q_icmp_ne 48 (off := 11) (by decide +kernel) (by decide) (fun c19 => ?_) (fun c19 => ?_)
      · have h := h.2 c19
        refine q_blk (pc' := 49) (lo' := [some (.ref a0), some (.int r18)]) (st' := [.ref a0]) [.aload_n 0] (by decide +kernel) rfl ?_
        obtain ⟨s20, h⟩ := h
        obtain ⟨r21, e22, h⟩ := h
        refine q_getR fl_X9_19 rfl (by decide) (by decide +kernel) s20 e22 ?_
        refine q_blk (pc' := 53) (lo' := [some (.ref a0), some (.int r18)]) (st' := [.int r18, .ref r21]) [.iload_n 1] (by decide +kernel) rfl ?_
        obtain ⟨s25, h⟩ := h
        refine q_callV (ci := 4) (Mc := M_X4_buyerNamed) (z := 1) (b := r21) (As := [.int r18]) (st := []) mo_X4_buyerNamed mi_X4_buyerNamed ml_X9_185_X4_buyerNamed rfl rfl (by decide) rfl (by decide) (by decide) rfl (Nat.le_of_ble_eq_true rfl) (by decide +kernel) s25 h (q_fI fun r24 A23 h => ?_)
        show q_Wp _ _ _ _ 0 0 56 [some (.ref a0), some (.int r18)] [.int r24] A23
        refine q_blk (pc' := 57) (lo' := [some (.ref a0), some (.int r18)]) (st' := [.int (-1), .int r24]) [.iconst (-1)] (by decide +kernel) rfl ?_
        refine q_icmp_eq 68 (off := 11) (by decide +kernel) (by decide) (fun c26 => ?_) (fun c26 => ?_)
        · have h := h.1 c26
          refine q_blk (pc' := 69) (lo' := [some (.ref a0), some (.int r18)]) (st' := [.ref a0]) [.aload_n 0] (by decide +kernel) rfl ?_
          obtain ⟨s29, h⟩ := h
          refine q_callV (ci := 9) (Mc := M_X9_nextToken) (z := 0) (b := a0) (As := []) (st := []) mo_X9_nextToken mi_X9_nextToken ml_X9_32_X9_nextToken rfl rfl (by decide) rfl (by decide) (by decide) rfl (Nat.le_of_ble_eq_true rfl) (by decide +kernel) s29 h (q_fV fun A27 h => ?_)
          show q_Wp _ _ _ _ 0 0 72 [some (.ref a0), some (.int r18)] [] A27
          refine q_blk (pc' := 73) (lo' := [some (.ref a0), some (.int r18)]) (st' := [.int r18]) [.iload_n 1] (by decide +kernel) rfl ?_
          exact q_retI rfl (by decide) (by decide) (by decide +kernel) ⟨_, rfl, h⟩
        · have h := h.2 c26
          refine q_blk (pc' := 62) (lo' := [some (.ref a0), some (.int r18)]) (st' := [.int (nI 3), .ref a0]) [.aload_n 0, .iconst 3] (by decide +kernel) rfl ?_
          obtain ⟨s32, h⟩ := h
          refine q_callV (ci := 9) (Mc := M_X9_fail) (z := 1) (b := a0) (As := [.int (nI 3)]) (st := []) mo_X9_fail mi_X9_fail ml_X9_50_X9_fail rfl rfl (by decide) rfl (by decide) (by decide) rfl (Nat.le_of_ble_eq_true rfl) (by decide +kernel) s32 h (q_fV fun A30 h => ?_)
          show q_Wp _ _ _ _ 0 0 65 [some (.ref a0), some (.int r18)] [] A30
          refine q_goto 72 (off := 7) (by decide +kernel) (by decide) ?_
          refine q_blk (pc' := 73) (lo' := [some (.ref a0), some (.int r18)]) (st' := [.int r18]) [.iload_n 1] (by decide +kernel) rfl ?_
          exact q_retI rfl (by decide) (by decide) (by decide +kernel) ⟨_, rfl, h⟩
      · have h := h.1 c19
        refine q_blk (pc' := 42) (lo' := [some (.ref a0), some (.int r18)]) (st' := [.int (nI 1), .ref a0]) [.aload_n 0, .iconst 1] (by decide +kernel) rfl ?_
        obtain ⟨s35, h⟩ := h
        refine q_callV (ci := 9) (Mc := M_X9_fail) (z := 1) (b := a0) (As := [.int (nI 1)]) (st := []) mo_X9_fail mi_X9_fail ml_X9_50_X9_fail rfl rfl (by decide) rfl (by decide) (by decide) rfl (Nat.le_of_ble_eq_true rfl) (by decide +kernel) s35 h (q_fV fun A33 h => ?_)
        show q_Wp _ _ _ _ 0 0 45 [some (.ref a0), some (.int r18)] [] A33
        refine q_goto 72 (off := 27) (by decide +kernel) (by decide) ?_
        refine q_blk (pc' := 73) (lo' := [some (.ref a0), some (.int r18)]) (st' := [.int r18]) [.iload_n 1] (by decide +kernel) rfl ?_
        exact q_retI rfl (by decide) (by decide) (by decide +kernel) ⟨_, rfl, h⟩
theorem f_X9_readNumber {G : q_G} {X : String → q_H → Prop} {f : Int32 → q_H → Prop} {A : q_H} {a0 : Nat} {x1 : Int32} {x2 : Int32} (h : q_sh A a0 = (10, 0) ∧ (((q_I A a0 3) = (nI 2) → (((q_I A a0 6) < x1 → q_Wc G M_X9_fail [.ref a0, .int (nI 2)] A (q_KV fun A4 => f x1 A4) q_nX) ∧ (¬ (q_I A a0 6) < x1 → (((q_I A a0 6) ≤ x2 → q_Wc G M_X9_nextToken [.ref a0] A (q_KV fun A7 => f (q_I A a0 6) A7) q_nX) ∧ (¬ (q_I A a0 6) ≤ x2 → q_Wc G M_X9_fail [.ref a0, .int (nI 2)] A (q_KV fun A9 => f x1 A9) q_nX))))) ∧ (¬ (q_I A a0 3) = (nI 2) → q_Wc G M_X9_fail [.ref a0, .int (nI 1)] A (q_KV fun A11 => f x1 A11) q_nX))) : q_Wc G M_X9_readNumber [.ref a0, .int x1, .int x2] A (q_KI f) X := by
  refine q_Wc.of [some (.ref a0), some (.int x1), some (.int x2), none] mo_X9_readNumber.2.2.2.2.2 rfl (Nat.le_of_ble_eq_true rfl) rfl ?_
  refine q_blk (pc' := 1) (lo' := [some (.ref a0), some (.int x1), some (.int x2), none]) (st' := [.ref a0]) [.aload_n 0] (by decide +kernel) rfl ?_
  obtain ⟨s1, h⟩ := h
  refine q_getI fl_X9_57 rfl (by decide) (by decide +kernel) s1 ?_
  refine q_blk (pc' := 5) (lo' := [some (.ref a0), some (.int x1), some (.int x2), none]) (st' := [.int (nI 2), .int (q_I A a0 3)]) [.iconst 2] (by decide +kernel) rfl ?_
  refine q_icmp_eq 15 (off := 10) (by decide +kernel) (by decide) (fun c2 => ?_) (fun c2 => ?_)
  · have h := h.1 c2
    refine q_blk (pc' := 16) (lo' := [some (.ref a0), some (.int x1), some (.int x2), none]) (st' := [.ref a0]) [.aload_n 0] (by decide +kernel) rfl ?_
    refine q_getI fl_X9_189 rfl (by decide) (by decide +kernel) s1 ?_
    refine q_blk (pc' := 20) (lo' := [some (.ref a0), some (.int x1), some (.int x2), none]) (st' := [.int x1, .int (q_I A a0 6)]) [.iload_n 1] (by decide +kernel) rfl ?_
    refine q_icmp_lt 31 (off := 11) (by decide +kernel) (by decide) (fun c3 => ?_) (fun c3 => ?_)
    · have h := h.1 c3
      refine q_blk (pc' := 33) (lo' := [some (.ref a0), some (.int x1), some (.int x2), none]) (st' := [.int (nI 2), .ref a0]) [.aload_n 0, .iconst 2] (by decide +kernel) rfl ?_
      refine q_callV (ci := 9) (Mc := M_X9_fail) (z := 1) (b := a0) (As := [.int (nI 2)]) (st := []) mo_X9_fail mi_X9_fail ml_X9_50_X9_fail rfl rfl (by decide) rfl (by decide) (by decide) rfl (Nat.le_of_ble_eq_true rfl) (by decide +kernel) s1 h (q_fV fun A4 h => ?_)
      show q_Wp _ _ _ _ 0 0 36 [some (.ref a0), some (.int x1), some (.int x2), none] [] A4
      refine q_blk (pc' := 37) (lo' := [some (.ref a0), some (.int x1), some (.int x2), none]) (st' := [.int x1]) [.iload_n 1] (by decide +kernel) rfl ?_
      exact q_retI rfl (by decide) (by decide) (by decide +kernel) ⟨_, rfl, h⟩
    · have h := h.2 c3
      refine q_blk (pc' := 24) (lo' := [some (.ref a0), some (.int x1), some (.int x2), none]) (st' := [.ref a0]) [.aload_n 0] (by decide +kernel) rfl ?_
      refine q_getI fl_X9_189 rfl (by decide) (by decide +kernel) s1 ?_
      refine q_blk (pc' := 28) (lo' := [some (.ref a0), some (.int x1), some (.int x2), none]) (st' := [.int x2, .int (q_I A a0 6)]) [.iload_n 2] (by decide +kernel) rfl ?_
      refine q_icmp_le 38 (off := 10) (by decide +kernel) (by decide) (fun c6 => ?_) (fun c6 => ?_)
      · have h := h.1 c6
        refine q_blk (pc' := 39) (lo' := [some (.ref a0), some (.int x1), some (.int x2), none]) (st' := [.ref a0]) [.aload_n 0] (by decide +kernel) rfl ?_
        refine q_getI fl_X9_189 rfl (by decide) (by decide +kernel) s1 ?_
        refine q_blk (pc' := 44) (lo' := [some (.ref a0), some (.int x1), some (.int x2), some (.int (q_I A a0 6))]) (st' := [.ref a0]) [.istore_n 3, .aload_n 0] (by decide +kernel) rfl ?_
        refine q_callV (ci := 9) (Mc := M_X9_nextToken) (z := 0) (b := a0) (As := []) (st := []) mo_X9_nextToken mi_X9_nextToken ml_X9_32_X9_nextToken rfl rfl (by decide) rfl (by decide) (by decide) rfl (Nat.le_of_ble_eq_true rfl) (by decide +kernel) s1 h (q_fV fun A7 h => ?_)
        show q_Wp _ _ _ _ 0 0 47 [some (.ref a0), some (.int x1), some (.int x2), some (.int (q_I A a0 6))] [] A7
        refine q_blk (pc' := 48) (lo' := [some (.ref a0), some (.int x1), some (.int x2), some (.int (q_I A a0 6))]) (st' := [.int (q_I A a0 6)]) [.iload_n 3] (by decide +kernel) rfl ?_
        exact q_retI rfl (by decide) (by decide) (by decide +kernel) ⟨_, rfl, h⟩
      · have h := h.2 c6
        refine q_blk (pc' := 33) (lo' := [some (.ref a0), some (.int x1), some (.int x2), none]) (st' := [.int (nI 2), .ref a0]) [.aload_n 0, .iconst 2] (by decide +kernel) rfl ?_
        refine q_callV (ci := 9) (Mc := M_X9_fail) (z := 1) (b := a0) (As := [.int (nI 2)]) (st := []) mo_X9_fail mi_X9_fail ml_X9_50_X9_fail rfl rfl (by decide) rfl (by decide) (by decide) rfl (Nat.le_of_ble_eq_true rfl) (by decide +kernel) s1 h (q_fV fun A9 h => ?_)
        show q_Wp _ _ _ _ 0 0 36 [some (.ref a0), some (.int x1), some (.int x2), none] [] A9
        refine q_blk (pc' := 37) (lo' := [some (.ref a0), some (.int x1), some (.int x2), none]) (st' := [.int x1]) [.iload_n 1] (by decide +kernel) rfl ?_
        exact q_retI rfl (by decide) (by decide) (by decide +kernel) ⟨_, rfl, h⟩
  · have h := h.2 c2
    refine q_blk (pc' := 10) (lo' := [some (.ref a0), some (.int x1), some (.int x2), none]) (st' := [.int (nI 1), .ref a0]) [.aload_n 0, .iconst 1] (by decide +kernel) rfl ?_
    refine q_callV (ci := 9) (Mc := M_X9_fail) (z := 1) (b := a0) (As := [.int (nI 1)]) (st := []) mo_X9_fail mi_X9_fail ml_X9_50_X9_fail rfl rfl (by decide) rfl (by decide) (by decide) rfl (Nat.le_of_ble_eq_true rfl) (by decide +kernel) s1 h (q_fV fun A11 h => ?_)
    show q_Wp _ _ _ _ 0 0 13 [some (.ref a0), some (.int x1), some (.int x2), none] [] A11
    refine q_blk (pc' := 14) (lo' := [some (.ref a0), some (.int x1), some (.int x2), none]) (st' := [.int x1]) [.iload_n 1] (by decide +kernel) rfl ?_
    exact q_retI rfl (by decide) (by decide) (by decide +kernel) ⟨_, rfl, h⟩
theorem f_X9_readSemicolon {G : q_G} {X : String → q_H → Prop} {f : q_H → Prop} {A : q_H} {a0 : Nat} (h : q_sh A a0 = (10, 0) ∧ (((q_I A a0 3) = (nI 3) → q_Wc G M_X9_nextToken [.ref a0] A (q_KV fun A5 => f A5) q_nX) ∧ (¬ (q_I A a0 3) = (nI 3) → q_Wc G M_X9_fail [.ref a0, .int (nI 1)] A (q_KV fun A3 => f A3) q_nX))) : q_Wc G M_X9_readSemicolon [.ref a0] A (q_KV f) X := by
  refine q_Wc.of [some (.ref a0)] mo_X9_readSemicolon.2.2.2.2.2 rfl (Nat.le_of_ble_eq_true rfl) rfl ?_
  refine q_blk (pc' := 1) (lo' := [some (.ref a0)]) (st' := [.ref a0]) [.aload_n 0] (by decide +kernel) rfl ?_
  obtain ⟨s1, h⟩ := h
  refine q_getI fl_X9_57 rfl (by decide) (by decide +kernel) s1 ?_
  refine q_blk (pc' := 5) (lo' := [some (.ref a0)]) (st' := [.int (nI 3), .int (q_I A a0 3)]) [.iconst 3] (by decide +kernel) rfl ?_
  refine q_icmp_ne 15 (off := 10) (by decide +kernel) (by decide) (fun c2 => ?_) (fun c2 => ?_)
  · have h := h.2 c2
    refine q_blk (pc' := 17) (lo' := [some (.ref a0)]) (st' := [.int (nI 1), .ref a0]) [.aload_n 0, .iconst 1] (by decide +kernel) rfl ?_
    refine q_callV (ci := 9) (Mc := M_X9_fail) (z := 1) (b := a0) (As := [.int (nI 1)]) (st := []) mo_X9_fail mi_X9_fail ml_X9_50_X9_fail rfl rfl (by decide) rfl (by decide) (by decide) rfl (Nat.le_of_ble_eq_true rfl) (by decide +kernel) s1 h (q_fV fun A3 h => ?_)
    show q_Wp _ _ _ _ 0 0 20 [some (.ref a0)] [] A3
    exact q_ret0 rfl (by decide) (by decide) (by decide +kernel) ⟨rfl, h⟩
  · have h := h.1 c2
    refine q_blk (pc' := 9) (lo' := [some (.ref a0)]) (st' := [.ref a0]) [.aload_n 0] (by decide +kernel) rfl ?_
    refine q_callV (ci := 9) (Mc := M_X9_nextToken) (z := 0) (b := a0) (As := []) (st := []) mo_X9_nextToken mi_X9_nextToken ml_X9_32_X9_nextToken rfl rfl (by decide) rfl (by decide) (by decide) rfl (Nat.le_of_ble_eq_true rfl) (by decide +kernel) s1 h (q_fV fun A5 h => ?_)
    show q_Wp _ _ _ _ 0 0 12 [some (.ref a0)] [] A5
    refine q_goto 20 (off := 8) (by decide +kernel) (by decide) ?_
    exact q_ret0 rfl (by decide) (by decide) (by decide +kernel) ⟨rfl, h⟩
theorem f_X9_fail {G : q_G} {X : String → q_H → Prop} {f : q_H → Prop} {A : q_H} {a0 : Nat} {x1 : Int32} (h : q_sh A a0 = (10, 0) ∧ (((q_I A a0 7) = nI 0 → f (q_setI A a0 7 (((nI 8) * (q_I A a0 4)) + x1))) ∧ (¬ (q_I A a0 7) = nI 0 → f A))) : q_Wc G M_X9_fail [.ref a0, .int x1] A (q_KV f) X := by
  refine q_Wc.of [some (.ref a0), some (.int x1)] mo_X9_fail.2.2.2.2.2 rfl (Nat.le_of_ble_eq_true rfl) rfl ?_
  refine q_blk (pc' := 1) (lo' := [some (.ref a0), some (.int x1)]) (st' := [.ref a0]) [.aload_n 0] (by decide +kernel) rfl ?_
  obtain ⟨s1, h⟩ := h
  refine q_getI fl_X9_54 rfl (by decide) (by decide +kernel) s1 ?_
  refine q_if_ne 20 (off := 16) (by decide +kernel) (by decide) (fun c2 => ?_) (fun c2 => ?_)
  · have h := h.2 c2
    exact q_ret0 rfl (by decide) (by decide) (by decide +kernel) ⟨rfl, h⟩
  · have h := h.1 c2
    refine q_blk (pc' := 11) (lo' := [some (.ref a0), some (.int x1)]) (st' := [.ref a0, .int (nI 8), .ref a0]) [.aload_n 0, .bipush 8, .aload_n 0] (by decide +kernel) rfl ?_
    refine q_getI fl_X9_175 rfl (by decide) (by decide +kernel) s1 ?_
    refine q_blk (pc' := 17) (lo' := [some (.ref a0), some (.int x1)]) (st' := [.int (((nI 8) * (q_I A a0 4)) + x1), .ref a0]) [.imul, .iload_n 1, .iadd] (by decide +kernel) rfl ?_
    refine q_putI fw_X9_54 rfl (by decide) (by decide +kernel) s1 ?_
    exact q_ret0 rfl (by decide) (by decide) (by decide +kernel) ⟨rfl, h⟩
theorem f_X9_isKeyword {G : q_G} {X : String → q_H → Prop} {f : Bool → q_H → Prop} {A : q_H} {a0 : Nat} (h : q_sh A a0 = (10, 0) ∧ q_Wc G M_X9_isWord [.ref a0, .ref (q_aK G 0)] A (q_KB fun b2 A1 => ((b2 = true → f true A1) ∧ (b2 = false → q_sh A1 a0 = (10, 0) ∧ q_Wc G M_X9_isWord [.ref a0, .ref (q_aK G 1)] A1 (q_KB fun b7 A6 => ((b7 = true → f true A6) ∧ (b7 = false → q_sh A6 a0 = (10, 0) ∧ q_Wc G M_X9_isWord [.ref a0, .ref (q_aK G 2)] A6 (q_KB fun b12 A11 => ((b12 = true → f true A11) ∧ (b12 = false → q_sh A11 a0 = (10, 0) ∧ q_Wc G M_X9_isWord [.ref a0, .ref (q_aK G 3)] A11 (q_KB fun b17 A16 => ((b17 = true → f true A16) ∧ (b17 = false → q_sh A16 a0 = (10, 0) ∧ q_Wc G M_X9_isWord [.ref a0, .ref (q_aK G 4)] A16 (q_KB fun b22 A21 => ((b22 = true → f true A21) ∧ (b22 = false → f false A21))) q_nX))) q_nX))) q_nX))) q_nX))) q_nX) : q_Wc G M_X9_isKeyword [.ref a0] A (q_KB f) X := by
  refine q_Wc.of [some (.ref a0)] mo_X9_isKeyword.2.2.2.2.2 rfl (Nat.le_of_ble_eq_true rfl) rfl ?_
  refine q_blk (pc' := 1) (lo' := [some (.ref a0)]) (st' := [.ref a0]) [.aload_n 0] (by decide +kernel) rfl ?_
  refine q_ldc (i := 0) rfl rfl rfl (by decide +kernel) ?_
  obtain ⟨s3, h⟩ := h
  refine q_callV (ci := 9) (Mc := M_X9_isWord) (z := 1) (b := a0) (As := [.ref (q_aK G 0)]) (st := []) mo_X9_isWord mi_X9_isWord ml_X9_37_X9_isWord rfl rfl (by decide) rfl (by decide) (by decide) rfl (Nat.le_of_ble_eq_true rfl) (by decide +kernel) s3 h (q_fB fun b2 A1 h => ?_)
  show q_Wp _ _ _ _ 0 0 6 [some (.ref a0)] [.int (q_i b2)] A1
  refine q_ifB_ne 45 (off := 39) (by decide +kernel) (by decide) (fun c4 => ?_) (fun c4 => ?_)
  · have h := h.1 c4
    refine q_blk (pc' := 46) (lo' := [some (.ref a0)]) (st' := [.int (nI 1)]) [.iconst 1] (by decide +kernel) rfl ?_
    refine q_goto 50 (off := 4) (by decide +kernel) (by decide) ?_
    exact q_retZ (r := q_i true) rfl (q_nz _) (by decide) (by decide) (by decide +kernel) ⟨true, rfl, h⟩
  · have h := h.2 c4
    refine q_blk (pc' := 10) (lo' := [some (.ref a0)]) (st' := [.ref a0]) [.aload_n 0] (by decide +kernel) rfl ?_
    refine q_ldc (i := 1) rfl rfl rfl (by decide +kernel) ?_
    obtain ⟨s8, h⟩ := h
    refine q_callV (ci := 9) (Mc := M_X9_isWord) (z := 1) (b := a0) (As := [.ref (q_aK G 1)]) (st := []) mo_X9_isWord mi_X9_isWord ml_X9_37_X9_isWord rfl rfl (by decide) rfl (by decide) (by decide) rfl (Nat.le_of_ble_eq_true rfl) (by decide +kernel) s8 h (q_fB fun b7 A6 h => ?_)
    show q_Wp _ _ _ _ 0 0 15 [some (.ref a0)] [.int (q_i b7)] A6
    refine q_ifB_ne 45 (off := 30) (by decide +kernel) (by decide) (fun c9 => ?_) (fun c9 => ?_)
    · have h := h.1 c9
      refine q_blk (pc' := 46) (lo' := [some (.ref a0)]) (st' := [.int (nI 1)]) [.iconst 1] (by decide +kernel) rfl ?_
      refine q_goto 50 (off := 4) (by decide +kernel) (by decide) ?_
      exact q_retZ (r := q_i true) rfl (q_nz _) (by decide) (by decide) (by decide +kernel) ⟨true, rfl, h⟩
    · have h := h.2 c9
      refine q_blk (pc' := 19) (lo' := [some (.ref a0)]) (st' := [.ref a0]) [.aload_n 0] (by decide +kernel) rfl ?_
      refine q_ldc (i := 2) rfl rfl rfl (by decide +kernel) ?_
      obtain ⟨s13, h⟩ := h
      refine q_callV (ci := 9) (Mc := M_X9_isWord) (z := 1) (b := a0) (As := [.ref (q_aK G 2)]) (st := []) mo_X9_isWord mi_X9_isWord ml_X9_37_X9_isWord rfl rfl (by decide) rfl (by decide) (by decide) rfl (Nat.le_of_ble_eq_true rfl) (by decide +kernel) s13 h (q_fB fun b12 A11 h => ?_)
      show q_Wp _ _ _ _ 0 0 24 [some (.ref a0)] [.int (q_i b12)] A11
      refine q_ifB_ne 45 (off := 21) (by decide +kernel) (by decide) (fun c14 => ?_) (fun c14 => ?_)
      · have h := h.1 c14
        refine q_blk (pc' := 46) (lo' := [some (.ref a0)]) (st' := [.int (nI 1)]) [.iconst 1] (by decide +kernel) rfl ?_
        refine q_goto 50 (off := 4) (by decide +kernel) (by decide) ?_
        exact q_retZ (r := q_i true) rfl (q_nz _) (by decide) (by decide) (by decide +kernel) ⟨true, rfl, h⟩
      · have h := h.2 c14
        refine q_blk (pc' := 28) (lo' := [some (.ref a0)]) (st' := [.ref a0]) [.aload_n 0] (by decide +kernel) rfl ?_
        refine q_ldc (i := 3) rfl rfl rfl (by decide +kernel) ?_
        obtain ⟨s18, h⟩ := h
        refine q_callV (ci := 9) (Mc := M_X9_isWord) (z := 1) (b := a0) (As := [.ref (q_aK G 3)]) (st := []) mo_X9_isWord mi_X9_isWord ml_X9_37_X9_isWord rfl rfl (by decide) rfl (by decide) (by decide) rfl (Nat.le_of_ble_eq_true rfl) (by decide +kernel) s18 h (q_fB fun b17 A16 h => ?_)
        show q_Wp _ _ _ _ 0 0 33 [some (.ref a0)] [.int (q_i b17)] A16
        refine q_ifB_ne 45 (off := 12) (by decide +kernel) (by decide) (fun c19 => ?_) (fun c19 => ?_)
        · have h := h.1 c19
          refine q_blk (pc' := 46) (lo' := [some (.ref a0)]) (st' := [.int (nI 1)]) [.iconst 1] (by decide +kernel) rfl ?_
          refine q_goto 50 (off := 4) (by decide +kernel) (by decide) ?_
          exact q_retZ (r := q_i true) rfl (q_nz _) (by decide) (by decide) (by decide +kernel) ⟨true, rfl, h⟩
        · have h := h.2 c19
          refine q_blk (pc' := 37) (lo' := [some (.ref a0)]) (st' := [.ref a0]) [.aload_n 0] (by decide +kernel) rfl ?_
          refine q_ldc (i := 4) rfl rfl rfl (by decide +kernel) ?_
          obtain ⟨s23, h⟩ := h
          refine q_callV (ci := 9) (Mc := M_X9_isWord) (z := 1) (b := a0) (As := [.ref (q_aK G 4)]) (st := []) mo_X9_isWord mi_X9_isWord ml_X9_37_X9_isWord rfl rfl (by decide) rfl (by decide) (by decide) rfl (Nat.le_of_ble_eq_true rfl) (by decide +kernel) s23 h (q_fB fun b22 A21 h => ?_)
          show q_Wp _ _ _ _ 0 0 42 [some (.ref a0)] [.int (q_i b22)] A21
          refine q_ifB_eq 49 (off := 7) (by decide +kernel) (by decide) (fun c24 => ?_) (fun c24 => ?_)
          · have h := h.2 c24
            refine q_blk (pc' := 50) (lo' := [some (.ref a0)]) (st' := [.int (nI 0)]) [.iconst 0] (by decide +kernel) rfl ?_
            exact q_retZ (r := q_i false) rfl (q_nz _) (by decide) (by decide) (by decide +kernel) ⟨false, rfl, h⟩
          · have h := h.1 c24
            refine q_blk (pc' := 46) (lo' := [some (.ref a0)]) (st' := [.int (nI 1)]) [.iconst 1] (by decide +kernel) rfl ?_
            refine q_goto 50 (off := 4) (by decide +kernel) (by decide) ?_
            exact q_retZ (r := q_i true) rfl (q_nz _) (by decide) (by decide) (by decide +kernel) ⟨true, rfl, h⟩
theorem f_X9_isWord {G : q_G} {X : String → q_H → Prop} {f : Bool → q_H → Prop} {A : q_H} {a0 : Nat} {t0 : Nat} {q0 : String × Nat × String × List Int32} (hq0 : q_txt[t0]? = some q0) (h : q_sh A a0 = (10, 0) ∧ (((q_I A a0 3) = (nI 1) → q_Wc G M_J0_length_8abf5 [.ref (q_aK G t0)] A (q_KI fun r4 A3 => ((((q_I A a0 5) - (q_I A a0 4)) = r4 → q_Wp G M_X9_isWord (q_KB f) X 0 0 28 [some (.ref a0), some (.ref (q_aK G t0)), some (.int (nI 0))] [] A3) ∧ (¬ ((q_I A a0 5) - (q_I A a0 4)) = r4 → f false A3))) q_nX) ∧ (¬ (q_I A a0 3) = (nI 1) → f false A))) : q_Wc G M_X9_isWord [.ref a0, .ref (q_aK G t0)] A (q_KB f) X := by
  refine q_Wc.of [some (.ref a0), some (.ref (q_aK G t0)), none] mo_X9_isWord.2.2.2.2.2 rfl (Nat.le_of_ble_eq_true rfl) rfl ?_
  refine q_blk (pc' := 1) (lo' := [some (.ref a0), some (.ref (q_aK G t0)), none]) (st' := [.ref a0]) [.aload_n 0] (by decide +kernel) rfl ?_
  obtain ⟨s1, h⟩ := h
  refine q_getI fl_X9_57 rfl (by decide) (by decide +kernel) s1 ?_
  refine q_blk (pc' := 5) (lo' := [some (.ref a0), some (.ref (q_aK G t0)), none]) (st' := [.int (nI 1), .int (q_I A a0 3)]) [.iconst 1] (by decide +kernel) rfl ?_
  refine q_icmp_ne 24 (off := 19) (by decide +kernel) (by decide) (fun c2 => ?_) (fun c2 => ?_)
  · have h := h.2 c2
    refine q_blk (pc' := 25) (lo' := [some (.ref a0), some (.ref (q_aK G t0)), none]) (st' := [.int (nI 0)]) [.iconst 0] (by decide +kernel) rfl ?_
    exact q_retZ (r := q_i false) rfl (q_nz _) (by decide) (by decide) (by decide +kernel) ⟨false, rfl, h⟩
  · have h := h.1 c2
    refine q_blk (pc' := 9) (lo' := [some (.ref a0), some (.ref (q_aK G t0)), none]) (st' := [.ref a0]) [.aload_n 0] (by decide +kernel) rfl ?_
    refine q_getI fl_X9_178 rfl (by decide) (by decide +kernel) s1 ?_
    refine q_blk (pc' := 13) (lo' := [some (.ref a0), some (.ref (q_aK G t0)), none]) (st' := [.ref a0, .int (q_I A a0 5)]) [.aload_n 0] (by decide +kernel) rfl ?_
    refine q_getI fl_X9_175 rfl (by decide) (by decide +kernel) s1 ?_
    refine q_blk (pc' := 18) (lo' := [some (.ref a0), some (.ref (q_aK G t0)), none]) (st' := [.ref (q_aK G t0), .int ((q_I A a0 5) - (q_I A a0 4))]) [.isub, .aload_n 1] (by decide +kernel) rfl ?_
    refine q_callVS (i := t0) (Mc := M_J0_length_8abf5) (z := 0) (As := []) (st := [.int ((q_I A a0 5) - (q_I A a0 4))]) hq0 mo_J0_length_8abf5 mi_J0_length_8abf5 ml_X9_192_J0_length_8abf5 rfl rfl rfl (by decide) (by decide) rfl (Nat.le_of_ble_eq_true rfl) (by decide +kernel) h (q_fI fun r4 A3 h => ?_)
    show q_Wp _ _ _ _ 0 0 21 [some (.ref a0), some (.ref (q_aK G t0)), none] [.int r4, .int ((q_I A a0 5) - (q_I A a0 4))] A3
    refine q_icmp_eq 26 (off := 5) (by decide +kernel) (by decide) (fun c5 => ?_) (fun c5 => ?_)
    · have h := h.1 c5
      refine q_blk (pc' := 28) (lo' := [some (.ref a0), some (.ref (q_aK G t0)), some (.int (nI 0))]) (st' := []) [.iconst 0, .istore_n 2] (by decide +kernel) rfl ?_
      exact h
    · have h := h.2 c5
      refine q_blk (pc' := 25) (lo' := [some (.ref a0), some (.ref (q_aK G t0)), none]) (st' := [.int (nI 0)]) [.iconst 0] (by decide +kernel) rfl ?_
      exact q_retZ (r := q_i false) rfl (q_nz _) (by decide) (by decide) (by decide +kernel) ⟨false, rfl, h⟩
theorem f_X9_isWord_28 {G : q_G} {X : String → q_H → Prop} {f : Bool → q_H → Prop} {A : q_H} {a0 : Nat} {x2 : Int32} {t0 : Nat} {q0 : String × Nat × String × List Int32} (hq0 : q_txt[t0]? = some q0) (h : q_Wc G M_J0_length_8abf5 [.ref (q_aK G t0)] A (q_KI fun r2 A1 => ((r2 ≤ x2 → f true A1) ∧ (¬ r2 ≤ x2 → q_sh A1 a0 = (10, 0) ∧ ∃ r5 : Nat, q_R A1 a0 0 = some r5 ∧ ∃ z8 : Nat, q_sh A1 r5 = (51, z8) ∧ z8 < 2147483648 ∧ ∃ j10 : Nat, ((q_I A1 a0 4) + x2) = nI j10 ∧ j10 < z8 ∧ q_Wc G M_J0_charAt_5068e [.ref (q_aK G t0), .int x2] A1 (q_KI fun r14 A13 => (((q_I A1 r5 j10) = r14 → q_Wp G M_X9_isWord (q_KB f) X 0 0 28 [some (.ref a0), some (.ref (q_aK G t0)), some (.int (x2 + (nI 1)))] [] A13) ∧ (¬ (q_I A1 r5 j10) = r14 → f false A13))) q_nX))) q_nX) : q_Wp G M_X9_isWord (q_KB f) X 0 0 28 [some (.ref a0), some (.ref (q_aK G t0)), some (.int x2)] [] A := by
  refine q_blk (pc' := 30) (lo' := [some (.ref a0), some (.ref (q_aK G t0)), some (.int x2)]) (st' := [.ref (q_aK G t0), .int x2]) [.iload_n 2, .aload_n 1] (by decide +kernel) rfl ?_
  refine q_callVS (i := t0) (Mc := M_J0_length_8abf5) (z := 0) (As := []) (st := [.int x2]) hq0 mo_J0_length_8abf5 mi_J0_length_8abf5 ml_X9_192_J0_length_8abf5 rfl rfl rfl (by decide) (by decide) rfl (Nat.le_of_ble_eq_true rfl) (by decide +kernel) h (q_fI fun r2 A1 h => ?_)
  show q_Wp _ _ _ _ 0 0 33 [some (.ref a0), some (.ref (q_aK G t0)), some (.int x2)] [.int r2, .int x2] A1
  refine q_icmp_ge 63 (off := 30) (by decide +kernel) (by decide) (fun c3 => ?_) (fun c3 => ?_)
  · have h := h.1 c3
    refine q_blk (pc' := 64) (lo' := [some (.ref a0), some (.ref (q_aK G t0)), some (.int x2)]) (st' := [.int (nI 1)]) [.iconst 1] (by decide +kernel) rfl ?_
    exact q_retZ (r := q_i true) rfl (q_nz _) (by decide) (by decide) (by decide +kernel) ⟨true, rfl, h⟩
  · have h := h.2 c3
    refine q_blk (pc' := 37) (lo' := [some (.ref a0), some (.ref (q_aK G t0)), some (.int x2)]) (st' := [.ref a0]) [.aload_n 0] (by decide +kernel) rfl ?_
    obtain ⟨s4, h⟩ := h
    obtain ⟨r5, e6, h⟩ := h
    refine q_getR fl_X9_9 rfl (by decide) (by decide +kernel) s4 e6 ?_
    refine q_blk (pc' := 41) (lo' := [some (.ref a0), some (.ref (q_aK G t0)), some (.int x2)]) (st' := [.ref a0, .ref r5]) [.aload_n 0] (by decide +kernel) rfl ?_
    refine q_getI fl_X9_175 rfl (by decide) (by decide +kernel) s4 ?_
    refine q_blk (pc' := 46) (lo' := [some (.ref a0), some (.ref (q_aK G t0)), some (.int x2)]) (st' := [.int ((q_I A1 a0 4) + x2), .ref r5]) [.iload_n 2, .iadd] (by decide +kernel) rfl ?_
    obtain ⟨z8, s7, b9, h⟩ := h
    obtain ⟨j10, e11, h⟩ := h
    obtain ⟨l12, h⟩ := h
    refine q_bald e11 (by decide +kernel) s7 l12 b9 ?_
    refine q_blk (pc' := 49) (lo' := [some (.ref a0), some (.ref (q_aK G t0)), some (.int x2)]) (st' := [.int x2, .ref (q_aK G t0), .int (q_I A1 r5 j10)]) [.aload_n 1, .iload_n 2] (by decide +kernel) rfl ?_
    refine q_callVS (i := t0) (Mc := M_J0_charAt_5068e) (z := 1) (As := [.int x2]) (st := [.int (q_I A1 r5 j10)]) hq0 mo_J0_charAt_5068e mi_J0_charAt_5068e ml_X9_196_J0_charAt_5068e rfl rfl rfl (by decide) (by decide) rfl (Nat.le_of_ble_eq_true rfl) (by decide +kernel) h (q_fI fun r14 A13 h => ?_)
    show q_Wp _ _ _ _ 0 0 52 [some (.ref a0), some (.ref (q_aK G t0)), some (.int x2)] [.int r14, .int (q_I A1 r5 j10)] A13
    refine q_icmp_eq 57 (off := 5) (by decide +kernel) (by decide) (fun c15 => ?_) (fun c15 => ?_)
    · have h := h.1 c15
      refine q_blk (pc' := 60) (lo' := [some (.ref a0), some (.ref (q_aK G t0)), some (.int (x2 + (nI 1)))]) (st' := []) [.iinc 2 1] (by decide +kernel) rfl ?_
      refine q_goto 28 (off := -32) (by decide +kernel) (by decide) ?_
      exact h
    · have h := h.2 c15
      refine q_blk (pc' := 56) (lo' := [some (.ref a0), some (.ref (q_aK G t0)), some (.int x2)]) (st' := [.int (nI 0)]) [.iconst 0] (by decide +kernel) rfl ?_
      exact q_retZ (r := q_i false) rfl (q_nz _) (by decide) (by decide) (by decide +kernel) ⟨false, rfl, h⟩
theorem f_X9_nextToken {G : q_G} {X : String → q_H → Prop} {f : q_H → Prop} {A : q_H} {a0 : Nat} (h : q_sh A a0 = (10, 0) ∧ (((q_I A a0 7) = nI 0 → q_Wp G M_X9_nextToken (q_KV f) X 0 0 16 [some (.ref a0)] [] (q_setI A a0 4 (q_I A a0 5))) ∧ (¬ (q_I A a0 7) = nI 0 → f A))) : q_Wc G M_X9_nextToken [.ref a0] A (q_KV f) X := by
  refine q_Wc.of [some (.ref a0)] mo_X9_nextToken.2.2.2.2.2 rfl (Nat.le_of_ble_eq_true rfl) rfl ?_
  refine q_blk (pc' := 1) (lo' := [some (.ref a0)]) (st' := [.ref a0]) [.aload_n 0] (by decide +kernel) rfl ?_
  obtain ⟨s1, h⟩ := h
  refine q_getI fl_X9_54 rfl (by decide) (by decide +kernel) s1 ?_
  refine q_if_eq 8 (off := 4) (by decide +kernel) (by decide) (fun c2 => ?_) (fun c2 => ?_)
  · have h := h.1 c2
    refine q_blk (pc' := 10) (lo' := [some (.ref a0)]) (st' := [.ref a0, .ref a0]) [.aload_n 0, .aload_n 0] (by decide +kernel) rfl ?_
    refine q_getI fl_X9_178 rfl (by decide) (by decide +kernel) s1 ?_
    refine q_putI fw_X9_175 rfl (by decide) (by decide +kernel) s1 ?_
    exact h
  · have h := h.2 c2
    exact q_ret0 rfl (by decide) (by decide) (by decide +kernel) ⟨rfl, h⟩
theorem f_X9_nextToken_16 {G : q_G} {X : String → q_H → Prop} {f : q_H → Prop} {A : q_H} {a0 : Nat} (h : q_sh A a0 = (10, 0) ∧ (((q_I A a0 1) ≤ (q_I A a0 4) → (((q_I (q_setI A a0 5 (q_I A a0 4)) a0 4) < (q_I (q_setI A a0 5 (q_I A a0 4)) a0 1) → ∃ r4 : Nat, q_R A a0 0 = some r4 ∧ ∃ z7 : Nat, q_sh A r4 = (51, z7) ∧ z7 < 2147483648 ∧ ∃ j9 : Nat, (q_I (q_setI A a0 5 (q_I A a0 4)) a0 4) = nI j9 ∧ j9 < z7 ∧ q_Wc G M_X9_isLetter [.int (q_I (q_setI A a0 5 (q_I A a0 4)) r4 j9)] (q_setI A a0 5 (q_I A a0 4)) (q_KB fun b13 A12 => ((b13 = true → q_sh A12 a0 = (10, 0) ∧ q_Wp G M_X9_nextToken (q_KV f) X 0 0 102 [some (.ref a0)] [] (q_setI A12 a0 3 (nI 1))) ∧ (b13 = false → q_sh A12 a0 = (10, 0) ∧ ∃ r17 : Nat, q_R A12 a0 0 = some r17 ∧ ∃ z20 : Nat, q_sh A12 r17 = (51, z20) ∧ z20 < 2147483648 ∧ ∃ j22 : Nat, (q_I A12 a0 4) = nI j22 ∧ j22 < z20 ∧ q_Wc G M_X9_isDigit [.int (q_I A12 r17 j22)] A12 (q_KB fun b26 A25 => ((b26 = true → q_sh A25 a0 = (10, 0) ∧ q_Wp G M_X9_nextToken (q_KV f) X 0 0 161 [some (.ref a0)] [] (q_setI A25 a0 6 (nI 0))) ∧ (b26 = false → q_sh A25 a0 = (10, 0) ∧ ∃ r30 : Nat, q_R A25 a0 0 = some r30 ∧ ∃ z33 : Nat, q_sh A25 r30 = (51, z33) ∧ z33 < 2147483648 ∧ ∃ j35 : Nat, (q_I A25 a0 4) = nI j35 ∧ j35 < z33 ∧ (((q_I A25 r30 j35) = (nI 59) → f (q_setI (q_setI A25 a0 3 (nI 3)) a0 5 ((q_I (q_setI A25 a0 3 (nI 3)) a0 5) + (nI 1)))) ∧ (¬ (q_I A25 r30 j35) = (nI 59) → f (q_setI (q_setI A25 a0 3 (nI 4)) a0 5 ((q_I (q_setI A25 a0 3 (nI 4)) a0 5) + (nI 1)))))))) q_nX))) q_nX) ∧ (¬ (q_I (q_setI A a0 5 (q_I A a0 4)) a0 4) < (q_I (q_setI A a0 5 (q_I A a0 4)) a0 1) → f (q_setI (q_setI A a0 5 (q_I A a0 4)) a0 3 (nI 0))))) ∧ (¬ (q_I A a0 1) ≤ (q_I A a0 4) → ∃ r41 : Nat, q_R A a0 0 = some r41 ∧ ∃ z44 : Nat, q_sh A r41 = (51, z44) ∧ z44 < 2147483648 ∧ ∃ j46 : Nat, (q_I A a0 4) = nI j46 ∧ j46 < z44 ∧ q_Wc G M_X9_isBlank [.int (q_I A r41 j46)] A (q_KB fun b50 A49 => ((b50 = true → q_sh A49 a0 = (10, 0) ∧ q_Wp G M_X9_nextToken (q_KV f) X 0 0 16 [some (.ref a0)] [] (q_setI A49 a0 4 ((q_I A49 a0 4) + (nI 1)))) ∧ (b50 = false → q_sh A49 a0 = (10, 0) ∧ (((q_I (q_setI A49 a0 5 (q_I A49 a0 4)) a0 4) < (q_I (q_setI A49 a0 5 (q_I A49 a0 4)) a0 1) → ∃ r55 : Nat, q_R A49 a0 0 = some r55 ∧ ∃ z58 : Nat, q_sh A49 r55 = (51, z58) ∧ z58 < 2147483648 ∧ ∃ j60 : Nat, (q_I (q_setI A49 a0 5 (q_I A49 a0 4)) a0 4) = nI j60 ∧ j60 < z58 ∧ q_Wc G M_X9_isLetter [.int (q_I (q_setI A49 a0 5 (q_I A49 a0 4)) r55 j60)] (q_setI A49 a0 5 (q_I A49 a0 4)) (q_KB fun b64 A63 => ((b64 = true → q_sh A63 a0 = (10, 0) ∧ q_Wp G M_X9_nextToken (q_KV f) X 0 0 102 [some (.ref a0)] [] (q_setI A63 a0 3 (nI 1))) ∧ (b64 = false → q_sh A63 a0 = (10, 0) ∧ ∃ r68 : Nat, q_R A63 a0 0 = some r68 ∧ ∃ z71 : Nat, q_sh A63 r68 = (51, z71) ∧ z71 < 2147483648 ∧ ∃ j73 : Nat, (q_I A63 a0 4) = nI j73 ∧ j73 < z71 ∧ q_Wc G M_X9_isDigit [.int (q_I A63 r68 j73)] A63 (q_KB fun b77 A76 => ((b77 = true → q_sh A76 a0 = (10, 0) ∧ q_Wp G M_X9_nextToken (q_KV f) X 0 0 161 [some (.ref a0)] [] (q_setI A76 a0 6 (nI 0))) ∧ (b77 = false → q_sh A76 a0 = (10, 0) ∧ ∃ r81 : Nat, q_R A76 a0 0 = some r81 ∧ ∃ z84 : Nat, q_sh A76 r81 = (51, z84) ∧ z84 < 2147483648 ∧ ∃ j86 : Nat, (q_I A76 a0 4) = nI j86 ∧ j86 < z84 ∧ (((q_I A76 r81 j86) = (nI 59) → f (q_setI (q_setI A76 a0 3 (nI 3)) a0 5 ((q_I (q_setI A76 a0 3 (nI 3)) a0 5) + (nI 1)))) ∧ (¬ (q_I A76 r81 j86) = (nI 59) → f (q_setI (q_setI A76 a0 3 (nI 4)) a0 5 ((q_I (q_setI A76 a0 3 (nI 4)) a0 5) + (nI 1)))))))) q_nX))) q_nX) ∧ (¬ (q_I (q_setI A49 a0 5 (q_I A49 a0 4)) a0 4) < (q_I (q_setI A49 a0 5 (q_I A49 a0 4)) a0 1) → f (q_setI (q_setI A49 a0 5 (q_I A49 a0 4)) a0 3 (nI 0))))))) q_nX))) : q_Wp G M_X9_nextToken (q_KV f) X 0 0 16 [some (.ref a0)] [] A := by
  refine q_blk (pc' := 17) (lo' := [some (.ref a0)]) (st' := [.ref a0]) [.aload_n 0] (by decide +kernel) rfl ?_
  obtain ⟨s1, h⟩ := h
  refine q_getI fl_X9_175 rfl (by decide) (by decide +kernel) s1 ?_
  refine q_blk (pc' := 21) (lo' := [some (.ref a0)]) (st' := [.ref a0, .int (q_I A a0 4)]) [.aload_n 0] (by decide +kernel) rfl ?_
  refine q_getI fl_X9_15 rfl (by decide) (by decide +kernel) s1 ?_
  refine q_icmp_ge 55 (off := 31) (by decide +kernel) (by decide) (fun c2 => ?_) (fun c2 => ?_)
  · have h := h.1 c2
    refine q_blk (pc' := 57) (lo' := [some (.ref a0)]) (st' := [.ref a0, .ref a0]) [.aload_n 0, .aload_n 0] (by decide +kernel) rfl ?_
    refine q_getI fl_X9_175 rfl (by decide) (by decide +kernel) s1 ?_
    refine q_putI fw_X9_178 rfl (by decide) (by decide +kernel) s1 ?_
    refine q_blk (pc' := 64) (lo' := [some (.ref a0)]) (st' := [.ref a0]) [.aload_n 0] (by decide +kernel) rfl ?_
    refine q_getI fl_X9_175 rfl (by decide) (by decide +kernel) s1 ?_
    refine q_blk (pc' := 68) (lo' := [some (.ref a0)]) (st' := [.ref a0, .int (q_I (q_setI A a0 5 (q_I A a0 4)) a0 4)]) [.aload_n 0] (by decide +kernel) rfl ?_
    refine q_getI fl_X9_15 rfl (by decide) (by decide +kernel) s1 ?_
    refine q_icmp_lt 82 (off := 11) (by decide +kernel) (by decide) (fun c3 => ?_) (fun c3 => ?_)
    · have h := h.1 c3
      refine q_blk (pc' := 83) (lo' := [some (.ref a0)]) (st' := [.ref a0]) [.aload_n 0] (by decide +kernel) rfl ?_
      obtain ⟨r4, e5, h⟩ := h
      refine q_getR fl_X9_9 rfl (by decide) (by decide +kernel) s1 e5 ?_
      refine q_blk (pc' := 87) (lo' := [some (.ref a0)]) (st' := [.ref a0, .ref r4]) [.aload_n 0] (by decide +kernel) rfl ?_
      refine q_getI fl_X9_175 rfl (by decide) (by decide +kernel) s1 ?_
      obtain ⟨z7, s6, b8, h⟩ := h
      obtain ⟨j9, e10, h⟩ := h
      obtain ⟨l11, h⟩ := h
      refine q_bald e10 (by decide +kernel) s6 l11 b8 ?_
      refine q_callS (Mc := M_X9_isLetter) (z := 1) (As := [.int (q_I (q_setI A a0 5 (q_I A a0 4)) r4 j9)]) (st := []) mo_X9_isLetter ms_X9_isLetter ml_X9_23_X9_isLetter rfl rfl (by decide) (by decide) rfl (Nat.le_of_ble_eq_true rfl) (by decide +kernel) h (q_fB fun b13 A12 h => ?_)
      show q_Wp _ _ _ _ 0 0 94 [some (.ref a0)] [.int (q_i b13)] A12
      refine q_ifB_eq 141 (off := 47) (by decide +kernel) (by decide) (fun c14 => ?_) (fun c14 => ?_)
      · have h := h.2 c14
        refine q_blk (pc' := 142) (lo' := [some (.ref a0)]) (st' := [.ref a0]) [.aload_n 0] (by decide +kernel) rfl ?_
        obtain ⟨s16, h⟩ := h
        obtain ⟨r17, e18, h⟩ := h
        refine q_getR fl_X9_9 rfl (by decide) (by decide +kernel) s16 e18 ?_
        refine q_blk (pc' := 146) (lo' := [some (.ref a0)]) (st' := [.ref a0, .ref r17]) [.aload_n 0] (by decide +kernel) rfl ?_
        refine q_getI fl_X9_175 rfl (by decide) (by decide +kernel) s16 ?_
        obtain ⟨z20, s19, b21, h⟩ := h
        obtain ⟨j22, e23, h⟩ := h
        obtain ⟨l24, h⟩ := h
        refine q_bald e23 (by decide +kernel) s19 l24 b21 ?_
        refine q_callS (Mc := M_X9_isDigit) (z := 1) (As := [.int (q_I A12 r17 j22)]) (st := []) mo_X9_isDigit ms_X9_isDigit ml_X9_203_X9_isDigit rfl rfl (by decide) (by decide) rfl (Nat.le_of_ble_eq_true rfl) (by decide +kernel) h (q_fB fun b26 A25 h => ?_)
        show q_Wp _ _ _ _ 0 0 153 [some (.ref a0)] [.int (q_i b26)] A25
        refine q_ifB_eq 249 (off := 96) (by decide +kernel) (by decide) (fun c27 => ?_) (fun c27 => ?_)
        · have h := h.2 c27
          refine q_blk (pc' := 251) (lo' := [some (.ref a0)]) (st' := [.ref a0, .ref a0]) [.aload_n 0, .aload_n 0] (by decide +kernel) rfl ?_
          obtain ⟨s29, h⟩ := h
          obtain ⟨r30, e31, h⟩ := h
          refine q_getR fl_X9_9 rfl (by decide) (by decide +kernel) s29 e31 ?_
          refine q_blk (pc' := 255) (lo' := [some (.ref a0)]) (st' := [.ref a0, .ref r30, .ref a0]) [.aload_n 0] (by decide +kernel) rfl ?_
          refine q_getI fl_X9_175 rfl (by decide) (by decide +kernel) s29 ?_
          obtain ⟨z33, s32, b34, h⟩ := h
          obtain ⟨j35, e36, h⟩ := h
          obtain ⟨l37, h⟩ := h
          refine q_bald e36 (by decide +kernel) s32 l37 b34 ?_
          refine q_blk (pc' := 261) (lo' := [some (.ref a0)]) (st' := [.int (nI 59), .int (q_I A25 r30 j35), .ref a0]) [.bipush 59] (by decide +kernel) rfl ?_
          refine q_icmp_ne 268 (off := 7) (by decide +kernel) (by decide) (fun c38 => ?_) (fun c38 => ?_)
          · have h := h.2 c38
            refine q_blk (pc' := 269) (lo' := [some (.ref a0)]) (st' := [.int (nI 4), .ref a0]) [.iconst 4] (by decide +kernel) rfl ?_
            refine q_putI fw_X9_57 rfl (by decide) (by decide +kernel) s29 ?_
            refine q_blk (pc' := 274) (lo' := [some (.ref a0)]) (st' := [.ref a0, .ref a0]) [.aload_n 0, .dup] (by decide +kernel) rfl ?_
            refine q_getI fl_X9_178 rfl (by decide) (by decide +kernel) s29 ?_
            refine q_blk (pc' := 279) (lo' := [some (.ref a0)]) (st' := [.int ((q_I (q_setI A25 a0 3 (nI 4)) a0 5) + (nI 1)), .ref a0]) [.iconst 1, .iadd] (by decide +kernel) rfl ?_
            refine q_putI fw_X9_178 rfl (by decide) (by decide +kernel) s29 ?_
            exact q_ret0 rfl (by decide) (by decide) (by decide +kernel) ⟨rfl, h⟩
          · have h := h.1 c38
            refine q_blk (pc' := 265) (lo' := [some (.ref a0)]) (st' := [.int (nI 3), .ref a0]) [.iconst 3] (by decide +kernel) rfl ?_
            refine q_goto 269 (off := 4) (by decide +kernel) (by decide) ?_
            refine q_putI fw_X9_57 rfl (by decide) (by decide +kernel) s29 ?_
            refine q_blk (pc' := 274) (lo' := [some (.ref a0)]) (st' := [.ref a0, .ref a0]) [.aload_n 0, .dup] (by decide +kernel) rfl ?_
            refine q_getI fl_X9_178 rfl (by decide) (by decide +kernel) s29 ?_
            refine q_blk (pc' := 279) (lo' := [some (.ref a0)]) (st' := [.int ((q_I (q_setI A25 a0 3 (nI 3)) a0 5) + (nI 1)), .ref a0]) [.iconst 1, .iadd] (by decide +kernel) rfl ?_
            refine q_putI fw_X9_178 rfl (by decide) (by decide +kernel) s29 ?_
            exact q_ret0 rfl (by decide) (by decide) (by decide +kernel) ⟨rfl, h⟩
        · have h := h.1 c27
          refine q_blk (pc' := 158) (lo' := [some (.ref a0)]) (st' := [.int (nI 0), .ref a0]) [.aload_n 0, .iconst 0] (by decide +kernel) rfl ?_
          obtain ⟨s39, h⟩ := h
          refine q_putI fw_X9_189 rfl (by decide) (by decide +kernel) s39 ?_
          exact h
      · have h := h.1 c14
        refine q_blk (pc' := 99) (lo' := [some (.ref a0)]) (st' := [.int (nI 1), .ref a0]) [.aload_n 0, .iconst 1] (by decide +kernel) rfl ?_
        obtain ⟨s40, h⟩ := h
        refine q_putI fw_X9_57 rfl (by decide) (by decide +kernel) s40 ?_
        exact h
    · have h := h.2 c3
      refine q_blk (pc' := 76) (lo' := [some (.ref a0)]) (st' := [.int (nI 0), .ref a0]) [.aload_n 0, .iconst 0] (by decide +kernel) rfl ?_
      refine q_putI fw_X9_57 rfl (by decide) (by decide +kernel) s1 ?_
      refine q_goto 282 (off := 203) (by decide +kernel) (by decide) ?_
      exact q_ret0 rfl (by decide) (by decide) (by decide +kernel) ⟨rfl, h⟩
  · have h := h.2 c2
    refine q_blk (pc' := 28) (lo' := [some (.ref a0)]) (st' := [.ref a0]) [.aload_n 0] (by decide +kernel) rfl ?_
    obtain ⟨r41, e42, h⟩ := h
    refine q_getR fl_X9_9 rfl (by decide) (by decide +kernel) s1 e42 ?_
    refine q_blk (pc' := 32) (lo' := [some (.ref a0)]) (st' := [.ref a0, .ref r41]) [.aload_n 0] (by decide +kernel) rfl ?_
    refine q_getI fl_X9_175 rfl (by decide) (by decide +kernel) s1 ?_
    obtain ⟨z44, s43, b45, h⟩ := h
    obtain ⟨j46, e47, h⟩ := h
    obtain ⟨l48, h⟩ := h
    refine q_bald e47 (by decide +kernel) s43 l48 b45 ?_
    refine q_callS (Mc := M_X9_isBlank) (z := 1) (As := [.int (q_I A r41 j46)]) (st := []) mo_X9_isBlank ms_X9_isBlank ml_X9_200_X9_isBlank rfl rfl (by decide) (by decide) rfl (Nat.le_of_ble_eq_true rfl) (by decide +kernel) h (q_fB fun b50 A49 h => ?_)
    show q_Wp _ _ _ _ 0 0 39 [some (.ref a0)] [.int (q_i b50)] A49
    refine q_ifB_eq 55 (off := 16) (by decide +kernel) (by decide) (fun c51 => ?_) (fun c51 => ?_)
    · have h := h.2 c51
      refine q_blk (pc' := 57) (lo' := [some (.ref a0)]) (st' := [.ref a0, .ref a0]) [.aload_n 0, .aload_n 0] (by decide +kernel) rfl ?_
      obtain ⟨s53, h⟩ := h
      refine q_getI fl_X9_175 rfl (by decide) (by decide +kernel) s53 ?_
      refine q_putI fw_X9_178 rfl (by decide) (by decide +kernel) s53 ?_
      refine q_blk (pc' := 64) (lo' := [some (.ref a0)]) (st' := [.ref a0]) [.aload_n 0] (by decide +kernel) rfl ?_
      refine q_getI fl_X9_175 rfl (by decide) (by decide +kernel) s53 ?_
      refine q_blk (pc' := 68) (lo' := [some (.ref a0)]) (st' := [.ref a0, .int (q_I (q_setI A49 a0 5 (q_I A49 a0 4)) a0 4)]) [.aload_n 0] (by decide +kernel) rfl ?_
      refine q_getI fl_X9_15 rfl (by decide) (by decide +kernel) s53 ?_
      refine q_icmp_lt 82 (off := 11) (by decide +kernel) (by decide) (fun c54 => ?_) (fun c54 => ?_)
      · have h := h.1 c54
        refine q_blk (pc' := 83) (lo' := [some (.ref a0)]) (st' := [.ref a0]) [.aload_n 0] (by decide +kernel) rfl ?_
        obtain ⟨r55, e56, h⟩ := h
        refine q_getR fl_X9_9 rfl (by decide) (by decide +kernel) s53 e56 ?_
        refine q_blk (pc' := 87) (lo' := [some (.ref a0)]) (st' := [.ref a0, .ref r55]) [.aload_n 0] (by decide +kernel) rfl ?_
        refine q_getI fl_X9_175 rfl (by decide) (by decide +kernel) s53 ?_
        obtain ⟨z58, s57, b59, h⟩ := h
        obtain ⟨j60, e61, h⟩ := h
        obtain ⟨l62, h⟩ := h
        refine q_bald e61 (by decide +kernel) s57 l62 b59 ?_
        refine q_callS (Mc := M_X9_isLetter) (z := 1) (As := [.int (q_I (q_setI A49 a0 5 (q_I A49 a0 4)) r55 j60)]) (st := []) mo_X9_isLetter ms_X9_isLetter ml_X9_23_X9_isLetter rfl rfl (by decide) (by decide) rfl (Nat.le_of_ble_eq_true rfl) (by decide +kernel) h (q_fB fun b64 A63 h => ?_)
        show q_Wp _ _ _ _ 0 0 94 [some (.ref a0)] [.int (q_i b64)] A63
        refine q_ifB_eq 141 (off := 47) (by decide +kernel) (by decide) (fun c65 => ?_) (fun c65 => ?_)
        · have h := h.2 c65
          refine q_blk (pc' := 142) (lo' := [some (.ref a0)]) (st' := [.ref a0]) [.aload_n 0] (by decide +kernel) rfl ?_
          obtain ⟨s67, h⟩ := h
          obtain ⟨r68, e69, h⟩ := h
          refine q_getR fl_X9_9 rfl (by decide) (by decide +kernel) s67 e69 ?_
          refine q_blk (pc' := 146) (lo' := [some (.ref a0)]) (st' := [.ref a0, .ref r68]) [.aload_n 0] (by decide +kernel) rfl ?_
          refine q_getI fl_X9_175 rfl (by decide) (by decide +kernel) s67 ?_
          obtain ⟨z71, s70, b72, h⟩ := h
          obtain ⟨j73, e74, h⟩ := h
          obtain ⟨l75, h⟩ := h
          refine q_bald e74 (by decide +kernel) s70 l75 b72 ?_
          refine q_callS (Mc := M_X9_isDigit) (z := 1) (As := [.int (q_I A63 r68 j73)]) (st := []) mo_X9_isDigit ms_X9_isDigit ml_X9_203_X9_isDigit rfl rfl (by decide) (by decide) rfl (Nat.le_of_ble_eq_true rfl) (by decide +kernel) h (q_fB fun b77 A76 h => ?_)
          show q_Wp _ _ _ _ 0 0 153 [some (.ref a0)] [.int (q_i b77)] A76
          refine q_ifB_eq 249 (off := 96) (by decide +kernel) (by decide) (fun c78 => ?_) (fun c78 => ?_)
          · have h := h.2 c78
            refine q_blk (pc' := 251) (lo' := [some (.ref a0)]) (st' := [.ref a0, .ref a0]) [.aload_n 0, .aload_n 0] (by decide +kernel) rfl ?_
            obtain ⟨s80, h⟩ := h
            obtain ⟨r81, e82, h⟩ := h
            refine q_getR fl_X9_9 rfl (by decide) (by decide +kernel) s80 e82 ?_
            refine q_blk (pc' := 255) (lo' := [some (.ref a0)]) (st' := [.ref a0, .ref r81, .ref a0]) [.aload_n 0] (by decide +kernel) rfl ?_
            refine q_getI fl_X9_175 rfl (by decide) (by decide +kernel) s80 ?_
            obtain ⟨z84, s83, b85, h⟩ := h
            obtain ⟨j86, e87, h⟩ := h
            obtain ⟨l88, h⟩ := h
            refine q_bald e87 (by decide +kernel) s83 l88 b85 ?_
            refine q_blk (pc' := 261) (lo' := [some (.ref a0)]) (st' := [.int (nI 59), .int (q_I A76 r81 j86), .ref a0]) [.bipush 59] (by decide +kernel) rfl ?_
            refine q_icmp_ne 268 (off := 7) (by decide +kernel) (by decide) (fun c89 => ?_) (fun c89 => ?_)
            · have h := h.2 c89
              refine q_blk (pc' := 269) (lo' := [some (.ref a0)]) (st' := [.int (nI 4), .ref a0]) [.iconst 4] (by decide +kernel) rfl ?_
              refine q_putI fw_X9_57 rfl (by decide) (by decide +kernel) s80 ?_
              refine q_blk (pc' := 274) (lo' := [some (.ref a0)]) (st' := [.ref a0, .ref a0]) [.aload_n 0, .dup] (by decide +kernel) rfl ?_
              refine q_getI fl_X9_178 rfl (by decide) (by decide +kernel) s80 ?_
              refine q_blk (pc' := 279) (lo' := [some (.ref a0)]) (st' := [.int ((q_I (q_setI A76 a0 3 (nI 4)) a0 5) + (nI 1)), .ref a0]) [.iconst 1, .iadd] (by decide +kernel) rfl ?_
              refine q_putI fw_X9_178 rfl (by decide) (by decide +kernel) s80 ?_
              exact q_ret0 rfl (by decide) (by decide) (by decide +kernel) ⟨rfl, h⟩
            · have h := h.1 c89
              refine q_blk (pc' := 265) (lo' := [some (.ref a0)]) (st' := [.int (nI 3), .ref a0]) [.iconst 3] (by decide +kernel) rfl ?_
              refine q_goto 269 (off := 4) (by decide +kernel) (by decide) ?_
              refine q_putI fw_X9_57 rfl (by decide) (by decide +kernel) s80 ?_
              refine q_blk (pc' := 274) (lo' := [some (.ref a0)]) (st' := [.ref a0, .ref a0]) [.aload_n 0, .dup] (by decide +kernel) rfl ?_
              refine q_getI fl_X9_178 rfl (by decide) (by decide +kernel) s80 ?_
              refine q_blk (pc' := 279) (lo' := [some (.ref a0)]) (st' := [.int ((q_I (q_setI A76 a0 3 (nI 3)) a0 5) + (nI 1)), .ref a0]) [.iconst 1, .iadd] (by decide +kernel) rfl ?_
              refine q_putI fw_X9_178 rfl (by decide) (by decide +kernel) s80 ?_
              exact q_ret0 rfl (by decide) (by decide) (by decide +kernel) ⟨rfl, h⟩
          · have h := h.1 c78
            refine q_blk (pc' := 158) (lo' := [some (.ref a0)]) (st' := [.int (nI 0), .ref a0]) [.aload_n 0, .iconst 0] (by decide +kernel) rfl ?_
            obtain ⟨s90, h⟩ := h
            refine q_putI fw_X9_189 rfl (by decide) (by decide +kernel) s90 ?_
            exact h
        · have h := h.1 c65
          refine q_blk (pc' := 99) (lo' := [some (.ref a0)]) (st' := [.int (nI 1), .ref a0]) [.aload_n 0, .iconst 1] (by decide +kernel) rfl ?_
          obtain ⟨s91, h⟩ := h
          refine q_putI fw_X9_57 rfl (by decide) (by decide +kernel) s91 ?_
          exact h
      · have h := h.2 c54
        refine q_blk (pc' := 76) (lo' := [some (.ref a0)]) (st' := [.int (nI 0), .ref a0]) [.aload_n 0, .iconst 0] (by decide +kernel) rfl ?_
        refine q_putI fw_X9_57 rfl (by decide) (by decide +kernel) s53 ?_
        refine q_goto 282 (off := 203) (by decide +kernel) (by decide) ?_
        exact q_ret0 rfl (by decide) (by decide) (by decide +kernel) ⟨rfl, h⟩
    · have h := h.1 c51
      refine q_blk (pc' := 44) (lo' := [some (.ref a0)]) (st' := [.ref a0, .ref a0]) [.aload_n 0, .dup] (by decide +kernel) rfl ?_
      obtain ⟨s92, h⟩ := h
      refine q_getI fl_X9_175 rfl (by decide) (by decide +kernel) s92 ?_
      refine q_blk (pc' := 49) (lo' := [some (.ref a0)]) (st' := [.int ((q_I A49 a0 4) + (nI 1)), .ref a0]) [.iconst 1, .iadd] (by decide +kernel) rfl ?_
      refine q_putI fw_X9_175 rfl (by decide) (by decide +kernel) s92 ?_
      refine q_goto 16 (off := -36) (by decide +kernel) (by decide) ?_
      exact h
theorem f_X9_nextToken_161 {G : q_G} {X : String → q_H → Prop} {f : q_H → Prop} {A : q_H} {a0 : Nat} (h : q_sh A a0 = (10, 0) ∧ (((q_I A a0 1) ≤ (q_I A a0 5) → ((((q_I A a0 5) - (q_I A a0 4)) ≤ (nI 4) → f (q_setI A a0 3 (nI 2))) ∧ (¬ ((q_I A a0 5) - (q_I A a0 4)) ≤ (nI 4) → f (q_setI A a0 3 (nI 4))))) ∧ (¬ (q_I A a0 1) ≤ (q_I A a0 5) → ∃ r4 : Nat, q_R A a0 0 = some r4 ∧ ∃ z7 : Nat, q_sh A r4 = (51, z7) ∧ z7 < 2147483648 ∧ ∃ j9 : Nat, (q_I A a0 5) = nI j9 ∧ j9 < z7 ∧ q_Wc G M_X9_isDigit [.int (q_I A r4 j9)] A (q_KB fun b13 A12 => ((b13 = true → q_sh A12 a0 = (10, 0) ∧ ∃ r19 : Nat, q_R A12 a0 0 = some r19 ∧ ∃ z22 : Nat, q_sh A12 r19 = (51, z22) ∧ z22 < 2147483648 ∧ ∃ j24 : Nat, (q_I A12 a0 5) = nI j24 ∧ j24 < z22 ∧ (∀ A27 : q_H, A27 = (q_setI (q_setI A12 a0 6 (((q_I A12 a0 6) * (nI 10)) + ((q_I A12 r19 j24) - (nI 48)))) a0 5 ((q_I (q_setI A12 a0 6 (((q_I A12 a0 6) * (nI 10)) + ((q_I A12 r19 j24) - (nI 48)))) a0 5) + (nI 1))) → q_Wp G M_X9_nextToken (q_KV f) X 0 0 161 [some (.ref a0)] [] A27)) ∧ (b13 = false → q_sh A12 a0 = (10, 0) ∧ ((((q_I A12 a0 5) - (q_I A12 a0 4)) ≤ (nI 4) → f (q_setI A12 a0 3 (nI 2))) ∧ (¬ ((q_I A12 a0 5) - (q_I A12 a0 4)) ≤ (nI 4) → f (q_setI A12 a0 3 (nI 4))))))) q_nX))) : q_Wp G M_X9_nextToken (q_KV f) X 0 0 161 [some (.ref a0)] [] A := by
  refine q_blk (pc' := 162) (lo' := [some (.ref a0)]) (st' := [.ref a0]) [.aload_n 0] (by decide +kernel) rfl ?_
  obtain ⟨s1, h⟩ := h
  refine q_getI fl_X9_178 rfl (by decide) (by decide +kernel) s1 ?_
  refine q_blk (pc' := 166) (lo' := [some (.ref a0)]) (st' := [.ref a0, .int (q_I A a0 5)]) [.aload_n 0] (by decide +kernel) rfl ?_
  refine q_getI fl_X9_15 rfl (by decide) (by decide +kernel) s1 ?_
  refine q_icmp_ge 224 (off := 55) (by decide +kernel) (by decide) (fun c2 => ?_) (fun c2 => ?_)
  · have h := h.1 c2
    refine q_blk (pc' := 226) (lo' := [some (.ref a0)]) (st' := [.ref a0, .ref a0]) [.aload_n 0, .aload_n 0] (by decide +kernel) rfl ?_
    refine q_getI fl_X9_178 rfl (by decide) (by decide +kernel) s1 ?_
    refine q_blk (pc' := 230) (lo' := [some (.ref a0)]) (st' := [.ref a0, .int (q_I A a0 5), .ref a0]) [.aload_n 0] (by decide +kernel) rfl ?_
    refine q_getI fl_X9_175 rfl (by decide) (by decide +kernel) s1 ?_
    refine q_blk (pc' := 235) (lo' := [some (.ref a0)]) (st' := [.int (nI 4), .int ((q_I A a0 5) - (q_I A a0 4)), .ref a0]) [.isub, .iconst 4] (by decide +kernel) rfl ?_
    refine q_icmp_le 242 (off := 7) (by decide +kernel) (by decide) (fun c3 => ?_) (fun c3 => ?_)
    · have h := h.1 c3
      refine q_blk (pc' := 243) (lo' := [some (.ref a0)]) (st' := [.int (nI 2), .ref a0]) [.iconst 2] (by decide +kernel) rfl ?_
      refine q_putI fw_X9_57 rfl (by decide) (by decide +kernel) s1 ?_
      refine q_goto 282 (off := 36) (by decide +kernel) (by decide) ?_
      exact q_ret0 rfl (by decide) (by decide) (by decide +kernel) ⟨rfl, h⟩
    · have h := h.2 c3
      refine q_blk (pc' := 239) (lo' := [some (.ref a0)]) (st' := [.int (nI 4), .ref a0]) [.iconst 4] (by decide +kernel) rfl ?_
      refine q_goto 243 (off := 4) (by decide +kernel) (by decide) ?_
      refine q_putI fw_X9_57 rfl (by decide) (by decide +kernel) s1 ?_
      refine q_goto 282 (off := 36) (by decide +kernel) (by decide) ?_
      exact q_ret0 rfl (by decide) (by decide) (by decide +kernel) ⟨rfl, h⟩
  · have h := h.2 c2
    refine q_blk (pc' := 173) (lo' := [some (.ref a0)]) (st' := [.ref a0]) [.aload_n 0] (by decide +kernel) rfl ?_
    obtain ⟨r4, e5, h⟩ := h
    refine q_getR fl_X9_9 rfl (by decide) (by decide +kernel) s1 e5 ?_
    refine q_blk (pc' := 177) (lo' := [some (.ref a0)]) (st' := [.ref a0, .ref r4]) [.aload_n 0] (by decide +kernel) rfl ?_
    refine q_getI fl_X9_178 rfl (by decide) (by decide +kernel) s1 ?_
    obtain ⟨z7, s6, b8, h⟩ := h
    obtain ⟨j9, e10, h⟩ := h
    obtain ⟨l11, h⟩ := h
    refine q_bald e10 (by decide +kernel) s6 l11 b8 ?_
    refine q_callS (Mc := M_X9_isDigit) (z := 1) (As := [.int (q_I A r4 j9)]) (st := []) mo_X9_isDigit ms_X9_isDigit ml_X9_203_X9_isDigit rfl rfl (by decide) (by decide) rfl (Nat.le_of_ble_eq_true rfl) (by decide +kernel) h (q_fB fun b13 A12 h => ?_)
    show q_Wp _ _ _ _ 0 0 184 [some (.ref a0)] [.int (q_i b13)] A12
    refine q_ifB_eq 224 (off := 40) (by decide +kernel) (by decide) (fun c14 => ?_) (fun c14 => ?_)
    · have h := h.2 c14
      refine q_blk (pc' := 226) (lo' := [some (.ref a0)]) (st' := [.ref a0, .ref a0]) [.aload_n 0, .aload_n 0] (by decide +kernel) rfl ?_
      obtain ⟨s16, h⟩ := h
      refine q_getI fl_X9_178 rfl (by decide) (by decide +kernel) s16 ?_
      refine q_blk (pc' := 230) (lo' := [some (.ref a0)]) (st' := [.ref a0, .int (q_I A12 a0 5), .ref a0]) [.aload_n 0] (by decide +kernel) rfl ?_
      refine q_getI fl_X9_175 rfl (by decide) (by decide +kernel) s16 ?_
      refine q_blk (pc' := 235) (lo' := [some (.ref a0)]) (st' := [.int (nI 4), .int ((q_I A12 a0 5) - (q_I A12 a0 4)), .ref a0]) [.isub, .iconst 4] (by decide +kernel) rfl ?_
      refine q_icmp_le 242 (off := 7) (by decide +kernel) (by decide) (fun c17 => ?_) (fun c17 => ?_)
      · have h := h.1 c17
        refine q_blk (pc' := 243) (lo' := [some (.ref a0)]) (st' := [.int (nI 2), .ref a0]) [.iconst 2] (by decide +kernel) rfl ?_
        refine q_putI fw_X9_57 rfl (by decide) (by decide +kernel) s16 ?_
        refine q_goto 282 (off := 36) (by decide +kernel) (by decide) ?_
        exact q_ret0 rfl (by decide) (by decide) (by decide +kernel) ⟨rfl, h⟩
      · have h := h.2 c17
        refine q_blk (pc' := 239) (lo' := [some (.ref a0)]) (st' := [.int (nI 4), .ref a0]) [.iconst 4] (by decide +kernel) rfl ?_
        refine q_goto 243 (off := 4) (by decide +kernel) (by decide) ?_
        refine q_putI fw_X9_57 rfl (by decide) (by decide +kernel) s16 ?_
        refine q_goto 282 (off := 36) (by decide +kernel) (by decide) ?_
        exact q_ret0 rfl (by decide) (by decide) (by decide +kernel) ⟨rfl, h⟩
    · have h := h.1 c14
      refine q_blk (pc' := 189) (lo' := [some (.ref a0)]) (st' := [.ref a0, .ref a0]) [.aload_n 0, .aload_n 0] (by decide +kernel) rfl ?_
      obtain ⟨s18, h⟩ := h
      refine q_getI fl_X9_189 rfl (by decide) (by decide +kernel) s18 ?_
      refine q_blk (pc' := 196) (lo' := [some (.ref a0)]) (st' := [.ref a0, .int ((q_I A12 a0 6) * (nI 10)), .ref a0]) [.bipush 10, .imul, .aload_n 0] (by decide +kernel) rfl ?_
      obtain ⟨r19, e20, h⟩ := h
      refine q_getR fl_X9_9 rfl (by decide) (by decide +kernel) s18 e20 ?_
      refine q_blk (pc' := 200) (lo' := [some (.ref a0)]) (st' := [.ref a0, .ref r19, .int ((q_I A12 a0 6) * (nI 10)), .ref a0]) [.aload_n 0] (by decide +kernel) rfl ?_
      refine q_getI fl_X9_178 rfl (by decide) (by decide +kernel) s18 ?_
      obtain ⟨z22, s21, b23, h⟩ := h
      obtain ⟨j24, e25, h⟩ := h
      obtain ⟨l26, h⟩ := h
      refine q_bald e25 (by decide +kernel) s21 l26 b23 ?_
      refine q_blk (pc' := 208) (lo' := [some (.ref a0)]) (st' := [.int (((q_I A12 a0 6) * (nI 10)) + ((q_I A12 r19 j24) - (nI 48))), .ref a0]) [.bipush 48, .isub, .iadd] (by decide +kernel) rfl ?_
      refine q_putI fw_X9_189 rfl (by decide) (by decide +kernel) s18 ?_
      refine q_blk (pc' := 213) (lo' := [some (.ref a0)]) (st' := [.ref a0, .ref a0]) [.aload_n 0, .dup] (by decide +kernel) rfl ?_
      refine q_getI fl_X9_178 rfl (by decide) (by decide +kernel) s18 ?_
      refine q_blk (pc' := 218) (lo' := [some (.ref a0)]) (st' := [.int ((q_I (q_setI A12 a0 6 (((q_I A12 a0 6) * (nI 10)) + ((q_I A12 r19 j24) - (nI 48)))) a0 5) + (nI 1)), .ref a0]) [.iconst 1, .iadd] (by decide +kernel) rfl ?_
      refine q_putI fw_X9_178 rfl (by decide) (by decide +kernel) s18 ?_
      let A27 : q_H := (q_setI (q_setI A12 a0 6 (((q_I A12 a0 6) * (nI 10)) + ((q_I A12 r19 j24) - (nI 48)))) a0 5 ((q_I (q_setI A12 a0 6 (((q_I A12 a0 6) * (nI 10)) + ((q_I A12 r19 j24) - (nI 48)))) a0 5) + (nI 1)))
      have h := h A27 rfl
      show q_Wp _ _ _ _ 0 0 221 [some (.ref a0)] [] A27
      refine q_goto 161 (off := -60) (by decide +kernel) (by decide) ?_
      exact h
theorem f_X9_nextToken_102 {G : q_G} {X : String → q_H → Prop} {f : q_H → Prop} {A : q_H} {a0 : Nat} (h : q_sh A a0 = (10, 0) ∧ (((q_I A a0 1) ≤ (q_I A a0 5) → f A) ∧ (¬ (q_I A a0 1) ≤ (q_I A a0 5) → ∃ r3 : Nat, q_R A a0 0 = some r3 ∧ ∃ z6 : Nat, q_sh A r3 = (51, z6) ∧ z6 < 2147483648 ∧ ∃ j8 : Nat, (q_I A a0 5) = nI j8 ∧ j8 < z6 ∧ q_Wc G M_X9_isLetter [.int (q_I A r3 j8)] A (q_KB fun b12 A11 => ((b12 = true → q_sh A11 a0 = (10, 0) ∧ q_Wp G M_X9_nextToken (q_KV f) X 0 0 102 [some (.ref a0)] [] (q_setI A11 a0 5 ((q_I A11 a0 5) + (nI 1)))) ∧ (b12 = false → f A11))) q_nX))) : q_Wp G M_X9_nextToken (q_KV f) X 0 0 102 [some (.ref a0)] [] A := by
  refine q_blk (pc' := 103) (lo' := [some (.ref a0)]) (st' := [.ref a0]) [.aload_n 0] (by decide +kernel) rfl ?_
  obtain ⟨s1, h⟩ := h
  refine q_getI fl_X9_178 rfl (by decide) (by decide +kernel) s1 ?_
  refine q_blk (pc' := 107) (lo' := [some (.ref a0)]) (st' := [.ref a0, .int (q_I A a0 5)]) [.aload_n 0] (by decide +kernel) rfl ?_
  refine q_getI fl_X9_15 rfl (by decide) (by decide +kernel) s1 ?_
  refine q_icmp_ge 282 (off := 172) (by decide +kernel) (by decide) (fun c2 => ?_) (fun c2 => ?_)
  · have h := h.1 c2
    exact q_ret0 rfl (by decide) (by decide) (by decide +kernel) ⟨rfl, h⟩
  · have h := h.2 c2
    refine q_blk (pc' := 114) (lo' := [some (.ref a0)]) (st' := [.ref a0]) [.aload_n 0] (by decide +kernel) rfl ?_
    obtain ⟨r3, e4, h⟩ := h
    refine q_getR fl_X9_9 rfl (by decide) (by decide +kernel) s1 e4 ?_
    refine q_blk (pc' := 118) (lo' := [some (.ref a0)]) (st' := [.ref a0, .ref r3]) [.aload_n 0] (by decide +kernel) rfl ?_
    refine q_getI fl_X9_178 rfl (by decide) (by decide +kernel) s1 ?_
    obtain ⟨z6, s5, b7, h⟩ := h
    obtain ⟨j8, e9, h⟩ := h
    obtain ⟨l10, h⟩ := h
    refine q_bald e9 (by decide +kernel) s5 l10 b7 ?_
    refine q_callS (Mc := M_X9_isLetter) (z := 1) (As := [.int (q_I A r3 j8)]) (st := []) mo_X9_isLetter ms_X9_isLetter ml_X9_23_X9_isLetter rfl rfl (by decide) (by decide) rfl (Nat.le_of_ble_eq_true rfl) (by decide +kernel) h (q_fB fun b12 A11 h => ?_)
    show q_Wp _ _ _ _ 0 0 125 [some (.ref a0)] [.int (q_i b12)] A11
    refine q_ifB_eq 282 (off := 157) (by decide +kernel) (by decide) (fun c13 => ?_) (fun c13 => ?_)
    · have h := h.2 c13
      exact q_ret0 rfl (by decide) (by decide) (by decide +kernel) ⟨rfl, h⟩
    · have h := h.1 c13
      refine q_blk (pc' := 130) (lo' := [some (.ref a0)]) (st' := [.ref a0, .ref a0]) [.aload_n 0, .dup] (by decide +kernel) rfl ?_
      obtain ⟨s15, h⟩ := h
      refine q_getI fl_X9_178 rfl (by decide) (by decide +kernel) s15 ?_
      refine q_blk (pc' := 135) (lo' := [some (.ref a0)]) (st' := [.int ((q_I A11 a0 5) + (nI 1)), .ref a0]) [.iconst 1, .iadd] (by decide +kernel) rfl ?_
      refine q_putI fw_X9_178 rfl (by decide) (by decide +kernel) s15 ?_
      refine q_goto 102 (off := -36) (by decide +kernel) (by decide) ?_
      exact h
theorem f_X9_isBlank {G : q_G} {X : String → q_H → Prop} {f : Bool → q_H → Prop} {A : q_H} {x0 : Int32} (h : ((x0 = (nI 32) → f true A) ∧ (¬ x0 = (nI 32) → ((x0 = (nI 10) → f true A) ∧ (¬ x0 = (nI 10) → f false A))))) : q_Wc G M_X9_isBlank [.int x0] A (q_KB f) X := by
  refine q_Wc.of [some (.int x0)] mo_X9_isBlank.2.2.2.2.2 rfl (Nat.le_of_ble_eq_true rfl) rfl ?_
  refine q_blk (pc' := 3) (lo' := [some (.int x0)]) (st' := [.int (nI 32), .int x0]) [.iload_n 0, .bipush 32] (by decide +kernel) rfl ?_
  refine q_icmp_eq 12 (off := 9) (by decide +kernel) (by decide) (fun c1 => ?_) (fun c1 => ?_)
  · have h := h.1 c1
    refine q_blk (pc' := 13) (lo' := [some (.int x0)]) (st' := [.int (nI 1)]) [.iconst 1] (by decide +kernel) rfl ?_
    refine q_goto 17 (off := 4) (by decide +kernel) (by decide) ?_
    exact q_retZ (r := q_i true) rfl (q_nz _) (by decide) (by decide) (by decide +kernel) ⟨true, rfl, h⟩
  · have h := h.2 c1
    refine q_blk (pc' := 9) (lo' := [some (.int x0)]) (st' := [.int (nI 10), .int x0]) [.iload_n 0, .bipush 10] (by decide +kernel) rfl ?_
    refine q_icmp_ne 16 (off := 7) (by decide +kernel) (by decide) (fun c2 => ?_) (fun c2 => ?_)
    · have h := h.2 c2
      refine q_blk (pc' := 17) (lo' := [some (.int x0)]) (st' := [.int (nI 0)]) [.iconst 0] (by decide +kernel) rfl ?_
      exact q_retZ (r := q_i false) rfl (q_nz _) (by decide) (by decide) (by decide +kernel) ⟨false, rfl, h⟩
    · have h := h.1 c2
      refine q_blk (pc' := 13) (lo' := [some (.int x0)]) (st' := [.int (nI 1)]) [.iconst 1] (by decide +kernel) rfl ?_
      refine q_goto 17 (off := 4) (by decide +kernel) (by decide) ?_
      exact q_retZ (r := q_i true) rfl (q_nz _) (by decide) (by decide) (by decide +kernel) ⟨true, rfl, h⟩
theorem f_X9_isLetter {G : q_G} {X : String → q_H → Prop} {f : Bool → q_H → Prop} {A : q_H} {x0 : Int32} (h : ((x0 < (nI 97) → f false A) ∧ (¬ x0 < (nI 97) → (((nI 122) < x0 → f false A) ∧ (¬ (nI 122) < x0 → f true A))))) : q_Wc G M_X9_isLetter [.int x0] A (q_KB f) X := by
  refine q_Wc.of [some (.int x0)] mo_X9_isLetter.2.2.2.2.2 rfl (Nat.le_of_ble_eq_true rfl) rfl ?_
  refine q_blk (pc' := 3) (lo' := [some (.int x0)]) (st' := [.int (nI 97), .int x0]) [.iload_n 0, .bipush 97] (by decide +kernel) rfl ?_
  refine q_icmp_lt 16 (off := 13) (by decide +kernel) (by decide) (fun c1 => ?_) (fun c1 => ?_)
  · have h := h.1 c1
    refine q_blk (pc' := 17) (lo' := [some (.int x0)]) (st' := [.int (nI 0)]) [.iconst 0] (by decide +kernel) rfl ?_
    exact q_retZ (r := q_i false) rfl (q_nz _) (by decide) (by decide) (by decide +kernel) ⟨false, rfl, h⟩
  · have h := h.2 c1
    refine q_blk (pc' := 9) (lo' := [some (.int x0)]) (st' := [.int (nI 122), .int x0]) [.iload_n 0, .bipush 122] (by decide +kernel) rfl ?_
    refine q_icmp_gt 16 (off := 7) (by decide +kernel) (by decide) (fun c2 => ?_) (fun c2 => ?_)
    · have h := h.1 c2
      refine q_blk (pc' := 17) (lo' := [some (.int x0)]) (st' := [.int (nI 0)]) [.iconst 0] (by decide +kernel) rfl ?_
      exact q_retZ (r := q_i false) rfl (q_nz _) (by decide) (by decide) (by decide +kernel) ⟨false, rfl, h⟩
    · have h := h.2 c2
      refine q_blk (pc' := 13) (lo' := [some (.int x0)]) (st' := [.int (nI 1)]) [.iconst 1] (by decide +kernel) rfl ?_
      refine q_goto 17 (off := 4) (by decide +kernel) (by decide) ?_
      exact q_retZ (r := q_i true) rfl (q_nz _) (by decide) (by decide) (by decide +kernel) ⟨true, rfl, h⟩
theorem f_X9_isDigit {G : q_G} {X : String → q_H → Prop} {f : Bool → q_H → Prop} {A : q_H} {x0 : Int32} (h : ((x0 < (nI 48) → f false A) ∧ (¬ x0 < (nI 48) → (((nI 57) < x0 → f false A) ∧ (¬ (nI 57) < x0 → f true A))))) : q_Wc G M_X9_isDigit [.int x0] A (q_KB f) X := by
  refine q_Wc.of [some (.int x0)] mo_X9_isDigit.2.2.2.2.2 rfl (Nat.le_of_ble_eq_true rfl) rfl ?_
  refine q_blk (pc' := 3) (lo' := [some (.int x0)]) (st' := [.int (nI 48), .int x0]) [.iload_n 0, .bipush 48] (by decide +kernel) rfl ?_
  refine q_icmp_lt 16 (off := 13) (by decide +kernel) (by decide) (fun c1 => ?_) (fun c1 => ?_)
  · have h := h.1 c1
    refine q_blk (pc' := 17) (lo' := [some (.int x0)]) (st' := [.int (nI 0)]) [.iconst 0] (by decide +kernel) rfl ?_
    exact q_retZ (r := q_i false) rfl (q_nz _) (by decide) (by decide) (by decide +kernel) ⟨false, rfl, h⟩
  · have h := h.2 c1
    refine q_blk (pc' := 9) (lo' := [some (.int x0)]) (st' := [.int (nI 57), .int x0]) [.iload_n 0, .bipush 57] (by decide +kernel) rfl ?_
    refine q_icmp_gt 16 (off := 7) (by decide +kernel) (by decide) (fun c2 => ?_) (fun c2 => ?_)
    · have h := h.1 c2
      refine q_blk (pc' := 17) (lo' := [some (.int x0)]) (st' := [.int (nI 0)]) [.iconst 0] (by decide +kernel) rfl ?_
      exact q_retZ (r := q_i false) rfl (q_nz _) (by decide) (by decide) (by decide +kernel) ⟨false, rfl, h⟩
    · have h := h.2 c2
      refine q_blk (pc' := 13) (lo' := [some (.int x0)]) (st' := [.int (nI 1)]) [.iconst 1] (by decide +kernel) rfl ?_
      refine q_goto 17 (off := 4) (by decide +kernel) (by decide) ?_
      exact q_retZ (r := q_i true) rfl (q_nz _) (by decide) (by decide) (by decide +kernel) ⟨true, rfl, h⟩

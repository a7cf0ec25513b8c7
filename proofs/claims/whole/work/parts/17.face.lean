/-! CONDITIONS: RecyclingLine -/
theorem f_X10_init {G : q_G} {X : String → q_H → Prop} {f : q_H → Prop} {A : q_H} {a0 : Nat} (h : q_sh (q_new A 51 700) a0 = (11, 0) ∧ q_Wc G M_X4_init [.ref (q_sz (q_setR (q_new A 51 700) a0 0 (some (q_sz A))))] (q_new (q_setR (q_new A 51 700) a0 0 (some (q_sz A))) 5 0) (q_KV fun A4 => q_sh A4 a0 = (11, 0) ∧ q_sh (q_new (q_setR A4 a0 2 (some (q_sz (q_setR (q_new A 51 700) a0 0 (some (q_sz A)))))) 64 6) a0 = (11, 0) ∧ (∀ A9 : q_H, A9 = (q_setR (q_new (q_setR A4 a0 2 (some (q_sz (q_setR (q_new A 51 700) a0 0 (some (q_sz A)))))) 64 6) a0 4 (some (q_sz (q_setR A4 a0 2 (some (q_sz (q_setR (q_new A 51 700) a0 0 (some (q_sz A))))))))) → ∃ r10 : Nat, q_R A9 a0 2 = some r10 ∧ q_sh (q_new (q_setR A4 a0 2 (some (q_sz (q_setR (q_new A 51 700) a0 0 (some (q_sz A)))))) 64 6) r10 = (5, 0) ∧ q_Wc G M_X4_addStation [.ref r10, .int (nI 0), .int (nI 0), .int (nI 1), .int (nI 0)] (q_setI A9 r10 0 (nI 1)) (q_KV fun A13 => f A13) q_nX)) q_nX) : q_Wc G M_X10_init [.ref a0] A (q_KV f) X := by
  refine q_Wc.of [some (.ref a0)] mo_X10_init.2.2.2.2.2 rfl (Nat.le_of_ble_eq_true rfl) rfl ?_
  refine q_blk (pc' := 1) (lo' := [some (.ref a0)]) (st' := [.ref a0]) [.aload_n 0] (by decide +kernel) rfl ?_
  refine q_obj ob_X10_1.1 ob_X10_1.2.1 ob_X10_1.2.2 (by decide) (Nat.le_of_ble_eq_true rfl) (by decide +kernel) ?_
  refine q_blk (pc' := 8) (lo' := [some (.ref a0)]) (st' := [.int (nI 700), .ref a0]) [.aload_n 0, .sipush 700] (by decide +kernel) rfl ?_
  refine q_newB (z := 700) ac_byte rfl (by decide) (by decide) (by decide) (by decide +kernel) ?_
  have s1 : q_sh (q_new A 51 700) (q_sz A) = (51, 700) := q_shn _ _ _
  obtain ⟨s2, h⟩ := h
  refine q_putP (v := (some (q_sz A))) fp_X10_9 rfl rfl (by decide) (by decide +kernel) s2 ?_
  refine q_blk (pc' := 14) (lo' := [some (.ref a0)]) (st' := [.ref a0]) [.aload_n 0] (by decide +kernel) rfl ?_
  refine q_newO (idx := 13) ck4 (by decide) kl_X10_13 nw_4.1 nw_4.2 (by decide) (by decide) (by decide +kernel) ?_
  have s3 : q_sh (q_new (q_setR (q_new A 51 700) a0 0 (some (q_sz A))) 5 0) (q_sz (q_setR (q_new A 51 700) a0 0 (some (q_sz A)))) = (5, 0) := q_shn _ _ _
  refine q_blk (pc' := 18) (lo' := [some (.ref a0)]) (st' := [.ref (q_sz (q_setR (q_new A 51 700) a0 0 (some (q_sz A)))), .ref (q_sz (q_setR (q_new A 51 700) a0 0 (some (q_sz A)))), .ref a0]) [.dup] (by decide +kernel) rfl ?_
  refine q_callI (Mc := M_X4_init) (z := 0) (b := (q_sz (q_setR (q_new A 51 700) a0 0 (some (q_sz A))))) (As := []) (st := [.ref (q_sz (q_setR (q_new A 51 700) a0 0 (some (q_sz A)))), .ref a0]) mo_X4_init mi0_X4_init mI_X10_15_X4_init rfl rfl rfl rfl (by decide) (by decide) rfl (Nat.le_of_ble_eq_true rfl) (by decide +kernel) h (q_fV fun A4 h => ?_)
  show q_Wp _ _ _ _ 278 1905 21 [some (.ref a0)] [.ref (q_sz (q_setR (q_new A 51 700) a0 0 (some (q_sz A)))), .ref a0] A4
  obtain ⟨s6, h⟩ := h
  refine q_putR (v := (some (q_sz (q_setR (q_new A 51 700) a0 0 (some (q_sz A)))))) fw_X10_16 rfl (by decide) (by decide +kernel) s6 ?_
  refine q_blk (pc' := 27) (lo' := [some (.ref a0)]) (st' := [.int (nI 6), .ref a0]) [.aload_n 0, .bipush 6] (by decide +kernel) rfl ?_
  refine q_newR (z := 6) (cc := 4) rfl (q_rk4 G) kl_X10_13 rfl (by decide) (by decide) (by decide) (by decide +kernel) ?_
  have s7 : q_sh (q_new (q_setR A4 a0 2 (some (q_sz (q_setR (q_new A 51 700) a0 0 (some (q_sz A)))))) 64 6) (q_sz (q_setR A4 a0 2 (some (q_sz (q_setR (q_new A 51 700) a0 0 (some (q_sz A))))))) = (64, 6) := q_shn _ _ _
  obtain ⟨s8, h⟩ := h
  refine q_putP (v := (some (q_sz (q_setR A4 a0 2 (some (q_sz (q_setR (q_new A 51 700) a0 0 (some (q_sz A))))))))) fp_X10_20 rfl rfl (by decide) (by decide +kernel) s8 ?_
  let A9 : q_H := (q_setR (q_new (q_setR A4 a0 2 (some (q_sz (q_setR (q_new A 51 700) a0 0 (some (q_sz A)))))) 64 6) a0 4 (some (q_sz (q_setR A4 a0 2 (some (q_sz (q_setR (q_new A 51 700) a0 0 (some (q_sz A)))))))))
  have h := h A9 rfl
  show q_Wp _ _ _ _ 279 1911 33 [some (.ref a0)] [] A9
  refine q_blk (pc' := 34) (lo' := [some (.ref a0)]) (st' := [.ref a0]) [.aload_n 0] (by decide +kernel) rfl ?_
  obtain ⟨r10, e11, h⟩ := h
  refine q_getR fl_X10_16 rfl (by decide) (by decide +kernel) s8 e11 ?_
  refine q_blk (pc' := 38) (lo' := [some (.ref a0)]) (st' := [.int (nI 1), .ref r10]) [.iconst 1] (by decide +kernel) rfl ?_
  obtain ⟨s12, h⟩ := h
  refine q_putI fw_X10_24 rfl (by decide) (by decide +kernel) s12 ?_
  refine q_blk (pc' := 42) (lo' := [some (.ref a0)]) (st' := [.ref a0]) [.aload_n 0] (by decide +kernel) rfl ?_
  refine q_getR fl_X10_16 rfl (by decide) (by decide +kernel) s8 e11 ?_
  refine q_blk (pc' := 49) (lo' := [some (.ref a0)]) (st' := [.int (nI 0), .int (nI 1), .int (nI 0), .int (nI 0), .ref r10]) [.iconst 0, .iconst 0, .iconst 1, .iconst 0] (by decide +kernel) rfl ?_
  refine q_callV (ci := 4) (Mc := M_X4_addStation) (z := 4) (b := r10) (As := [.int (nI 0), .int (nI 0), .int (nI 1), .int (nI 0)]) (st := []) mo_X4_addStation mi_X4_addStation ml_X10_28_X4_addStation rfl rfl (by decide) rfl (by decide) (by decide) rfl (Nat.le_of_ble_eq_true rfl) (by decide +kernel) s12 h (q_fV fun A13 h => ?_)
  show q_Wp _ _ _ _ 279 1911 52 [some (.ref a0)] [] A13
  exact q_ret0 rfl (by decide) (by decide) (by decide +kernel) ⟨rfl, h⟩
theorem f_X10_append {G : q_G} {X : String → q_H → Prop} {f : Int32 → q_H → Prop} {A : q_H} {a0 : Nat} {x1 : Int32} {x2 : Int32} {x3 : Int32} {x4 : Int32} {x5 : Int32} (h : q_sh A a0 = (11, 0) ∧ ((((q_I A a0 1) + (nI 20)) ≤ (nI 700) → q_Wc G M_X10_appendBytes [.ref a0, .int x1] A (q_KV fun A3 => q_sh A3 a0 = (11, 0) ∧ q_Wc G M_X10_appendBytes [.ref a0, .int x2] A3 (q_KV fun A5 => q_sh A5 a0 = (11, 0) ∧ q_Wc G M_X10_appendBytes [.ref a0, .int x3] A5 (q_KV fun A8 => q_sh A8 a0 = (11, 0) ∧ q_Wc G M_X10_appendBytes [.ref a0, .int x4] A8 (q_KV fun A11 => q_sh A11 a0 = (11, 0) ∧ q_Wc G M_X10_appendBytes [.ref a0, .int x5] A11 (q_KV fun A14 => q_sh A14 a0 = (11, 0) ∧ f (q_I A14 a0 1) A14) q_nX) q_nX) q_nX) q_nX) q_nX) ∧ (¬ ((q_I A a0 1) + (nI 20)) ≤ (nI 700) → f (-1) A))) : q_Wc G M_X10_append [.ref a0, .int x1, .int x2, .int x3, .int x4, .int x5] A (q_KI f) X := by
  refine q_Wc.of [some (.ref a0), some (.int x1), some (.int x2), some (.int x3), some (.int x4), some (.int x5)] mo_X10_append.2.2.2.2.2 rfl (Nat.le_of_ble_eq_true rfl) rfl ?_
  refine q_blk (pc' := 1) (lo' := [some (.ref a0), some (.int x1), some (.int x2), some (.int x3), some (.int x4), some (.int x5)]) (st' := [.ref a0]) [.aload_n 0] (by decide +kernel) rfl ?_
  obtain ⟨s1, h⟩ := h
  refine q_getI fl_X10_32 rfl (by decide) (by decide +kernel) s1 ?_
  refine q_blk (pc' := 10) (lo' := [some (.ref a0), some (.int x1), some (.int x2), some (.int x3), some (.int x4), some (.int x5)]) (st' := [.int (nI 700), .int ((q_I A a0 1) + (nI 20))]) [.bipush 20, .iadd, .sipush 700] (by decide +kernel) rfl ?_
  refine q_icmp_le 15 (off := 5) (by decide +kernel) (by decide) (fun c2 => ?_) (fun c2 => ?_)
  · have h := h.1 c2
    refine q_blk (pc' := 17) (lo' := [some (.ref a0), some (.int x1), some (.int x2), some (.int x3), some (.int x4), some (.int x5)]) (st' := [.int x1, .ref a0]) [.aload_n 0, .iload_n 1] (by decide +kernel) rfl ?_
    refine q_callV (ci := 10) (Mc := M_X10_appendBytes) (z := 1) (b := a0) (As := [.int x1]) (st := []) mo_X10_appendBytes mi_X10_appendBytes ml_X10_35_X10_appendBytes rfl rfl (by decide) rfl (by decide) (by decide) rfl (Nat.le_of_ble_eq_true rfl) (by decide +kernel) s1 h (q_fV fun A3 h => ?_)
    show q_Wp _ _ _ _ 0 0 20 [some (.ref a0), some (.int x1), some (.int x2), some (.int x3), some (.int x4), some (.int x5)] [] A3
    refine q_blk (pc' := 22) (lo' := [some (.ref a0), some (.int x1), some (.int x2), some (.int x3), some (.int x4), some (.int x5)]) (st' := [.int x2, .ref a0]) [.aload_n 0, .iload_n 2] (by decide +kernel) rfl ?_
    obtain ⟨s7, h⟩ := h
    refine q_callV (ci := 10) (Mc := M_X10_appendBytes) (z := 1) (b := a0) (As := [.int x2]) (st := []) mo_X10_appendBytes mi_X10_appendBytes ml_X10_35_X10_appendBytes rfl rfl (by decide) rfl (by decide) (by decide) rfl (Nat.le_of_ble_eq_true rfl) (by decide +kernel) s7 h (q_fV fun A5 h => ?_)
    show q_Wp _ _ _ _ 0 0 25 [some (.ref a0), some (.int x1), some (.int x2), some (.int x3), some (.int x4), some (.int x5)] [] A5
    refine q_blk (pc' := 27) (lo' := [some (.ref a0), some (.int x1), some (.int x2), some (.int x3), some (.int x4), some (.int x5)]) (st' := [.int x3, .ref a0]) [.aload_n 0, .iload_n 3] (by decide +kernel) rfl ?_
    obtain ⟨s10, h⟩ := h
    refine q_callV (ci := 10) (Mc := M_X10_appendBytes) (z := 1) (b := a0) (As := [.int x3]) (st := []) mo_X10_appendBytes mi_X10_appendBytes ml_X10_35_X10_appendBytes rfl rfl (by decide) rfl (by decide) (by decide) rfl (Nat.le_of_ble_eq_true rfl) (by decide +kernel) s10 h (q_fV fun A8 h => ?_)
    show q_Wp _ _ _ _ 0 0 30 [some (.ref a0), some (.int x1), some (.int x2), some (.int x3), some (.int x4), some (.int x5)] [] A8
    refine q_blk (pc' := 33) (lo' := [some (.ref a0), some (.int x1), some (.int x2), some (.int x3), some (.int x4), some (.int x5)]) (st' := [.int x4, .ref a0]) [.aload_n 0, .iload 4] (by decide +kernel) rfl ?_
    obtain ⟨s13, h⟩ := h
    refine q_callV (ci := 10) (Mc := M_X10_appendBytes) (z := 1) (b := a0) (As := [.int x4]) (st := []) mo_X10_appendBytes mi_X10_appendBytes ml_X10_35_X10_appendBytes rfl rfl (by decide) rfl (by decide) (by decide) rfl (Nat.le_of_ble_eq_true rfl) (by decide +kernel) s13 h (q_fV fun A11 h => ?_)
    show q_Wp _ _ _ _ 0 0 36 [some (.ref a0), some (.int x1), some (.int x2), some (.int x3), some (.int x4), some (.int x5)] [] A11
    refine q_blk (pc' := 39) (lo' := [some (.ref a0), some (.int x1), some (.int x2), some (.int x3), some (.int x4), some (.int x5)]) (st' := [.int x5, .ref a0]) [.aload_n 0, .iload 5] (by decide +kernel) rfl ?_
    obtain ⟨s16, h⟩ := h
    refine q_callV (ci := 10) (Mc := M_X10_appendBytes) (z := 1) (b := a0) (As := [.int x5]) (st := []) mo_X10_appendBytes mi_X10_appendBytes ml_X10_35_X10_appendBytes rfl rfl (by decide) rfl (by decide) (by decide) rfl (Nat.le_of_ble_eq_true rfl) (by decide +kernel) s16 h (q_fV fun A14 h => ?_)
    show q_Wp _ _ _ _ 0 0 42 [some (.ref a0), some (.int x1), some (.int x2), some (.int x3), some (.int x4), some (.int x5)] [] A14
    refine q_blk (pc' := 43) (lo' := [some (.ref a0), some (.int x1), some (.int x2), some (.int x3), some (.int x4), some (.int x5)]) (st' := [.ref a0]) [.aload_n 0] (by decide +kernel) rfl ?_
    obtain ⟨s17, h⟩ := h
    refine q_getI fl_X10_32 rfl (by decide) (by decide +kernel) s17 ?_
    exact q_retI rfl (by decide) (by decide) (by decide +kernel) ⟨_, rfl, h⟩
  · have h := h.2 c2
    refine q_blk (pc' := 14) (lo' := [some (.ref a0), some (.int x1), some (.int x2), some (.int x3), some (.int x4), some (.int x5)]) (st' := [.int (-1)]) [.iconst (-1)] (by decide +kernel) rfl ?_
    exact q_retI rfl (by decide) (by decide) (by decide +kernel) ⟨_, rfl, h⟩
theorem f_X10_appendBytes {G : q_G} {X : String → q_H → Prop} {f : q_H → Prop} {A : q_H} {a0 : Nat} {x1 : Int32} (h : q_Wp G M_X10_appendBytes (q_KV f) X 0 0 3 [some (.ref a0), some (.int x1), some (.int (nI 24))] [] A) : q_Wc G M_X10_appendBytes [.ref a0, .int x1] A (q_KV f) X := by
  refine q_Wc.of [some (.ref a0), some (.int x1), none] mo_X10_appendBytes.2.2.2.2.2 rfl (Nat.le_of_ble_eq_true rfl) rfl ?_
  refine q_blk (pc' := 3) (lo' := [some (.ref a0), some (.int x1), some (.int (nI 24))]) (st' := []) [.bipush 24, .istore_n 2] (by decide +kernel) rfl ?_
  exact h
theorem f_X10_appendBytes_3 {G : q_G} {X : String → q_H → Prop} {f : q_H → Prop} {A : q_H} {a0 : Nat} {x1 : Int32} {x2 : Int32} (h : ((x2 < nI 0 → f A) ∧ (¬ x2 < nI 0 → q_sh A a0 = (11, 0) ∧ ∃ r3 : Nat, q_R A a0 0 = some r3 ∧ ∃ z6 : Nat, q_sh A r3 = (51, z6) ∧ z6 < 2147483648 ∧ (((nI z6) ≤ (q_I A a0 1) → f A) ∧ (¬ (nI z6) ≤ (q_I A a0 1) → ∃ j9 : Nat, (q_I A a0 1) = nI j9 ∧ j9 < z6 ∧ (∀ A12 : q_H, A12 = (q_setI (q_setI A r3 j9 ((x1 >>> (x2 &&& 31)).toInt8.toInt32).toInt8.toInt32) a0 1 ((q_I (q_setI A r3 j9 ((x1 >>> (x2 &&& 31)).toInt8.toInt32).toInt8.toInt32) a0 1) + (nI 1))) → q_Wp G M_X10_appendBytes (q_KV f) X 0 0 3 [some (.ref a0), some (.int x1), some (.int (x2 + Int32.ofInt (-8)))] [] A12)))))) : q_Wp G M_X10_appendBytes (q_KV f) X 0 0 3 [some (.ref a0), some (.int x1), some (.int x2)] [] A := by
  refine q_blk (pc' := 4) (lo' := [some (.ref a0), some (.int x1), some (.int x2)]) (st' := [.int x2]) [.iload_n 2] (by decide +kernel) rfl ?_
  refine q_if_lt 48 (off := 44) (by decide +kernel) (by decide) (fun c1 => ?_) (fun c1 => ?_)
  · have h := h.1 c1
    exact q_ret0 rfl (by decide) (by decide) (by decide +kernel) ⟨rfl, h⟩
  · have h := h.2 c1
    refine q_blk (pc' := 8) (lo' := [some (.ref a0), some (.int x1), some (.int x2)]) (st' := [.ref a0]) [.aload_n 0] (by decide +kernel) rfl ?_
    obtain ⟨s2, h⟩ := h
    refine q_getI fl_X10_32 rfl (by decide) (by decide +kernel) s2 ?_
    refine q_blk (pc' := 12) (lo' := [some (.ref a0), some (.int x1), some (.int x2)]) (st' := [.ref a0, .int (q_I A a0 1)]) [.aload_n 0] (by decide +kernel) rfl ?_
    obtain ⟨r3, e4, h⟩ := h
    refine q_getR fl_X10_9 rfl (by decide) (by decide +kernel) s2 e4 ?_
    obtain ⟨z6, s5, b7, h⟩ := h
    refine q_alenB (by decide +kernel) s5 ?_
    refine q_icmp_ge 48 (off := 32) (by decide +kernel) (by decide) (fun c8 => ?_) (fun c8 => ?_)
    · have h := h.1 c8
      exact q_ret0 rfl (by decide) (by decide) (by decide +kernel) ⟨rfl, h⟩
    · have h := h.2 c8
      refine q_blk (pc' := 20) (lo' := [some (.ref a0), some (.int x1), some (.int x2)]) (st' := [.ref a0]) [.aload_n 0] (by decide +kernel) rfl ?_
      refine q_getR fl_X10_9 rfl (by decide) (by decide +kernel) s2 e4 ?_
      refine q_blk (pc' := 24) (lo' := [some (.ref a0), some (.int x1), some (.int x2)]) (st' := [.ref a0, .ref r3]) [.aload_n 0] (by decide +kernel) rfl ?_
      refine q_getI fl_X10_32 rfl (by decide) (by decide +kernel) s2 ?_
      refine q_blk (pc' := 31) (lo' := [some (.ref a0), some (.int x1), some (.int x2)]) (st' := [.int ((x1 >>> (x2 &&& 31)).toInt8.toInt32), .int (q_I A a0 1), .ref r3]) [.iload_n 1, .iload_n 2, .ishr, .i2b] (by decide +kernel) rfl ?_
      obtain ⟨j9, e10, h⟩ := h
      obtain ⟨l11, h⟩ := h
      refine q_bast e10 (by decide +kernel) s5 l11 b7 ?_
      refine q_blk (pc' := 34) (lo' := [some (.ref a0), some (.int x1), some (.int x2)]) (st' := [.ref a0, .ref a0]) [.aload_n 0, .dup] (by decide +kernel) rfl ?_
      refine q_getI fl_X10_32 rfl (by decide) (by decide +kernel) s2 ?_
      refine q_blk (pc' := 39) (lo' := [some (.ref a0), some (.int x1), some (.int x2)]) (st' := [.int ((q_I (q_setI A r3 j9 ((x1 >>> (x2 &&& 31)).toInt8.toInt32).toInt8.toInt32) a0 1) + (nI 1)), .ref a0]) [.iconst 1, .iadd] (by decide +kernel) rfl ?_
      refine q_putI fw_X10_32 rfl (by decide) (by decide +kernel) s2 ?_
      let A12 : q_H := (q_setI (q_setI A r3 j9 ((x1 >>> (x2 &&& 31)).toInt8.toInt32).toInt8.toInt32) a0 1 ((q_I (q_setI A r3 j9 ((x1 >>> (x2 &&& 31)).toInt8.toInt32).toInt8.toInt32) a0 1) + (nI 1)))
      have h := h A12 rfl
      show q_Wp _ _ _ _ 0 0 42 [some (.ref a0), some (.int x1), some (.int x2)] [] A12
      refine q_blk (pc' := 45) (lo' := [some (.ref a0), some (.int x1), some (.int (x2 + Int32.ofInt (-8)))]) (st' := []) [.iinc 2 (-8)] (by decide +kernel) rfl ?_
      refine q_goto 3 (off := -42) (by decide +kernel) (by decide) ?_
      exact h
theorem f_X10_truncate {G : q_G} {X : String → q_H → Prop} {f : Bool → q_H → Prop} {A : q_H} {a0 : Nat} {x1 : Int32} (h : ((x1 < nI 0 → f false A) ∧ (¬ x1 < nI 0 → q_sh A a0 = (11, 0) ∧ ((x1 ≤ (q_I A a0 1) → f true (q_setI A a0 1 x1)) ∧ (¬ x1 ≤ (q_I A a0 1) → f false A))))) : q_Wc G M_X10_truncate [.ref a0, .int x1] A (q_KB f) X := by
  refine q_Wc.of [some (.ref a0), some (.int x1)] mo_X10_truncate.2.2.2.2.2 rfl (Nat.le_of_ble_eq_true rfl) rfl ?_
  refine q_blk (pc' := 1) (lo' := [some (.ref a0), some (.int x1)]) (st' := [.int x1]) [.iload_n 1] (by decide +kernel) rfl ?_
  refine q_if_lt 12 (off := 11) (by decide +kernel) (by decide) (fun c1 => ?_) (fun c1 => ?_)
  · have h := h.1 c1
    refine q_blk (pc' := 13) (lo' := [some (.ref a0), some (.int x1)]) (st' := [.int (nI 0)]) [.iconst 0] (by decide +kernel) rfl ?_
    exact q_retZ (r := q_i false) rfl (q_nz _) (by decide) (by decide) (by decide +kernel) ⟨false, rfl, h⟩
  · have h := h.2 c1
    refine q_blk (pc' := 6) (lo' := [some (.ref a0), some (.int x1)]) (st' := [.ref a0, .int x1]) [.iload_n 1, .aload_n 0] (by decide +kernel) rfl ?_
    obtain ⟨s2, h⟩ := h
    refine q_getI fl_X10_32 rfl (by decide) (by decide +kernel) s2 ?_
    refine q_icmp_le 14 (off := 5) (by decide +kernel) (by decide) (fun c3 => ?_) (fun c3 => ?_)
    · have h := h.1 c3
      refine q_blk (pc' := 16) (lo' := [some (.ref a0), some (.int x1)]) (st' := [.int x1, .ref a0]) [.aload_n 0, .iload_n 1] (by decide +kernel) rfl ?_
      refine q_putI fw_X10_32 rfl (by decide) (by decide +kernel) s2 ?_
      refine q_blk (pc' := 20) (lo' := [some (.ref a0), some (.int x1)]) (st' := [.int (nI 1)]) [.iconst 1] (by decide +kernel) rfl ?_
      exact q_retZ (r := q_i true) rfl (q_nz _) (by decide) (by decide) (by decide +kernel) ⟨true, rfl, h⟩
    · have h := h.2 c3
      refine q_blk (pc' := 13) (lo' := [some (.ref a0), some (.int x1)]) (st' := [.int (nI 0)]) [.iconst 0] (by decide +kernel) rfl ?_
      exact q_retZ (r := q_i false) rfl (q_nz _) (by decide) (by decide) (by decide +kernel) ⟨false, rfl, h⟩
theorem f_X10_bufferLength {G : q_G} {X : String → q_H → Prop} {f : Int32 → q_H → Prop} {A : q_H} {a0 : Nat} (h : q_sh A a0 = (11, 0) ∧ f (q_I A a0 1) A) : q_Wc G M_X10_bufferLength [.ref a0] A (q_KI f) X := by
  refine q_Wc.of [some (.ref a0)] mo_X10_bufferLength.2.2.2.2.2 rfl (Nat.le_of_ble_eq_true rfl) rfl ?_
  refine q_blk (pc' := 1) (lo' := [some (.ref a0)]) (st' := [.ref a0]) [.aload_n 0] (by decide +kernel) rfl ?_
  obtain ⟨s1, h⟩ := h
  refine q_getI fl_X10_32 rfl (by decide) (by decide +kernel) s1 ?_
  exact q_retI rfl (by decide) (by decide) (by decide +kernel) ⟨_, rfl, h⟩
theorem f_X10_read {G : q_G} {X : String → q_H → Prop} {f : Int32 → q_H → Prop} {A : q_H} {a0 : Nat} (h : q_sh A a0 = (11, 0) ∧ q_Wc G M_X10_spareLine [.ref a0] A (q_KR fun o4 A1 => ∃ r2 : Nat, o4 = some r2 ∧ q_sh (q_new A1 10 0) a0 = (11, 0) ∧ ∃ r7 : Nat, q_R (q_new A1 10 0) a0 0 = some r7 ∧ q_Wc G M_X9_init [.ref (q_sz A1), .ref r7, .int (q_I (q_new A1 10 0) a0 1), .ref r2] (q_new A1 10 0) (q_KV fun A9 => q_sh A9 a0 = (11, 0) ∧ q_sh A9 (q_sz A1) = (10, 0) ∧ q_Wc G M_X9_readText [.ref (q_sz A1)] (q_setI A9 a0 1 (nI 0)) (q_KI fun r13 A12 => ((r13 = nI 0 → q_sh A12 a0 = (11, 0) ∧ ∃ r17 : Nat, q_R A12 a0 2 = some r17 ∧ ∃ r19 : Nat, q_R (q_setR (q_setR A12 a0 3 (some r17)) a0 2 (some r2)) a0 2 = some r19 ∧ q_sh A12 r19 = (5, 0) ∧ f (q_I (q_setI (q_setR (q_setR A12 a0 3 (some r17)) a0 2 (some r2)) a0 5 (nI 0)) r19 3) (q_setI (q_setR (q_setR A12 a0 3 (some r17)) a0 2 (some r2)) a0 5 (nI 0))) ∧ (¬ r13 = nI 0 → f (-r13) A12))) q_nX) q_nX) q_nX) : q_Wc G M_X10_read [.ref a0] A (q_KI f) X := by
  refine q_Wc.of [some (.ref a0), none, none, none] mo_X10_read.2.2.2.2.2 rfl (Nat.le_of_ble_eq_true rfl) rfl ?_
  refine q_blk (pc' := 1) (lo' := [some (.ref a0), none, none, none]) (st' := [.ref a0]) [.aload_n 0] (by decide +kernel) rfl ?_
  obtain ⟨s3, h⟩ := h
  refine q_callV (ci := 10) (Mc := M_X10_spareLine) (z := 0) (b := a0) (As := []) (st := []) mo_X10_spareLine mi_X10_spareLine ml_X10_39_X10_spareLine rfl rfl (by decide) rfl (by decide) (by decide) rfl (Nat.le_of_ble_eq_true rfl) (by decide +kernel) s3 h (q_fR (fun A1 h => ?_) (fun r2 A1 h => ?_))
  · obtain ⟨_, q9, h⟩ := h
    cases q9
  · obtain ⟨_, q9, h⟩ := h
    cases q9
    show q_Wp _ _ _ _ 277 1205 4 [some (.ref a0), none, none, none] [.ref r2] A1
    refine q_blk (pc' := 5) (lo' := [some (.ref a0), some (.ref r2), none, none]) (st' := []) [.astore_n 1] (by decide +kernel) rfl ?_
    refine q_newO (idx := 43) ck9 (by decide) kl_X10_43 nw_9.1 nw_9.2 (by decide) (by decide) (by decide +kernel) ?_
    have s5 : q_sh (q_new A1 10 0) (q_sz A1) = (10, 0) := q_shn _ _ _
    refine q_blk (pc' := 10) (lo' := [some (.ref a0), some (.ref r2), none, none]) (st' := [.ref a0, .ref (q_sz A1), .ref (q_sz A1)]) [.dup, .aload_n 0] (by decide +kernel) rfl ?_
    obtain ⟨s6, h⟩ := h
    obtain ⟨r7, e8, h⟩ := h
    refine q_getR fl_X10_9 rfl (by decide) (by decide +kernel) s6 e8 ?_
    refine q_blk (pc' := 14) (lo' := [some (.ref a0), some (.ref r2), none, none]) (st' := [.ref a0, .ref r7, .ref (q_sz A1), .ref (q_sz A1)]) [.aload_n 0] (by decide +kernel) rfl ?_
    refine q_getI fl_X10_32 rfl (by decide) (by decide +kernel) s6 ?_
    refine q_blk (pc' := 18) (lo' := [some (.ref a0), some (.ref r2), none, none]) (st' := [.ref r2, .int (q_I (q_new A1 10 0) a0 1), .ref r7, .ref (q_sz A1), .ref (q_sz A1)]) [.aload_n 1] (by decide +kernel) rfl ?_
    refine q_callI (Mc := M_X9_init) (z := 3) (b := (q_sz A1)) (As := [.ref r7, .int (q_I (q_new A1 10 0) a0 1), .ref r2]) (st := [.ref (q_sz A1)]) mo_X9_init mi0_X9_init mI_X10_45_X9_init rfl rfl rfl rfl (by decide) (by decide) rfl (Nat.le_of_ble_eq_true rfl) (by decide +kernel) h (q_fV fun A9 h => ?_)
    show q_Wp _ _ _ _ 278 1213 21 [some (.ref a0), some (.ref r2), none, none] [.ref (q_sz A1)] A9
    refine q_blk (pc' := 24) (lo' := [some (.ref a0), some (.ref r2), some (.ref (q_sz A1)), none]) (st' := [.int (nI 0), .ref a0]) [.astore_n 2, .aload_n 0, .iconst 0] (by decide +kernel) rfl ?_
    obtain ⟨s11, h⟩ := h
    refine q_putI fw_X10_32 rfl (by decide) (by decide +kernel) s11 ?_
    refine q_blk (pc' := 28) (lo' := [some (.ref a0), some (.ref r2), some (.ref (q_sz A1)), none]) (st' := [.ref (q_sz A1)]) [.aload_n 2] (by decide +kernel) rfl ?_
    obtain ⟨s14, h⟩ := h
    refine q_callV (ci := 9) (Mc := M_X9_readText) (z := 0) (b := (q_sz A1)) (As := []) (st := []) mo_X9_readText mi_X9_readText ml_X10_48_X9_readText rfl rfl (by decide) rfl (by decide) (by decide) rfl (Nat.le_of_ble_eq_true rfl) (by decide +kernel) s14 h (q_fI fun r13 A12 h => ?_)
    show q_Wp _ _ _ _ 279 1223 31 [some (.ref a0), some (.ref r2), some (.ref (q_sz A1)), none] [.int r13] A12
    refine q_blk (pc' := 33) (lo' := [some (.ref a0), some (.ref r2), some (.ref (q_sz A1)), some (.int r13)]) (st' := [.int r13]) [.istore_n 3, .iload_n 3] (by decide +kernel) rfl ?_
    refine q_if_eq 39 (off := 6) (by decide +kernel) (by decide) (fun c15 => ?_) (fun c15 => ?_)
    · have h := h.1 c15
      refine q_blk (pc' := 41) (lo' := [some (.ref a0), some (.ref r2), some (.ref (q_sz A1)), some (.int r13)]) (st' := [.ref a0, .ref a0]) [.aload_n 0, .aload_n 0] (by decide +kernel) rfl ?_
      obtain ⟨s16, h⟩ := h
      obtain ⟨r17, e18, h⟩ := h
      refine q_getR fl_X10_16 rfl (by decide) (by decide +kernel) s16 e18 ?_
      refine q_putR (v := (some r17)) fw_X10_52 rfl (by decide) (by decide +kernel) s16 ?_
      refine q_blk (pc' := 49) (lo' := [some (.ref a0), some (.ref r2), some (.ref (q_sz A1)), some (.int r13)]) (st' := [.ref r2, .ref a0]) [.aload_n 0, .aload_n 1] (by decide +kernel) rfl ?_
      refine q_putR (v := (some r2)) fw_X10_16 rfl (by decide) (by decide +kernel) s16 ?_
      refine q_blk (pc' := 54) (lo' := [some (.ref a0), some (.ref r2), some (.ref (q_sz A1)), some (.int r13)]) (st' := [.int (nI 0), .ref a0]) [.aload_n 0, .iconst 0] (by decide +kernel) rfl ?_
      refine q_putI fw_X10_55 rfl (by decide) (by decide +kernel) s16 ?_
      refine q_blk (pc' := 58) (lo' := [some (.ref a0), some (.ref r2), some (.ref (q_sz A1)), some (.int r13)]) (st' := [.ref a0]) [.aload_n 0] (by decide +kernel) rfl ?_
      obtain ⟨r19, e20, h⟩ := h
      refine q_getR fl_X10_16 rfl (by decide) (by decide +kernel) s16 e20 ?_
      obtain ⟨s21, h⟩ := h
      refine q_getI fl_X10_58 rfl (by decide) (by decide +kernel) s21 ?_
      exact q_retI rfl (by decide) (by decide) (by decide +kernel) ⟨_, rfl, h⟩
    · have h := h.2 c15
      refine q_blk (pc' := 38) (lo' := [some (.ref a0), some (.ref r2), some (.ref (q_sz A1)), some (.int r13)]) (st' := [.int (-r13)]) [.iload_n 3, .ineg] (by decide +kernel) rfl ?_
      exact q_retI rfl (by decide) (by decide) (by decide +kernel) ⟨_, rfl, h⟩
theorem f_X10_find {G : q_G} {X : String → q_H → Prop} {f : Int32 → q_H → Prop} {A : q_H} {a0 : Nat} (h : q_sh A a0 = (11, 0) ∧ ∃ r2 : Nat, q_R A a0 0 = some r2 ∧ q_Wc G M_X9_nameCode [.ref r2, .int (nI 0), .int (q_I A a0 1)] A (q_KI fun r5 A4 => q_sh A4 a0 = (11, 0) ∧ ∃ r7 : Nat, q_R A4 a0 2 = some r7 ∧ q_sh A4 r7 = (5, 0) ∧ q_Wc G M_X4_buyerNamed [.ref r7, .int r5] (q_setI A4 a0 1 (nI 0)) (q_KI fun r10 A9 => f r10 A9) q_nX) q_nX) : q_Wc G M_X10_find [.ref a0] A (q_KI f) X := by
  refine q_Wc.of [some (.ref a0), none] mo_X10_find.2.2.2.2.2 rfl (Nat.le_of_ble_eq_true rfl) rfl ?_
  refine q_blk (pc' := 1) (lo' := [some (.ref a0), none]) (st' := [.ref a0]) [.aload_n 0] (by decide +kernel) rfl ?_
  obtain ⟨s1, h⟩ := h
  obtain ⟨r2, e3, h⟩ := h
  refine q_getR fl_X10_9 rfl (by decide) (by decide +kernel) s1 e3 ?_
  refine q_blk (pc' := 6) (lo' := [some (.ref a0), none]) (st' := [.ref a0, .int (nI 0), .ref r2]) [.iconst 0, .aload_n 0] (by decide +kernel) rfl ?_
  refine q_getI fl_X10_32 rfl (by decide) (by decide +kernel) s1 ?_
  refine q_callS (Mc := M_X9_nameCode) (z := 3) (As := [.ref r2, .int (nI 0), .int (q_I A a0 1)]) (st := []) mo_X9_nameCode ms_X9_nameCode ml_X10_61_X9_nameCode rfl rfl (by decide) (by decide) rfl (Nat.le_of_ble_eq_true rfl) (by decide +kernel) h (q_fI fun r5 A4 h => ?_)
  show q_Wp _ _ _ _ 0 0 12 [some (.ref a0), none] [.int r5] A4
  refine q_blk (pc' := 15) (lo' := [some (.ref a0), some (.int r5)]) (st' := [.int (nI 0), .ref a0]) [.istore_n 1, .aload_n 0, .iconst 0] (by decide +kernel) rfl ?_
  obtain ⟨s6, h⟩ := h
  refine q_putI fw_X10_32 rfl (by decide) (by decide +kernel) s6 ?_
  refine q_blk (pc' := 19) (lo' := [some (.ref a0), some (.int r5)]) (st' := [.ref a0]) [.aload_n 0] (by decide +kernel) rfl ?_
  obtain ⟨r7, e8, h⟩ := h
  refine q_getR fl_X10_16 rfl (by decide) (by decide +kernel) s6 e8 ?_
  refine q_blk (pc' := 23) (lo' := [some (.ref a0), some (.int r5)]) (st' := [.int r5, .ref r7]) [.iload_n 1] (by decide +kernel) rfl ?_
  obtain ⟨s11, h⟩ := h
  refine q_callV (ci := 4) (Mc := M_X4_buyerNamed) (z := 1) (b := r7) (As := [.int r5]) (st := []) mo_X4_buyerNamed mi_X4_buyerNamed ml_X10_65_X4_buyerNamed rfl rfl (by decide) rfl (by decide) (by decide) rfl (Nat.le_of_ble_eq_true rfl) (by decide +kernel) s11 h (q_fI fun r10 A9 h => ?_)
  show q_Wp _ _ _ _ 0 0 26 [some (.ref a0), some (.int r5)] [.int r10] A9
  exact q_retI rfl (by decide) (by decide) (by decide +kernel) ⟨_, rfl, h⟩
theorem f_X10_line {G : q_G} {X : String → q_H → Prop} {f : Int32 → q_H → Prop} {A : q_H} {a0 : Nat} {x1 : Int32} (h : ((x1 = nI 0 → q_sh A a0 = (11, 0) ∧ ∃ r3 : Nat, q_R A a0 2 = some r3 ∧ q_sh A r3 = (5, 0) ∧ f (q_I A r3 0) A) ∧ (x1 = nI 1 → q_sh A a0 = (11, 0) ∧ ∃ r7 : Nat, q_R A a0 2 = some r7 ∧ q_sh A r7 = (5, 0) ∧ f (q_I A r7 3) A) ∧ (x1 = nI 2 → q_sh A a0 = (11, 0) ∧ ∃ r11 : Nat, q_R A a0 2 = some r11 ∧ q_sh A r11 = (5, 0) ∧ f (q_I A r11 5) A) ∧ (x1 = nI 3 → q_sh A a0 = (11, 0) ∧ ∃ r15 : Nat, q_R A a0 2 = some r15 ∧ q_sh A r15 = (5, 0) ∧ ∃ r18 : Nat, q_R A r15 9 = some r18 ∧ q_sh A r18 = (9, 0) ∧ f (q_I A r18 0) A) ∧ (x1 = nI 4 → q_sh A a0 = (11, 0) ∧ ∃ r22 : Nat, q_R A a0 2 = some r22 ∧ q_sh A r22 = (5, 0) ∧ ∃ r25 : Nat, q_R A r22 6 = some r25 ∧ q_sh A r25 = (4, 0) ∧ f (q_I A r25 2) A) ∧ (x1 = nI 5 → q_sh A a0 = (11, 0) ∧ ∃ r29 : Nat, q_R A a0 2 = some r29 ∧ q_sh A r29 = (5, 0) ∧ q_Wc G M_X4_parcelsOnBelt [.ref r29] A (q_KI fun r32 A31 => f r32 A31) q_nX) ∧ (x1 = nI 6 → q_sh A a0 = (11, 0) ∧ ∃ r35 : Nat, q_R A a0 2 = some r35 ∧ q_sh A r35 = (5, 0) ∧ ∃ r38 : Nat, q_R A r35 7 = some r38 ∧ q_sh A r38 = (8, 0) ∧ f (q_I A r38 1) A) ∧ (x1 = nI 7 → q_sh A a0 = (11, 0) ∧ ∃ r42 : Nat, q_R A a0 2 = some r42 ∧ q_sh A r42 = (5, 0) ∧ ∃ r45 : Nat, q_R A r42 9 = some r45 ∧ q_sh A r45 = (9, 0) ∧ f (q_I A r45 1) A) ∧ (x1 = nI 8 → q_sh A a0 = (11, 0) ∧ ∃ r49 : Nat, q_R A a0 2 = some r49 ∧ q_sh A r49 = (5, 0) ∧ ∃ r52 : Nat, q_R A r49 9 = some r52 ∧ q_sh A r52 = (9, 0) ∧ f (q_I A r52 4) A) ∧ (x1 = nI 9 → q_sh A a0 = (11, 0) ∧ ∃ r56 : Nat, q_R A a0 2 = some r56 ∧ q_sh A r56 = (5, 0) ∧ ∃ r59 : Nat, q_R A r56 9 = some r59 ∧ q_sh A r59 = (9, 0) ∧ f (q_I A r59 5) A) ∧ (x1 = nI 10 → q_sh A a0 = (11, 0) ∧ ∃ r63 : Nat, q_R A a0 2 = some r63 ∧ q_sh A r63 = (5, 0) ∧ ∃ r66 : Nat, q_R A r63 9 = some r66 ∧ q_sh A r66 = (9, 0) ∧ f (q_I A r66 6) A) ∧ ((∀ j, j < 11 → ¬ x1 = nI j) → f (-1) A))) : q_Wc G M_X10_line [.ref a0, .int x1] A (q_KI f) X := by
  refine q_Wc.of [some (.ref a0), some (.int x1)] mo_X10_line.2.2.2.2.2 rfl (Nat.le_of_ble_eq_true rfl) rfl ?_
  refine q_blk (pc' := 1) (lo' := [some (.ref a0), some (.int x1)]) (st' := [.int x1]) [.iload_n 1] (by decide +kernel) rfl ?_
  have hd1 := sw_X10_line_1
  refine q_tsw [60, 68, 76, 84, 95, 106, 114, 125, 136, 147, 158] 169 (hd1) (by rfl) (by decide) (by rfl) (by decide) (And.intro (fun c1 => ?_) (And.intro (fun c1 => ?_) (And.intro (fun c1 => ?_) (And.intro (fun c1 => ?_) (And.intro (fun c1 => ?_) (And.intro (fun c1 => ?_) (And.intro (fun c1 => ?_) (And.intro (fun c1 => ?_) (And.intro (fun c1 => ?_) (And.intro (fun c1 => ?_) (And.intro (fun c1 => ?_) trivial))))))))))) (fun c1 => ?_)
  · have h := h.1 c1
    refine q_blk (pc' := 61) (lo' := [some (.ref a0), some (.int x1)]) (st' := [.ref a0]) [.aload_n 0] (by decide +kernel) rfl ?_
    obtain ⟨s2, h⟩ := h
    obtain ⟨r3, e4, h⟩ := h
    refine q_getR fl_X10_16 rfl (by decide) (by decide +kernel) s2 e4 ?_
    obtain ⟨s5, h⟩ := h
    refine q_getI fl_X10_24 rfl (by decide) (by decide +kernel) s5 ?_
    exact q_retI rfl (by decide) (by decide) (by decide +kernel) ⟨_, rfl, h⟩
  · have h := h.2.1 c1
    refine q_blk (pc' := 69) (lo' := [some (.ref a0), some (.int x1)]) (st' := [.ref a0]) [.aload_n 0] (by decide +kernel) rfl ?_
    obtain ⟨s6, h⟩ := h
    obtain ⟨r7, e8, h⟩ := h
    refine q_getR fl_X10_16 rfl (by decide) (by decide +kernel) s6 e8 ?_
    obtain ⟨s9, h⟩ := h
    refine q_getI fl_X10_58 rfl (by decide) (by decide +kernel) s9 ?_
    exact q_retI rfl (by decide) (by decide) (by decide +kernel) ⟨_, rfl, h⟩
  · have h := h.2.2.1 c1
    refine q_blk (pc' := 77) (lo' := [some (.ref a0), some (.int x1)]) (st' := [.ref a0]) [.aload_n 0] (by decide +kernel) rfl ?_
    obtain ⟨s10, h⟩ := h
    obtain ⟨r11, e12, h⟩ := h
    refine q_getR fl_X10_16 rfl (by decide) (by decide +kernel) s10 e12 ?_
    obtain ⟨s13, h⟩ := h
    refine q_getI fl_X10_69 rfl (by decide) (by decide +kernel) s13 ?_
    exact q_retI rfl (by decide) (by decide) (by decide +kernel) ⟨_, rfl, h⟩
  · have h := h.2.2.2.1 c1
    refine q_blk (pc' := 85) (lo' := [some (.ref a0), some (.int x1)]) (st' := [.ref a0]) [.aload_n 0] (by decide +kernel) rfl ?_
    obtain ⟨s14, h⟩ := h
    obtain ⟨r15, e16, h⟩ := h
    refine q_getR fl_X10_16 rfl (by decide) (by decide +kernel) s14 e16 ?_
    obtain ⟨s17, h⟩ := h
    obtain ⟨r18, e19, h⟩ := h
    refine q_getR fl_X10_72 rfl (by decide) (by decide +kernel) s17 e19 ?_
    obtain ⟨s20, h⟩ := h
    refine q_getI fl_X10_76 rfl (by decide) (by decide +kernel) s20 ?_
    exact q_retI rfl (by decide) (by decide) (by decide +kernel) ⟨_, rfl, h⟩
  · have h := h.2.2.2.2.1 c1
    refine q_blk (pc' := 96) (lo' := [some (.ref a0), some (.int x1)]) (st' := [.ref a0]) [.aload_n 0] (by decide +kernel) rfl ?_
    obtain ⟨s21, h⟩ := h
    obtain ⟨r22, e23, h⟩ := h
    refine q_getR fl_X10_16 rfl (by decide) (by decide +kernel) s21 e23 ?_
    obtain ⟨s24, h⟩ := h
    obtain ⟨r25, e26, h⟩ := h
    refine q_getR fl_X10_81 rfl (by decide) (by decide +kernel) s24 e26 ?_
    obtain ⟨s27, h⟩ := h
    refine q_getI fl_X10_85 rfl (by decide) (by decide +kernel) s27 ?_
    exact q_retI rfl (by decide) (by decide) (by decide +kernel) ⟨_, rfl, h⟩
  · have h := h.2.2.2.2.2.1 c1
    refine q_blk (pc' := 107) (lo' := [some (.ref a0), some (.int x1)]) (st' := [.ref a0]) [.aload_n 0] (by decide +kernel) rfl ?_
    obtain ⟨s28, h⟩ := h
    obtain ⟨r29, e30, h⟩ := h
    refine q_getR fl_X10_16 rfl (by decide) (by decide +kernel) s28 e30 ?_
    obtain ⟨s33, h⟩ := h
    refine q_callV (ci := 4) (Mc := M_X4_parcelsOnBelt) (z := 0) (b := r29) (As := []) (st := []) mo_X4_parcelsOnBelt mi_X4_parcelsOnBelt ml_X10_90_X4_parcelsOnBelt rfl rfl (by decide) rfl (by decide) (by decide) rfl (Nat.le_of_ble_eq_true rfl) (by decide +kernel) s33 h (q_fI fun r32 A31 h => ?_)
    show q_Wp _ _ _ _ 0 0 113 [some (.ref a0), some (.int x1)] [.int r32] A31
    exact q_retI rfl (by decide) (by decide) (by decide +kernel) ⟨_, rfl, h⟩
  · have h := h.2.2.2.2.2.2.1 c1
    refine q_blk (pc' := 115) (lo' := [some (.ref a0), some (.int x1)]) (st' := [.ref a0]) [.aload_n 0] (by decide +kernel) rfl ?_
    obtain ⟨s34, h⟩ := h
    obtain ⟨r35, e36, h⟩ := h
    refine q_getR fl_X10_16 rfl (by decide) (by decide +kernel) s34 e36 ?_
    obtain ⟨s37, h⟩ := h
    obtain ⟨r38, e39, h⟩ := h
    refine q_getR fl_X10_93 rfl (by decide) (by decide +kernel) s37 e39 ?_
    obtain ⟨s40, h⟩ := h
    refine q_getI fl_X10_97 rfl (by decide) (by decide +kernel) s40 ?_
    exact q_retI rfl (by decide) (by decide) (by decide +kernel) ⟨_, rfl, h⟩
  · have h := h.2.2.2.2.2.2.2.1 c1
    refine q_blk (pc' := 126) (lo' := [some (.ref a0), some (.int x1)]) (st' := [.ref a0]) [.aload_n 0] (by decide +kernel) rfl ?_
    obtain ⟨s41, h⟩ := h
    obtain ⟨r42, e43, h⟩ := h
    refine q_getR fl_X10_16 rfl (by decide) (by decide +kernel) s41 e43 ?_
    obtain ⟨s44, h⟩ := h
    obtain ⟨r45, e46, h⟩ := h
    refine q_getR fl_X10_72 rfl (by decide) (by decide +kernel) s44 e46 ?_
    obtain ⟨s47, h⟩ := h
    refine q_getI fl_X10_100 rfl (by decide) (by decide +kernel) s47 ?_
    exact q_retI rfl (by decide) (by decide) (by decide +kernel) ⟨_, rfl, h⟩
  · have h := h.2.2.2.2.2.2.2.2.1 c1
    refine q_blk (pc' := 137) (lo' := [some (.ref a0), some (.int x1)]) (st' := [.ref a0]) [.aload_n 0] (by decide +kernel) rfl ?_
    obtain ⟨s48, h⟩ := h
    obtain ⟨r49, e50, h⟩ := h
    refine q_getR fl_X10_16 rfl (by decide) (by decide +kernel) s48 e50 ?_
    obtain ⟨s51, h⟩ := h
    obtain ⟨r52, e53, h⟩ := h
    refine q_getR fl_X10_72 rfl (by decide) (by decide +kernel) s51 e53 ?_
    obtain ⟨s54, h⟩ := h
    refine q_getI fl_X10_103 rfl (by decide) (by decide +kernel) s54 ?_
    exact q_retI rfl (by decide) (by decide) (by decide +kernel) ⟨_, rfl, h⟩
  · have h := h.2.2.2.2.2.2.2.2.2.1 c1
    refine q_blk (pc' := 148) (lo' := [some (.ref a0), some (.int x1)]) (st' := [.ref a0]) [.aload_n 0] (by decide +kernel) rfl ?_
    obtain ⟨s55, h⟩ := h
    obtain ⟨r56, e57, h⟩ := h
    refine q_getR fl_X10_16 rfl (by decide) (by decide +kernel) s55 e57 ?_
    obtain ⟨s58, h⟩ := h
    obtain ⟨r59, e60, h⟩ := h
    refine q_getR fl_X10_72 rfl (by decide) (by decide +kernel) s58 e60 ?_
    obtain ⟨s61, h⟩ := h
    refine q_getI fl_X10_106 rfl (by decide) (by decide +kernel) s61 ?_
    exact q_retI rfl (by decide) (by decide) (by decide +kernel) ⟨_, rfl, h⟩
  · have h := h.2.2.2.2.2.2.2.2.2.2.1 c1
    refine q_blk (pc' := 159) (lo' := [some (.ref a0), some (.int x1)]) (st' := [.ref a0]) [.aload_n 0] (by decide +kernel) rfl ?_
    obtain ⟨s62, h⟩ := h
    obtain ⟨r63, e64, h⟩ := h
    refine q_getR fl_X10_16 rfl (by decide) (by decide +kernel) s62 e64 ?_
    obtain ⟨s65, h⟩ := h
    obtain ⟨r66, e67, h⟩ := h
    refine q_getR fl_X10_72 rfl (by decide) (by decide +kernel) s65 e67 ?_
    obtain ⟨s68, h⟩ := h
    refine q_getI fl_X10_109 rfl (by decide) (by decide +kernel) s68 ?_
    exact q_retI rfl (by decide) (by decide) (by decide +kernel) ⟨_, rfl, h⟩
  · have h := h.2.2.2.2.2.2.2.2.2.2.2 c1
    refine q_blk (pc' := 170) (lo' := [some (.ref a0), some (.int x1)]) (st' := [.int (-1)]) [.iconst (-1)] (by decide +kernel) rfl ?_
    exact q_retI rfl (by decide) (by decide) (by decide +kernel) ⟨_, rfl, h⟩
theorem f_X10_setting {G : q_G} {X : String → q_H → Prop} {f : Int32 → q_H → Prop} {A : q_H} {a0 : Nat} {x1 : Int32} (h : ((x1 < nI 0 → (∀ z, q_sz A ≤ z → X "java/lang/IndexOutOfBoundsException" (q_grow A z))) ∧ (¬ x1 < nI 0 → ((x1 < (nI 8) → q_sh A a0 = (11, 0) ∧ ∃ r4 : Nat, q_R A a0 2 = some r4 ∧ q_sh A r4 = (5, 0) ∧ ∃ r7 : Nat, q_R A r4 1 = some r7 ∧ ∃ z10 : Nat, q_sh A r7 = (50, z10) ∧ z10 < 2147483648 ∧ ∃ j12 : Nat, x1 = nI j12 ∧ j12 < z10 ∧ f (q_I A r7 j12) A) ∧ (¬ x1 < (nI 8) → (∀ z, q_sz A ≤ z → X "java/lang/IndexOutOfBoundsException" (q_grow A z))))))) : q_Wc G M_X10_setting [.ref a0, .int x1] A (q_KI f) X := by
  refine q_Wc.of [some (.ref a0), some (.int x1)] mo_X10_setting.2.2.2.2.2 rfl (Nat.le_of_ble_eq_true rfl) rfl ?_
  refine q_blk (pc' := 1) (lo' := [some (.ref a0), some (.int x1)]) (st' := [.int x1]) [.iload_n 1] (by decide +kernel) rfl ?_
  refine q_if_lt 10 (off := 9) (by decide +kernel) (by decide) (fun c1 => ?_) (fun c1 => ?_)
  · have h := h.1 c1
    exact q_throw (ik := 112) (is := 114) (ic := 116) (i := 5) (cls := "java/lang/IndexOutOfBoundsException") th_X10_112_116_B.1 th_X10_112_116_B.2.1 th_X10_112_116_B.2.2.1 rfl rfl rfl th_X10_112_116_B.2.2.2.1 th_X10_112_116_B.2.2.2.2.1 th_X10_112_116_B.2.2.2.2.2 rfl ⟨by decide, Nat.le_of_ble_eq_true rfl⟩ (by decide) (by decide +kernel) (by decide +kernel) (by decide +kernel) (by decide +kernel) (by decide +kernel) h
  · have h := h.2 c1
    refine q_blk (pc' := 7) (lo' := [some (.ref a0), some (.int x1)]) (st' := [.int (nI 8), .int x1]) [.iload_n 1, .bipush 8] (by decide +kernel) rfl ?_
    refine q_icmp_lt 20 (off := 13) (by decide +kernel) (by decide) (fun c2 => ?_) (fun c2 => ?_)
    · have h := h.1 c2
      refine q_blk (pc' := 21) (lo' := [some (.ref a0), some (.int x1)]) (st' := [.ref a0]) [.aload_n 0] (by decide +kernel) rfl ?_
      obtain ⟨s3, h⟩ := h
      obtain ⟨r4, e5, h⟩ := h
      refine q_getR fl_X10_16 rfl (by decide) (by decide +kernel) s3 e5 ?_
      obtain ⟨s6, h⟩ := h
      obtain ⟨r7, e8, h⟩ := h
      refine q_getR fl_X10_119 rfl (by decide) (by decide +kernel) s6 e8 ?_
      refine q_blk (pc' := 28) (lo' := [some (.ref a0), some (.int x1)]) (st' := [.int x1, .ref r7]) [.iload_n 1] (by decide +kernel) rfl ?_
      obtain ⟨z10, s9, b11, h⟩ := h
      obtain ⟨j12, e13, h⟩ := h
      obtain ⟨l14, h⟩ := h
      refine q_iald e13 (by decide +kernel) s9 l14 b11 ?_
      exact q_retI rfl (by decide) (by decide) (by decide +kernel) ⟨_, rfl, h⟩
    · have h := h.2 c2
      exact q_throw (ik := 112) (is := 114) (ic := 116) (i := 5) (cls := "java/lang/IndexOutOfBoundsException") th_X10_112_116_B.1 th_X10_112_116_B.2.1 th_X10_112_116_B.2.2.1 rfl rfl rfl th_X10_112_116_B.2.2.2.1 th_X10_112_116_B.2.2.2.2.1 th_X10_112_116_B.2.2.2.2.2 rfl ⟨by decide, Nat.le_of_ble_eq_true rfl⟩ (by decide) (by decide +kernel) (by decide +kernel) (by decide +kernel) (by decide +kernel) (by decide +kernel) h
theorem f_X10_station {G : q_G} {X : String → q_H → Prop} {f : Int32 → q_H → Prop} {A : q_H} {a0 : Nat} {x1 : Int32} {x2 : Int32} (h : q_sh A a0 = (11, 0) ∧ ∃ r2 : Nat, q_R A a0 2 = some r2 ∧ q_sh A r2 = (5, 0) ∧ q_Wc G M_X4_stationAt [.ref r2, .int x1] A (q_KR fun o7 A4 => (o7 = none → (∀ z, q_sz A4 ≤ z → X "java/lang/IndexOutOfBoundsException" (q_grow A4 z))) ∧ (∀ r5 : Nat, o7 = some r5 → ((x2 = nI 0 → q_sh A4 r5 = (7, 0) ∧ f (q_I A4 r5 0) A4) ∧ (x2 = nI 1 → q_sh A4 r5 = (7, 0) ∧ f (q_I A4 r5 1) A4) ∧ (x2 = nI 2 → q_sh A4 r5 = (7, 0) ∧ f (q_I A4 r5 2) A4) ∧ (x2 = nI 3 → q_sh A4 r5 = (7, 0) ∧ f (q_I A4 r5 3) A4) ∧ (x2 = nI 4 → q_sh A4 r5 = (7, 0) ∧ f (q_I A4 r5 4) A4) ∧ (x2 = nI 5 → q_sh A4 r5 = (7, 0) ∧ q_Wc G M_X6_capacity [.ref r5] A4 (q_KI fun r15 A14 => f r15 A14) q_nX) ∧ (x2 = nI 6 → q_sh A4 r5 = (7, 0) ∧ ∃ r18 : Nat, q_R A4 r5 8 = some r18 ∧ q_sh A4 r18 = (3, 0) ∧ f (q_I A4 r18 1) A4) ∧ (x2 = nI 7 → q_sh A4 r5 = (7, 0) ∧ ∃ r22 : Nat, q_R A4 r5 7 = some r22 ∧ q_sh A4 r22 = (6, 0) ∧ ∃ r25 : Nat, q_R A4 r22 0 = some r25 ∧ q_sh A4 r25 = (3, 0) ∧ f (q_I A4 r25 1) A4) ∧ (x2 = nI 8 → q_sh A4 r5 = (7, 0) ∧ q_Wc G M_X6_isSlotEmpty [.ref r5] A4 (q_KB fun b29 A28 => ((b29 = true → f (-1) A28) ∧ (b29 = false → q_sh A28 r5 = (7, 0) ∧ ∃ r34 : Nat, q_R A28 r5 7 = some r34 ∧ q_sh A28 r34 = (6, 0) ∧ f (q_I A28 r34 1) A28))) q_nX) ∧ (x2 = nI 9 → q_sh A4 r5 = (7, 0) ∧ f (q_I A4 r5 5) A4) ∧ (x2 = nI 10 → q_sh A4 r5 = (7, 0) ∧ f (q_I A4 r5 6) A4) ∧ ((∀ j, j < 11 → ¬ x2 = nI j) → (∀ z, q_sz A4 ≤ z → X "java/lang/IllegalArgumentException" (q_grow A4 z)))))) q_nX) : q_Wc G M_X10_station [.ref a0, .int x1, .int x2] A (q_KI f) X := by
  refine q_Wc.of [some (.ref a0), some (.int x1), some (.int x2), none] mo_X10_station.2.2.2.2.2 rfl (Nat.le_of_ble_eq_true rfl) rfl ?_
  refine q_blk (pc' := 1) (lo' := [some (.ref a0), some (.int x1), some (.int x2), none]) (st' := [.ref a0]) [.aload_n 0] (by decide +kernel) rfl ?_
  obtain ⟨s1, h⟩ := h
  obtain ⟨r2, e3, h⟩ := h
  refine q_getR fl_X10_16 rfl (by decide) (by decide +kernel) s1 e3 ?_
  refine q_blk (pc' := 5) (lo' := [some (.ref a0), some (.int x1), some (.int x2), none]) (st' := [.int x1, .ref r2]) [.iload_n 1] (by decide +kernel) rfl ?_
  obtain ⟨s6, h⟩ := h
  refine q_callV (ci := 4) (Mc := M_X4_stationAt) (z := 1) (b := r2) (As := [.int x1]) (st := []) mo_X4_stationAt mi_X4_stationAt ml_X10_123_X4_stationAt rfl rfl (by decide) rfl (by decide) (by decide) rfl (Nat.le_of_ble_eq_true rfl) (by decide +kernel) s6 h (q_fR (fun A4 h => ?_) (fun r5 A4 h => ?_))
  · have h := h.1 rfl
    show q_Wp _ _ _ _ 0 0 8 [some (.ref a0), some (.int x1), some (.int x2), none] [.null] A4
    refine q_blk (pc' := 10) (lo' := [some (.ref a0), some (.int x1), some (.int x2), some (.null)]) (st' := [.null]) [.astore_n 3, .aload_n 3] (by decide +kernel) rfl ?_
    refine q_nnl_n (off := 13) (by decide +kernel) ?_
    exact q_throw (ik := 112) (is := 127) (ic := 116) (i := 6) (cls := "java/lang/IndexOutOfBoundsException") th_X10_112_116_B.1 th_X10_112_116_B.2.1 th_X10_112_116_B.2.2.1 rfl rfl rfl th_X10_112_116_B.2.2.2.1 th_X10_112_116_B.2.2.2.2.1 th_X10_112_116_B.2.2.2.2.2 rfl ⟨by decide, Nat.le_of_ble_eq_true rfl⟩ (by decide) (by decide +kernel) (by decide +kernel) (by decide +kernel) (by decide +kernel) (by decide +kernel) h
  · have h := h.2 r5 rfl
    show q_Wp _ _ _ _ 0 0 8 [some (.ref a0), some (.int x1), some (.int x2), none] [.ref r5] A4
    refine q_blk (pc' := 10) (lo' := [some (.ref a0), some (.int x1), some (.int x2), some (.ref r5)]) (st' := [.ref r5]) [.astore_n 3, .aload_n 3] (by decide +kernel) rfl ?_
    refine q_nnl_y 23 (off := 13) (by decide +kernel) (by decide) ?_
    refine q_blk (pc' := 24) (lo' := [some (.ref a0), some (.int x1), some (.int x2), some (.ref r5)]) (st' := [.int x2]) [.iload_n 2] (by decide +kernel) rfl ?_
    have hd24 := sw_X10_station_24
    refine q_tsw [84, 89, 94, 99, 104, 109, 114, 122, 133, 152, 157] 162 (hd24) (by rfl) (by decide) (by rfl) (by decide) (And.intro (fun c8 => ?_) (And.intro (fun c8 => ?_) (And.intro (fun c8 => ?_) (And.intro (fun c8 => ?_) (And.intro (fun c8 => ?_) (And.intro (fun c8 => ?_) (And.intro (fun c8 => ?_) (And.intro (fun c8 => ?_) (And.intro (fun c8 => ?_) (And.intro (fun c8 => ?_) (And.intro (fun c8 => ?_) trivial))))))))))) (fun c8 => ?_)
    · have h := h.1 c8
      refine q_blk (pc' := 85) (lo' := [some (.ref a0), some (.int x1), some (.int x2), some (.ref r5)]) (st' := [.ref r5]) [.aload_n 3] (by decide +kernel) rfl ?_
      obtain ⟨s9, h⟩ := h
      refine q_getI fl_X10_129 rfl (by decide) (by decide +kernel) s9 ?_
      exact q_retI rfl (by decide) (by decide) (by decide +kernel) ⟨_, rfl, h⟩
    · have h := h.2.1 c8
      refine q_blk (pc' := 90) (lo' := [some (.ref a0), some (.int x1), some (.int x2), some (.ref r5)]) (st' := [.ref r5]) [.aload_n 3] (by decide +kernel) rfl ?_
      obtain ⟨s10, h⟩ := h
      refine q_getI fl_X10_134 rfl (by decide) (by decide +kernel) s10 ?_
      exact q_retI rfl (by decide) (by decide) (by decide +kernel) ⟨_, rfl, h⟩
    · have h := h.2.2.1 c8
      refine q_blk (pc' := 95) (lo' := [some (.ref a0), some (.int x1), some (.int x2), some (.ref r5)]) (st' := [.ref r5]) [.aload_n 3] (by decide +kernel) rfl ?_
      obtain ⟨s11, h⟩ := h
      refine q_getI fl_X10_137 rfl (by decide) (by decide +kernel) s11 ?_
      exact q_retI rfl (by decide) (by decide) (by decide +kernel) ⟨_, rfl, h⟩
    · have h := h.2.2.2.1 c8
      refine q_blk (pc' := 100) (lo' := [some (.ref a0), some (.int x1), some (.int x2), some (.ref r5)]) (st' := [.ref r5]) [.aload_n 3] (by decide +kernel) rfl ?_
      obtain ⟨s12, h⟩ := h
      refine q_getI fl_X10_140 rfl (by decide) (by decide +kernel) s12 ?_
      exact q_retI rfl (by decide) (by decide) (by decide +kernel) ⟨_, rfl, h⟩
    · have h := h.2.2.2.2.1 c8
      refine q_blk (pc' := 105) (lo' := [some (.ref a0), some (.int x1), some (.int x2), some (.ref r5)]) (st' := [.ref r5]) [.aload_n 3] (by decide +kernel) rfl ?_
      obtain ⟨s13, h⟩ := h
      refine q_getI fl_X10_143 rfl (by decide) (by decide +kernel) s13 ?_
      exact q_retI rfl (by decide) (by decide) (by decide +kernel) ⟨_, rfl, h⟩
    · have h := h.2.2.2.2.2.1 c8
      refine q_blk (pc' := 110) (lo' := [some (.ref a0), some (.int x1), some (.int x2), some (.ref r5)]) (st' := [.ref r5]) [.aload_n 3] (by decide +kernel) rfl ?_
      obtain ⟨s16, h⟩ := h
      refine q_callV (ci := 6) (Mc := M_X6_capacity) (z := 0) (b := r5) (As := []) (st := []) mo_X6_capacity mi_X6_capacity ml_X10_146_X6_capacity rfl rfl (by decide) rfl (by decide) (by decide) rfl (Nat.le_of_ble_eq_true rfl) (by decide +kernel) s16 h (q_fI fun r15 A14 h => ?_)
      show q_Wp _ _ _ _ 0 0 113 [some (.ref a0), some (.int x1), some (.int x2), some (.ref r5)] [.int r15] A14
      exact q_retI rfl (by decide) (by decide) (by decide +kernel) ⟨_, rfl, h⟩
    · have h := h.2.2.2.2.2.2.1 c8
      refine q_blk (pc' := 115) (lo' := [some (.ref a0), some (.int x1), some (.int x2), some (.ref r5)]) (st' := [.ref r5]) [.aload_n 3] (by decide +kernel) rfl ?_
      obtain ⟨s17, h⟩ := h
      obtain ⟨r18, e19, h⟩ := h
      refine q_getR fl_X10_149 rfl (by decide) (by decide +kernel) s17 e19 ?_
      obtain ⟨s20, h⟩ := h
      refine q_getI fl_X10_153 rfl (by decide) (by decide +kernel) s20 ?_
      exact q_retI rfl (by decide) (by decide) (by decide +kernel) ⟨_, rfl, h⟩
    · have h := h.2.2.2.2.2.2.2.1 c8
      refine q_blk (pc' := 123) (lo' := [some (.ref a0), some (.int x1), some (.int x2), some (.ref r5)]) (st' := [.ref r5]) [.aload_n 3] (by decide +kernel) rfl ?_
      obtain ⟨s21, h⟩ := h
      obtain ⟨r22, e23, h⟩ := h
      refine q_getR fl_X10_158 rfl (by decide) (by decide +kernel) s21 e23 ?_
      obtain ⟨s24, h⟩ := h
      obtain ⟨r25, e26, h⟩ := h
      refine q_getR fl_X10_162 rfl (by decide) (by decide +kernel) s24 e26 ?_
      obtain ⟨s27, h⟩ := h
      refine q_getI fl_X10_153 rfl (by decide) (by decide +kernel) s27 ?_
      exact q_retI rfl (by decide) (by decide) (by decide +kernel) ⟨_, rfl, h⟩
    · have h := h.2.2.2.2.2.2.2.2.1 c8
      refine q_blk (pc' := 134) (lo' := [some (.ref a0), some (.int x1), some (.int x2), some (.ref r5)]) (st' := [.ref r5]) [.aload_n 3] (by decide +kernel) rfl ?_
      obtain ⟨s30, h⟩ := h
      refine q_callV (ci := 6) (Mc := M_X6_isSlotEmpty) (z := 0) (b := r5) (As := []) (st := []) mo_X6_isSlotEmpty mi_X6_isSlotEmpty ml_X10_167_X6_isSlotEmpty rfl rfl (by decide) rfl (by decide) (by decide) rfl (Nat.le_of_ble_eq_true rfl) (by decide +kernel) s30 h (q_fB fun b29 A28 h => ?_)
      show q_Wp _ _ _ _ 0 0 137 [some (.ref a0), some (.int x1), some (.int x2), some (.ref r5)] [.int (q_i b29)] A28
      refine q_ifB_eq 144 (off := 7) (by decide +kernel) (by decide) (fun c31 => ?_) (fun c31 => ?_)
      · have h := h.2 c31
        refine q_blk (pc' := 145) (lo' := [some (.ref a0), some (.int x1), some (.int x2), some (.ref r5)]) (st' := [.ref r5]) [.aload_n 3] (by decide +kernel) rfl ?_
        obtain ⟨s33, h⟩ := h
        obtain ⟨r34, e35, h⟩ := h
        refine q_getR fl_X10_158 rfl (by decide) (by decide +kernel) s33 e35 ?_
        obtain ⟨s36, h⟩ := h
        refine q_getI fl_X10_171 rfl (by decide) (by decide +kernel) s36 ?_
        exact q_retI rfl (by decide) (by decide) (by decide +kernel) ⟨_, rfl, h⟩
      · have h := h.1 c31
        refine q_blk (pc' := 141) (lo' := [some (.ref a0), some (.int x1), some (.int x2), some (.ref r5)]) (st' := [.int (-1)]) [.iconst (-1)] (by decide +kernel) rfl ?_
        refine q_goto 151 (off := 10) (by decide +kernel) (by decide) ?_
        exact q_retI rfl (by decide) (by decide) (by decide +kernel) ⟨_, rfl, h⟩
    · have h := h.2.2.2.2.2.2.2.2.2.1 c8
      refine q_blk (pc' := 153) (lo' := [some (.ref a0), some (.int x1), some (.int x2), some (.ref r5)]) (st' := [.ref r5]) [.aload_n 3] (by decide +kernel) rfl ?_
      obtain ⟨s37, h⟩ := h
      refine q_getI fl_X10_174 rfl (by decide) (by decide +kernel) s37 ?_
      exact q_retI rfl (by decide) (by decide) (by decide +kernel) ⟨_, rfl, h⟩
    · have h := h.2.2.2.2.2.2.2.2.2.2.1 c8
      refine q_blk (pc' := 158) (lo' := [some (.ref a0), some (.int x1), some (.int x2), some (.ref r5)]) (st' := [.ref r5]) [.aload_n 3] (by decide +kernel) rfl ?_
      obtain ⟨s38, h⟩ := h
      refine q_getI fl_X10_175 rfl (by decide) (by decide +kernel) s38 ?_
      exact q_retI rfl (by decide) (by decide) (by decide +kernel) ⟨_, rfl, h⟩
    · have h := h.2.2.2.2.2.2.2.2.2.2.2 c8
      exact q_throw (ik := 178) (is := 180) (ic := 182) (i := 7) (cls := "java/lang/IllegalArgumentException") th_X10_178_182_A.1 th_X10_178_182_A.2.1 th_X10_178_182_A.2.2.1 rfl rfl rfl th_X10_178_182_A.2.2.2.1 th_X10_178_182_A.2.2.2.2.1 th_X10_178_182_A.2.2.2.2.2 rfl ⟨by decide, Nat.le_of_ble_eq_true rfl⟩ (by decide) (by decide +kernel) (by decide +kernel) (by decide +kernel) (by decide +kernel) (by decide +kernel) h
theorem f_X10_mass {G : q_G} {X : String → q_H → Prop} {f : Int32 → q_H → Prop} {A : q_H} {a0 : Nat} {x1 : Int32} {x2 : Int32} (h : ((x1 < nI 0 → (∀ z, q_sz A ≤ z → X "java/lang/IllegalArgumentException" (q_grow A z))) ∧ (¬ x1 < nI 0 → ((x1 ≤ (nI 46) → q_sh A a0 = (11, 0) ∧ ∃ r4 : Nat, q_R A a0 2 = some r4 ∧ q_sh A r4 = (5, 0) ∧ q_Wc G M_X4_hasMaterial [.ref r4, .int x2] A (q_KB fun b7 A6 => ((b7 = true → q_sh A6 a0 = (11, 0) ∧ ∃ r12 : Nat, q_R A6 a0 2 = some r12 ∧ q_sh A6 r12 = (5, 0) ∧ q_Wc G M_X4_heapAt [.ref r12, .int x1] A6 (q_KR fun o17 A14 => (o17 = none → f (nI 0) A14) ∧ (∀ r15 : Nat, o17 = some r15 → q_sh A14 r15 = (3, 0) ∧ q_Wc G M_X2_of [.ref r15, .int x2] A14 (q_KI fun r19 A18 => f r19 A18) q_nX)) q_nX) ∧ (b7 = false → (∀ z, q_sz A6 ≤ z → X "java/lang/IndexOutOfBoundsException" (q_grow A6 z))))) q_nX) ∧ (¬ x1 ≤ (nI 46) → (∀ z, q_sz A ≤ z → X "java/lang/IllegalArgumentException" (q_grow A z))))))) : q_Wc G M_X10_mass [.ref a0, .int x1, .int x2] A (q_KI f) X := by
  refine q_Wc.of [some (.ref a0), some (.int x1), some (.int x2), none] mo_X10_mass.2.2.2.2.2 rfl (Nat.le_of_ble_eq_true rfl) rfl ?_
  refine q_blk (pc' := 1) (lo' := [some (.ref a0), some (.int x1), some (.int x2), none]) (st' := [.int x1]) [.iload_n 1] (by decide +kernel) rfl ?_
  refine q_if_lt 10 (off := 9) (by decide +kernel) (by decide) (fun c1 => ?_) (fun c1 => ?_)
  · have h := h.1 c1
    exact q_throw (ik := 178) (is := 183) (ic := 182) (i := 8) (cls := "java/lang/IllegalArgumentException") th_X10_178_182_A.1 th_X10_178_182_A.2.1 th_X10_178_182_A.2.2.1 rfl rfl rfl th_X10_178_182_A.2.2.2.1 th_X10_178_182_A.2.2.2.2.1 th_X10_178_182_A.2.2.2.2.2 rfl ⟨by decide, Nat.le_of_ble_eq_true rfl⟩ (by decide) (by decide +kernel) (by decide +kernel) (by decide +kernel) (by decide +kernel) (by decide +kernel) h
  · have h := h.2 c1
    refine q_blk (pc' := 7) (lo' := [some (.ref a0), some (.int x1), some (.int x2), none]) (st' := [.int (nI 46), .int x1]) [.iload_n 1, .bipush 46] (by decide +kernel) rfl ?_
    refine q_icmp_le 20 (off := 13) (by decide +kernel) (by decide) (fun c2 => ?_) (fun c2 => ?_)
    · have h := h.1 c2
      refine q_blk (pc' := 21) (lo' := [some (.ref a0), some (.int x1), some (.int x2), none]) (st' := [.ref a0]) [.aload_n 0] (by decide +kernel) rfl ?_
      obtain ⟨s3, h⟩ := h
      obtain ⟨r4, e5, h⟩ := h
      refine q_getR fl_X10_16 rfl (by decide) (by decide +kernel) s3 e5 ?_
      refine q_blk (pc' := 25) (lo' := [some (.ref a0), some (.int x1), some (.int x2), none]) (st' := [.int x2, .ref r4]) [.iload_n 2] (by decide +kernel) rfl ?_
      obtain ⟨s8, h⟩ := h
      refine q_callV (ci := 4) (Mc := M_X4_hasMaterial) (z := 1) (b := r4) (As := [.int x2]) (st := []) mo_X4_hasMaterial mi_X4_hasMaterial ml_X10_185_X4_hasMaterial rfl rfl (by decide) rfl (by decide) (by decide) rfl (Nat.le_of_ble_eq_true rfl) (by decide +kernel) s8 h (q_fB fun b7 A6 h => ?_)
      show q_Wp _ _ _ _ 0 0 28 [some (.ref a0), some (.int x1), some (.int x2), none] [.int (q_i b7)] A6
      refine q_ifB_ne 41 (off := 13) (by decide +kernel) (by decide) (fun c9 => ?_) (fun c9 => ?_)
      · have h := h.1 c9
        refine q_blk (pc' := 42) (lo' := [some (.ref a0), some (.int x1), some (.int x2), none]) (st' := [.ref a0]) [.aload_n 0] (by decide +kernel) rfl ?_
        obtain ⟨s11, h⟩ := h
        obtain ⟨r12, e13, h⟩ := h
        refine q_getR fl_X10_16 rfl (by decide) (by decide +kernel) s11 e13 ?_
        refine q_blk (pc' := 46) (lo' := [some (.ref a0), some (.int x1), some (.int x2), none]) (st' := [.int x1, .ref r12]) [.iload_n 1] (by decide +kernel) rfl ?_
        obtain ⟨s16, h⟩ := h
        refine q_callV (ci := 4) (Mc := M_X4_heapAt) (z := 1) (b := r12) (As := [.int x1]) (st := []) mo_X4_heapAt mi_X4_heapAt ml_X10_191_X4_heapAt rfl rfl (by decide) rfl (by decide) (by decide) rfl (Nat.le_of_ble_eq_true rfl) (by decide +kernel) s16 h (q_fR (fun A14 h => ?_) (fun r15 A14 h => ?_))
        · have h := h.1 rfl
          show q_Wp _ _ _ _ 0 0 49 [some (.ref a0), some (.int x1), some (.int x2), none] [.null] A14
          refine q_blk (pc' := 51) (lo' := [some (.ref a0), some (.int x1), some (.int x2), some (.null)]) (st' := [.null]) [.astore_n 3, .aload_n 3] (by decide +kernel) rfl ?_
          refine q_nnl_n (off := 7) (by decide +kernel) ?_
          refine q_blk (pc' := 55) (lo' := [some (.ref a0), some (.int x1), some (.int x2), some (.null)]) (st' := [.int (nI 0)]) [.iconst 0] (by decide +kernel) rfl ?_
          refine q_goto 63 (off := 8) (by decide +kernel) (by decide) ?_
          exact q_retI rfl (by decide) (by decide) (by decide +kernel) ⟨_, rfl, h⟩
        · have h := h.2 r15 rfl
          show q_Wp _ _ _ _ 0 0 49 [some (.ref a0), some (.int x1), some (.int x2), none] [.ref r15] A14
          refine q_blk (pc' := 51) (lo' := [some (.ref a0), some (.int x1), some (.int x2), some (.ref r15)]) (st' := [.ref r15]) [.astore_n 3, .aload_n 3] (by decide +kernel) rfl ?_
          refine q_nnl_y 58 (off := 7) (by decide +kernel) (by decide) ?_
          refine q_blk (pc' := 60) (lo' := [some (.ref a0), some (.int x1), some (.int x2), some (.ref r15)]) (st' := [.int x2, .ref r15]) [.aload_n 3, .iload_n 2] (by decide +kernel) rfl ?_
          obtain ⟨s20, h⟩ := h
          refine q_callV (ci := 2) (Mc := M_X2_of) (z := 1) (b := r15) (As := [.int x2]) (st := []) mo_X2_of mi_X2_of ml_X10_195_X2_of rfl rfl (by decide) rfl (by decide) (by decide) rfl (Nat.le_of_ble_eq_true rfl) (by decide +kernel) s20 h (q_fI fun r19 A18 h => ?_)
          show q_Wp _ _ _ _ 0 0 63 [some (.ref a0), some (.int x1), some (.int x2), some (.ref r15)] [.int r19] A18
          exact q_retI rfl (by decide) (by decide) (by decide +kernel) ⟨_, rfl, h⟩
      · have h := h.2 c9
        exact q_throw (ik := 112) (is := 189) (ic := 116) (i := 9) (cls := "java/lang/IndexOutOfBoundsException") th_X10_112_116_B.1 th_X10_112_116_B.2.1 th_X10_112_116_B.2.2.1 rfl rfl rfl th_X10_112_116_B.2.2.2.1 th_X10_112_116_B.2.2.2.2.1 th_X10_112_116_B.2.2.2.2.2 rfl ⟨by decide, Nat.le_of_ble_eq_true rfl⟩ (by decide) (by decide +kernel) (by decide +kernel) (by decide +kernel) (by decide +kernel) (by decide +kernel) h
    · have h := h.2 c2
      exact q_throw (ik := 178) (is := 183) (ic := 182) (i := 8) (cls := "java/lang/IllegalArgumentException") th_X10_178_182_A.1 th_X10_178_182_A.2.1 th_X10_178_182_A.2.2.1 rfl rfl rfl th_X10_178_182_A.2.2.2.1 th_X10_178_182_A.2.2.2.2.1 th_X10_178_182_A.2.2.2.2.2 rfl ⟨by decide, Nat.le_of_ble_eq_true rfl⟩ (by decide) (by decide +kernel) (by decide +kernel) (by decide +kernel) (by decide +kernel) (by decide +kernel) h
theorem f_X10_bale {G : q_G} {X : String → q_H → Prop} {f : Int32 → q_H → Prop} {A : q_H} {a0 : Nat} {x1 : Int32} {x2 : Int32} (h : q_sh A a0 = (11, 0) ∧ ∃ r2 : Nat, q_R A a0 2 = some r2 ∧ q_sh A r2 = (5, 0) ∧ ∃ r5 : Nat, q_R A r2 7 = some r5 ∧ q_sh A r5 = (8, 0) ∧ q_Wc G M_X7_baleAt [.ref r5, .int x1] A (q_KR fun o10 A7 => (o10 = none → (∀ z, q_sz A7 ≤ z → X "java/lang/IndexOutOfBoundsException" (q_grow A7 z))) ∧ (∀ r8 : Nat, o10 = some r8 → ((x2 = nI 0 → q_sh A7 r8 = (1, 0) ∧ f (q_I A7 r8 0) A7) ∧ (x2 = nI 1 → q_sh A7 r8 = (1, 0) ∧ f (q_I A7 r8 1) A7) ∧ (x2 = nI 2 → q_sh A7 r8 = (1, 0) ∧ ∃ r15 : Nat, q_R A7 r8 4 = some r15 ∧ q_sh A7 r15 = (3, 0) ∧ f (q_I A7 r15 1) A7) ∧ (x2 = nI 3 → q_sh A7 r8 = (1, 0) ∧ f (q_I A7 r8 2) A7) ∧ (x2 = nI 4 → q_sh A7 r8 = (1, 0) ∧ f (q_I A7 r8 3) A7) ∧ ((∀ j, j < 5 → ¬ x2 = nI j) → ((x2 < nI 0 → (∀ z, q_sz A7 ≤ z → X "java/lang/IllegalArgumentException" (q_grow A7 z))) ∧ (¬ x2 < nI 0 → q_sh A7 a0 = (11, 0) ∧ ∃ r22 : Nat, q_R A7 a0 2 = some r22 ∧ q_sh A7 r22 = (5, 0) ∧ q_Wc G M_X4_hasMaterial [.ref r22, .int (x2 - (nI 5))] A7 (q_KB fun b25 A24 => ((b25 = true → q_sh A24 r8 = (1, 0) ∧ ∃ r30 : Nat, q_R A24 r8 4 = some r30 ∧ q_sh A24 r30 = (3, 0) ∧ q_Wc G M_X2_of [.ref r30, .int (x2 - (nI 5))] A24 (q_KI fun r33 A32 => f r33 A32) q_nX) ∧ (b25 = false → (∀ z, q_sz A24 ≤ z → X "java/lang/IllegalArgumentException" (q_grow A24 z))))) q_nX)))))) q_nX) : q_Wc G M_X10_bale [.ref a0, .int x1, .int x2] A (q_KI f) X := by
  refine q_Wc.of [some (.ref a0), some (.int x1), some (.int x2), none] mo_X10_bale.2.2.2.2.2 rfl (Nat.le_of_ble_eq_true rfl) rfl ?_
  refine q_blk (pc' := 1) (lo' := [some (.ref a0), some (.int x1), some (.int x2), none]) (st' := [.ref a0]) [.aload_n 0] (by decide +kernel) rfl ?_
  obtain ⟨s1, h⟩ := h
  obtain ⟨r2, e3, h⟩ := h
  refine q_getR fl_X10_16 rfl (by decide) (by decide +kernel) s1 e3 ?_
  obtain ⟨s4, h⟩ := h
  obtain ⟨r5, e6, h⟩ := h
  refine q_getR fl_X10_93 rfl (by decide) (by decide +kernel) s4 e6 ?_
  refine q_blk (pc' := 8) (lo' := [some (.ref a0), some (.int x1), some (.int x2), none]) (st' := [.int x1, .ref r5]) [.iload_n 1] (by decide +kernel) rfl ?_
  obtain ⟨s9, h⟩ := h
  refine q_callV (ci := 7) (Mc := M_X7_baleAt) (z := 1) (b := r5) (As := [.int x1]) (st := []) mo_X7_baleAt mi_X7_baleAt ml_X10_198_X7_baleAt rfl rfl (by decide) rfl (by decide) (by decide) rfl (Nat.le_of_ble_eq_true rfl) (by decide +kernel) s9 h (q_fR (fun A7 h => ?_) (fun r8 A7 h => ?_))
  · have h := h.1 rfl
    show q_Wp _ _ _ _ 0 0 11 [some (.ref a0), some (.int x1), some (.int x2), none] [.null] A7
    refine q_blk (pc' := 13) (lo' := [some (.ref a0), some (.int x1), some (.int x2), some (.null)]) (st' := [.null]) [.astore_n 3, .aload_n 3] (by decide +kernel) rfl ?_
    refine q_nnl_n (off := 13) (by decide +kernel) ?_
    exact q_throw (ik := 112) (is := 202) (ic := 116) (i := 10) (cls := "java/lang/IndexOutOfBoundsException") th_X10_112_116_B.1 th_X10_112_116_B.2.1 th_X10_112_116_B.2.2.1 rfl rfl rfl th_X10_112_116_B.2.2.2.1 th_X10_112_116_B.2.2.2.2.1 th_X10_112_116_B.2.2.2.2.2 rfl ⟨by decide, Nat.le_of_ble_eq_true rfl⟩ (by decide) (by decide +kernel) (by decide +kernel) (by decide +kernel) (by decide +kernel) (by decide +kernel) h
  · have h := h.2 r8 rfl
    show q_Wp _ _ _ _ 0 0 11 [some (.ref a0), some (.int x1), some (.int x2), none] [.ref r8] A7
    refine q_blk (pc' := 13) (lo' := [some (.ref a0), some (.int x1), some (.int x2), some (.ref r8)]) (st' := [.ref r8]) [.astore_n 3, .aload_n 3] (by decide +kernel) rfl ?_
    refine q_nnl_y 26 (off := 13) (by decide +kernel) (by decide) ?_
    refine q_blk (pc' := 27) (lo' := [some (.ref a0), some (.int x1), some (.int x2), some (.ref r8)]) (st' := [.int x2]) [.iload_n 2] (by decide +kernel) rfl ?_
    have hd27 := sw_X10_bale_27
    refine q_tsw [60, 65, 70, 78, 83] 88 (hd27) (by rfl) (by decide) (by rfl) (by decide) (And.intro (fun c11 => ?_) (And.intro (fun c11 => ?_) (And.intro (fun c11 => ?_) (And.intro (fun c11 => ?_) (And.intro (fun c11 => ?_) trivial))))) (fun c11 => ?_)
    · have h := h.1 c11
      refine q_blk (pc' := 61) (lo' := [some (.ref a0), some (.int x1), some (.int x2), some (.ref r8)]) (st' := [.ref r8]) [.aload_n 3] (by decide +kernel) rfl ?_
      obtain ⟨s12, h⟩ := h
      refine q_getI fl_X10_204 rfl (by decide) (by decide +kernel) s12 ?_
      exact q_retI rfl (by decide) (by decide) (by decide +kernel) ⟨_, rfl, h⟩
    · have h := h.2.1 c11
      refine q_blk (pc' := 66) (lo' := [some (.ref a0), some (.int x1), some (.int x2), some (.ref r8)]) (st' := [.ref r8]) [.aload_n 3] (by decide +kernel) rfl ?_
      obtain ⟨s13, h⟩ := h
      refine q_getI fl_X10_209 rfl (by decide) (by decide +kernel) s13 ?_
      exact q_retI rfl (by decide) (by decide) (by decide +kernel) ⟨_, rfl, h⟩
    · have h := h.2.2.1 c11
      refine q_blk (pc' := 71) (lo' := [some (.ref a0), some (.int x1), some (.int x2), some (.ref r8)]) (st' := [.ref r8]) [.aload_n 3] (by decide +kernel) rfl ?_
      obtain ⟨s14, h⟩ := h
      obtain ⟨r15, e16, h⟩ := h
      refine q_getR fl_X10_212 rfl (by decide) (by decide +kernel) s14 e16 ?_
      obtain ⟨s17, h⟩ := h
      refine q_getI fl_X10_153 rfl (by decide) (by decide +kernel) s17 ?_
      exact q_retI rfl (by decide) (by decide) (by decide +kernel) ⟨_, rfl, h⟩
    · have h := h.2.2.2.1 c11
      refine q_blk (pc' := 79) (lo' := [some (.ref a0), some (.int x1), some (.int x2), some (.ref r8)]) (st' := [.ref r8]) [.aload_n 3] (by decide +kernel) rfl ?_
      obtain ⟨s18, h⟩ := h
      refine q_getI fl_X10_213 rfl (by decide) (by decide +kernel) s18 ?_
      exact q_retI rfl (by decide) (by decide) (by decide +kernel) ⟨_, rfl, h⟩
    · have h := h.2.2.2.2.1 c11
      refine q_blk (pc' := 84) (lo' := [some (.ref a0), some (.int x1), some (.int x2), some (.ref r8)]) (st' := [.ref r8]) [.aload_n 3] (by decide +kernel) rfl ?_
      obtain ⟨s19, h⟩ := h
      refine q_getI fl_X10_216 rfl (by decide) (by decide +kernel) s19 ?_
      exact q_retI rfl (by decide) (by decide) (by decide +kernel) ⟨_, rfl, h⟩
    · have h := h.2.2.2.2.2 c11
      refine q_blk (pc' := 89) (lo' := [some (.ref a0), some (.int x1), some (.int x2), some (.ref r8)]) (st' := [.int x2]) [.iload_n 2] (by decide +kernel) rfl ?_
      refine q_if_lt 105 (off := 16) (by decide +kernel) (by decide) (fun c20 => ?_) (fun c20 => ?_)
      · have h := h.1 c20
        exact q_throw (ik := 178) (is := 219) (ic := 182) (i := 11) (cls := "java/lang/IllegalArgumentException") th_X10_178_182_A.1 th_X10_178_182_A.2.1 th_X10_178_182_A.2.2.1 rfl rfl rfl th_X10_178_182_A.2.2.2.1 th_X10_178_182_A.2.2.2.2.1 th_X10_178_182_A.2.2.2.2.2 rfl ⟨by decide, Nat.le_of_ble_eq_true rfl⟩ (by decide) (by decide +kernel) (by decide +kernel) (by decide +kernel) (by decide +kernel) (by decide +kernel) h
      · have h := h.2 c20
        refine q_blk (pc' := 93) (lo' := [some (.ref a0), some (.int x1), some (.int x2), some (.ref r8)]) (st' := [.ref a0]) [.aload_n 0] (by decide +kernel) rfl ?_
        obtain ⟨s21, h⟩ := h
        obtain ⟨r22, e23, h⟩ := h
        refine q_getR fl_X10_16 rfl (by decide) (by decide +kernel) s21 e23 ?_
        refine q_blk (pc' := 99) (lo' := [some (.ref a0), some (.int x1), some (.int x2), some (.ref r8)]) (st' := [.int (x2 - (nI 5)), .ref r22]) [.iload_n 2, .iconst 5, .isub] (by decide +kernel) rfl ?_
        obtain ⟨s26, h⟩ := h
        refine q_callV (ci := 4) (Mc := M_X4_hasMaterial) (z := 1) (b := r22) (As := [.int (x2 - (nI 5))]) (st := []) mo_X4_hasMaterial mi_X4_hasMaterial ml_X10_185_X4_hasMaterial rfl rfl (by decide) rfl (by decide) (by decide) rfl (Nat.le_of_ble_eq_true rfl) (by decide +kernel) s26 h (q_fB fun b25 A24 h => ?_)
        show q_Wp _ _ _ _ 0 0 102 [some (.ref a0), some (.int x1), some (.int x2), some (.ref r8)] [.int (q_i b25)] A24
        refine q_ifB_ne 115 (off := 13) (by decide +kernel) (by decide) (fun c27 => ?_) (fun c27 => ?_)
        · have h := h.1 c27
          refine q_blk (pc' := 116) (lo' := [some (.ref a0), some (.int x1), some (.int x2), some (.ref r8)]) (st' := [.ref r8]) [.aload_n 3] (by decide +kernel) rfl ?_
          obtain ⟨s29, h⟩ := h
          obtain ⟨r30, e31, h⟩ := h
          refine q_getR fl_X10_212 rfl (by decide) (by decide +kernel) s29 e31 ?_
          refine q_blk (pc' := 122) (lo' := [some (.ref a0), some (.int x1), some (.int x2), some (.ref r8)]) (st' := [.int (x2 - (nI 5)), .ref r30]) [.iload_n 2, .iconst 5, .isub] (by decide +kernel) rfl ?_
          obtain ⟨s34, h⟩ := h
          refine q_callV (ci := 2) (Mc := M_X2_of) (z := 1) (b := r30) (As := [.int (x2 - (nI 5))]) (st := []) mo_X2_of mi_X2_of ml_X10_195_X2_of rfl rfl (by decide) rfl (by decide) (by decide) rfl (Nat.le_of_ble_eq_true rfl) (by decide +kernel) s34 h (q_fI fun r33 A32 h => ?_)
          show q_Wp _ _ _ _ 0 0 125 [some (.ref a0), some (.int x1), some (.int x2), some (.ref r8)] [.int r33] A32
          exact q_retI rfl (by decide) (by decide) (by decide +kernel) ⟨_, rfl, h⟩
        · have h := h.2 c27
          exact q_throw (ik := 178) (is := 219) (ic := 182) (i := 11) (cls := "java/lang/IllegalArgumentException") th_X10_178_182_A.1 th_X10_178_182_A.2.1 th_X10_178_182_A.2.2.1 rfl rfl rfl th_X10_178_182_A.2.2.2.1 th_X10_178_182_A.2.2.2.2.1 th_X10_178_182_A.2.2.2.2.2 rfl ⟨by decide, Nat.le_of_ble_eq_true rfl⟩ (by decide) (by decide +kernel) (by decide +kernel) (by decide +kernel) (by decide +kernel) (by decide +kernel) h
theorem f_X10_buyer {G : q_G} {X : String → q_H → Prop} {f : Int32 → q_H → Prop} {A : q_H} {a0 : Nat} {x1 : Int32} {x2 : Int32} (h : q_sh A a0 = (11, 0) ∧ ∃ r2 : Nat, q_R A a0 2 = some r2 ∧ q_sh A r2 = (5, 0) ∧ q_Wc G M_X4_buyerAt [.ref r2, .int x1] A (q_KR fun o7 A4 => (o7 = none → (∀ z, q_sz A4 ≤ z → X "java/lang/IndexOutOfBoundsException" (q_grow A4 z))) ∧ (∀ r5 : Nat, o7 = some r5 → ((x2 = nI 0 → q_sh A4 r5 = (2, 0) ∧ f (q_I A4 r5 1) A4) ∧ (x2 = nI 1 → q_sh A4 r5 = (2, 0) ∧ f (q_I A4 r5 2) A4) ∧ (x2 = nI 2 → q_sh A4 r5 = (2, 0) ∧ f (q_I A4 r5 3) A4) ∧ (x2 = nI 3 → q_sh A4 r5 = (2, 0) ∧ f (q_I A4 r5 4) A4) ∧ (x2 = nI 4 → q_sh A4 r5 = (2, 0) ∧ f (q_I A4 r5 5) A4) ∧ (x2 = nI 5 → q_sh A4 r5 = (2, 0) ∧ f (q_I A4 r5 6) A4) ∧ ((∀ j, j < 6 → ¬ x2 = nI j) → (∀ z, q_sz A4 ≤ z → X "java/lang/IllegalArgumentException" (q_grow A4 z)))))) q_nX) : q_Wc G M_X10_buyer [.ref a0, .int x1, .int x2] A (q_KI f) X := by
  refine q_Wc.of [some (.ref a0), some (.int x1), some (.int x2), none] mo_X10_buyer.2.2.2.2.2 rfl (Nat.le_of_ble_eq_true rfl) rfl ?_
  refine q_blk (pc' := 1) (lo' := [some (.ref a0), some (.int x1), some (.int x2), none]) (st' := [.ref a0]) [.aload_n 0] (by decide +kernel) rfl ?_
  obtain ⟨s1, h⟩ := h
  obtain ⟨r2, e3, h⟩ := h
  refine q_getR fl_X10_16 rfl (by decide) (by decide +kernel) s1 e3 ?_
  refine q_blk (pc' := 5) (lo' := [some (.ref a0), some (.int x1), some (.int x2), none]) (st' := [.int x1, .ref r2]) [.iload_n 1] (by decide +kernel) rfl ?_
  obtain ⟨s6, h⟩ := h
  refine q_callV (ci := 4) (Mc := M_X4_buyerAt) (z := 1) (b := r2) (As := [.int x1]) (st := []) mo_X4_buyerAt mi_X4_buyerAt ml_X10_221_X4_buyerAt rfl rfl (by decide) rfl (by decide) (by decide) rfl (Nat.le_of_ble_eq_true rfl) (by decide +kernel) s6 h (q_fR (fun A4 h => ?_) (fun r5 A4 h => ?_))
  · have h := h.1 rfl
    show q_Wp _ _ _ _ 0 0 8 [some (.ref a0), some (.int x1), some (.int x2), none] [.null] A4
    refine q_blk (pc' := 10) (lo' := [some (.ref a0), some (.int x1), some (.int x2), some (.null)]) (st' := [.null]) [.astore_n 3, .aload_n 3] (by decide +kernel) rfl ?_
    refine q_nnl_n (off := 13) (by decide +kernel) ?_
    exact q_throw (ik := 112) (is := 225) (ic := 116) (i := 12) (cls := "java/lang/IndexOutOfBoundsException") th_X10_112_116_B.1 th_X10_112_116_B.2.1 th_X10_112_116_B.2.2.1 rfl rfl rfl th_X10_112_116_B.2.2.2.1 th_X10_112_116_B.2.2.2.2.1 th_X10_112_116_B.2.2.2.2.2 rfl ⟨by decide, Nat.le_of_ble_eq_true rfl⟩ (by decide) (by decide +kernel) (by decide +kernel) (by decide +kernel) (by decide +kernel) (by decide +kernel) h
  · have h := h.2 r5 rfl
    show q_Wp _ _ _ _ 0 0 8 [some (.ref a0), some (.int x1), some (.int x2), none] [.ref r5] A4
    refine q_blk (pc' := 10) (lo' := [some (.ref a0), some (.int x1), some (.int x2), some (.ref r5)]) (st' := [.ref r5]) [.astore_n 3, .aload_n 3] (by decide +kernel) rfl ?_
    refine q_nnl_y 23 (off := 13) (by decide +kernel) (by decide) ?_
    refine q_blk (pc' := 24) (lo' := [some (.ref a0), some (.int x1), some (.int x2), some (.ref r5)]) (st' := [.int x2]) [.iload_n 2] (by decide +kernel) rfl ?_
    have hd24 := sw_X10_buyer_24
    refine q_tsw [64, 69, 74, 79, 84, 89] 94 (hd24) (by rfl) (by decide) (by rfl) (by decide) (And.intro (fun c8 => ?_) (And.intro (fun c8 => ?_) (And.intro (fun c8 => ?_) (And.intro (fun c8 => ?_) (And.intro (fun c8 => ?_) (And.intro (fun c8 => ?_) trivial)))))) (fun c8 => ?_)
    · have h := h.1 c8
      refine q_blk (pc' := 65) (lo' := [some (.ref a0), some (.int x1), some (.int x2), some (.ref r5)]) (st' := [.ref r5]) [.aload_n 3] (by decide +kernel) rfl ?_
      obtain ⟨s9, h⟩ := h
      refine q_getI fl_X10_227 rfl (by decide) (by decide +kernel) s9 ?_
      exact q_retI rfl (by decide) (by decide) (by decide +kernel) ⟨_, rfl, h⟩
    · have h := h.2.1 c8
      refine q_blk (pc' := 70) (lo' := [some (.ref a0), some (.int x1), some (.int x2), some (.ref r5)]) (st' := [.ref r5]) [.aload_n 3] (by decide +kernel) rfl ?_
      obtain ⟨s10, h⟩ := h
      refine q_getI fl_X10_230 rfl (by decide) (by decide +kernel) s10 ?_
      exact q_retI rfl (by decide) (by decide) (by decide +kernel) ⟨_, rfl, h⟩
    · have h := h.2.2.1 c8
      refine q_blk (pc' := 75) (lo' := [some (.ref a0), some (.int x1), some (.int x2), some (.ref r5)]) (st' := [.ref r5]) [.aload_n 3] (by decide +kernel) rfl ?_
      obtain ⟨s11, h⟩ := h
      refine q_getI fl_X10_233 rfl (by decide) (by decide +kernel) s11 ?_
      exact q_retI rfl (by decide) (by decide) (by decide +kernel) ⟨_, rfl, h⟩
    · have h := h.2.2.2.1 c8
      refine q_blk (pc' := 80) (lo' := [some (.ref a0), some (.int x1), some (.int x2), some (.ref r5)]) (st' := [.ref r5]) [.aload_n 3] (by decide +kernel) rfl ?_
      obtain ⟨s12, h⟩ := h
      refine q_getI fl_X10_236 rfl (by decide) (by decide +kernel) s12 ?_
      exact q_retI rfl (by decide) (by decide) (by decide +kernel) ⟨_, rfl, h⟩
    · have h := h.2.2.2.2.1 c8
      refine q_blk (pc' := 85) (lo' := [some (.ref a0), some (.int x1), some (.int x2), some (.ref r5)]) (st' := [.ref r5]) [.aload_n 3] (by decide +kernel) rfl ?_
      obtain ⟨s13, h⟩ := h
      refine q_getI fl_X10_239 rfl (by decide) (by decide +kernel) s13 ?_
      exact q_retI rfl (by decide) (by decide) (by decide +kernel) ⟨_, rfl, h⟩
    · have h := h.2.2.2.2.2.1 c8
      refine q_blk (pc' := 90) (lo' := [some (.ref a0), some (.int x1), some (.int x2), some (.ref r5)]) (st' := [.ref r5]) [.aload_n 3] (by decide +kernel) rfl ?_
      obtain ⟨s14, h⟩ := h
      refine q_getI fl_X10_242 rfl (by decide) (by decide +kernel) s14 ?_
      exact q_retI rfl (by decide) (by decide) (by decide +kernel) ⟨_, rfl, h⟩
    · have h := h.2.2.2.2.2.2 c8
      exact q_throw (ik := 178) (is := 245) (ic := 182) (i := 13) (cls := "java/lang/IllegalArgumentException") th_X10_178_182_A.1 th_X10_178_182_A.2.1 th_X10_178_182_A.2.2.1 rfl rfl rfl th_X10_178_182_A.2.2.2.1 th_X10_178_182_A.2.2.2.2.1 th_X10_178_182_A.2.2.2.2.2 rfl ⟨by decide, Nat.le_of_ble_eq_true rfl⟩ (by decide) (by decide +kernel) (by decide +kernel) (by decide +kernel) (by decide +kernel) (by decide +kernel) h
theorem f_X10_balance {G : q_G} {X : String → q_H → Prop} {f : Int64 → q_H → Prop} {A : q_H} {a0 : Nat} {x1 : Int32} (h : ((x1 = nI 0 → q_sh A a0 = (11, 0) ∧ ∃ r3 : Nat, q_R A a0 2 = some r3 ∧ q_sh A r3 = (5, 0) ∧ ∃ r6 : Nat, q_R A r3 9 = some r6 ∧ q_sh A r6 = (9, 0) ∧ f ((q_I A r6 7).toInt64) A) ∧ (x1 = nI 1 → q_sh A a0 = (11, 0) ∧ ∃ r10 : Nat, q_R A a0 2 = some r10 ∧ q_sh A r10 = (5, 0) ∧ ∃ r13 : Nat, q_R A r10 6 = some r13 ∧ q_sh A r13 = (4, 0) ∧ q_Wc G M_X3_totalMass [.ref r13] A (q_KI fun r16 A15 => f (r16.toInt64) A15) q_nX) ∧ (x1 = nI 2 → q_sh A a0 = (11, 0) ∧ ∃ r19 : Nat, q_R A a0 2 = some r19 ∧ q_sh A r19 = (5, 0) ∧ q_Wc G M_X4_massOnBelt [.ref r19] A (q_KI fun r22 A21 => f (r22.toInt64) A21) q_nX) ∧ (x1 = nI 3 → q_sh A a0 = (11, 0) ∧ ∃ r25 : Nat, q_R A a0 2 = some r25 ∧ q_sh A r25 = (5, 0) ∧ q_Wc G M_X4_massInBunkers [.ref r25] A (q_KI fun r28 A27 => f (r28.toInt64) A27) q_nX) ∧ (x1 = nI 4 → q_sh A a0 = (11, 0) ∧ ∃ r31 : Nat, q_R A a0 2 = some r31 ∧ q_sh A r31 = (5, 0) ∧ ∃ r34 : Nat, q_R A r31 7 = some r34 ∧ q_sh A r34 = (8, 0) ∧ q_Wc G M_X7_totalMass [.ref r34] A (q_KI fun r37 A36 => f (r37.toInt64) A36) q_nX) ∧ (x1 = nI 5 → q_sh A a0 = (11, 0) ∧ ∃ r40 : Nat, q_R A a0 2 = some r40 ∧ q_sh A r40 = (5, 0) ∧ ∃ r43 : Nat, q_R A r40 9 = some r43 ∧ q_sh A r43 = (9, 0) ∧ f ((q_I A r43 8).toInt64) A) ∧ (x1 = nI 6 → q_sh A a0 = (11, 0) ∧ ∃ r47 : Nat, q_R A a0 2 = some r47 ∧ q_sh A r47 = (5, 0) ∧ ∃ r50 : Nat, q_R A r47 8 = some r50 ∧ q_sh A r50 = (3, 0) ∧ f ((q_I A r50 1).toInt64) A) ∧ (x1 = nI 7 → q_sh A a0 = (11, 0) ∧ ∃ r54 : Nat, q_R A a0 2 = some r54 ∧ q_sh A r54 = (5, 0) ∧ ∃ r57 : Nat, q_R A r54 9 = some r57 ∧ q_sh A r57 = (9, 0) ∧ f ((q_I A r57 9).toInt64) A) ∧ ((∀ j, j < 8 → ¬ x1 = nI j) → f (-1) A))) : q_Wc G M_X10_balance [.ref a0, .int x1] A (q_KL f) X := by
  refine q_Wc.of [some (.ref a0), some (.int x1)] mo_X10_balance.2.2.2.2.2 rfl (Nat.le_of_ble_eq_true rfl) rfl ?_
  refine q_blk (pc' := 1) (lo' := [some (.ref a0), some (.int x1)]) (st' := [.int x1]) [.iload_n 1] (by decide +kernel) rfl ?_
  have hd1 := sw_X10_balance_1
  refine q_tsw [48, 60, 72, 81, 90, 102, 114, 126] 138 (hd1) (by rfl) (by decide) (by rfl) (by decide) (And.intro (fun c1 => ?_) (And.intro (fun c1 => ?_) (And.intro (fun c1 => ?_) (And.intro (fun c1 => ?_) (And.intro (fun c1 => ?_) (And.intro (fun c1 => ?_) (And.intro (fun c1 => ?_) (And.intro (fun c1 => ?_) trivial)))))))) (fun c1 => ?_)
  · have h := h.1 c1
    refine q_blk (pc' := 49) (lo' := [some (.ref a0), some (.int x1)]) (st' := [.ref a0]) [.aload_n 0] (by decide +kernel) rfl ?_
    obtain ⟨s2, h⟩ := h
    obtain ⟨r3, e4, h⟩ := h
    refine q_getR fl_X10_16 rfl (by decide) (by decide +kernel) s2 e4 ?_
    obtain ⟨s5, h⟩ := h
    obtain ⟨r6, e7, h⟩ := h
    refine q_getR fl_X10_72 rfl (by decide) (by decide +kernel) s5 e7 ?_
    obtain ⟨s8, h⟩ := h
    refine q_getI fl_X10_247 rfl (by decide) (by decide +kernel) s8 ?_
    refine q_blk (pc' := 59) (lo' := [some (.ref a0), some (.int x1)]) (st' := [.long ((q_I A r6 7).toInt64)]) [.i2l] (by decide +kernel) rfl ?_
    exact q_retL rfl (by decide) (by decide) (by decide +kernel) ⟨_, rfl, h⟩
  · have h := h.2.1 c1
    refine q_blk (pc' := 61) (lo' := [some (.ref a0), some (.int x1)]) (st' := [.ref a0]) [.aload_n 0] (by decide +kernel) rfl ?_
    obtain ⟨s9, h⟩ := h
    obtain ⟨r10, e11, h⟩ := h
    refine q_getR fl_X10_16 rfl (by decide) (by decide +kernel) s9 e11 ?_
    obtain ⟨s12, h⟩ := h
    obtain ⟨r13, e14, h⟩ := h
    refine q_getR fl_X10_81 rfl (by decide) (by decide +kernel) s12 e14 ?_
    obtain ⟨s17, h⟩ := h
    refine q_callV (ci := 3) (Mc := M_X3_totalMass) (z := 0) (b := r13) (As := []) (st := []) mo_X3_totalMass mi_X3_totalMass ml_X10_250_X3_totalMass rfl rfl (by decide) rfl (by decide) (by decide) rfl (Nat.le_of_ble_eq_true rfl) (by decide +kernel) s17 h (q_fI fun r16 A15 h => ?_)
    show q_Wp _ _ _ _ 0 0 70 [some (.ref a0), some (.int x1)] [.int r16] A15
    refine q_blk (pc' := 71) (lo' := [some (.ref a0), some (.int x1)]) (st' := [.long (r16.toInt64)]) [.i2l] (by decide +kernel) rfl ?_
    exact q_retL rfl (by decide) (by decide) (by decide +kernel) ⟨_, rfl, h⟩
  · have h := h.2.2.1 c1
    refine q_blk (pc' := 73) (lo' := [some (.ref a0), some (.int x1)]) (st' := [.ref a0]) [.aload_n 0] (by decide +kernel) rfl ?_
    obtain ⟨s18, h⟩ := h
    obtain ⟨r19, e20, h⟩ := h
    refine q_getR fl_X10_16 rfl (by decide) (by decide +kernel) s18 e20 ?_
    obtain ⟨s23, h⟩ := h
    refine q_callV (ci := 4) (Mc := M_X4_massOnBelt) (z := 0) (b := r19) (As := []) (st := []) mo_X4_massOnBelt mi_X4_massOnBelt ml_X10_253_X4_massOnBelt rfl rfl (by decide) rfl (by decide) (by decide) rfl (Nat.le_of_ble_eq_true rfl) (by decide +kernel) s23 h (q_fI fun r22 A21 h => ?_)
    show q_Wp _ _ _ _ 0 0 79 [some (.ref a0), some (.int x1)] [.int r22] A21
    refine q_blk (pc' := 80) (lo' := [some (.ref a0), some (.int x1)]) (st' := [.long (r22.toInt64)]) [.i2l] (by decide +kernel) rfl ?_
    exact q_retL rfl (by decide) (by decide) (by decide +kernel) ⟨_, rfl, h⟩
  · have h := h.2.2.2.1 c1
    refine q_blk (pc' := 82) (lo' := [some (.ref a0), some (.int x1)]) (st' := [.ref a0]) [.aload_n 0] (by decide +kernel) rfl ?_
    obtain ⟨s24, h⟩ := h
    obtain ⟨r25, e26, h⟩ := h
    refine q_getR fl_X10_16 rfl (by decide) (by decide +kernel) s24 e26 ?_
    obtain ⟨s29, h⟩ := h
    refine q_callV (ci := 4) (Mc := M_X4_massInBunkers) (z := 0) (b := r25) (As := []) (st := []) mo_X4_massInBunkers mi_X4_massInBunkers ml_X10_256_X4_massInBunkers rfl rfl (by decide) rfl (by decide) (by decide) rfl (Nat.le_of_ble_eq_true rfl) (by decide +kernel) s29 h (q_fI fun r28 A27 h => ?_)
    show q_Wp _ _ _ _ 0 0 88 [some (.ref a0), some (.int x1)] [.int r28] A27
    refine q_blk (pc' := 89) (lo' := [some (.ref a0), some (.int x1)]) (st' := [.long (r28.toInt64)]) [.i2l] (by decide +kernel) rfl ?_
    exact q_retL rfl (by decide) (by decide) (by decide +kernel) ⟨_, rfl, h⟩
  · have h := h.2.2.2.2.1 c1
    refine q_blk (pc' := 91) (lo' := [some (.ref a0), some (.int x1)]) (st' := [.ref a0]) [.aload_n 0] (by decide +kernel) rfl ?_
    obtain ⟨s30, h⟩ := h
    obtain ⟨r31, e32, h⟩ := h
    refine q_getR fl_X10_16 rfl (by decide) (by decide +kernel) s30 e32 ?_
    obtain ⟨s33, h⟩ := h
    obtain ⟨r34, e35, h⟩ := h
    refine q_getR fl_X10_93 rfl (by decide) (by decide +kernel) s33 e35 ?_
    obtain ⟨s38, h⟩ := h
    refine q_callV (ci := 7) (Mc := M_X7_totalMass) (z := 0) (b := r34) (As := []) (st := []) mo_X7_totalMass mi_X7_totalMass ml_X10_259_X7_totalMass rfl rfl (by decide) rfl (by decide) (by decide) rfl (Nat.le_of_ble_eq_true rfl) (by decide +kernel) s38 h (q_fI fun r37 A36 h => ?_)
    show q_Wp _ _ _ _ 0 0 100 [some (.ref a0), some (.int x1)] [.int r37] A36
    refine q_blk (pc' := 101) (lo' := [some (.ref a0), some (.int x1)]) (st' := [.long (r37.toInt64)]) [.i2l] (by decide +kernel) rfl ?_
    exact q_retL rfl (by decide) (by decide) (by decide +kernel) ⟨_, rfl, h⟩
  · have h := h.2.2.2.2.2.1 c1
    refine q_blk (pc' := 103) (lo' := [some (.ref a0), some (.int x1)]) (st' := [.ref a0]) [.aload_n 0] (by decide +kernel) rfl ?_
    obtain ⟨s39, h⟩ := h
    obtain ⟨r40, e41, h⟩ := h
    refine q_getR fl_X10_16 rfl (by decide) (by decide +kernel) s39 e41 ?_
    obtain ⟨s42, h⟩ := h
    obtain ⟨r43, e44, h⟩ := h
    refine q_getR fl_X10_72 rfl (by decide) (by decide +kernel) s42 e44 ?_
    obtain ⟨s45, h⟩ := h
    refine q_getI fl_X10_260 rfl (by decide) (by decide +kernel) s45 ?_
    refine q_blk (pc' := 113) (lo' := [some (.ref a0), some (.int x1)]) (st' := [.long ((q_I A r43 8).toInt64)]) [.i2l] (by decide +kernel) rfl ?_
    exact q_retL rfl (by decide) (by decide) (by decide +kernel) ⟨_, rfl, h⟩
  · have h := h.2.2.2.2.2.2.1 c1
    refine q_blk (pc' := 115) (lo' := [some (.ref a0), some (.int x1)]) (st' := [.ref a0]) [.aload_n 0] (by decide +kernel) rfl ?_
    obtain ⟨s46, h⟩ := h
    obtain ⟨r47, e48, h⟩ := h
    refine q_getR fl_X10_16 rfl (by decide) (by decide +kernel) s46 e48 ?_
    obtain ⟨s49, h⟩ := h
    obtain ⟨r50, e51, h⟩ := h
    refine q_getR fl_X10_263 rfl (by decide) (by decide +kernel) s49 e51 ?_
    obtain ⟨s52, h⟩ := h
    refine q_getI fl_X10_153 rfl (by decide) (by decide +kernel) s52 ?_
    refine q_blk (pc' := 125) (lo' := [some (.ref a0), some (.int x1)]) (st' := [.long ((q_I A r50 1).toInt64)]) [.i2l] (by decide +kernel) rfl ?_
    exact q_retL rfl (by decide) (by decide) (by decide +kernel) ⟨_, rfl, h⟩
  · have h := h.2.2.2.2.2.2.2.1 c1
    refine q_blk (pc' := 127) (lo' := [some (.ref a0), some (.int x1)]) (st' := [.ref a0]) [.aload_n 0] (by decide +kernel) rfl ?_
    obtain ⟨s53, h⟩ := h
    obtain ⟨r54, e55, h⟩ := h
    refine q_getR fl_X10_16 rfl (by decide) (by decide +kernel) s53 e55 ?_
    obtain ⟨s56, h⟩ := h
    obtain ⟨r57, e58, h⟩ := h
    refine q_getR fl_X10_72 rfl (by decide) (by decide +kernel) s56 e58 ?_
    obtain ⟨s59, h⟩ := h
    refine q_getI fl_X10_266 rfl (by decide) (by decide +kernel) s59 ?_
    refine q_blk (pc' := 137) (lo' := [some (.ref a0), some (.int x1)]) (st' := [.long ((q_I A r57 9).toInt64)]) [.i2l] (by decide +kernel) rfl ?_
    exact q_retL rfl (by decide) (by decide) (by decide +kernel) ⟨_, rfl, h⟩
  · have h := h.2.2.2.2.2.2.2.2 c1
    refine q_ldc2 (v := (-1)) c2_X10_269 (by decide +kernel) ?_
    --
    exact q_retL rfl (by decide) (by decide) (by decide +kernel) ⟨_, rfl, h⟩
theorem f_X10_purity {G : q_G} {X : String → q_H → Prop} {f : UInt64 → q_H → Prop} {A : q_H} {a0 : Nat} {x1 : Int32} (h : q_sh A a0 = (11, 0) ∧ ∃ r2 : Nat, q_R A a0 2 = some r2 ∧ q_sh A r2 = (5, 0) ∧ q_Wc G M_X4_hasMaterial [.ref r2, .int x1] A (q_KB fun b5 A4 => ((b5 = true → q_sh A4 a0 = (11, 0) ∧ ∃ r10 : Nat, q_R A4 a0 2 = some r10 ∧ q_sh A4 r10 = (5, 0) ∧ ∃ r13 : Nat, q_R A4 r10 10 = some r13 ∧ q_sh A4 r13 = (3, 0) ∧ q_Wc G M_X2_of [.ref r13, .int x1] A4 (q_KI fun r16 A15 => q_sh A15 a0 = (11, 0) ∧ ∃ r19 : Nat, q_R A15 a0 2 = some r19 ∧ q_sh A15 r19 = (5, 0) ∧ ∃ r22 : Nat, q_R A15 r19 11 = some r22 ∧ q_sh A15 r22 = (3, 0) ∧ q_Wc G M_X2_of [.ref r22, .int x1] A15 (q_KI fun r25 A24 => ((r16 ≤ nI 0 → f FP.dconst0 A24) ∧ (¬ r16 ≤ nI 0 → vf_n64 (FP.ddiv (FP.i2d r25) (FP.i2d r16)) ∧ f (FP.ddiv (FP.i2d r25) (FP.i2d r16)) A24))) q_nX) q_nX) ∧ (b5 = false → (∀ z, q_sz A4 ≤ z → X "java/lang/IndexOutOfBoundsException" (q_grow A4 z))))) q_nX) : q_Wc G M_X10_purity [.ref a0, .int x1] A (q_KD f) X := by
  refine q_Wc.of [some (.ref a0), some (.int x1), none, none] mo_X10_purity.2.2.2.2.2 rfl (Nat.le_of_ble_eq_true rfl) rfl ?_
  refine q_blk (pc' := 1) (lo' := [some (.ref a0), some (.int x1), none, none]) (st' := [.ref a0]) [.aload_n 0] (by decide +kernel) rfl ?_
  obtain ⟨s1, h⟩ := h
  obtain ⟨r2, e3, h⟩ := h
  refine q_getR fl_X10_16 rfl (by decide) (by decide +kernel) s1 e3 ?_
  refine q_blk (pc' := 5) (lo' := [some (.ref a0), some (.int x1), none, none]) (st' := [.int x1, .ref r2]) [.iload_n 1] (by decide +kernel) rfl ?_
  obtain ⟨s6, h⟩ := h
  refine q_callV (ci := 4) (Mc := M_X4_hasMaterial) (z := 1) (b := r2) (As := [.int x1]) (st := []) mo_X4_hasMaterial mi_X4_hasMaterial ml_X10_185_X4_hasMaterial rfl rfl (by decide) rfl (by decide) (by decide) rfl (Nat.le_of_ble_eq_true rfl) (by decide +kernel) s6 h (q_fB fun b5 A4 h => ?_)
  show q_Wp _ _ _ _ 0 0 8 [some (.ref a0), some (.int x1), none, none] [.int (q_i b5)] A4
  refine q_ifB_ne 21 (off := 13) (by decide +kernel) (by decide) (fun c7 => ?_) (fun c7 => ?_)
  · have h := h.1 c7
    refine q_blk (pc' := 22) (lo' := [some (.ref a0), some (.int x1), none, none]) (st' := [.ref a0]) [.aload_n 0] (by decide +kernel) rfl ?_
    obtain ⟨s9, h⟩ := h
    obtain ⟨r10, e11, h⟩ := h
    refine q_getR fl_X10_16 rfl (by decide) (by decide +kernel) s9 e11 ?_
    obtain ⟨s12, h⟩ := h
    obtain ⟨r13, e14, h⟩ := h
    refine q_getR fl_X10_271 rfl (by decide) (by decide +kernel) s12 e14 ?_
    refine q_blk (pc' := 29) (lo' := [some (.ref a0), some (.int x1), none, none]) (st' := [.int x1, .ref r13]) [.iload_n 1] (by decide +kernel) rfl ?_
    obtain ⟨s17, h⟩ := h
    refine q_callV (ci := 2) (Mc := M_X2_of) (z := 1) (b := r13) (As := [.int x1]) (st := []) mo_X2_of mi_X2_of ml_X10_195_X2_of rfl rfl (by decide) rfl (by decide) (by decide) rfl (Nat.le_of_ble_eq_true rfl) (by decide +kernel) s17 h (q_fI fun r16 A15 h => ?_)
    show q_Wp _ _ _ _ 0 0 32 [some (.ref a0), some (.int x1), none, none] [.int r16] A15
    refine q_blk (pc' := 34) (lo' := [some (.ref a0), some (.int x1), some (.int r16), none]) (st' := [.ref a0]) [.istore_n 2, .aload_n 0] (by decide +kernel) rfl ?_
    obtain ⟨s18, h⟩ := h
    obtain ⟨r19, e20, h⟩ := h
    refine q_getR fl_X10_16 rfl (by decide) (by decide +kernel) s18 e20 ?_
    obtain ⟨s21, h⟩ := h
    obtain ⟨r22, e23, h⟩ := h
    refine q_getR fl_X10_274 rfl (by decide) (by decide +kernel) s21 e23 ?_
    refine q_blk (pc' := 41) (lo' := [some (.ref a0), some (.int x1), some (.int r16), none]) (st' := [.int x1, .ref r22]) [.iload_n 1] (by decide +kernel) rfl ?_
    obtain ⟨s26, h⟩ := h
    refine q_callV (ci := 2) (Mc := M_X2_of) (z := 1) (b := r22) (As := [.int x1]) (st := []) mo_X2_of mi_X2_of ml_X10_195_X2_of rfl rfl (by decide) rfl (by decide) (by decide) rfl (Nat.le_of_ble_eq_true rfl) (by decide +kernel) s26 h (q_fI fun r25 A24 h => ?_)
    show q_Wp _ _ _ _ 0 0 44 [some (.ref a0), some (.int x1), some (.int r16), none] [.int r25] A24
    refine q_blk (pc' := 46) (lo' := [some (.ref a0), some (.int x1), some (.int r16), some (.int r25)]) (st' := [.int r16]) [.istore_n 3, .iload_n 2] (by decide +kernel) rfl ?_
    refine q_if_le 57 (off := 11) (by decide +kernel) (by decide) (fun c27 => ?_) (fun c27 => ?_)
    · have h := h.1 c27
      refine q_dconst0 (by decide +kernel) ?_
      exact q_retD rfl (by decide) (by decide) (by decide +kernel) ⟨_, rfl, h⟩
    · have h := h.2 c27
      refine q_blk (pc' := 53) (lo' := [some (.ref a0), some (.int x1), some (.int r16), some (.int r25)]) (st' := [.double (FP.i2d r16), .double (FP.i2d r25)]) [.iload_n 3, .i2d, .iload_n 2, .i2d] (by decide +kernel) rfl ?_
      obtain ⟨d28, h⟩ := h
      refine q_ddiv (by decide +kernel) d28 ?_
      refine q_goto 58 (off := 4) (by decide +kernel) (by decide) ?_
      exact q_retD rfl (by decide) (by decide) (by decide +kernel) ⟨_, rfl, h⟩
  · have h := h.2 c7
    exact q_throw (ik := 112) (is := 189) (ic := 116) (i := 9) (cls := "java/lang/IndexOutOfBoundsException") th_X10_112_116_B.1 th_X10_112_116_B.2.1 th_X10_112_116_B.2.2.1 rfl rfl rfl th_X10_112_116_B.2.2.2.1 th_X10_112_116_B.2.2.2.2.1 th_X10_112_116_B.2.2.2.2.2 rfl ⟨by decide, Nat.le_of_ble_eq_true rfl⟩ (by decide) (by decide +kernel) (by decide +kernel) (by decide +kernel) (by decide +kernel) (by decide +kernel) h
theorem f_X10_loss {G : q_G} {X : String → q_H → Prop} {f : UInt32 → q_H → Prop} {A : q_H} {a0 : Nat} (h : q_sh A a0 = (11, 0) ∧ ∃ r2 : Nat, q_R A a0 2 = some r2 ∧ q_sh A r2 = (5, 0) ∧ ∃ r5 : Nat, q_R A r2 8 = some r5 ∧ q_sh A r5 = (3, 0) ∧ ∃ r8 : Nat, q_R A r2 10 = some r8 ∧ q_sh A r8 = (3, 0) ∧ ((((q_I A r5 1) + (q_I A r8 1)) ≤ nI 0 → f FP.fconst0 A) ∧ (¬ ((q_I A r5 1) + (q_I A r8 1)) ≤ nI 0 → vf_n32 (FP.fdiv (FP.i2f (q_I A r5 1)) (FP.i2f ((q_I A r5 1) + (q_I A r8 1)))) ∧ f (FP.fdiv (FP.i2f (q_I A r5 1)) (FP.i2f ((q_I A r5 1) + (q_I A r8 1)))) A))) : q_Wc G M_X10_loss [.ref a0] A (q_KF f) X := by
  refine q_Wc.of [some (.ref a0), none, none] mo_X10_loss.2.2.2.2.2 rfl (Nat.le_of_ble_eq_true rfl) rfl ?_
  refine q_blk (pc' := 1) (lo' := [some (.ref a0), none, none]) (st' := [.ref a0]) [.aload_n 0] (by decide +kernel) rfl ?_
  obtain ⟨s1, h⟩ := h
  obtain ⟨r2, e3, h⟩ := h
  refine q_getR fl_X10_16 rfl (by decide) (by decide +kernel) s1 e3 ?_
  obtain ⟨s4, h⟩ := h
  obtain ⟨r5, e6, h⟩ := h
  refine q_getR fl_X10_263 rfl (by decide) (by decide +kernel) s4 e6 ?_
  obtain ⟨s7, h⟩ := h
  refine q_getI fl_X10_153 rfl (by decide) (by decide +kernel) s7 ?_
  refine q_blk (pc' := 13) (lo' := [some (.ref a0), some (.int (q_I A r5 1)), none]) (st' := [.ref a0, .int (q_I A r5 1)]) [.istore_n 1, .iload_n 1, .aload_n 0] (by decide +kernel) rfl ?_
  refine q_getR fl_X10_16 rfl (by decide) (by decide +kernel) s1 e3 ?_
  obtain ⟨r8, e9, h⟩ := h
  refine q_getR fl_X10_271 rfl (by decide) (by decide +kernel) s4 e9 ?_
  obtain ⟨s10, h⟩ := h
  refine q_getI fl_X10_153 rfl (by decide) (by decide +kernel) s10 ?_
  refine q_blk (pc' := 25) (lo' := [some (.ref a0), some (.int (q_I A r5 1)), some (.int ((q_I A r5 1) + (q_I A r8 1)))]) (st' := [.int ((q_I A r5 1) + (q_I A r8 1))]) [.iadd, .istore_n 2, .iload_n 2] (by decide +kernel) rfl ?_
  refine q_if_le 36 (off := 11) (by decide +kernel) (by decide) (fun c11 => ?_) (fun c11 => ?_)
  · have h := h.1 c11
    refine q_fconst0 (by decide +kernel) ?_
    exact q_retF rfl (by decide) (by decide) (by decide +kernel) ⟨_, rfl, h⟩
  · have h := h.2 c11
    refine q_blk (pc' := 32) (lo' := [some (.ref a0), some (.int (q_I A r5 1)), some (.int ((q_I A r5 1) + (q_I A r8 1)))]) (st' := [.float (FP.i2f ((q_I A r5 1) + (q_I A r8 1))), .float (FP.i2f (q_I A r5 1))]) [.iload_n 1, .i2f, .iload_n 2, .i2f] (by decide +kernel) rfl ?_
    obtain ⟨d12, h⟩ := h
    refine q_fdiv (by decide +kernel) d12 ?_
    refine q_goto 37 (off := 4) (by decide +kernel) (by decide) ?_
    exact q_retF rfl (by decide) (by decide) (by decide +kernel) ⟨_, rfl, h⟩
theorem f_X10_load {G : q_G} {X : String → q_H → Prop} {f : Int32 → q_H → Prop} {A : q_H} {a0 : Nat} {x1 : Int32} {x2 : Int32} (h : q_sh A a0 = (11, 0) ∧ ∃ r2 : Nat, q_R A a0 2 = some r2 ∧ q_sh A r2 = (5, 0) ∧ q_Wc G M_X4_hasMaterial [.ref r2, .int x1] A (q_KB fun b5 A4 => ((b5 = true → ((x2 < (nI 1) → (∀ z, q_sz A4 ≤ z → X "java/lang/IllegalArgumentException" (q_grow A4 z))) ∧ (¬ x2 < (nI 1) → ((x2 ≤ (nI 999) → q_sh A4 a0 = (11, 0) ∧ ∃ r12 : Nat, q_R A4 a0 2 = some r12 ∧ q_sh A4 r12 = (5, 0) ∧ ∃ r15 : Nat, q_R A4 r12 6 = some r15 ∧ q_sh A4 r15 = (4, 0) ∧ q_Wc G M_X3_isFull [.ref r15] A4 (q_KB fun b18 A17 => ((b18 = true → (∀ z, q_sz A17 ≤ z → X "java/lang/IllegalStateException" (q_grow A17 z))) ∧ (b18 = false → q_sh A17 a0 = (11, 0) ∧ q_Wc G M_X10_remember [.ref a0] A17 (q_KV fun A22 => q_sh A22 a0 = (11, 0) ∧ ∃ r26 : Nat, q_R A22 a0 2 = some r26 ∧ q_sh A22 r26 = (5, 0) ∧ ∃ r29 : Nat, q_R A22 r26 6 = some r29 ∧ q_sh A22 r29 = (4, 0) ∧ q_Wc G M_X3_addLast [.ref r29, .int (nI 0)] A22 (q_KR fun o34 A31 => (o34 = none → q_sh A31 a0 = (11, 0) ∧ ∃ r36 : Nat, q_R A31 a0 2 = some r36 ∧ q_sh A31 r36 = (5, 0) ∧ ∃ r39 : Nat, q_R A31 r36 6 = some r39 ∧ q_sh A31 r39 = (4, 0) ∧ f (q_I A31 r39 2) A31) ∧ (∀ r32 : Nat, o34 = some r32 → q_sh A31 r32 = (6, 0) ∧ ∃ r43 : Nat, q_R A31 r32 0 = some r43 ∧ q_sh A31 r43 = (3, 0) ∧ q_Wc G M_X2_put [.ref r43, .int x1, .int x2] A31 (q_KV fun A45 => q_sh A45 a0 = (11, 0) ∧ ∃ r49 : Nat, q_R A45 a0 2 = some r49 ∧ q_sh A45 r49 = (5, 0) ∧ ∃ r52 : Nat, q_R A45 r49 9 = some r52 ∧ q_sh A45 r52 = (9, 0) ∧ ∃ r55 : Nat, q_R A45 r49 6 = some r55 ∧ q_sh A45 r55 = (4, 0) ∧ f (q_I (q_setI A45 r52 7 ((q_I A45 r52 7) + x2)) r55 2) (q_setI A45 r52 7 ((q_I A45 r52 7) + x2))) q_nX)) q_nX) q_nX))) q_nX) ∧ (¬ x2 ≤ (nI 999) → (∀ z, q_sz A4 ≤ z → X "java/lang/IllegalArgumentException" (q_grow A4 z))))))) ∧ (b5 = false → (∀ z, q_sz A4 ≤ z → X "java/lang/IndexOutOfBoundsException" (q_grow A4 z))))) q_nX) : q_Wc G M_X10_load [.ref a0, .int x1, .int x2] A (q_KI f) X := by
  refine q_Wc.of [some (.ref a0), some (.int x1), some (.int x2), none] mo_X10_load.2.2.2.2.2 rfl (Nat.le_of_ble_eq_true rfl) rfl ?_
  refine q_blk (pc' := 1) (lo' := [some (.ref a0), some (.int x1), some (.int x2), none]) (st' := [.ref a0]) [.aload_n 0] (by decide +kernel) rfl ?_
  obtain ⟨s1, h⟩ := h
  obtain ⟨r2, e3, h⟩ := h
  refine q_getR fl_X10_16 rfl (by decide) (by decide +kernel) s1 e3 ?_
  refine q_blk (pc' := 5) (lo' := [some (.ref a0), some (.int x1), some (.int x2), none]) (st' := [.int x1, .ref r2]) [.iload_n 1] (by decide +kernel) rfl ?_
  obtain ⟨s6, h⟩ := h
  refine q_callV (ci := 4) (Mc := M_X4_hasMaterial) (z := 1) (b := r2) (As := [.int x1]) (st := []) mo_X4_hasMaterial mi_X4_hasMaterial ml_X10_185_X4_hasMaterial rfl rfl (by decide) rfl (by decide) (by decide) rfl (Nat.le_of_ble_eq_true rfl) (by decide +kernel) s6 h (q_fB fun b5 A4 h => ?_)
  show q_Wp _ _ _ _ 0 0 8 [some (.ref a0), some (.int x1), some (.int x2), none] [.int (q_i b5)] A4
  refine q_ifB_ne 21 (off := 13) (by decide +kernel) (by decide) (fun c7 => ?_) (fun c7 => ?_)
  · have h := h.1 c7
    refine q_blk (pc' := 23) (lo' := [some (.ref a0), some (.int x1), some (.int x2), none]) (st' := [.int (nI 1), .int x2]) [.iload_n 2, .iconst 1] (by decide +kernel) rfl ?_
    refine q_icmp_lt 33 (off := 10) (by decide +kernel) (by decide) (fun c9 => ?_) (fun c9 => ?_)
    · have h := h.1 c9
      exact q_throwW (ik := 178) (is := 277) (ic := 182) (i := 14) (cls := "java/lang/IllegalArgumentException") th_X10_178_182_A.1 th_X10_178_182_A.2.1 th_X10_178_182_A.2.2.1 rfl rfl rfl th_X10_178_182_A.2.2.2.1 th_X10_178_182_A.2.2.2.2.1 th_X10_178_182_A.2.2.2.2.2 rfl ⟨by decide, Nat.le_of_ble_eq_true rfl⟩ (by decide) (by decide +kernel) (by decide +kernel) (by decide +kernel) (by decide +kernel) (by decide +kernel) h
    · have h := h.2 c9
      refine q_blk (pc' := 30) (lo' := [some (.ref a0), some (.int x1), some (.int x2), none]) (st' := [.int (nI 999), .int x2]) [.iload_n 2, .sipush 999] (by decide +kernel) rfl ?_
      refine q_icmp_le 44 (off := 14) (by decide +kernel) (by decide) (fun c10 => ?_) (fun c10 => ?_)
      · have h := h.1 c10
        refine q_blk (pc' := 45) (lo' := [some (.ref a0), some (.int x1), some (.int x2), none]) (st' := [.ref a0]) [.aload_n 0] (by decide +kernel) rfl ?_
        obtain ⟨s11, h⟩ := h
        obtain ⟨r12, e13, h⟩ := h
        refine q_getR fl_X10_16 rfl (by decide) (by decide +kernel) s11 e13 ?_
        obtain ⟨s14, h⟩ := h
        obtain ⟨r15, e16, h⟩ := h
        refine q_getR fl_X10_81 rfl (by decide) (by decide +kernel) s14 e16 ?_
        obtain ⟨s19, h⟩ := h
        refine q_callV (ci := 3) (Mc := M_X3_isFull) (z := 0) (b := r15) (As := []) (st := []) mo_X3_isFull mi_X3_isFull ml_X10_279_X3_isFull rfl rfl (by decide) rfl (by decide) (by decide) rfl (Nat.le_of_ble_eq_true rfl) (by decide +kernel) s19 h (q_fB fun b18 A17 h => ?_)
        show q_Wp _ _ _ _ 0 0 54 [some (.ref a0), some (.int x1), some (.int x2), none] [.int (q_i b18)] A17
        refine q_ifB_eq 68 (off := 14) (by decide +kernel) (by decide) (fun c20 => ?_) (fun c20 => ?_)
        · have h := h.2 c20
          refine q_blk (pc' := 69) (lo' := [some (.ref a0), some (.int x1), some (.int x2), none]) (st' := [.ref a0]) [.aload_n 0] (by decide +kernel) rfl ?_
          obtain ⟨s24, h⟩ := h
          refine q_callV (ci := 10) (Mc := M_X10_remember) (z := 0) (b := a0) (As := []) (st := []) mo_X10_remember mi_X10_remember ml_X10_287_X10_remember rfl rfl (by decide) rfl (by decide) (by decide) rfl (Nat.le_of_ble_eq_true rfl) (by decide +kernel) s24 h (q_fV fun A22 h => ?_)
          show q_Wp _ _ _ _ 277 1205 72 [some (.ref a0), some (.int x1), some (.int x2), none] [] A22
          refine q_blk (pc' := 73) (lo' := [some (.ref a0), some (.int x1), some (.int x2), none]) (st' := [.ref a0]) [.aload_n 0] (by decide +kernel) rfl ?_
          obtain ⟨s25, h⟩ := h
          obtain ⟨r26, e27, h⟩ := h
          refine q_getR fl_X10_16 rfl (by decide) (by decide +kernel) s25 e27 ?_
          obtain ⟨s28, h⟩ := h
          obtain ⟨r29, e30, h⟩ := h
          refine q_getR fl_X10_81 rfl (by decide) (by decide +kernel) s28 e30 ?_
          refine q_blk (pc' := 80) (lo' := [some (.ref a0), some (.int x1), some (.int x2), none]) (st' := [.int (nI 0), .ref r29]) [.iconst 0] (by decide +kernel) rfl ?_
          obtain ⟨s33, h⟩ := h
          refine q_callV (ci := 3) (Mc := M_X3_addLast) (z := 1) (b := r29) (As := [.int (nI 0)]) (st := []) mo_X3_addLast mi_X3_addLast ml_X10_290_X3_addLast rfl rfl (by decide) rfl (by decide) (by decide) rfl (Nat.le_of_ble_eq_true rfl) (by decide +kernel) s33 h (q_fR (fun A31 h => ?_) (fun r32 A31 h => ?_))
          · have h := h.1 rfl
            show q_Wp _ _ _ _ 277 1205 83 [some (.ref a0), some (.int x1), some (.int x2), none] [.null] A31
            refine q_blk (pc' := 85) (lo' := [some (.ref a0), some (.int x1), some (.int x2), some (.null)]) (st' := [.null]) [.astore_n 3, .aload_n 3] (by decide +kernel) rfl ?_
            refine q_nul_y 113 (off := 28) (by decide +kernel) (by decide) ?_
            refine q_blk (pc' := 114) (lo' := [some (.ref a0), some (.int x1), some (.int x2), some (.null)]) (st' := [.ref a0]) [.aload_n 0] (by decide +kernel) rfl ?_
            obtain ⟨s35, h⟩ := h
            obtain ⟨r36, e37, h⟩ := h
            refine q_getR fl_X10_16 rfl (by decide) (by decide +kernel) s35 e37 ?_
            obtain ⟨s38, h⟩ := h
            obtain ⟨r39, e40, h⟩ := h
            refine q_getR fl_X10_81 rfl (by decide) (by decide +kernel) s38 e40 ?_
            obtain ⟨s41, h⟩ := h
            refine q_getI fl_X10_85 rfl (by decide) (by decide +kernel) s41 ?_
            exact q_retI rfl (by decide) (by decide) (by decide +kernel) ⟨_, rfl, h⟩
          · have h := h.2 r32 rfl
            show q_Wp _ _ _ _ 277 1205 83 [some (.ref a0), some (.int x1), some (.int x2), none] [.ref r32] A31
            refine q_blk (pc' := 85) (lo' := [some (.ref a0), some (.int x1), some (.int x2), some (.ref r32)]) (st' := [.ref r32]) [.astore_n 3, .aload_n 3] (by decide +kernel) rfl ?_
            refine q_nul_n (off := 28) (by decide +kernel) ?_
            refine q_blk (pc' := 89) (lo' := [some (.ref a0), some (.int x1), some (.int x2), some (.ref r32)]) (st' := [.ref r32]) [.aload_n 3] (by decide +kernel) rfl ?_
            obtain ⟨s42, h⟩ := h
            obtain ⟨r43, e44, h⟩ := h
            refine q_getR fl_X10_162 rfl (by decide) (by decide +kernel) s42 e44 ?_
            refine q_blk (pc' := 94) (lo' := [some (.ref a0), some (.int x1), some (.int x2), some (.ref r32)]) (st' := [.int x2, .int x1, .ref r43]) [.iload_n 1, .iload_n 2] (by decide +kernel) rfl ?_
            obtain ⟨s47, h⟩ := h
            refine q_callV (ci := 2) (Mc := M_X2_put) (z := 2) (b := r43) (As := [.int x1, .int x2]) (st := []) mo_X2_put mi_X2_put ml_X10_294_X2_put rfl rfl (by decide) rfl (by decide) (by decide) rfl (Nat.le_of_ble_eq_true rfl) (by decide +kernel) s47 h (q_fV fun A45 h => ?_)
            show q_Wp _ _ _ _ 277 1205 97 [some (.ref a0), some (.int x1), some (.int x2), some (.ref r32)] [] A45
            refine q_blk (pc' := 98) (lo' := [some (.ref a0), some (.int x1), some (.int x2), some (.ref r32)]) (st' := [.ref a0]) [.aload_n 0] (by decide +kernel) rfl ?_
            obtain ⟨s48, h⟩ := h
            obtain ⟨r49, e50, h⟩ := h
            refine q_getR fl_X10_16 rfl (by decide) (by decide +kernel) s48 e50 ?_
            obtain ⟨s51, h⟩ := h
            obtain ⟨r52, e53, h⟩ := h
            refine q_getR fl_X10_72 rfl (by decide) (by decide +kernel) s51 e53 ?_
            refine q_blk (pc' := 105) (lo' := [some (.ref a0), some (.int x1), some (.int x2), some (.ref r32)]) (st' := [.ref r52, .ref r52]) [.dup] (by decide +kernel) rfl ?_
            obtain ⟨s54, h⟩ := h
            refine q_getI fl_X10_247 rfl (by decide) (by decide +kernel) s54 ?_
            refine q_blk (pc' := 110) (lo' := [some (.ref a0), some (.int x1), some (.int x2), some (.ref r32)]) (st' := [.int ((q_I A45 r52 7) + x2), .ref r52]) [.iload_n 2, .iadd] (by decide +kernel) rfl ?_
            refine q_putI fw_X10_247 rfl (by decide) (by decide +kernel) s54 ?_
            refine q_blk (pc' := 114) (lo' := [some (.ref a0), some (.int x1), some (.int x2), some (.ref r32)]) (st' := [.ref a0]) [.aload_n 0] (by decide +kernel) rfl ?_
            refine q_getR fl_X10_16 rfl (by decide) (by decide +kernel) s48 e50 ?_
            obtain ⟨r55, e56, h⟩ := h
            refine q_getR fl_X10_81 rfl (by decide) (by decide +kernel) s51 e56 ?_
            obtain ⟨s57, h⟩ := h
            refine q_getI fl_X10_85 rfl (by decide) (by decide +kernel) s57 ?_
            exact q_retI rfl (by decide) (by decide) (by decide +kernel) ⟨_, rfl, h⟩
        · have h := h.1 c20
          exact q_throwW (ik := 282) (is := 284) (ic := 286) (i := 15) (cls := "java/lang/IllegalStateException") th_X10_282_286_S.1 th_X10_282_286_S.2.1 th_X10_282_286_S.2.2.1 rfl rfl rfl th_X10_282_286_S.2.2.2.1 th_X10_282_286_S.2.2.2.2.1 th_X10_282_286_S.2.2.2.2.2 rfl ⟨by decide, Nat.le_of_ble_eq_true rfl⟩ (by decide) (by decide +kernel) (by decide +kernel) (by decide +kernel) (by decide +kernel) (by decide +kernel) h
      · have h := h.2 c10
        exact q_throwW (ik := 178) (is := 277) (ic := 182) (i := 14) (cls := "java/lang/IllegalArgumentException") th_X10_178_182_A.1 th_X10_178_182_A.2.1 th_X10_178_182_A.2.2.1 rfl rfl rfl th_X10_178_182_A.2.2.2.1 th_X10_178_182_A.2.2.2.2.1 th_X10_178_182_A.2.2.2.2.2 rfl ⟨by decide, Nat.le_of_ble_eq_true rfl⟩ (by decide) (by decide +kernel) (by decide +kernel) (by decide +kernel) (by decide +kernel) (by decide +kernel) h
  · have h := h.2 c7
    exact q_throw (ik := 112) (is := 189) (ic := 116) (i := 9) (cls := "java/lang/IndexOutOfBoundsException") th_X10_112_116_B.1 th_X10_112_116_B.2.1 th_X10_112_116_B.2.2.1 rfl rfl rfl th_X10_112_116_B.2.2.2.1 th_X10_112_116_B.2.2.2.2.1 th_X10_112_116_B.2.2.2.2.2 rfl ⟨by decide, Nat.le_of_ble_eq_true rfl⟩ (by decide) (by decide +kernel) (by decide +kernel) (by decide +kernel) (by decide +kernel) (by decide +kernel) h
theorem f_X10_set {G : q_G} {X : String → q_H → Prop} {f : Int32 → q_H → Prop} {A : q_H} {a0 : Nat} {x1 : Int32} {x2 : Int32} (h : ((x1 < nI 0 → (∀ z, q_sz A ≤ z → X "java/lang/IndexOutOfBoundsException" (q_grow A z))) ∧ (¬ x1 < nI 0 → ((x1 < (nI 8) → ∃ j3 : Nat, x1 = nI j3 ∧ j3 < 8 ∧ ((x2 < ((q_sval 0).getD j3 0) → (∀ z, q_sz A ≤ z → X "java/lang/IllegalArgumentException" (q_grow A z))) ∧ (¬ x2 < ((q_sval 0).getD j3 0) → ((x2 ≤ ((q_sval 1).getD j3 0) → q_sh A a0 = (11, 0) ∧ q_Wc G M_X10_remember [.ref a0] A (q_KV fun A8 => q_sh A8 a0 = (11, 0) ∧ ∃ r12 : Nat, q_R A8 a0 2 = some r12 ∧ q_sh A8 r12 = (5, 0) ∧ ∃ r15 : Nat, q_R A8 r12 1 = some r15 ∧ ∃ z18 : Nat, q_sh A8 r15 = (50, z18) ∧ z18 < 2147483648 ∧ j3 < z18 ∧ f (q_I A8 r15 j3) (q_setI A8 r15 j3 x2)) q_nX) ∧ (¬ x2 ≤ ((q_sval 1).getD j3 0) → (∀ z, q_sz A ≤ z → X "java/lang/IllegalArgumentException" (q_grow A z))))))) ∧ (¬ x1 < (nI 8) → (∀ z, q_sz A ≤ z → X "java/lang/IndexOutOfBoundsException" (q_grow A z))))))) : q_Wc G M_X10_set [.ref a0, .int x1, .int x2] A (q_KI f) X := by
  refine q_Wc.of [some (.ref a0), some (.int x1), some (.int x2), none] mo_X10_set.2.2.2.2.2 rfl (Nat.le_of_ble_eq_true rfl) rfl ?_
  refine q_blk (pc' := 1) (lo' := [some (.ref a0), some (.int x1), some (.int x2), none]) (st' := [.int x1]) [.iload_n 1] (by decide +kernel) rfl ?_
  refine q_if_lt 10 (off := 9) (by decide +kernel) (by decide) (fun c1 => ?_) (fun c1 => ?_)
  · have h := h.1 c1
    exact q_throw (ik := 112) (is := 114) (ic := 116) (i := 5) (cls := "java/lang/IndexOutOfBoundsException") th_X10_112_116_B.1 th_X10_112_116_B.2.1 th_X10_112_116_B.2.2.1 rfl rfl rfl th_X10_112_116_B.2.2.2.1 th_X10_112_116_B.2.2.2.2.1 th_X10_112_116_B.2.2.2.2.2 rfl ⟨by decide, Nat.le_of_ble_eq_true rfl⟩ (by decide) (by decide +kernel) (by decide +kernel) (by decide +kernel) (by decide +kernel) (by decide +kernel) h
  · have h := h.2 c1
    refine q_blk (pc' := 7) (lo' := [some (.ref a0), some (.int x1), some (.int x2), none]) (st' := [.int (nI 8), .int x1]) [.iload_n 1, .bipush 8] (by decide +kernel) rfl ?_
    refine q_icmp_lt 20 (off := 13) (by decide +kernel) (by decide) (fun c2 => ?_) (fun c2 => ?_)
    · have h := h.1 c2
      refine q_blk (pc' := 21) (lo' := [some (.ref a0), some (.int x1), some (.int x2), none]) (st' := [.int x2]) [.iload_n 2] (by decide +kernel) rfl ?_
      refine q_gets (i := 0) (by decide) gs_X10_298_0 (by decide +kernel) ?_
      refine q_blk (pc' := 25) (lo' := [some (.ref a0), some (.int x1), some (.int x2), none]) (st' := [.int x1, .ref (q_st G 0), .int x2]) [.iload_n 1] (by decide +kernel) rfl ?_
      obtain ⟨j3, e4, h⟩ := h
      obtain ⟨l5, h⟩ := h
      refine q_ialdS (by decide) e4 l5 (by decide +kernel) ?_
      refine q_icmp_lt 38 (off := 12) (by decide +kernel) (by decide) (fun c6 => ?_) (fun c6 => ?_)
      · have h := h.1 c6
        exact q_throwW (ik := 178) (is := 304) (ic := 182) (i := 16) (cls := "java/lang/IllegalArgumentException") th_X10_178_182_A.1 th_X10_178_182_A.2.1 th_X10_178_182_A.2.2.1 rfl rfl rfl th_X10_178_182_A.2.2.2.1 th_X10_178_182_A.2.2.2.2.1 th_X10_178_182_A.2.2.2.2.2 rfl ⟨by decide, Nat.le_of_ble_eq_true rfl⟩ (by decide) (by decide +kernel) (by decide +kernel) (by decide +kernel) (by decide +kernel) (by decide +kernel) h
      · have h := h.2 c6
        refine q_blk (pc' := 30) (lo' := [some (.ref a0), some (.int x1), some (.int x2), none]) (st' := [.int x2]) [.iload_n 2] (by decide +kernel) rfl ?_
        refine q_gets (i := 1) (by decide) gs_X10_301_1 (by decide +kernel) ?_
        refine q_blk (pc' := 34) (lo' := [some (.ref a0), some (.int x1), some (.int x2), none]) (st' := [.int x1, .ref (q_st G 1), .int x2]) [.iload_n 1] (by decide +kernel) rfl ?_
        refine q_ialdS (by decide) e4 l5 (by decide +kernel) ?_
        refine q_icmp_le 49 (off := 14) (by decide +kernel) (by decide) (fun c7 => ?_) (fun c7 => ?_)
        · have h := h.1 c7
          refine q_blk (pc' := 50) (lo' := [some (.ref a0), some (.int x1), some (.int x2), none]) (st' := [.ref a0]) [.aload_n 0] (by decide +kernel) rfl ?_
          obtain ⟨s10, h⟩ := h
          refine q_callV (ci := 10) (Mc := M_X10_remember) (z := 0) (b := a0) (As := []) (st := []) mo_X10_remember mi_X10_remember ml_X10_287_X10_remember rfl rfl (by decide) rfl (by decide) (by decide) rfl (Nat.le_of_ble_eq_true rfl) (by decide +kernel) s10 h (q_fV fun A8 h => ?_)
          show q_Wp _ _ _ _ 277 1205 53 [some (.ref a0), some (.int x1), some (.int x2), none] [] A8
          refine q_blk (pc' := 54) (lo' := [some (.ref a0), some (.int x1), some (.int x2), none]) (st' := [.ref a0]) [.aload_n 0] (by decide +kernel) rfl ?_
          obtain ⟨s11, h⟩ := h
          obtain ⟨r12, e13, h⟩ := h
          refine q_getR fl_X10_16 rfl (by decide) (by decide +kernel) s11 e13 ?_
          obtain ⟨s14, h⟩ := h
          obtain ⟨r15, e16, h⟩ := h
          refine q_getR fl_X10_119 rfl (by decide) (by decide +kernel) s14 e16 ?_
          refine q_blk (pc' := 61) (lo' := [some (.ref a0), some (.int x1), some (.int x2), none]) (st' := [.int x1, .ref r15]) [.iload_n 1] (by decide +kernel) rfl ?_
          obtain ⟨z18, s17, b19, h⟩ := h
          obtain ⟨l20, h⟩ := h
          refine q_iald e4 (by decide +kernel) s17 l20 b19 ?_
          refine q_blk (pc' := 64) (lo' := [some (.ref a0), some (.int x1), some (.int x2), some (.int (q_I A8 r15 j3))]) (st' := [.ref a0]) [.istore_n 3, .aload_n 0] (by decide +kernel) rfl ?_
          refine q_getR fl_X10_16 rfl (by decide) (by decide +kernel) s11 e13 ?_
          refine q_getR fl_X10_119 rfl (by decide) (by decide +kernel) s14 e16 ?_
          refine q_blk (pc' := 72) (lo' := [some (.ref a0), some (.int x1), some (.int x2), some (.int (q_I A8 r15 j3))]) (st' := [.int x2, .int x1, .ref r15]) [.iload_n 1, .iload_n 2] (by decide +kernel) rfl ?_
          refine q_iast e4 (by decide +kernel) s17 l20 b19 ?_
          refine q_blk (pc' := 74) (lo' := [some (.ref a0), some (.int x1), some (.int x2), some (.int (q_I A8 r15 j3))]) (st' := [.int (q_I A8 r15 j3)]) [.iload_n 3] (by decide +kernel) rfl ?_
          exact q_retI rfl (by decide) (by decide) (by decide +kernel) ⟨_, rfl, h⟩
        · have h := h.2 c7
          exact q_throwW (ik := 178) (is := 304) (ic := 182) (i := 16) (cls := "java/lang/IllegalArgumentException") th_X10_178_182_A.1 th_X10_178_182_A.2.1 th_X10_178_182_A.2.2.1 rfl rfl rfl th_X10_178_182_A.2.2.2.1 th_X10_178_182_A.2.2.2.2.1 th_X10_178_182_A.2.2.2.2.2 rfl ⟨by decide, Nat.le_of_ble_eq_true rfl⟩ (by decide) (by decide +kernel) (by decide +kernel) (by decide +kernel) (by decide +kernel) (by decide +kernel) h
    · have h := h.2 c2
      exact q_throw (ik := 112) (is := 114) (ic := 116) (i := 5) (cls := "java/lang/IndexOutOfBoundsException") th_X10_112_116_B.1 th_X10_112_116_B.2.1 th_X10_112_116_B.2.2.1 rfl rfl rfl th_X10_112_116_B.2.2.2.1 th_X10_112_116_B.2.2.2.2.1 th_X10_112_116_B.2.2.2.2.2 rfl ⟨by decide, Nat.le_of_ble_eq_true rfl⟩ (by decide) (by decide +kernel) (by decide +kernel) (by decide +kernel) (by decide +kernel) (by decide +kernel) h
theorem f_X10_staff {G : q_G} {X : String → q_H → Prop} {f : Int32 → q_H → Prop} {A : q_H} {a0 : Nat} {x1 : Int32} {x2 : Int32} (h : q_sh A a0 = (11, 0) ∧ ∃ r2 : Nat, q_R A a0 2 = some r2 ∧ q_sh A r2 = (5, 0) ∧ q_Wc G M_X4_stationAt [.ref r2, .int x1] A (q_KR fun o7 A4 => (o7 = none → (∀ z, q_sz A4 ≤ z → X "java/lang/IndexOutOfBoundsException" (q_grow A4 z))) ∧ (∀ r5 : Nat, o7 = some r5 → ((x2 < nI 0 → (∀ z, q_sz A4 ≤ z → X "java/lang/IllegalArgumentException" (q_grow A4 z))) ∧ (¬ x2 < nI 0 → ((x2 ≤ (nI 9) → q_sh A4 a0 = (11, 0) ∧ q_Wc G M_X10_remember [.ref a0] A4 (q_KV fun A10 => q_sh A10 r5 = (7, 0) ∧ q_Wc G M_X6_relieve [.ref r5, .int x2] A10 (q_KV fun A14 => f (q_I A10 r5 1) A14) q_nX) q_nX) ∧ (¬ x2 ≤ (nI 9) → (∀ z, q_sz A4 ≤ z → X "java/lang/IllegalArgumentException" (q_grow A4 z)))))))) q_nX) : q_Wc G M_X10_staff [.ref a0, .int x1, .int x2] A (q_KI f) X := by
  refine q_Wc.of [some (.ref a0), some (.int x1), some (.int x2), none, none] mo_X10_staff.2.2.2.2.2 rfl (Nat.le_of_ble_eq_true rfl) rfl ?_
  refine q_blk (pc' := 1) (lo' := [some (.ref a0), some (.int x1), some (.int x2), none, none]) (st' := [.ref a0]) [.aload_n 0] (by decide +kernel) rfl ?_
  obtain ⟨s1, h⟩ := h
  obtain ⟨r2, e3, h⟩ := h
  refine q_getR fl_X10_16 rfl (by decide) (by decide +kernel) s1 e3 ?_
  refine q_blk (pc' := 5) (lo' := [some (.ref a0), some (.int x1), some (.int x2), none, none]) (st' := [.int x1, .ref r2]) [.iload_n 1] (by decide +kernel) rfl ?_
  obtain ⟨s6, h⟩ := h
  refine q_callV (ci := 4) (Mc := M_X4_stationAt) (z := 1) (b := r2) (As := [.int x1]) (st := []) mo_X4_stationAt mi_X4_stationAt ml_X10_123_X4_stationAt rfl rfl (by decide) rfl (by decide) (by decide) rfl (Nat.le_of_ble_eq_true rfl) (by decide +kernel) s6 h (q_fR (fun A4 h => ?_) (fun r5 A4 h => ?_))
  · have h := h.1 rfl
    show q_Wp _ _ _ _ 0 0 8 [some (.ref a0), some (.int x1), some (.int x2), none, none] [.null] A4
    refine q_blk (pc' := 10) (lo' := [some (.ref a0), some (.int x1), some (.int x2), some (.null), none]) (st' := [.null]) [.astore_n 3, .aload_n 3] (by decide +kernel) rfl ?_
    refine q_nnl_n (off := 13) (by decide +kernel) ?_
    exact q_throw (ik := 112) (is := 127) (ic := 116) (i := 6) (cls := "java/lang/IndexOutOfBoundsException") th_X10_112_116_B.1 th_X10_112_116_B.2.1 th_X10_112_116_B.2.2.1 rfl rfl rfl th_X10_112_116_B.2.2.2.1 th_X10_112_116_B.2.2.2.2.1 th_X10_112_116_B.2.2.2.2.2 rfl ⟨by decide, Nat.le_of_ble_eq_true rfl⟩ (by decide) (by decide +kernel) (by decide +kernel) (by decide +kernel) (by decide +kernel) (by decide +kernel) h
  · have h := h.2 r5 rfl
    show q_Wp _ _ _ _ 0 0 8 [some (.ref a0), some (.int x1), some (.int x2), none, none] [.ref r5] A4
    refine q_blk (pc' := 10) (lo' := [some (.ref a0), some (.int x1), some (.int x2), some (.ref r5), none]) (st' := [.ref r5]) [.astore_n 3, .aload_n 3] (by decide +kernel) rfl ?_
    refine q_nnl_y 23 (off := 13) (by decide +kernel) (by decide) ?_
    refine q_blk (pc' := 24) (lo' := [some (.ref a0), some (.int x1), some (.int x2), some (.ref r5), none]) (st' := [.int x2]) [.iload_n 2] (by decide +kernel) rfl ?_
    refine q_if_lt 33 (off := 9) (by decide +kernel) (by decide) (fun c8 => ?_) (fun c8 => ?_)
    · have h := h.1 c8
      exact q_throwW (ik := 178) (is := 306) (ic := 182) (i := 17) (cls := "java/lang/IllegalArgumentException") th_X10_178_182_A.1 th_X10_178_182_A.2.1 th_X10_178_182_A.2.2.1 rfl rfl rfl th_X10_178_182_A.2.2.2.1 th_X10_178_182_A.2.2.2.2.1 th_X10_178_182_A.2.2.2.2.2 rfl ⟨by decide, Nat.le_of_ble_eq_true rfl⟩ (by decide) (by decide +kernel) (by decide +kernel) (by decide +kernel) (by decide +kernel) (by decide +kernel) h
    · have h := h.2 c8
      refine q_blk (pc' := 30) (lo' := [some (.ref a0), some (.int x1), some (.int x2), some (.ref r5), none]) (st' := [.int (nI 9), .int x2]) [.iload_n 2, .bipush 9] (by decide +kernel) rfl ?_
      refine q_icmp_le 44 (off := 14) (by decide +kernel) (by decide) (fun c9 => ?_) (fun c9 => ?_)
      · have h := h.1 c9
        refine q_blk (pc' := 45) (lo' := [some (.ref a0), some (.int x1), some (.int x2), some (.ref r5), none]) (st' := [.ref a0]) [.aload_n 0] (by decide +kernel) rfl ?_
        obtain ⟨s12, h⟩ := h
        refine q_callV (ci := 10) (Mc := M_X10_remember) (z := 0) (b := a0) (As := []) (st := []) mo_X10_remember mi_X10_remember ml_X10_287_X10_remember rfl rfl (by decide) rfl (by decide) (by decide) rfl (Nat.le_of_ble_eq_true rfl) (by decide +kernel) s12 h (q_fV fun A10 h => ?_)
        show q_Wp _ _ _ _ 277 1205 48 [some (.ref a0), some (.int x1), some (.int x2), some (.ref r5), none] [] A10
        refine q_blk (pc' := 49) (lo' := [some (.ref a0), some (.int x1), some (.int x2), some (.ref r5), none]) (st' := [.ref r5]) [.aload_n 3] (by decide +kernel) rfl ?_
        obtain ⟨s13, h⟩ := h
        refine q_getI fl_X10_134 rfl (by decide) (by decide +kernel) s13 ?_
        refine q_blk (pc' := 56) (lo' := [some (.ref a0), some (.int x1), some (.int x2), some (.ref r5), some (.int (q_I A10 r5 1))]) (st' := [.int x2, .ref r5]) [.istore 4, .aload_n 3, .iload_n 2] (by decide +kernel) rfl ?_
        refine q_callV (ci := 6) (Mc := M_X6_relieve) (z := 1) (b := r5) (As := [.int x2]) (st := []) mo_X6_relieve mi_X6_relieve ml_X10_308_X6_relieve rfl rfl (by decide) rfl (by decide) (by decide) rfl (Nat.le_of_ble_eq_true rfl) (by decide +kernel) s13 h (q_fV fun A14 h => ?_)
        show q_Wp _ _ _ _ 277 1205 59 [some (.ref a0), some (.int x1), some (.int x2), some (.ref r5), some (.int (q_I A10 r5 1))] [] A14
        refine q_blk (pc' := 61) (lo' := [some (.ref a0), some (.int x1), some (.int x2), some (.ref r5), some (.int (q_I A10 r5 1))]) (st' := [.int (q_I A10 r5 1)]) [.iload 4] (by decide +kernel) rfl ?_
        exact q_retI rfl (by decide) (by decide) (by decide +kernel) ⟨_, rfl, h⟩
      · have h := h.2 c9
        exact q_throwW (ik := 178) (is := 306) (ic := 182) (i := 17) (cls := "java/lang/IllegalArgumentException") th_X10_178_182_A.1 th_X10_178_182_A.2.1 th_X10_178_182_A.2.2.1 rfl rfl rfl th_X10_178_182_A.2.2.2.1 th_X10_178_182_A.2.2.2.2.1 th_X10_178_182_A.2.2.2.2.2 rfl ⟨by decide, Nat.le_of_ble_eq_true rfl⟩ (by decide) (by decide +kernel) (by decide +kernel) (by decide +kernel) (by decide +kernel) (by decide +kernel) h
theorem f_X10_run {G : q_G} {X : String → q_H → Prop} {f : Int32 → q_H → Prop} {A : q_H} {a0 : Nat} {x1 : Int32} (h : ((x1 < (nI 1) → (∀ z, q_sz A ≤ z → X "java/lang/IllegalArgumentException" (q_grow A z))) ∧ (¬ x1 < (nI 1) → ((x1 ≤ (nI 200) → q_sh A a0 = (11, 0) ∧ ∃ r4 : Nat, q_R A a0 2 = some r4 ∧ q_sh A r4 = (5, 0) ∧ ∃ r7 : Nat, q_R A r4 9 = some r7 ∧ q_sh A r7 = (9, 0) ∧ ((((q_I A r7 0) + x1) ≤ (nI 9999) → q_Wc G M_X10_remember [.ref a0] A (q_KV fun A11 => q_sh A11 a0 = (11, 0) ∧ ∃ r14 : Nat, q_R A11 a0 2 = some r14 ∧ q_sh A11 r14 = (5, 0) ∧ ∃ r17 : Nat, q_R A11 r14 9 = some r17 ∧ q_sh A11 r17 = (9, 0) ∧ q_Wc G M_X4_makeTicks [.ref r14, .int x1] A11 (q_KV fun A20 => q_sh A20 a0 = (11, 0) ∧ ∃ r23 : Nat, q_R A20 a0 2 = some r23 ∧ q_sh A20 r23 = (5, 0) ∧ ∃ r26 : Nat, q_R A20 r23 9 = some r26 ∧ q_sh A20 r26 = (9, 0) ∧ f ((q_I A20 r26 1) - (q_I A11 r17 1)) A20) q_nX) q_nX) ∧ (¬ ((q_I A r7 0) + x1) ≤ (nI 9999) → (∀ z, q_sz A ≤ z → X "java/lang/IllegalStateException" (q_grow A z))))) ∧ (¬ x1 ≤ (nI 200) → (∀ z, q_sz A ≤ z → X "java/lang/IllegalArgumentException" (q_grow A z))))))) : q_Wc G M_X10_run [.ref a0, .int x1] A (q_KI f) X := by
  refine q_Wc.of [some (.ref a0), some (.int x1), none] mo_X10_run.2.2.2.2.2 rfl (Nat.le_of_ble_eq_true rfl) rfl ?_
  refine q_blk (pc' := 2) (lo' := [some (.ref a0), some (.int x1), none]) (st' := [.int (nI 1), .int x1]) [.iload_n 1, .iconst 1] (by decide +kernel) rfl ?_
  refine q_icmp_lt 12 (off := 10) (by decide +kernel) (by decide) (fun c1 => ?_) (fun c1 => ?_)
  · have h := h.1 c1
    exact q_throwW (ik := 178) (is := 311) (ic := 182) (i := 18) (cls := "java/lang/IllegalArgumentException") th_X10_178_182_A.1 th_X10_178_182_A.2.1 th_X10_178_182_A.2.2.1 rfl rfl rfl th_X10_178_182_A.2.2.2.1 th_X10_178_182_A.2.2.2.2.1 th_X10_178_182_A.2.2.2.2.2 rfl ⟨by decide, Nat.le_of_ble_eq_true rfl⟩ (by decide) (by decide +kernel) (by decide +kernel) (by decide +kernel) (by decide +kernel) (by decide +kernel) h
  · have h := h.2 c1
    refine q_blk (pc' := 9) (lo' := [some (.ref a0), some (.int x1), none]) (st' := [.int (nI 200), .int x1]) [.iload_n 1, .sipush 200] (by decide +kernel) rfl ?_
    refine q_icmp_le 23 (off := 14) (by decide +kernel) (by decide) (fun c2 => ?_) (fun c2 => ?_)
    · have h := h.1 c2
      refine q_blk (pc' := 24) (lo' := [some (.ref a0), some (.int x1), none]) (st' := [.ref a0]) [.aload_n 0] (by decide +kernel) rfl ?_
      obtain ⟨s3, h⟩ := h
      obtain ⟨r4, e5, h⟩ := h
      refine q_getR fl_X10_16 rfl (by decide) (by decide +kernel) s3 e5 ?_
      obtain ⟨s6, h⟩ := h
      obtain ⟨r7, e8, h⟩ := h
      refine q_getR fl_X10_72 rfl (by decide) (by decide +kernel) s6 e8 ?_
      obtain ⟨s9, h⟩ := h
      refine q_getI fl_X10_76 rfl (by decide) (by decide +kernel) s9 ?_
      refine q_blk (pc' := 38) (lo' := [some (.ref a0), some (.int x1), none]) (st' := [.int (nI 9999), .int ((q_I A r7 0) + x1)]) [.iload_n 1, .iadd, .sipush 9999] (by decide +kernel) rfl ?_
      refine q_icmp_le 52 (off := 14) (by decide +kernel) (by decide) (fun c10 => ?_) (fun c10 => ?_)
      · have h := h.1 c10
        refine q_blk (pc' := 53) (lo' := [some (.ref a0), some (.int x1), none]) (st' := [.ref a0]) [.aload_n 0] (by decide +kernel) rfl ?_
        refine q_callV (ci := 10) (Mc := M_X10_remember) (z := 0) (b := a0) (As := []) (st := []) mo_X10_remember mi_X10_remember ml_X10_287_X10_remember rfl rfl (by decide) rfl (by decide) (by decide) rfl (Nat.le_of_ble_eq_true rfl) (by decide +kernel) s3 h (q_fV fun A11 h => ?_)
        show q_Wp _ _ _ _ 277 1205 56 [some (.ref a0), some (.int x1), none] [] A11
        refine q_blk (pc' := 57) (lo' := [some (.ref a0), some (.int x1), none]) (st' := [.ref a0]) [.aload_n 0] (by decide +kernel) rfl ?_
        obtain ⟨s13, h⟩ := h
        obtain ⟨r14, e15, h⟩ := h
        refine q_getR fl_X10_16 rfl (by decide) (by decide +kernel) s13 e15 ?_
        obtain ⟨s16, h⟩ := h
        obtain ⟨r17, e18, h⟩ := h
        refine q_getR fl_X10_72 rfl (by decide) (by decide +kernel) s16 e18 ?_
        obtain ⟨s19, h⟩ := h
        refine q_getI fl_X10_100 rfl (by decide) (by decide +kernel) s19 ?_
        refine q_blk (pc' := 68) (lo' := [some (.ref a0), some (.int x1), some (.int (q_I A11 r17 1))]) (st' := [.ref a0]) [.istore_n 2, .aload_n 0] (by decide +kernel) rfl ?_
        refine q_getR fl_X10_16 rfl (by decide) (by decide +kernel) s13 e15 ?_
        refine q_blk (pc' := 72) (lo' := [some (.ref a0), some (.int x1), some (.int (q_I A11 r17 1))]) (st' := [.int x1, .ref r14]) [.iload_n 1] (by decide +kernel) rfl ?_
        refine q_callV (ci := 4) (Mc := M_X4_makeTicks) (z := 1) (b := r14) (As := [.int x1]) (st := []) mo_X4_makeTicks mi_X4_makeTicks ml_X10_315_X4_makeTicks rfl rfl (by decide) rfl (by decide) (by decide) rfl (Nat.le_of_ble_eq_true rfl) (by decide +kernel) s16 h (q_fV fun A20 h => ?_)
        show q_Wp _ _ _ _ 277 1205 75 [some (.ref a0), some (.int x1), some (.int (q_I A11 r17 1))] [] A20
        refine q_blk (pc' := 76) (lo' := [some (.ref a0), some (.int x1), some (.int (q_I A11 r17 1))]) (st' := [.ref a0]) [.aload_n 0] (by decide +kernel) rfl ?_
        obtain ⟨s22, h⟩ := h
        obtain ⟨r23, e24, h⟩ := h
        refine q_getR fl_X10_16 rfl (by decide) (by decide +kernel) s22 e24 ?_
        obtain ⟨s25, h⟩ := h
        obtain ⟨r26, e27, h⟩ := h
        refine q_getR fl_X10_72 rfl (by decide) (by decide +kernel) s25 e27 ?_
        obtain ⟨s28, h⟩ := h
        refine q_getI fl_X10_100 rfl (by decide) (by decide +kernel) s28 ?_
        refine q_blk (pc' := 87) (lo' := [some (.ref a0), some (.int x1), some (.int (q_I A11 r17 1))]) (st' := [.int ((q_I A20 r26 1) - (q_I A11 r17 1))]) [.iload_n 2, .isub] (by decide +kernel) rfl ?_
        exact q_retI rfl (by decide) (by decide) (by decide +kernel) ⟨_, rfl, h⟩
      · have h := h.2 c10
        exact q_throwW (ik := 282) (is := 313) (ic := 286) (i := 19) (cls := "java/lang/IllegalStateException") th_X10_282_286_S.1 th_X10_282_286_S.2.1 th_X10_282_286_S.2.2.1 rfl rfl rfl th_X10_282_286_S.2.2.2.1 th_X10_282_286_S.2.2.2.2.1 th_X10_282_286_S.2.2.2.2.2 rfl ⟨by decide, Nat.le_of_ble_eq_true rfl⟩ (by decide) (by decide +kernel) (by decide +kernel) (by decide +kernel) (by decide +kernel) (by decide +kernel) h
    · have h := h.2 c2
      exact q_throwW (ik := 178) (is := 311) (ic := 182) (i := 18) (cls := "java/lang/IllegalArgumentException") th_X10_178_182_A.1 th_X10_178_182_A.2.1 th_X10_178_182_A.2.2.1 rfl rfl rfl th_X10_178_182_A.2.2.2.1 th_X10_178_182_A.2.2.2.2.1 th_X10_178_182_A.2.2.2.2.2 rfl ⟨by decide, Nat.le_of_ble_eq_true rfl⟩ (by decide) (by decide +kernel) (by decide +kernel) (by decide +kernel) (by decide +kernel) (by decide +kernel) h
theorem f_X10_sell {G : q_G} {X : String → q_H → Prop} {f : Int32 → q_H → Prop} {A : q_H} {a0 : Nat} {x1 : Int32} {x2 : Int32} (h : q_sh A a0 = (11, 0) ∧ ∃ r2 : Nat, q_R A a0 2 = some r2 ∧ q_sh A r2 = (5, 0) ∧ ∃ r5 : Nat, q_R A r2 7 = some r5 ∧ q_sh A r5 = (8, 0) ∧ q_Wc G M_X7_baleAt [.ref r5, .int x1] A (q_KR fun o10 A7 => (o10 = none → q_sh A7 a0 = (11, 0) ∧ ∃ r12 : Nat, q_R A7 a0 2 = some r12 ∧ q_sh A7 r12 = (5, 0) ∧ q_Wc G M_X4_buyerAt [.ref r12, .int x2] A7 (q_KR fun o17 A14 => (o17 = none → (∀ z, q_sz A14 ≤ z → X "java/lang/IndexOutOfBoundsException" (q_grow A14 z))) ∧ (∀ r15 : Nat, o17 = some r15 → (∀ z, q_sz A14 ≤ z → X "java/lang/IndexOutOfBoundsException" (q_grow A14 z)))) q_nX) ∧ (∀ r8 : Nat, o10 = some r8 → q_sh A7 a0 = (11, 0) ∧ ∃ r19 : Nat, q_R A7 a0 2 = some r19 ∧ q_sh A7 r19 = (5, 0) ∧ q_Wc G M_X4_buyerAt [.ref r19, .int x2] A7 (q_KR fun o24 A21 => (o24 = none → (∀ z, q_sz A21 ≤ z → X "java/lang/IndexOutOfBoundsException" (q_grow A21 z))) ∧ (∀ r22 : Nat, o24 = some r22 → q_sh A21 r22 = (2, 0) ∧ q_Wc G M_X1_takes [.ref r22, .ref r8] A21 (q_KB fun b26 A25 => ((b26 = true → q_sh A25 r22 = (2, 0) ∧ q_Wc G M_X1_sendsBack [.ref r22, .ref r8] A25 (q_KB fun b31 A30 => ((b31 = true → q_sh A30 a0 = (11, 0) ∧ ∃ r65 : Nat, q_R A30 a0 2 = some r65 ∧ q_sh A30 r65 = (5, 0) ∧ ∃ r68 : Nat, q_R A30 r65 6 = some r68 ∧ q_sh A30 r68 = (4, 0) ∧ q_Wc G M_X3_isFull [.ref r68] A30 (q_KB fun b71 A70 => ((b71 = true → (∀ z, q_sz A70 ≤ z → X "java/lang/IllegalStateException" (q_grow A70 z))) ∧ (b71 = false → q_sh A70 a0 = (11, 0) ∧ q_Wc G M_X10_remember [.ref a0] A70 (q_KV fun A75 => q_sh A75 a0 = (11, 0) ∧ ∃ r79 : Nat, q_R A75 a0 2 = some r79 ∧ q_sh A75 r79 = (5, 0) ∧ ∃ r82 : Nat, q_R A75 r79 7 = some r82 ∧ q_sh A75 r82 = (8, 0) ∧ q_Wc G M_X7_dropBale [.ref r82, .int x1] A75 (q_KV fun A84 => q_sh A84 r22 = (2, 0) ∧ q_Wc G M_X1_sendsBack [.ref r22, .ref r8] A84 (q_KB fun b88 A87 => ((b88 = true → q_sh A87 a0 = (11, 0) ∧ ∃ r99 : Nat, q_R A87 a0 2 = some r99 ∧ q_sh A87 r99 = (5, 0) ∧ q_Wc G M_X4_takeBack [.ref r99, .ref r8] A87 (q_KV fun A101 => f (-1) A101) q_nX) ∧ (b88 = false → q_sh A87 a0 = (11, 0) ∧ ∃ r93 : Nat, q_R A87 a0 2 = some r93 ∧ q_sh A87 r93 = (5, 0) ∧ q_Wc G M_X4_handOver [.ref r93, .ref r8, .ref r22] A87 (q_KI fun r96 A95 => f r96 A95) q_nX))) q_nX) q_nX) q_nX))) q_nX) ∧ (b31 = false → q_sh A30 a0 = (11, 0) ∧ q_Wc G M_X10_remember [.ref a0] A30 (q_KV fun A35 => q_sh A35 a0 = (11, 0) ∧ ∃ r39 : Nat, q_R A35 a0 2 = some r39 ∧ q_sh A35 r39 = (5, 0) ∧ ∃ r42 : Nat, q_R A35 r39 7 = some r42 ∧ q_sh A35 r42 = (8, 0) ∧ q_Wc G M_X7_dropBale [.ref r42, .int x1] A35 (q_KV fun A44 => q_sh A44 r22 = (2, 0) ∧ q_Wc G M_X1_sendsBack [.ref r22, .ref r8] A44 (q_KB fun b48 A47 => ((b48 = true → q_sh A47 a0 = (11, 0) ∧ ∃ r59 : Nat, q_R A47 a0 2 = some r59 ∧ q_sh A47 r59 = (5, 0) ∧ q_Wc G M_X4_takeBack [.ref r59, .ref r8] A47 (q_KV fun A61 => f (-1) A61) q_nX) ∧ (b48 = false → q_sh A47 a0 = (11, 0) ∧ ∃ r53 : Nat, q_R A47 a0 2 = some r53 ∧ q_sh A47 r53 = (5, 0) ∧ q_Wc G M_X4_handOver [.ref r53, .ref r8, .ref r22] A47 (q_KI fun r56 A55 => f r56 A55) q_nX))) q_nX) q_nX) q_nX))) q_nX) ∧ (b26 = false → (∀ z, q_sz A25 ≤ z → X "java/lang/IllegalArgumentException" (q_grow A25 z))))) q_nX)) q_nX)) q_nX) : q_Wc G M_X10_sell [.ref a0, .int x1, .int x2] A (q_KI f) X := by
  refine q_Wc.of [some (.ref a0), some (.int x1), some (.int x2), none, none] mo_X10_sell.2.2.2.2.2 rfl (Nat.le_of_ble_eq_true rfl) rfl ?_
  refine q_blk (pc' := 1) (lo' := [some (.ref a0), some (.int x1), some (.int x2), none, none]) (st' := [.ref a0]) [.aload_n 0] (by decide +kernel) rfl ?_
  obtain ⟨s1, h⟩ := h
  obtain ⟨r2, e3, h⟩ := h
  refine q_getR fl_X10_16 rfl (by decide) (by decide +kernel) s1 e3 ?_
  obtain ⟨s4, h⟩ := h
  obtain ⟨r5, e6, h⟩ := h
  refine q_getR fl_X10_93 rfl (by decide) (by decide +kernel) s4 e6 ?_
  refine q_blk (pc' := 8) (lo' := [some (.ref a0), some (.int x1), some (.int x2), none, none]) (st' := [.int x1, .ref r5]) [.iload_n 1] (by decide +kernel) rfl ?_
  obtain ⟨s9, h⟩ := h
  refine q_callV (ci := 7) (Mc := M_X7_baleAt) (z := 1) (b := r5) (As := [.int x1]) (st := []) mo_X7_baleAt mi_X7_baleAt ml_X10_198_X7_baleAt rfl rfl (by decide) rfl (by decide) (by decide) rfl (Nat.le_of_ble_eq_true rfl) (by decide +kernel) s9 h (q_fR (fun A7 h => ?_) (fun r8 A7 h => ?_))
  · have h := h.1 rfl
    show q_Wp _ _ _ _ 0 0 11 [some (.ref a0), some (.int x1), some (.int x2), none, none] [.null] A7
    refine q_blk (pc' := 13) (lo' := [some (.ref a0), some (.int x1), some (.int x2), some (.null), none]) (st' := [.ref a0]) [.astore_n 3, .aload_n 0] (by decide +kernel) rfl ?_
    obtain ⟨s11, h⟩ := h
    obtain ⟨r12, e13, h⟩ := h
    refine q_getR fl_X10_16 rfl (by decide) (by decide +kernel) s11 e13 ?_
    refine q_blk (pc' := 17) (lo' := [some (.ref a0), some (.int x1), some (.int x2), some (.null), none]) (st' := [.int x2, .ref r12]) [.iload_n 2] (by decide +kernel) rfl ?_
    obtain ⟨s16, h⟩ := h
    refine q_callV (ci := 4) (Mc := M_X4_buyerAt) (z := 1) (b := r12) (As := [.int x2]) (st := []) mo_X4_buyerAt mi_X4_buyerAt ml_X10_221_X4_buyerAt rfl rfl (by decide) rfl (by decide) (by decide) rfl (Nat.le_of_ble_eq_true rfl) (by decide +kernel) s16 h (q_fR (fun A14 h => ?_) (fun r15 A14 h => ?_))
    · have h := h.1 rfl
      show q_Wp _ _ _ _ 0 0 20 [some (.ref a0), some (.int x1), some (.int x2), some (.null), none] [.null] A14
      refine q_blk (pc' := 23) (lo' := [some (.ref a0), some (.int x1), some (.int x2), some (.null), some (.null)]) (st' := [.null]) [.astore 4, .aload_n 3] (by decide +kernel) rfl ?_
      refine q_nul_y 31 (off := 8) (by decide +kernel) (by decide) ?_
      exact q_throwW (ik := 112) (is := 318) (ic := 116) (i := 20) (cls := "java/lang/IndexOutOfBoundsException") th_X10_112_116_B.1 th_X10_112_116_B.2.1 th_X10_112_116_B.2.2.1 rfl rfl rfl th_X10_112_116_B.2.2.2.1 th_X10_112_116_B.2.2.2.2.1 th_X10_112_116_B.2.2.2.2.2 rfl ⟨by decide, Nat.le_of_ble_eq_true rfl⟩ (by decide) (by decide +kernel) (by decide +kernel) (by decide +kernel) (by decide +kernel) (by decide +kernel) h
    · have h := h.2 r15 rfl
      show q_Wp _ _ _ _ 0 0 20 [some (.ref a0), some (.int x1), some (.int x2), some (.null), none] [.ref r15] A14
      refine q_blk (pc' := 23) (lo' := [some (.ref a0), some (.int x1), some (.int x2), some (.null), some (.ref r15)]) (st' := [.null]) [.astore 4, .aload_n 3] (by decide +kernel) rfl ?_
      refine q_nul_y 31 (off := 8) (by decide +kernel) (by decide) ?_
      exact q_throwW (ik := 112) (is := 318) (ic := 116) (i := 20) (cls := "java/lang/IndexOutOfBoundsException") th_X10_112_116_B.1 th_X10_112_116_B.2.1 th_X10_112_116_B.2.2.1 rfl rfl rfl th_X10_112_116_B.2.2.2.1 th_X10_112_116_B.2.2.2.2.1 th_X10_112_116_B.2.2.2.2.2 rfl ⟨by decide, Nat.le_of_ble_eq_true rfl⟩ (by decide) (by decide +kernel) (by decide +kernel) (by decide +kernel) (by decide +kernel) (by decide +kernel) h
  · have h := h.2 r8 rfl
    show q_Wp _ _ _ _ 0 0 11 [some (.ref a0), some (.int x1), some (.int x2), none, none] [.ref r8] A7
    refine q_blk (pc' := 13) (lo' := [some (.ref a0), some (.int x1), some (.int x2), some (.ref r8), none]) (st' := [.ref a0]) [.astore_n 3, .aload_n 0] (by decide +kernel) rfl ?_
    obtain ⟨s18, h⟩ := h
    obtain ⟨r19, e20, h⟩ := h
    refine q_getR fl_X10_16 rfl (by decide) (by decide +kernel) s18 e20 ?_
    refine q_blk (pc' := 17) (lo' := [some (.ref a0), some (.int x1), some (.int x2), some (.ref r8), none]) (st' := [.int x2, .ref r19]) [.iload_n 2] (by decide +kernel) rfl ?_
    obtain ⟨s23, h⟩ := h
    refine q_callV (ci := 4) (Mc := M_X4_buyerAt) (z := 1) (b := r19) (As := [.int x2]) (st := []) mo_X4_buyerAt mi_X4_buyerAt ml_X10_221_X4_buyerAt rfl rfl (by decide) rfl (by decide) (by decide) rfl (Nat.le_of_ble_eq_true rfl) (by decide +kernel) s23 h (q_fR (fun A21 h => ?_) (fun r22 A21 h => ?_))
    · have h := h.1 rfl
      show q_Wp _ _ _ _ 0 0 20 [some (.ref a0), some (.int x1), some (.int x2), some (.ref r8), none] [.null] A21
      refine q_blk (pc' := 23) (lo' := [some (.ref a0), some (.int x1), some (.int x2), some (.ref r8), some (.null)]) (st' := [.ref r8]) [.astore 4, .aload_n 3] (by decide +kernel) rfl ?_
      refine q_nul_n (off := 8) (by decide +kernel) ?_
      refine q_blk (pc' := 28) (lo' := [some (.ref a0), some (.int x1), some (.int x2), some (.ref r8), some (.null)]) (st' := [.null]) [.aload 4] (by decide +kernel) rfl ?_
      refine q_nnl_n (off := 14) (by decide +kernel) ?_
      exact q_throwW (ik := 112) (is := 318) (ic := 116) (i := 20) (cls := "java/lang/IndexOutOfBoundsException") th_X10_112_116_B.1 th_X10_112_116_B.2.1 th_X10_112_116_B.2.2.1 rfl rfl rfl th_X10_112_116_B.2.2.2.1 th_X10_112_116_B.2.2.2.2.1 th_X10_112_116_B.2.2.2.2.2 rfl ⟨by decide, Nat.le_of_ble_eq_true rfl⟩ (by decide) (by decide +kernel) (by decide +kernel) (by decide +kernel) (by decide +kernel) (by decide +kernel) h
    · have h := h.2 r22 rfl
      show q_Wp _ _ _ _ 0 0 20 [some (.ref a0), some (.int x1), some (.int x2), some (.ref r8), none] [.ref r22] A21
      refine q_blk (pc' := 23) (lo' := [some (.ref a0), some (.int x1), some (.int x2), some (.ref r8), some (.ref r22)]) (st' := [.ref r8]) [.astore 4, .aload_n 3] (by decide +kernel) rfl ?_
      refine q_nul_n (off := 8) (by decide +kernel) ?_
      refine q_blk (pc' := 28) (lo' := [some (.ref a0), some (.int x1), some (.int x2), some (.ref r8), some (.ref r22)]) (st' := [.ref r22]) [.aload 4] (by decide +kernel) rfl ?_
      refine q_nnl_y 42 (off := 14) (by decide +kernel) (by decide) ?_
      refine q_blk (pc' := 45) (lo' := [some (.ref a0), some (.int x1), some (.int x2), some (.ref r8), some (.ref r22)]) (st' := [.ref r8, .ref r22]) [.aload 4, .aload_n 3] (by decide +kernel) rfl ?_
      obtain ⟨s27, h⟩ := h
      refine q_callV (ci := 1) (Mc := M_X1_takes) (z := 1) (b := r22) (As := [.ref r8]) (st := []) mo_X1_takes mi_X1_takes ml_X10_320_X1_takes rfl rfl (by decide) rfl (by decide) (by decide) rfl (Nat.le_of_ble_eq_true rfl) (by decide +kernel) s27 h (q_fB fun b26 A25 h => ?_)
      show q_Wp _ _ _ _ 0 0 48 [some (.ref a0), some (.int x1), some (.int x2), some (.ref r8), some (.ref r22)] [.int (q_i b26)] A25
      refine q_ifB_ne 62 (off := 14) (by decide +kernel) (by decide) (fun c28 => ?_) (fun c28 => ?_)
      · have h := h.1 c28
        refine q_blk (pc' := 65) (lo' := [some (.ref a0), some (.int x1), some (.int x2), some (.ref r8), some (.ref r22)]) (st' := [.ref r8, .ref r22]) [.aload 4, .aload_n 3] (by decide +kernel) rfl ?_
        obtain ⟨s32, h⟩ := h
        refine q_callV (ci := 1) (Mc := M_X1_sendsBack) (z := 1) (b := r22) (As := [.ref r8]) (st := []) mo_X1_sendsBack mi_X1_sendsBack ml_X10_326_X1_sendsBack rfl rfl (by decide) rfl (by decide) (by decide) rfl (Nat.le_of_ble_eq_true rfl) (by decide +kernel) s32 h (q_fB fun b31 A30 h => ?_)
        show q_Wp _ _ _ _ 0 0 68 [some (.ref a0), some (.int x1), some (.int x2), some (.ref r8), some (.ref r22)] [.int (q_i b31)] A30
        refine q_ifB_eq 95 (off := 27) (by decide +kernel) (by decide) (fun c33 => ?_) (fun c33 => ?_)
        · have h := h.2 c33
          refine q_blk (pc' := 96) (lo' := [some (.ref a0), some (.int x1), some (.int x2), some (.ref r8), some (.ref r22)]) (st' := [.ref a0]) [.aload_n 0] (by decide +kernel) rfl ?_
          obtain ⟨s37, h⟩ := h
          refine q_callV (ci := 10) (Mc := M_X10_remember) (z := 0) (b := a0) (As := []) (st := []) mo_X10_remember mi_X10_remember ml_X10_287_X10_remember rfl rfl (by decide) rfl (by decide) (by decide) rfl (Nat.le_of_ble_eq_true rfl) (by decide +kernel) s37 h (q_fV fun A35 h => ?_)
          show q_Wp _ _ _ _ 277 1205 99 [some (.ref a0), some (.int x1), some (.int x2), some (.ref r8), some (.ref r22)] [] A35
          refine q_blk (pc' := 100) (lo' := [some (.ref a0), some (.int x1), some (.int x2), some (.ref r8), some (.ref r22)]) (st' := [.ref a0]) [.aload_n 0] (by decide +kernel) rfl ?_
          obtain ⟨s38, h⟩ := h
          obtain ⟨r39, e40, h⟩ := h
          refine q_getR fl_X10_16 rfl (by decide) (by decide +kernel) s38 e40 ?_
          obtain ⟨s41, h⟩ := h
          obtain ⟨r42, e43, h⟩ := h
          refine q_getR fl_X10_93 rfl (by decide) (by decide +kernel) s41 e43 ?_
          refine q_blk (pc' := 107) (lo' := [some (.ref a0), some (.int x1), some (.int x2), some (.ref r8), some (.ref r22)]) (st' := [.int x1, .ref r42]) [.iload_n 1] (by decide +kernel) rfl ?_
          obtain ⟨s46, h⟩ := h
          refine q_callV (ci := 7) (Mc := M_X7_dropBale) (z := 1) (b := r42) (As := [.int x1]) (st := []) mo_X7_dropBale mi_X7_dropBale ml_X10_329_X7_dropBale rfl rfl (by decide) rfl (by decide) (by decide) rfl (Nat.le_of_ble_eq_true rfl) (by decide +kernel) s46 h (q_fV fun A44 h => ?_)
          show q_Wp _ _ _ _ 277 1205 110 [some (.ref a0), some (.int x1), some (.int x2), some (.ref r8), some (.ref r22)] [] A44
          refine q_blk (pc' := 113) (lo' := [some (.ref a0), some (.int x1), some (.int x2), some (.ref r8), some (.ref r22)]) (st' := [.ref r8, .ref r22]) [.aload 4, .aload_n 3] (by decide +kernel) rfl ?_
          obtain ⟨s49, h⟩ := h
          refine q_callV (ci := 1) (Mc := M_X1_sendsBack) (z := 1) (b := r22) (As := [.ref r8]) (st := []) mo_X1_sendsBack mi_X1_sendsBack ml_X10_326_X1_sendsBack rfl rfl (by decide) rfl (by decide) (by decide) rfl (Nat.le_of_ble_eq_true rfl) (by decide +kernel) s49 h (q_fB fun b48 A47 h => ?_)
          show q_Wp _ _ _ _ 277 1205 116 [some (.ref a0), some (.int x1), some (.int x2), some (.ref r8), some (.ref r22)] [.int (q_i b48)] A47
          refine q_ifB_eq 129 (off := 13) (by decide +kernel) (by decide) (fun c50 => ?_) (fun c50 => ?_)
          · have h := h.2 c50
            refine q_blk (pc' := 130) (lo' := [some (.ref a0), some (.int x1), some (.int x2), some (.ref r8), some (.ref r22)]) (st' := [.ref a0]) [.aload_n 0] (by decide +kernel) rfl ?_
            obtain ⟨s52, h⟩ := h
            obtain ⟨r53, e54, h⟩ := h
            refine q_getR fl_X10_16 rfl (by decide) (by decide +kernel) s52 e54 ?_
            refine q_blk (pc' := 136) (lo' := [some (.ref a0), some (.int x1), some (.int x2), some (.ref r8), some (.ref r22)]) (st' := [.ref r22, .ref r8, .ref r53]) [.aload_n 3, .aload 4] (by decide +kernel) rfl ?_
            obtain ⟨s57, h⟩ := h
            refine q_callV (ci := 4) (Mc := M_X4_handOver) (z := 2) (b := r53) (As := [.ref r8, .ref r22]) (st := []) mo_X4_handOver mi_X4_handOver ml_X10_336_X4_handOver rfl rfl (by decide) rfl (by decide) (by decide) rfl (Nat.le_of_ble_eq_true rfl) (by decide +kernel) s57 h (q_fI fun r56 A55 h => ?_)
            show q_Wp _ _ _ _ 277 1205 139 [some (.ref a0), some (.int x1), some (.int x2), some (.ref r8), some (.ref r22)] [.int r56] A55
            exact q_retI rfl (by decide) (by decide) (by decide +kernel) ⟨_, rfl, h⟩
          · have h := h.1 c50
            refine q_blk (pc' := 120) (lo' := [some (.ref a0), some (.int x1), some (.int x2), some (.ref r8), some (.ref r22)]) (st' := [.ref a0]) [.aload_n 0] (by decide +kernel) rfl ?_
            obtain ⟨s58, h⟩ := h
            obtain ⟨r59, e60, h⟩ := h
            refine q_getR fl_X10_16 rfl (by decide) (by decide +kernel) s58 e60 ?_
            refine q_blk (pc' := 124) (lo' := [some (.ref a0), some (.int x1), some (.int x2), some (.ref r8), some (.ref r22)]) (st' := [.ref r8, .ref r59]) [.aload_n 3] (by decide +kernel) rfl ?_
            obtain ⟨s63, h⟩ := h
            refine q_callV (ci := 4) (Mc := M_X4_takeBack) (z := 1) (b := r59) (As := [.ref r8]) (st := []) mo_X4_takeBack mi_X4_takeBack ml_X10_332_X4_takeBack rfl rfl (by decide) rfl (by decide) (by decide) rfl (Nat.le_of_ble_eq_true rfl) (by decide +kernel) s63 h (q_fV fun A61 h => ?_)
            show q_Wp _ _ _ _ 277 1205 127 [some (.ref a0), some (.int x1), some (.int x2), some (.ref r8), some (.ref r22)] [] A61
            refine q_blk (pc' := 128) (lo' := [some (.ref a0), some (.int x1), some (.int x2), some (.ref r8), some (.ref r22)]) (st' := [.int (-1)]) [.iconst (-1)] (by decide +kernel) rfl ?_
            exact q_retI rfl (by decide) (by decide) (by decide +kernel) ⟨_, rfl, h⟩
        · have h := h.1 c33
          refine q_blk (pc' := 72) (lo' := [some (.ref a0), some (.int x1), some (.int x2), some (.ref r8), some (.ref r22)]) (st' := [.ref a0]) [.aload_n 0] (by decide +kernel) rfl ?_
          obtain ⟨s64, h⟩ := h
          obtain ⟨r65, e66, h⟩ := h
          refine q_getR fl_X10_16 rfl (by decide) (by decide +kernel) s64 e66 ?_
          obtain ⟨s67, h⟩ := h
          obtain ⟨r68, e69, h⟩ := h
          refine q_getR fl_X10_81 rfl (by decide) (by decide +kernel) s67 e69 ?_
          obtain ⟨s72, h⟩ := h
          refine q_callV (ci := 3) (Mc := M_X3_isFull) (z := 0) (b := r68) (As := []) (st := []) mo_X3_isFull mi_X3_isFull ml_X10_279_X3_isFull rfl rfl (by decide) rfl (by decide) (by decide) rfl (Nat.le_of_ble_eq_true rfl) (by decide +kernel) s72 h (q_fB fun b71 A70 h => ?_)
          show q_Wp _ _ _ _ 0 0 81 [some (.ref a0), some (.int x1), some (.int x2), some (.ref r8), some (.ref r22)] [.int (q_i b71)] A70
          refine q_ifB_eq 95 (off := 14) (by decide +kernel) (by decide) (fun c73 => ?_) (fun c73 => ?_)
          · have h := h.2 c73
            refine q_blk (pc' := 96) (lo' := [some (.ref a0), some (.int x1), some (.int x2), some (.ref r8), some (.ref r22)]) (st' := [.ref a0]) [.aload_n 0] (by decide +kernel) rfl ?_
            obtain ⟨s77, h⟩ := h
            refine q_callV (ci := 10) (Mc := M_X10_remember) (z := 0) (b := a0) (As := []) (st := []) mo_X10_remember mi_X10_remember ml_X10_287_X10_remember rfl rfl (by decide) rfl (by decide) (by decide) rfl (Nat.le_of_ble_eq_true rfl) (by decide +kernel) s77 h (q_fV fun A75 h => ?_)
            show q_Wp _ _ _ _ 277 1205 99 [some (.ref a0), some (.int x1), some (.int x2), some (.ref r8), some (.ref r22)] [] A75
            refine q_blk (pc' := 100) (lo' := [some (.ref a0), some (.int x1), some (.int x2), some (.ref r8), some (.ref r22)]) (st' := [.ref a0]) [.aload_n 0] (by decide +kernel) rfl ?_
            obtain ⟨s78, h⟩ := h
            obtain ⟨r79, e80, h⟩ := h
            refine q_getR fl_X10_16 rfl (by decide) (by decide +kernel) s78 e80 ?_
            obtain ⟨s81, h⟩ := h
            obtain ⟨r82, e83, h⟩ := h
            refine q_getR fl_X10_93 rfl (by decide) (by decide +kernel) s81 e83 ?_
            refine q_blk (pc' := 107) (lo' := [some (.ref a0), some (.int x1), some (.int x2), some (.ref r8), some (.ref r22)]) (st' := [.int x1, .ref r82]) [.iload_n 1] (by decide +kernel) rfl ?_
            obtain ⟨s86, h⟩ := h
            refine q_callV (ci := 7) (Mc := M_X7_dropBale) (z := 1) (b := r82) (As := [.int x1]) (st := []) mo_X7_dropBale mi_X7_dropBale ml_X10_329_X7_dropBale rfl rfl (by decide) rfl (by decide) (by decide) rfl (Nat.le_of_ble_eq_true rfl) (by decide +kernel) s86 h (q_fV fun A84 h => ?_)
            show q_Wp _ _ _ _ 277 1205 110 [some (.ref a0), some (.int x1), some (.int x2), some (.ref r8), some (.ref r22)] [] A84
            refine q_blk (pc' := 113) (lo' := [some (.ref a0), some (.int x1), some (.int x2), some (.ref r8), some (.ref r22)]) (st' := [.ref r8, .ref r22]) [.aload 4, .aload_n 3] (by decide +kernel) rfl ?_
            obtain ⟨s89, h⟩ := h
            refine q_callV (ci := 1) (Mc := M_X1_sendsBack) (z := 1) (b := r22) (As := [.ref r8]) (st := []) mo_X1_sendsBack mi_X1_sendsBack ml_X10_326_X1_sendsBack rfl rfl (by decide) rfl (by decide) (by decide) rfl (Nat.le_of_ble_eq_true rfl) (by decide +kernel) s89 h (q_fB fun b88 A87 h => ?_)
            show q_Wp _ _ _ _ 277 1205 116 [some (.ref a0), some (.int x1), some (.int x2), some (.ref r8), some (.ref r22)] [.int (q_i b88)] A87
            refine q_ifB_eq 129 (off := 13) (by decide +kernel) (by decide) (fun c90 => ?_) (fun c90 => ?_)
            · have h := h.2 c90
              refine q_blk (pc' := 130) (lo' := [some (.ref a0), some (.int x1), some (.int x2), some (.ref r8), some (.ref r22)]) (st' := [.ref a0]) [.aload_n 0] (by decide +kernel) rfl ?_
              obtain ⟨s92, h⟩ := h
              obtain ⟨r93, e94, h⟩ := h
              refine q_getR fl_X10_16 rfl (by decide) (by decide +kernel) s92 e94 ?_
              refine q_blk (pc' := 136) (lo' := [some (.ref a0), some (.int x1), some (.int x2), some (.ref r8), some (.ref r22)]) (st' := [.ref r22, .ref r8, .ref r93]) [.aload_n 3, .aload 4] (by decide +kernel) rfl ?_
              obtain ⟨s97, h⟩ := h
              refine q_callV (ci := 4) (Mc := M_X4_handOver) (z := 2) (b := r93) (As := [.ref r8, .ref r22]) (st := []) mo_X4_handOver mi_X4_handOver ml_X10_336_X4_handOver rfl rfl (by decide) rfl (by decide) (by decide) rfl (Nat.le_of_ble_eq_true rfl) (by decide +kernel) s97 h (q_fI fun r96 A95 h => ?_)
              show q_Wp _ _ _ _ 277 1205 139 [some (.ref a0), some (.int x1), some (.int x2), some (.ref r8), some (.ref r22)] [.int r96] A95
              exact q_retI rfl (by decide) (by decide) (by decide +kernel) ⟨_, rfl, h⟩
            · have h := h.1 c90
              refine q_blk (pc' := 120) (lo' := [some (.ref a0), some (.int x1), some (.int x2), some (.ref r8), some (.ref r22)]) (st' := [.ref a0]) [.aload_n 0] (by decide +kernel) rfl ?_
              obtain ⟨s98, h⟩ := h
              obtain ⟨r99, e100, h⟩ := h
              refine q_getR fl_X10_16 rfl (by decide) (by decide +kernel) s98 e100 ?_
              refine q_blk (pc' := 124) (lo' := [some (.ref a0), some (.int x1), some (.int x2), some (.ref r8), some (.ref r22)]) (st' := [.ref r8, .ref r99]) [.aload_n 3] (by decide +kernel) rfl ?_
              obtain ⟨s103, h⟩ := h
              refine q_callV (ci := 4) (Mc := M_X4_takeBack) (z := 1) (b := r99) (As := [.ref r8]) (st := []) mo_X4_takeBack mi_X4_takeBack ml_X10_332_X4_takeBack rfl rfl (by decide) rfl (by decide) (by decide) rfl (Nat.le_of_ble_eq_true rfl) (by decide +kernel) s103 h (q_fV fun A101 h => ?_)
              show q_Wp _ _ _ _ 277 1205 127 [some (.ref a0), some (.int x1), some (.int x2), some (.ref r8), some (.ref r22)] [] A101
              refine q_blk (pc' := 128) (lo' := [some (.ref a0), some (.int x1), some (.int x2), some (.ref r8), some (.ref r22)]) (st' := [.int (-1)]) [.iconst (-1)] (by decide +kernel) rfl ?_
              exact q_retI rfl (by decide) (by decide) (by decide +kernel) ⟨_, rfl, h⟩
          · have h := h.1 c73
            exact q_throwW (ik := 282) (is := 284) (ic := 286) (i := 15) (cls := "java/lang/IllegalStateException") th_X10_282_286_S.1 th_X10_282_286_S.2.1 th_X10_282_286_S.2.2.1 rfl rfl rfl th_X10_282_286_S.2.2.2.1 th_X10_282_286_S.2.2.2.2.1 th_X10_282_286_S.2.2.2.2.2 rfl ⟨by decide, Nat.le_of_ble_eq_true rfl⟩ (by decide) (by decide +kernel) (by decide +kernel) (by decide +kernel) (by decide +kernel) (by decide +kernel) h
      · have h := h.2 c28
        exact q_throwW (ik := 178) (is := 324) (ic := 182) (i := 21) (cls := "java/lang/IllegalArgumentException") th_X10_178_182_A.1 th_X10_178_182_A.2.1 th_X10_178_182_A.2.2.1 rfl rfl rfl th_X10_178_182_A.2.2.2.1 th_X10_178_182_A.2.2.2.2.1 th_X10_178_182_A.2.2.2.2.2 rfl ⟨by decide, Nat.le_of_ble_eq_true rfl⟩ (by decide) (by decide +kernel) (by decide +kernel) (by decide +kernel) (by decide +kernel) (by decide +kernel) h
theorem f_X10_clean {G : q_G} {X : String → q_H → Prop} {f : Int32 → q_H → Prop} {A : q_H} {a0 : Nat} {x1 : Int32} (h : q_sh A a0 = (11, 0) ∧ ∃ r2 : Nat, q_R A a0 2 = some r2 ∧ q_sh A r2 = (5, 0) ∧ q_Wc G M_X4_stationAt [.ref r2, .int x1] A (q_KR fun o7 A4 => (o7 = none → (∀ z, q_sz A4 ≤ z → X "java/lang/IndexOutOfBoundsException" (q_grow A4 z))) ∧ (∀ r5 : Nat, o7 = some r5 → q_sh A4 a0 = (11, 0) ∧ q_Wc G M_X10_remember [.ref a0] A4 (q_KV fun A8 => q_sh A8 r5 = (7, 0) ∧ ∃ r12 : Nat, q_R A8 r5 8 = some r12 ∧ q_sh A8 r12 = (3, 0) ∧ q_Wc G M_X2_clear [.ref r12] A8 (q_KV fun A15 => q_sh A15 a0 = (11, 0) ∧ ∃ r18 : Nat, q_R A15 a0 2 = some r18 ∧ q_sh A15 r18 = (5, 0) ∧ ∃ r21 : Nat, q_R A15 r18 9 = some r21 ∧ q_sh A15 r21 = (9, 0) ∧ f (q_I A8 r12 1) (q_setI A15 r21 9 ((q_I A15 r21 9) + (q_I A8 r12 1)))) q_nX) q_nX)) q_nX) : q_Wc G M_X10_clean [.ref a0, .int x1] A (q_KI f) X := by
  refine q_Wc.of [some (.ref a0), some (.int x1), none, none] mo_X10_clean.2.2.2.2.2 rfl (Nat.le_of_ble_eq_true rfl) rfl ?_
  refine q_blk (pc' := 1) (lo' := [some (.ref a0), some (.int x1), none, none]) (st' := [.ref a0]) [.aload_n 0] (by decide +kernel) rfl ?_
  obtain ⟨s1, h⟩ := h
  obtain ⟨r2, e3, h⟩ := h
  refine q_getR fl_X10_16 rfl (by decide) (by decide +kernel) s1 e3 ?_
  refine q_blk (pc' := 5) (lo' := [some (.ref a0), some (.int x1), none, none]) (st' := [.int x1, .ref r2]) [.iload_n 1] (by decide +kernel) rfl ?_
  obtain ⟨s6, h⟩ := h
  refine q_callV (ci := 4) (Mc := M_X4_stationAt) (z := 1) (b := r2) (As := [.int x1]) (st := []) mo_X4_stationAt mi_X4_stationAt ml_X10_123_X4_stationAt rfl rfl (by decide) rfl (by decide) (by decide) rfl (Nat.le_of_ble_eq_true rfl) (by decide +kernel) s6 h (q_fR (fun A4 h => ?_) (fun r5 A4 h => ?_))
  · have h := h.1 rfl
    show q_Wp _ _ _ _ 0 0 8 [some (.ref a0), some (.int x1), none, none] [.null] A4
    refine q_blk (pc' := 10) (lo' := [some (.ref a0), some (.int x1), some (.null), none]) (st' := [.null]) [.astore_n 2, .aload_n 2] (by decide +kernel) rfl ?_
    refine q_nnl_n (off := 13) (by decide +kernel) ?_
    exact q_throw (ik := 112) (is := 127) (ic := 116) (i := 6) (cls := "java/lang/IndexOutOfBoundsException") th_X10_112_116_B.1 th_X10_112_116_B.2.1 th_X10_112_116_B.2.2.1 rfl rfl rfl th_X10_112_116_B.2.2.2.1 th_X10_112_116_B.2.2.2.2.1 th_X10_112_116_B.2.2.2.2.2 rfl ⟨by decide, Nat.le_of_ble_eq_true rfl⟩ (by decide) (by decide +kernel) (by decide +kernel) (by decide +kernel) (by decide +kernel) (by decide +kernel) h
  · have h := h.2 r5 rfl
    show q_Wp _ _ _ _ 0 0 8 [some (.ref a0), some (.int x1), none, none] [.ref r5] A4
    refine q_blk (pc' := 10) (lo' := [some (.ref a0), some (.int x1), some (.ref r5), none]) (st' := [.ref r5]) [.astore_n 2, .aload_n 2] (by decide +kernel) rfl ?_
    refine q_nnl_y 23 (off := 13) (by decide +kernel) (by decide) ?_
    refine q_blk (pc' := 24) (lo' := [some (.ref a0), some (.int x1), some (.ref r5), none]) (st' := [.ref a0]) [.aload_n 0] (by decide +kernel) rfl ?_
    obtain ⟨s10, h⟩ := h
    refine q_callV (ci := 10) (Mc := M_X10_remember) (z := 0) (b := a0) (As := []) (st := []) mo_X10_remember mi_X10_remember ml_X10_287_X10_remember rfl rfl (by decide) rfl (by decide) (by decide) rfl (Nat.le_of_ble_eq_true rfl) (by decide +kernel) s10 h (q_fV fun A8 h => ?_)
    show q_Wp _ _ _ _ 277 1205 27 [some (.ref a0), some (.int x1), some (.ref r5), none] [] A8
    refine q_blk (pc' := 28) (lo' := [some (.ref a0), some (.int x1), some (.ref r5), none]) (st' := [.ref r5]) [.aload_n 2] (by decide +kernel) rfl ?_
    obtain ⟨s11, h⟩ := h
    obtain ⟨r12, e13, h⟩ := h
    refine q_getR fl_X10_149 rfl (by decide) (by decide +kernel) s11 e13 ?_
    obtain ⟨s14, h⟩ := h
    refine q_getI fl_X10_153 rfl (by decide) (by decide +kernel) s14 ?_
    refine q_blk (pc' := 36) (lo' := [some (.ref a0), some (.int x1), some (.ref r5), some (.int (q_I A8 r12 1))]) (st' := [.ref r5]) [.istore_n 3, .aload_n 2] (by decide +kernel) rfl ?_
    refine q_getR fl_X10_149 rfl (by decide) (by decide +kernel) s11 e13 ?_
    refine q_callV (ci := 2) (Mc := M_X2_clear) (z := 0) (b := r12) (As := []) (st := []) mo_X2_clear mi_X2_clear ml_X10_340_X2_clear rfl rfl (by decide) rfl (by decide) (by decide) rfl (Nat.le_of_ble_eq_true rfl) (by decide +kernel) s14 h (q_fV fun A15 h => ?_)
    show q_Wp _ _ _ _ 277 1205 42 [some (.ref a0), some (.int x1), some (.ref r5), some (.int (q_I A8 r12 1))] [] A15
    refine q_blk (pc' := 43) (lo' := [some (.ref a0), some (.int x1), some (.ref r5), some (.int (q_I A8 r12 1))]) (st' := [.ref a0]) [.aload_n 0] (by decide +kernel) rfl ?_
    obtain ⟨s17, h⟩ := h
    obtain ⟨r18, e19, h⟩ := h
    refine q_getR fl_X10_16 rfl (by decide) (by decide +kernel) s17 e19 ?_
    obtain ⟨s20, h⟩ := h
    obtain ⟨r21, e22, h⟩ := h
    refine q_getR fl_X10_72 rfl (by decide) (by decide +kernel) s20 e22 ?_
    refine q_blk (pc' := 50) (lo' := [some (.ref a0), some (.int x1), some (.ref r5), some (.int (q_I A8 r12 1))]) (st' := [.ref r21, .ref r21]) [.dup] (by decide +kernel) rfl ?_
    obtain ⟨s23, h⟩ := h
    refine q_getI fl_X10_266 rfl (by decide) (by decide +kernel) s23 ?_
    refine q_blk (pc' := 55) (lo' := [some (.ref a0), some (.int x1), some (.ref r5), some (.int (q_I A8 r12 1))]) (st' := [.int ((q_I A15 r21 9) + (q_I A8 r12 1)), .ref r21]) [.iload_n 3, .iadd] (by decide +kernel) rfl ?_
    refine q_putI fw_X10_266 rfl (by decide) (by decide +kernel) s23 ?_
    refine q_blk (pc' := 59) (lo' := [some (.ref a0), some (.int x1), some (.ref r5), some (.int (q_I A8 r12 1))]) (st' := [.int (q_I A8 r12 1)]) [.iload_n 3] (by decide +kernel) rfl ?_
    exact q_retI rfl (by decide) (by decide) (by decide +kernel) ⟨_, rfl, h⟩
theorem f_X10_undo {G : q_G} {X : String → q_H → Prop} {f : Int32 → q_H → Prop} {A : q_H} {a0 : Nat} (h : q_sh A a0 = (11, 0) ∧ (((q_I A a0 5) = nI 0 → f (-1) A) ∧ (¬ (q_I A a0 5) = nI 0 → (((q_I A a0 6) = nI 0 → ∃ r18 : Nat, q_R A a0 4 = some r18 ∧ ∃ z21 : Nat, q_sh A r18 = (64, z21) ∧ z21 < 2147483648 ∧ ∃ j23 : Nat, (q_I (q_setI (q_setI A a0 6 (nI 5)) a0 5 ((q_I (q_setI A a0 6 (nI 5)) a0 5) - (nI 1))) a0 6) = nI j23 ∧ j23 < z21 ∧ ((q_R A r18 j23 = none → f (q_I (q_setI (q_setI A a0 6 (nI 5)) a0 5 ((q_I (q_setI A a0 6 (nI 5)) a0 5) - (nI 1))) a0 5) (q_setI (q_setI A a0 6 (nI 5)) a0 5 ((q_I (q_setI A a0 6 (nI 5)) a0 5) - (nI 1)))) ∧ (∀ r27 : Nat, q_R A r18 j23 = some r27 → ∃ r28 : Nat, q_R A a0 2 = some r28 ∧ q_sh A r28 = (5, 0) ∧ f (q_I (q_setR (q_setR (q_setI (q_setI A a0 6 (nI 5)) a0 5 ((q_I (q_setI A a0 6 (nI 5)) a0 5) - (nI 1))) r18 j23 (some r28)) a0 2 (some r27)) a0 5) (q_setR (q_setR (q_setI (q_setI A a0 6 (nI 5)) a0 5 ((q_I (q_setI A a0 6 (nI 5)) a0 5) - (nI 1))) r18 j23 (some r28)) a0 2 (some r27))))) ∧ (¬ (q_I A a0 6) = nI 0 → ∃ r4 : Nat, q_R A a0 4 = some r4 ∧ ∃ z7 : Nat, q_sh A r4 = (64, z7) ∧ z7 < 2147483648 ∧ ∃ j9 : Nat, (q_I (q_setI (q_setI A a0 6 ((q_I A a0 6) - (nI 1))) a0 5 ((q_I (q_setI A a0 6 ((q_I A a0 6) - (nI 1))) a0 5) - (nI 1))) a0 6) = nI j9 ∧ j9 < z7 ∧ ((q_R A r4 j9 = none → f (q_I (q_setI (q_setI A a0 6 ((q_I A a0 6) - (nI 1))) a0 5 ((q_I (q_setI A a0 6 ((q_I A a0 6) - (nI 1))) a0 5) - (nI 1))) a0 5) (q_setI (q_setI A a0 6 ((q_I A a0 6) - (nI 1))) a0 5 ((q_I (q_setI A a0 6 ((q_I A a0 6) - (nI 1))) a0 5) - (nI 1)))) ∧ (∀ r13 : Nat, q_R A r4 j9 = some r13 → ∃ r14 : Nat, q_R A a0 2 = some r14 ∧ q_sh A r14 = (5, 0) ∧ (∀ A17 : q_H, A17 = (q_setR (q_setR (q_setI (q_setI A a0 6 ((q_I A a0 6) - (nI 1))) a0 5 ((q_I (q_setI A a0 6 ((q_I A a0 6) - (nI 1))) a0 5) - (nI 1))) r4 j9 (some r14)) a0 2 (some r13)) → f (q_I A17 a0 5) A17)))))))) : q_Wc G M_X10_undo [.ref a0] A (q_KI f) X := by
  refine q_Wc.of [some (.ref a0), none] mo_X10_undo.2.2.2.2.2 rfl (Nat.le_of_ble_eq_true rfl) rfl ?_
  refine q_blk (pc' := 1) (lo' := [some (.ref a0), none]) (st' := [.ref a0]) [.aload_n 0] (by decide +kernel) rfl ?_
  obtain ⟨s1, h⟩ := h
  refine q_getI fl_X10_55 rfl (by decide) (by decide +kernel) s1 ?_
  refine q_if_ne 9 (off := 5) (by decide +kernel) (by decide) (fun c2 => ?_) (fun c2 => ?_)
  · have h := h.2 c2
    refine q_blk (pc' := 11) (lo' := [some (.ref a0), none]) (st' := [.ref a0, .ref a0]) [.aload_n 0, .aload_n 0] (by decide +kernel) rfl ?_
    refine q_getI fl_X10_343 rfl (by decide) (by decide +kernel) s1 ?_
    refine q_if_ne 21 (off := 7) (by decide +kernel) (by decide) (fun c3 => ?_) (fun c3 => ?_)
    · have h := h.2 c3
      refine q_blk (pc' := 22) (lo' := [some (.ref a0), none]) (st' := [.ref a0, .ref a0]) [.aload_n 0] (by decide +kernel) rfl ?_
      refine q_getI fl_X10_343 rfl (by decide) (by decide +kernel) s1 ?_
      refine q_blk (pc' := 27) (lo' := [some (.ref a0), none]) (st' := [.int ((q_I A a0 6) - (nI 1)), .ref a0]) [.iconst 1, .isub] (by decide +kernel) rfl ?_
      refine q_putI fw_X10_343 rfl (by decide) (by decide +kernel) s1 ?_
      refine q_blk (pc' := 32) (lo' := [some (.ref a0), none]) (st' := [.ref a0, .ref a0]) [.aload_n 0, .dup] (by decide +kernel) rfl ?_
      refine q_getI fl_X10_55 rfl (by decide) (by decide +kernel) s1 ?_
      refine q_blk (pc' := 37) (lo' := [some (.ref a0), none]) (st' := [.int ((q_I (q_setI A a0 6 ((q_I A a0 6) - (nI 1))) a0 5) - (nI 1)), .ref a0]) [.iconst 1, .isub] (by decide +kernel) rfl ?_
      refine q_putI fw_X10_55 rfl (by decide) (by decide +kernel) s1 ?_
      refine q_blk (pc' := 41) (lo' := [some (.ref a0), none]) (st' := [.ref a0]) [.aload_n 0] (by decide +kernel) rfl ?_
      obtain ⟨r4, e5, h⟩ := h
      refine q_getR fl_X10_20 rfl (by decide) (by decide +kernel) s1 e5 ?_
      refine q_blk (pc' := 45) (lo' := [some (.ref a0), none]) (st' := [.ref a0, .ref r4]) [.aload_n 0] (by decide +kernel) rfl ?_
      refine q_getI fl_X10_343 rfl (by decide) (by decide +kernel) s1 ?_
      obtain ⟨z7, s6, b8, h⟩ := h
      obtain ⟨j9, e10, h⟩ := h
      obtain ⟨l11, h⟩ := h
      cases e12 : q_R A r4 j9 with
      | none =>
        have h := h.1 e12
        refine q_aaldN (q_rk4 G) e10 (by decide +kernel) s6 l11 b8 e12 ?_
        refine q_blk (pc' := 51) (lo' := [some (.ref a0), some (.null)]) (st' := [.null]) [.astore_n 1, .aload_n 1] (by decide +kernel) rfl ?_
        refine q_nul_y 72 (off := 21) (by decide +kernel) (by decide) ?_
        refine q_blk (pc' := 73) (lo' := [some (.ref a0), some (.null)]) (st' := [.ref a0]) [.aload_n 0] (by decide +kernel) rfl ?_
        refine q_getI fl_X10_55 rfl (by decide) (by decide +kernel) s1 ?_
        exact q_retI rfl (by decide) (by decide) (by decide +kernel) ⟨_, rfl, h⟩
      | some r13 =>
        have h := h.2 r13 e12
        refine q_aaldS (q_rk4 G) e10 (by decide +kernel) s6 l11 b8 e12 ?_
        refine q_blk (pc' := 51) (lo' := [some (.ref a0), some (.ref r13)]) (st' := [.ref r13]) [.astore_n 1, .aload_n 1] (by decide +kernel) rfl ?_
        refine q_nul_n (off := 21) (by decide +kernel) ?_
        refine q_blk (pc' := 55) (lo' := [some (.ref a0), some (.ref r13)]) (st' := [.ref a0]) [.aload_n 0] (by decide +kernel) rfl ?_
        refine q_getR fl_X10_20 rfl (by decide) (by decide +kernel) s1 e5 ?_
        refine q_blk (pc' := 59) (lo' := [some (.ref a0), some (.ref r13)]) (st' := [.ref a0, .ref r4]) [.aload_n 0] (by decide +kernel) rfl ?_
        refine q_getI fl_X10_343 rfl (by decide) (by decide +kernel) s1 ?_
        refine q_blk (pc' := 63) (lo' := [some (.ref a0), some (.ref r13)]) (st' := [.ref a0, .int (q_I (q_setI (q_setI A a0 6 ((q_I A a0 6) - (nI 1))) a0 5 ((q_I (q_setI A a0 6 ((q_I A a0 6) - (nI 1))) a0 5) - (nI 1))) a0 6), .ref r4]) [.aload_n 0] (by decide +kernel) rfl ?_
        obtain ⟨r14, e15, h⟩ := h
        refine q_getR fl_X10_16 rfl (by decide) (by decide +kernel) s1 e15 ?_
        obtain ⟨s16, h⟩ := h
        refine q_aast (r := some r14) (q_rk4 G) (by decide) e10 (by decide +kernel) s6 l11 b8 (fun _ q9 => by cases q9; exact s16) ?_
        refine q_blk (pc' := 69) (lo' := [some (.ref a0), some (.ref r13)]) (st' := [.ref r13, .ref a0]) [.aload_n 0, .aload_n 1] (by decide +kernel) rfl ?_
        refine q_putR (v := (some r13)) fw_X10_16 rfl (by decide) (by decide +kernel) s1 ?_
        let A17 : q_H := (q_setR (q_setR (q_setI (q_setI A a0 6 ((q_I A a0 6) - (nI 1))) a0 5 ((q_I (q_setI A a0 6 ((q_I A a0 6) - (nI 1))) a0 5) - (nI 1))) r4 j9 (some r14)) a0 2 (some r13))
        have h := h A17 rfl
        show q_Wp _ _ _ _ 0 0 72 [some (.ref a0), some (.ref r13)] [] A17
        refine q_blk (pc' := 73) (lo' := [some (.ref a0), some (.ref r13)]) (st' := [.ref a0]) [.aload_n 0] (by decide +kernel) rfl ?_
        refine q_getI fl_X10_55 rfl (by decide) (by decide +kernel) s1 ?_
        exact q_retI rfl (by decide) (by decide) (by decide +kernel) ⟨_, rfl, h⟩
    · have h := h.1 c3
      refine q_blk (pc' := 18) (lo' := [some (.ref a0), none]) (st' := [.int (nI 5), .ref a0]) [.iconst 5] (by decide +kernel) rfl ?_
      refine q_goto 27 (off := 9) (by decide +kernel) (by decide) ?_
      refine q_putI fw_X10_343 rfl (by decide) (by decide +kernel) s1 ?_
      refine q_blk (pc' := 32) (lo' := [some (.ref a0), none]) (st' := [.ref a0, .ref a0]) [.aload_n 0, .dup] (by decide +kernel) rfl ?_
      refine q_getI fl_X10_55 rfl (by decide) (by decide +kernel) s1 ?_
      refine q_blk (pc' := 37) (lo' := [some (.ref a0), none]) (st' := [.int ((q_I (q_setI A a0 6 (nI 5)) a0 5) - (nI 1)), .ref a0]) [.iconst 1, .isub] (by decide +kernel) rfl ?_
      refine q_putI fw_X10_55 rfl (by decide) (by decide +kernel) s1 ?_
      refine q_blk (pc' := 41) (lo' := [some (.ref a0), none]) (st' := [.ref a0]) [.aload_n 0] (by decide +kernel) rfl ?_
      obtain ⟨r18, e19, h⟩ := h
      refine q_getR fl_X10_20 rfl (by decide) (by decide +kernel) s1 e19 ?_
      refine q_blk (pc' := 45) (lo' := [some (.ref a0), none]) (st' := [.ref a0, .ref r18]) [.aload_n 0] (by decide +kernel) rfl ?_
      refine q_getI fl_X10_343 rfl (by decide) (by decide +kernel) s1 ?_
      obtain ⟨z21, s20, b22, h⟩ := h
      obtain ⟨j23, e24, h⟩ := h
      obtain ⟨l25, h⟩ := h
      cases e26 : q_R A r18 j23 with
      | none =>
        have h := h.1 e26
        refine q_aaldN (q_rk4 G) e24 (by decide +kernel) s20 l25 b22 e26 ?_
        refine q_blk (pc' := 51) (lo' := [some (.ref a0), some (.null)]) (st' := [.null]) [.astore_n 1, .aload_n 1] (by decide +kernel) rfl ?_
        refine q_nul_y 72 (off := 21) (by decide +kernel) (by decide) ?_
        refine q_blk (pc' := 73) (lo' := [some (.ref a0), some (.null)]) (st' := [.ref a0]) [.aload_n 0] (by decide +kernel) rfl ?_
        refine q_getI fl_X10_55 rfl (by decide) (by decide +kernel) s1 ?_
        exact q_retI rfl (by decide) (by decide) (by decide +kernel) ⟨_, rfl, h⟩
      | some r27 =>
        have h := h.2 r27 e26
        refine q_aaldS (q_rk4 G) e24 (by decide +kernel) s20 l25 b22 e26 ?_
        refine q_blk (pc' := 51) (lo' := [some (.ref a0), some (.ref r27)]) (st' := [.ref r27]) [.astore_n 1, .aload_n 1] (by decide +kernel) rfl ?_
        refine q_nul_n (off := 21) (by decide +kernel) ?_
        refine q_blk (pc' := 55) (lo' := [some (.ref a0), some (.ref r27)]) (st' := [.ref a0]) [.aload_n 0] (by decide +kernel) rfl ?_
        refine q_getR fl_X10_20 rfl (by decide) (by decide +kernel) s1 e19 ?_
        refine q_blk (pc' := 59) (lo' := [some (.ref a0), some (.ref r27)]) (st' := [.ref a0, .ref r18]) [.aload_n 0] (by decide +kernel) rfl ?_
        refine q_getI fl_X10_343 rfl (by decide) (by decide +kernel) s1 ?_
        refine q_blk (pc' := 63) (lo' := [some (.ref a0), some (.ref r27)]) (st' := [.ref a0, .int (q_I (q_setI (q_setI A a0 6 (nI 5)) a0 5 ((q_I (q_setI A a0 6 (nI 5)) a0 5) - (nI 1))) a0 6), .ref r18]) [.aload_n 0] (by decide +kernel) rfl ?_
        obtain ⟨r28, e29, h⟩ := h
        refine q_getR fl_X10_16 rfl (by decide) (by decide +kernel) s1 e29 ?_
        obtain ⟨s30, h⟩ := h
        refine q_aast (r := some r28) (q_rk4 G) (by decide) e24 (by decide +kernel) s20 l25 b22 (fun _ q9 => by cases q9; exact s30) ?_
        refine q_blk (pc' := 69) (lo' := [some (.ref a0), some (.ref r27)]) (st' := [.ref r27, .ref a0]) [.aload_n 0, .aload_n 1] (by decide +kernel) rfl ?_
        refine q_putR (v := (some r27)) fw_X10_16 rfl (by decide) (by decide +kernel) s1 ?_
        refine q_blk (pc' := 73) (lo' := [some (.ref a0), some (.ref r27)]) (st' := [.ref a0]) [.aload_n 0] (by decide +kernel) rfl ?_
        refine q_getI fl_X10_55 rfl (by decide) (by decide +kernel) s1 ?_
        exact q_retI rfl (by decide) (by decide) (by decide +kernel) ⟨_, rfl, h⟩
  · have h := h.1 c2
    refine q_blk (pc' := 8) (lo' := [some (.ref a0), none]) (st' := [.int (-1)]) [.iconst (-1)] (by decide +kernel) rfl ?_
    exact q_retI rfl (by decide) (by decide) (by decide +kernel) ⟨_, rfl, h⟩
theorem f_X10_bestBuyer {G : q_G} {X : String → q_H → Prop} {f : Int32 → q_H → Prop} {A : q_H} {a0 : Nat} {x1 : Int32} (h : q_sh A a0 = (11, 0) ∧ ∃ r2 : Nat, q_R A a0 2 = some r2 ∧ q_sh A r2 = (5, 0) ∧ ∃ r5 : Nat, q_R A r2 7 = some r5 ∧ q_sh A r5 = (8, 0) ∧ q_Wc G M_X7_baleAt [.ref r5, .int x1] A (q_KR fun o10 A7 => (o10 = none → (∀ z, q_sz A7 ≤ z → X "java/lang/IndexOutOfBoundsException" (q_grow A7 z))) ∧ (∀ r8 : Nat, o10 = some r8 → q_Wp G M_X10_bestBuyer (q_KI f) X 0 0 34 [some (.ref a0), none, some (.ref r8), some (.int (-1)), some (.int (-1)), some (.int (nI 0)), none, none] [] A7)) q_nX) : q_Wc G M_X10_bestBuyer [.ref a0, .int x1] A (q_KI f) X := by
  refine q_Wc.of [some (.ref a0), some (.int x1), none, none, none, none, none, none] mo_X10_bestBuyer.2.2.2.2.2 rfl (Nat.le_of_ble_eq_true rfl) rfl ?_
  refine q_blk (pc' := 1) (lo' := [some (.ref a0), some (.int x1), none, none, none, none, none, none]) (st' := [.ref a0]) [.aload_n 0] (by decide +kernel) rfl ?_
  obtain ⟨s1, h⟩ := h
  obtain ⟨r2, e3, h⟩ := h
  refine q_getR fl_X10_16 rfl (by decide) (by decide +kernel) s1 e3 ?_
  obtain ⟨s4, h⟩ := h
  obtain ⟨r5, e6, h⟩ := h
  refine q_getR fl_X10_93 rfl (by decide) (by decide +kernel) s4 e6 ?_
  refine q_blk (pc' := 8) (lo' := [some (.ref a0), some (.int x1), none, none, none, none, none, none]) (st' := [.int x1, .ref r5]) [.iload_n 1] (by decide +kernel) rfl ?_
  obtain ⟨s9, h⟩ := h
  refine q_callV (ci := 7) (Mc := M_X7_baleAt) (z := 1) (b := r5) (As := [.int x1]) (st := []) mo_X7_baleAt mi_X7_baleAt ml_X10_198_X7_baleAt rfl rfl (by decide) rfl (by decide) (by decide) rfl (Nat.le_of_ble_eq_true rfl) (by decide +kernel) s9 h (q_fR (fun A7 h => ?_) (fun r8 A7 h => ?_))
  · have h := h.1 rfl
    show q_Wp _ _ _ _ 0 0 11 [some (.ref a0), some (.int x1), none, none, none, none, none, none] [.null] A7
    refine q_blk (pc' := 13) (lo' := [some (.ref a0), some (.int x1), some (.null), none, none, none, none, none]) (st' := [.null]) [.astore_n 2, .aload_n 2] (by decide +kernel) rfl ?_
    refine q_nnl_n (off := 13) (by decide +kernel) ?_
    exact q_throw (ik := 112) (is := 202) (ic := 116) (i := 10) (cls := "java/lang/IndexOutOfBoundsException") th_X10_112_116_B.1 th_X10_112_116_B.2.1 th_X10_112_116_B.2.2.1 rfl rfl rfl th_X10_112_116_B.2.2.2.1 th_X10_112_116_B.2.2.2.2.1 th_X10_112_116_B.2.2.2.2.2 rfl ⟨by decide, Nat.le_of_ble_eq_true rfl⟩ (by decide) (by decide +kernel) (by decide +kernel) (by decide +kernel) (by decide +kernel) (by decide +kernel) h
  · have h := h.2 r8 rfl
    show q_Wp _ _ _ _ 0 0 11 [some (.ref a0), some (.int x1), none, none, none, none, none, none] [.ref r8] A7
    refine q_blk (pc' := 13) (lo' := [some (.ref a0), some (.int x1), some (.ref r8), none, none, none, none, none]) (st' := [.ref r8]) [.astore_n 2, .aload_n 2] (by decide +kernel) rfl ?_
    refine q_nnl_y 26 (off := 13) (by decide +kernel) (by decide) ?_
    refine q_blk (pc' := 34) (lo' := [some (.ref a0), some (.int x1), some (.ref r8), some (.int (-1)), some (.int (-1)), some (.int (nI 0)), none, none]) (st' := []) [.iconst (-1), .istore_n 3, .iconst (-1), .istore 4, .iconst 0, .istore 5] (by decide +kernel) rfl ?_
    exact q_wk [some (.ref a0), none, some (.ref r8), some (.int (-1)), some (.int (-1)), some (.int (nI 0)), none, none] (And.intro rfl (And.intro rfl (And.intro rfl (And.intro rfl (And.intro rfl trivial))))) h
theorem f_X10_bestBuyer_34 {G : q_G} {X : String → q_H → Prop} {f : Int32 → q_H → Prop} {A : q_H} {a0 : Nat} {a2 : Nat} {x3 : Int32} {x4 : Int32} {x5 : Int32} {k n : Nat} (h : q_sh A a0 = (11, 0) ∧ ∃ r2 : Nat, q_R A a0 2 = some r2 ∧ q_sh A r2 = (5, 0) ∧ (((q_I A r2 5) ≤ x5 → (k ≤ 1 ∧ n ≤ 6) ∧ f x3 A) ∧ (¬ (q_I A r2 5) ≤ x5 → ∃ r7 : Nat, q_R A r2 4 = some r7 ∧ ∃ z10 : Nat, q_sh A r7 = (61, z10) ∧ z10 < 2147483648 ∧ ∃ j12 : Nat, x5 = nI j12 ∧ j12 < z10 ∧ ∃ r15 : Nat, q_R A r7 j12 = some r15 ∧ (k ≤ 1 ∧ n ≤ 6) ∧ q_sh A r15 = (2, 0) ∧ q_Wc G M_X1_takes [.ref r15, .ref a2] A (q_KB fun b19 A18 => ((b19 = true → (k ≤ 1 ∧ n ≤ 6) ∧ q_sh A18 r15 = (2, 0) ∧ q_Wc G M_X1_sendsBack [.ref r15, .ref a2] A18 (q_KB fun b25 A24 => ((b25 = true → q_Wp G M_X10_bestBuyer (q_KI f) X k n 34 [some (.ref a0), none, some (.ref a2), some (.int x3), some (.int x4), some (.int (x5 + (nI 1))), none, none] [] A24) ∧ (b25 = false → q_sh A24 a0 = (11, 0) ∧ ∃ r30 : Nat, q_R A24 a0 2 = some r30 ∧ q_sh A24 r30 = (5, 0) ∧ ∃ r33 : Nat, q_R A24 r30 1 = some r33 ∧ ∃ z36 : Nat, q_sh A24 r33 = (50, z36) ∧ z36 < 2147483648 ∧ 7 < z36 ∧ (k ≤ 1 ∧ n ≤ 6) ∧ q_sh A24 r15 = (2, 0) ∧ q_Wc G M_X1_payFor [.ref r15, .ref a2, .int (q_I A24 r33 7)] A24 (q_KI fun r41 A40 => ((r41 ≤ x4 → q_Wp G M_X10_bestBuyer (q_KI f) X k n 34 [some (.ref a0), none, some (.ref a2), some (.int x3), some (.int x4), some (.int (x5 + (nI 1))), none, none] [] A40) ∧ (¬ r41 ≤ x4 → q_Wp G M_X10_bestBuyer (q_KI f) X k n 34 [some (.ref a0), none, some (.ref a2), some (.int x5), some (.int r41), some (.int (x5 + (nI 1))), none, none] [] A40))) q_nX))) q_nX) ∧ (b19 = false → q_Wp G M_X10_bestBuyer (q_KI f) X k n 34 [some (.ref a0), none, some (.ref a2), some (.int x3), some (.int x4), some (.int (x5 + (nI 1))), none, none] [] A18))) q_nX))) : q_Wp G M_X10_bestBuyer (q_KI f) X k n 34 [some (.ref a0), none, some (.ref a2), some (.int x3), some (.int x4), some (.int x5), none, none] [] A := by
  refine q_blk (pc' := 37) (lo' := [some (.ref a0), none, some (.ref a2), some (.int x3), some (.int x4), some (.int x5), none, none]) (st' := [.ref a0, .int x5]) [.iload 5, .aload_n 0] (by decide +kernel) rfl ?_
  obtain ⟨s1, h⟩ := h
  obtain ⟨r2, e3, h⟩ := h
  refine q_getR fl_X10_16 rfl (by decide) (by decide +kernel) s1 e3 ?_
  obtain ⟨s4, h⟩ := h
  refine q_getI fl_X10_69 rfl (by decide) (by decide +kernel) s4 ?_
  refine q_icmp_ge 114 (off := 71) (by decide +kernel) (by decide) (fun c5 => ?_) (fun c5 => ?_)
  · have h := h.1 c5
    refine q_blk (pc' := 115) (lo' := [some (.ref a0), none, some (.ref a2), some (.int x3), some (.int x4), some (.int x5), none, none]) (st' := [.int x3]) [.iload_n 3] (by decide +kernel) rfl ?_
    obtain ⟨g6, h⟩ := h
    exact q_retI rfl g6.1 g6.2 (by decide +kernel) ⟨_, rfl, h⟩
  · have h := h.2 c5
    refine q_blk (pc' := 47) (lo' := [some (.ref a0), none, some (.ref a2), some (.int x3), some (.int x4), some (.int x5), none, none]) (st' := [.ref a0]) [.aload_n 0] (by decide +kernel) rfl ?_
    refine q_getR fl_X10_16 rfl (by decide) (by decide +kernel) s1 e3 ?_
    obtain ⟨r7, e8, h⟩ := h
    refine q_getR fl_X10_346 rfl (by decide) (by decide +kernel) s4 e8 ?_
    refine q_blk (pc' := 55) (lo' := [some (.ref a0), none, some (.ref a2), some (.int x3), some (.int x4), some (.int x5), none, none]) (st' := [.int x5, .ref r7]) [.iload 5] (by decide +kernel) rfl ?_
    obtain ⟨z10, s9, b11, h⟩ := h
    obtain ⟨j12, e13, h⟩ := h
    obtain ⟨l14, h⟩ := h
    obtain ⟨r15, e16, h⟩ := h
    refine q_aaldS (q_rk1 G) e13 (by decide +kernel) s9 l14 b11 e16 ?_
    refine q_blk (pc' := 61) (lo' := [some (.ref a0), none, some (.ref a2), some (.int x3), some (.int x4), some (.int x5), some (.ref r15), none]) (st' := [.ref a2, .ref r15]) [.astore 6, .aload 6, .aload_n 2] (by decide +kernel) rfl ?_
    obtain ⟨g17, h⟩ := h
    obtain ⟨s20, h⟩ := h
    refine q_callV (ci := 1) (Mc := M_X1_takes) (z := 1) (b := r15) (As := [.ref a2]) (st := []) mo_X1_takes mi_X1_takes ml_X10_320_X1_takes rfl rfl (by decide) rfl (by decide) g17 rfl (Nat.le_of_ble_eq_true rfl) (by decide +kernel) s20 h (q_fB fun b19 A18 h => ?_)
    show q_Wp _ _ _ _ k n 64 [some (.ref a0), none, some (.ref a2), some (.int x3), some (.int x4), some (.int x5), some (.ref r15), none] [.int (q_i b19)] A18
    refine q_ifB_eq 108 (off := 44) (by decide +kernel) (by decide) (fun c21 => ?_) (fun c21 => ?_)
    · have h := h.2 c21
      refine q_blk (pc' := 111) (lo' := [some (.ref a0), none, some (.ref a2), some (.int x3), some (.int x4), some (.int (x5 + (nI 1))), some (.ref r15), none]) (st' := []) [.iinc 5 1] (by decide +kernel) rfl ?_
      refine q_goto 34 (off := -77) (by decide +kernel) (by decide) ?_
      exact q_wk [some (.ref a0), none, some (.ref a2), some (.int x3), some (.int x4), some (.int (x5 + (nI 1))), none, none] (And.intro rfl (And.intro rfl (And.intro rfl (And.intro rfl (And.intro rfl trivial))))) h
    · have h := h.1 c21
      refine q_blk (pc' := 70) (lo' := [some (.ref a0), none, some (.ref a2), some (.int x3), some (.int x4), some (.int x5), some (.ref r15), none]) (st' := [.ref a2, .ref r15]) [.aload 6, .aload_n 2] (by decide +kernel) rfl ?_
      obtain ⟨g23, h⟩ := h
      obtain ⟨s26, h⟩ := h
      refine q_callV (ci := 1) (Mc := M_X1_sendsBack) (z := 1) (b := r15) (As := [.ref a2]) (st := []) mo_X1_sendsBack mi_X1_sendsBack ml_X10_326_X1_sendsBack rfl rfl (by decide) rfl (by decide) g23 rfl (Nat.le_of_ble_eq_true rfl) (by decide +kernel) s26 h (q_fB fun b25 A24 h => ?_)
      show q_Wp _ _ _ _ k n 73 [some (.ref a0), none, some (.ref a2), some (.int x3), some (.int x4), some (.int x5), some (.ref r15), none] [.int (q_i b25)] A24
      refine q_ifB_ne 108 (off := 35) (by decide +kernel) (by decide) (fun c27 => ?_) (fun c27 => ?_)
      · have h := h.1 c27
        refine q_blk (pc' := 111) (lo' := [some (.ref a0), none, some (.ref a2), some (.int x3), some (.int x4), some (.int (x5 + (nI 1))), some (.ref r15), none]) (st' := []) [.iinc 5 1] (by decide +kernel) rfl ?_
        refine q_goto 34 (off := -77) (by decide +kernel) (by decide) ?_
        exact q_wk [some (.ref a0), none, some (.ref a2), some (.int x3), some (.int x4), some (.int (x5 + (nI 1))), none, none] (And.intro rfl (And.intro rfl (And.intro rfl (And.intro rfl (And.intro rfl trivial))))) h
      · have h := h.2 c27
        refine q_blk (pc' := 80) (lo' := [some (.ref a0), none, some (.ref a2), some (.int x3), some (.int x4), some (.int x5), some (.ref r15), none]) (st' := [.ref a0, .ref a2, .ref r15]) [.aload 6, .aload_n 2, .aload_n 0] (by decide +kernel) rfl ?_
        obtain ⟨s29, h⟩ := h
        obtain ⟨r30, e31, h⟩ := h
        refine q_getR fl_X10_16 rfl (by decide) (by decide +kernel) s29 e31 ?_
        obtain ⟨s32, h⟩ := h
        obtain ⟨r33, e34, h⟩ := h
        refine q_getR fl_X10_119 rfl (by decide) (by decide +kernel) s32 e34 ?_
        refine q_blk (pc' := 88) (lo' := [some (.ref a0), none, some (.ref a2), some (.int x3), some (.int x4), some (.int x5), some (.ref r15), none]) (st' := [.int (nI 7), .ref r33, .ref a2, .ref r15]) [.bipush 7] (by decide +kernel) rfl ?_
        obtain ⟨z36, s35, b37, h⟩ := h
        obtain ⟨l38, h⟩ := h
        refine q_iald rfl (by decide +kernel) s35 l38 b37 ?_
        obtain ⟨g39, h⟩ := h
        obtain ⟨s42, h⟩ := h
        refine q_callV (ci := 1) (Mc := M_X1_payFor) (z := 2) (b := r15) (As := [.ref a2, .int (q_I A24 r33 7)]) (st := []) mo_X1_payFor mi_X1_payFor ml_X10_350_X1_payFor rfl rfl (by decide) rfl (by decide) g39 rfl (Nat.le_of_ble_eq_true rfl) (by decide +kernel) s42 h (q_fI fun r41 A40 h => ?_)
        show q_Wp _ _ _ _ k n 92 [some (.ref a0), none, some (.ref a2), some (.int x3), some (.int x4), some (.int x5), some (.ref r15), none] [.int r41] A40
        refine q_blk (pc' := 98) (lo' := [some (.ref a0), none, some (.ref a2), some (.int x3), some (.int x4), some (.int x5), some (.ref r15), some (.int r41)]) (st' := [.int x4, .int r41]) [.istore 7, .iload 7, .iload 4] (by decide +kernel) rfl ?_
        refine q_icmp_le 108 (off := 10) (by decide +kernel) (by decide) (fun c43 => ?_) (fun c43 => ?_)
        · have h := h.1 c43
          refine q_blk (pc' := 111) (lo' := [some (.ref a0), none, some (.ref a2), some (.int x3), some (.int x4), some (.int (x5 + (nI 1))), some (.ref r15), some (.int r41)]) (st' := []) [.iinc 5 1] (by decide +kernel) rfl ?_
          refine q_goto 34 (off := -77) (by decide +kernel) (by decide) ?_
          exact q_wk [some (.ref a0), none, some (.ref a2), some (.int x3), some (.int x4), some (.int (x5 + (nI 1))), none, none] (And.intro rfl (And.intro rfl (And.intro rfl (And.intro rfl (And.intro rfl trivial))))) h
        · have h := h.2 c43
          refine q_blk (pc' := 111) (lo' := [some (.ref a0), none, some (.ref a2), some (.int x5), some (.int r41), some (.int (x5 + (nI 1))), some (.ref r15), some (.int r41)]) (st' := []) [.iload 7, .istore 4, .iload 5, .istore_n 3, .iinc 5 1] (by decide +kernel) rfl ?_
          refine q_goto 34 (off := -77) (by decide +kernel) (by decide) ?_
          exact q_wk [some (.ref a0), none, some (.ref a2), some (.int x5), some (.int r41), some (.int (x5 + (nI 1))), none, none] (And.intro rfl (And.intro rfl (And.intro rfl (And.intro rfl (And.intro rfl trivial))))) h
theorem f_X10_outlook {G : q_G} {X : String → q_H → Prop} {f : Int32 → q_H → Prop} {A : q_H} {a0 : Nat} {x1 : Int32} {x2 : Int32} (h : ((x1 < (nI 1) → (∀ z, q_sz A ≤ z → X "java/lang/IllegalArgumentException" (q_grow A z))) ∧ (¬ x1 < (nI 1) → (((nI 200) < x1 → (∀ z, q_sz A ≤ z → X "java/lang/IllegalArgumentException" (q_grow A z))) ∧ (¬ (nI 200) < x1 → ((x2 < nI 0 → (∀ z, q_sz A ≤ z → X "java/lang/IllegalArgumentException" (q_grow A z))) ∧ (¬ x2 < nI 0 → ((x2 ≤ (nI 4) → q_sh A a0 = (11, 0) ∧ q_Wc G M_X10_copyOfLine [.ref a0] A (q_KR fun o8 A5 => ∃ r6 : Nat, o8 = some r6 ∧ q_sh A5 r6 = (5, 0) ∧ q_Wc G M_X4_makeTicks [.ref r6, .int x1] A5 (q_KV fun A9 => ((x2 = nI 0 → q_sh A9 r6 = (5, 0) ∧ ∃ r14 : Nat, q_R A9 r6 9 = some r14 ∧ q_sh A9 r14 = (9, 0) ∧ q_sh A9 a0 = (11, 0) ∧ ∃ r18 : Nat, q_R A9 a0 2 = some r18 ∧ q_sh A9 r18 = (5, 0) ∧ ∃ r21 : Nat, q_R A9 r18 9 = some r21 ∧ q_sh A9 r21 = (9, 0) ∧ f ((q_I A9 r14 1) - (q_I A9 r21 1)) A9) ∧ (x2 = nI 1 → q_sh A9 r6 = (5, 0) ∧ ∃ r25 : Nat, q_R A9 r6 9 = some r25 ∧ q_sh A9 r25 = (9, 0) ∧ q_sh A9 a0 = (11, 0) ∧ ∃ r29 : Nat, q_R A9 a0 2 = some r29 ∧ q_sh A9 r29 = (5, 0) ∧ ∃ r32 : Nat, q_R A9 r29 9 = some r32 ∧ q_sh A9 r32 = (9, 0) ∧ f ((q_I A9 r25 2) - (q_I A9 r32 2)) A9) ∧ (x2 = nI 2 → q_sh A9 r6 = (5, 0) ∧ ∃ r36 : Nat, q_R A9 r6 8 = some r36 ∧ q_sh A9 r36 = (3, 0) ∧ q_sh A9 a0 = (11, 0) ∧ ∃ r40 : Nat, q_R A9 a0 2 = some r40 ∧ q_sh A9 r40 = (5, 0) ∧ ∃ r43 : Nat, q_R A9 r40 8 = some r43 ∧ q_sh A9 r43 = (3, 0) ∧ f ((q_I A9 r36 1) - (q_I A9 r43 1)) A9) ∧ (x2 = nI 3 → q_sh A9 r6 = (5, 0) ∧ ∃ r47 : Nat, q_R A9 r6 9 = some r47 ∧ q_sh A9 r47 = (9, 0) ∧ q_sh A9 a0 = (11, 0) ∧ ∃ r51 : Nat, q_R A9 a0 2 = some r51 ∧ q_sh A9 r51 = (5, 0) ∧ ∃ r54 : Nat, q_R A9 r51 9 = some r54 ∧ q_sh A9 r54 = (9, 0) ∧ f ((q_I A9 r47 3) - (q_I A9 r54 3)) A9) ∧ ((∀ j, j < 4 → ¬ x2 = nI j) → q_sh A9 r6 = (5, 0) ∧ q_Wc G M_X4_greatestTiredness [.ref r6] A9 (q_KI fun r58 A57 => f r58 A57) q_nX))) q_nX) q_nX) ∧ (¬ x2 ≤ (nI 4) → (∀ z, q_sz A ≤ z → X "java/lang/IllegalArgumentException" (q_grow A z))))))))))) : q_Wc G M_X10_outlook [.ref a0, .int x1, .int x2] A (q_KI f) X := by
  refine q_Wc.of [some (.ref a0), some (.int x1), some (.int x2), none] mo_X10_outlook.2.2.2.2.2 rfl (Nat.le_of_ble_eq_true rfl) rfl ?_
  refine q_blk (pc' := 2) (lo' := [some (.ref a0), some (.int x1), some (.int x2), none]) (st' := [.int (nI 1), .int x1]) [.iload_n 1, .iconst 1] (by decide +kernel) rfl ?_
  refine q_icmp_lt 21 (off := 19) (by decide +kernel) (by decide) (fun c1 => ?_) (fun c1 => ?_)
  · have h := h.1 c1
    exact q_throwW (ik := 178) (is := 354) (ic := 182) (i := 22) (cls := "java/lang/IllegalArgumentException") th_X10_178_182_A.1 th_X10_178_182_A.2.1 th_X10_178_182_A.2.2.1 rfl rfl rfl th_X10_178_182_A.2.2.2.1 th_X10_178_182_A.2.2.2.2.1 th_X10_178_182_A.2.2.2.2.2 rfl ⟨by decide, Nat.le_of_ble_eq_true rfl⟩ (by decide) (by decide +kernel) (by decide +kernel) (by decide +kernel) (by decide +kernel) (by decide +kernel) h
  · have h := h.2 c1
    refine q_blk (pc' := 9) (lo' := [some (.ref a0), some (.int x1), some (.int x2), none]) (st' := [.int (nI 200), .int x1]) [.iload_n 1, .sipush 200] (by decide +kernel) rfl ?_
    refine q_icmp_gt 21 (off := 12) (by decide +kernel) (by decide) (fun c2 => ?_) (fun c2 => ?_)
    · have h := h.1 c2
      exact q_throwW (ik := 178) (is := 354) (ic := 182) (i := 22) (cls := "java/lang/IllegalArgumentException") th_X10_178_182_A.1 th_X10_178_182_A.2.1 th_X10_178_182_A.2.2.1 rfl rfl rfl th_X10_178_182_A.2.2.2.1 th_X10_178_182_A.2.2.2.2.1 th_X10_178_182_A.2.2.2.2.2 rfl ⟨by decide, Nat.le_of_ble_eq_true rfl⟩ (by decide) (by decide +kernel) (by decide +kernel) (by decide +kernel) (by decide +kernel) (by decide +kernel) h
    · have h := h.2 c2
      refine q_blk (pc' := 13) (lo' := [some (.ref a0), some (.int x1), some (.int x2), none]) (st' := [.int x2]) [.iload_n 2] (by decide +kernel) rfl ?_
      refine q_if_lt 21 (off := 8) (by decide +kernel) (by decide) (fun c3 => ?_) (fun c3 => ?_)
      · have h := h.1 c3
        exact q_throwW (ik := 178) (is := 354) (ic := 182) (i := 22) (cls := "java/lang/IllegalArgumentException") th_X10_178_182_A.1 th_X10_178_182_A.2.1 th_X10_178_182_A.2.2.1 rfl rfl rfl th_X10_178_182_A.2.2.2.1 th_X10_178_182_A.2.2.2.2.1 th_X10_178_182_A.2.2.2.2.2 rfl ⟨by decide, Nat.le_of_ble_eq_true rfl⟩ (by decide) (by decide +kernel) (by decide +kernel) (by decide +kernel) (by decide +kernel) (by decide +kernel) h
      · have h := h.2 c3
        refine q_blk (pc' := 18) (lo' := [some (.ref a0), some (.int x1), some (.int x2), none]) (st' := [.int (nI 4), .int x2]) [.iload_n 2, .iconst 4] (by decide +kernel) rfl ?_
        refine q_icmp_le 32 (off := 14) (by decide +kernel) (by decide) (fun c4 => ?_) (fun c4 => ?_)
        · have h := h.1 c4
          refine q_blk (pc' := 33) (lo' := [some (.ref a0), some (.int x1), some (.int x2), none]) (st' := [.ref a0]) [.aload_n 0] (by decide +kernel) rfl ?_
          obtain ⟨s7, h⟩ := h
          refine q_callV (ci := 10) (Mc := M_X10_copyOfLine) (z := 0) (b := a0) (As := []) (st := []) mo_X10_copyOfLine mi_X10_copyOfLine ml_X10_356_X10_copyOfLine rfl rfl (by decide) rfl (by decide) (by decide) rfl (Nat.le_of_ble_eq_true rfl) (by decide +kernel) s7 h (q_fR (fun A5 h => ?_) (fun r6 A5 h => ?_))
          · obtain ⟨_, q9, h⟩ := h
            cases q9
          · obtain ⟨_, q9, h⟩ := h
            cases q9
            show q_Wp _ _ _ _ 277 1205 36 [some (.ref a0), some (.int x1), some (.int x2), none] [.ref r6] A5
            refine q_blk (pc' := 39) (lo' := [some (.ref a0), some (.int x1), some (.int x2), some (.ref r6)]) (st' := [.int x1, .ref r6]) [.astore_n 3, .aload_n 3, .iload_n 1] (by decide +kernel) rfl ?_
            obtain ⟨s11, h⟩ := h
            refine q_callV (ci := 4) (Mc := M_X4_makeTicks) (z := 1) (b := r6) (As := [.int x1]) (st := []) mo_X4_makeTicks mi_X4_makeTicks ml_X10_315_X4_makeTicks rfl rfl (by decide) rfl (by decide) (by decide) rfl (Nat.le_of_ble_eq_true rfl) (by decide +kernel) s11 h (q_fV fun A9 h => ?_)
            show q_Wp _ _ _ _ 277 1205 42 [some (.ref a0), some (.int x1), some (.int x2), some (.ref r6)] [] A9
            refine q_blk (pc' := 43) (lo' := [some (.ref a0), some (.int x1), some (.int x2), some (.ref r6)]) (st' := [.int x2]) [.iload_n 2] (by decide +kernel) rfl ?_
            have hd43 := sw_X10_outlook_43
            refine q_tsw [72, 91, 110, 129] 148 (hd43) (by rfl) (by decide) (by rfl) (by decide) (And.intro (fun c12 => ?_) (And.intro (fun c12 => ?_) (And.intro (fun c12 => ?_) (And.intro (fun c12 => ?_) trivial)))) (fun c12 => ?_)
            · have h := h.1 c12
              refine q_blk (pc' := 73) (lo' := [some (.ref a0), some (.int x1), some (.int x2), some (.ref r6)]) (st' := [.ref r6]) [.aload_n 3] (by decide +kernel) rfl ?_
              obtain ⟨s13, h⟩ := h
              obtain ⟨r14, e15, h⟩ := h
              refine q_getR fl_X10_72 rfl (by decide) (by decide +kernel) s13 e15 ?_
              obtain ⟨s16, h⟩ := h
              refine q_getI fl_X10_100 rfl (by decide) (by decide +kernel) s16 ?_
              refine q_blk (pc' := 80) (lo' := [some (.ref a0), some (.int x1), some (.int x2), some (.ref r6)]) (st' := [.ref a0, .int (q_I A9 r14 1)]) [.aload_n 0] (by decide +kernel) rfl ?_
              obtain ⟨s17, h⟩ := h
              obtain ⟨r18, e19, h⟩ := h
              refine q_getR fl_X10_16 rfl (by decide) (by decide +kernel) s17 e19 ?_
              obtain ⟨s20, h⟩ := h
              obtain ⟨r21, e22, h⟩ := h
              refine q_getR fl_X10_72 rfl (by decide) (by decide +kernel) s20 e22 ?_
              obtain ⟨s23, h⟩ := h
              refine q_getI fl_X10_100 rfl (by decide) (by decide +kernel) s23 ?_
              refine q_blk (pc' := 90) (lo' := [some (.ref a0), some (.int x1), some (.int x2), some (.ref r6)]) (st' := [.int ((q_I A9 r14 1) - (q_I A9 r21 1))]) [.isub] (by decide +kernel) rfl ?_
              exact q_retI rfl (by decide) (by decide) (by decide +kernel) ⟨_, rfl, h⟩
            · have h := h.2.1 c12
              refine q_blk (pc' := 92) (lo' := [some (.ref a0), some (.int x1), some (.int x2), some (.ref r6)]) (st' := [.ref r6]) [.aload_n 3] (by decide +kernel) rfl ?_
              obtain ⟨s24, h⟩ := h
              obtain ⟨r25, e26, h⟩ := h
              refine q_getR fl_X10_72 rfl (by decide) (by decide +kernel) s24 e26 ?_
              obtain ⟨s27, h⟩ := h
              refine q_getI fl_X10_359 rfl (by decide) (by decide +kernel) s27 ?_
              refine q_blk (pc' := 99) (lo' := [some (.ref a0), some (.int x1), some (.int x2), some (.ref r6)]) (st' := [.ref a0, .int (q_I A9 r25 2)]) [.aload_n 0] (by decide +kernel) rfl ?_
              obtain ⟨s28, h⟩ := h
              obtain ⟨r29, e30, h⟩ := h
              refine q_getR fl_X10_16 rfl (by decide) (by decide +kernel) s28 e30 ?_
              obtain ⟨s31, h⟩ := h
              obtain ⟨r32, e33, h⟩ := h
              refine q_getR fl_X10_72 rfl (by decide) (by decide +kernel) s31 e33 ?_
              obtain ⟨s34, h⟩ := h
              refine q_getI fl_X10_359 rfl (by decide) (by decide +kernel) s34 ?_
              refine q_blk (pc' := 109) (lo' := [some (.ref a0), some (.int x1), some (.int x2), some (.ref r6)]) (st' := [.int ((q_I A9 r25 2) - (q_I A9 r32 2))]) [.isub] (by decide +kernel) rfl ?_
              exact q_retI rfl (by decide) (by decide) (by decide +kernel) ⟨_, rfl, h⟩
            · have h := h.2.2.1 c12
              refine q_blk (pc' := 111) (lo' := [some (.ref a0), some (.int x1), some (.int x2), some (.ref r6)]) (st' := [.ref r6]) [.aload_n 3] (by decide +kernel) rfl ?_
              obtain ⟨s35, h⟩ := h
              obtain ⟨r36, e37, h⟩ := h
              refine q_getR fl_X10_263 rfl (by decide) (by decide +kernel) s35 e37 ?_
              obtain ⟨s38, h⟩ := h
              refine q_getI fl_X10_153 rfl (by decide) (by decide +kernel) s38 ?_
              refine q_blk (pc' := 118) (lo' := [some (.ref a0), some (.int x1), some (.int x2), some (.ref r6)]) (st' := [.ref a0, .int (q_I A9 r36 1)]) [.aload_n 0] (by decide +kernel) rfl ?_
              obtain ⟨s39, h⟩ := h
              obtain ⟨r40, e41, h⟩ := h
              refine q_getR fl_X10_16 rfl (by decide) (by decide +kernel) s39 e41 ?_
              obtain ⟨s42, h⟩ := h
              obtain ⟨r43, e44, h⟩ := h
              refine q_getR fl_X10_263 rfl (by decide) (by decide +kernel) s42 e44 ?_
              obtain ⟨s45, h⟩ := h
              refine q_getI fl_X10_153 rfl (by decide) (by decide +kernel) s45 ?_
              refine q_blk (pc' := 128) (lo' := [some (.ref a0), some (.int x1), some (.int x2), some (.ref r6)]) (st' := [.int ((q_I A9 r36 1) - (q_I A9 r43 1))]) [.isub] (by decide +kernel) rfl ?_
              exact q_retI rfl (by decide) (by decide) (by decide +kernel) ⟨_, rfl, h⟩
            · have h := h.2.2.2.1 c12
              refine q_blk (pc' := 130) (lo' := [some (.ref a0), some (.int x1), some (.int x2), some (.ref r6)]) (st' := [.ref r6]) [.aload_n 3] (by decide +kernel) rfl ?_
              obtain ⟨s46, h⟩ := h
              obtain ⟨r47, e48, h⟩ := h
              refine q_getR fl_X10_72 rfl (by decide) (by decide +kernel) s46 e48 ?_
              obtain ⟨s49, h⟩ := h
              refine q_getI fl_X10_362 rfl (by decide) (by decide +kernel) s49 ?_
              refine q_blk (pc' := 137) (lo' := [some (.ref a0), some (.int x1), some (.int x2), some (.ref r6)]) (st' := [.ref a0, .int (q_I A9 r47 3)]) [.aload_n 0] (by decide +kernel) rfl ?_
              obtain ⟨s50, h⟩ := h
              obtain ⟨r51, e52, h⟩ := h
              refine q_getR fl_X10_16 rfl (by decide) (by decide +kernel) s50 e52 ?_
              obtain ⟨s53, h⟩ := h
              obtain ⟨r54, e55, h⟩ := h
              refine q_getR fl_X10_72 rfl (by decide) (by decide +kernel) s53 e55 ?_
              obtain ⟨s56, h⟩ := h
              refine q_getI fl_X10_362 rfl (by decide) (by decide +kernel) s56 ?_
              refine q_blk (pc' := 147) (lo' := [some (.ref a0), some (.int x1), some (.int x2), some (.ref r6)]) (st' := [.int ((q_I A9 r47 3) - (q_I A9 r54 3))]) [.isub] (by decide +kernel) rfl ?_
              exact q_retI rfl (by decide) (by decide) (by decide +kernel) ⟨_, rfl, h⟩
            · have h := h.2.2.2.2 c12
              refine q_blk (pc' := 149) (lo' := [some (.ref a0), some (.int x1), some (.int x2), some (.ref r6)]) (st' := [.ref r6]) [.aload_n 3] (by decide +kernel) rfl ?_
              obtain ⟨s59, h⟩ := h
              refine q_callV (ci := 4) (Mc := M_X4_greatestTiredness) (z := 0) (b := r6) (As := []) (st := []) mo_X4_greatestTiredness mi_X4_greatestTiredness ml_X10_365_X4_greatestTiredness rfl rfl (by decide) rfl (by decide) (by decide) rfl (Nat.le_of_ble_eq_true rfl) (by decide +kernel) s59 h (q_fI fun r58 A57 h => ?_)
              show q_Wp _ _ _ _ 277 1205 152 [some (.ref a0), some (.int x1), some (.int x2), some (.ref r6)] [.int r58] A57
              exact q_retI rfl (by decide) (by decide) (by decide +kernel) ⟨_, rfl, h⟩
        · have h := h.2 c4
          exact q_throwW (ik := 178) (is := 354) (ic := 182) (i := 22) (cls := "java/lang/IllegalArgumentException") th_X10_178_182_A.1 th_X10_178_182_A.2.1 th_X10_178_182_A.2.2.1 rfl rfl rfl th_X10_178_182_A.2.2.2.1 th_X10_178_182_A.2.2.2.2.1 th_X10_178_182_A.2.2.2.2.2 rfl ⟨by decide, Nat.le_of_ble_eq_true rfl⟩ (by decide) (by decide +kernel) (by decide +kernel) (by decide +kernel) (by decide +kernel) (by decide +kernel) h
theorem f_X10_bestStaff {G : q_G} {X : String → q_H → Prop} {f : Int32 → q_H → Prop} {A : q_H} {a0 : Nat} {x1 : Int32} {x2 : Int32} (h : q_sh A a0 = (11, 0) ∧ ∃ r2 : Nat, q_R A a0 2 = some r2 ∧ q_sh A r2 = (5, 0) ∧ q_Wc G M_X4_stationAt [.ref r2, .int x1] A (q_KR fun o7 A4 => (o7 = none → (∀ z, q_sz A4 ≤ z → X "java/lang/IndexOutOfBoundsException" (q_grow A4 z))) ∧ (∀ r5 : Nat, o7 = some r5 → ((x2 < (nI 1) → (∀ z, q_sz A4 ≤ z → X "java/lang/IllegalArgumentException" (q_grow A4 z))) ∧ (¬ x2 < (nI 1) → ((x2 ≤ (nI 100) → q_Wp G M_X10_bestStaff (q_KI f) X 0 0 54 [some (.ref a0), some (.int x1), some (.int x2), none, some (.int (nI 0)), some (.int (-1)), some (.int (nI 0)), none] [] A4) ∧ (¬ x2 ≤ (nI 100) → (∀ z, q_sz A4 ≤ z → X "java/lang/IllegalArgumentException" (q_grow A4 z)))))))) q_nX) : q_Wc G M_X10_bestStaff [.ref a0, .int x1, .int x2] A (q_KI f) X := by
  refine q_Wc.of [some (.ref a0), some (.int x1), some (.int x2), none, none, none, none, none] mo_X10_bestStaff.2.2.2.2.2 rfl (Nat.le_of_ble_eq_true rfl) rfl ?_
  refine q_blk (pc' := 1) (lo' := [some (.ref a0), some (.int x1), some (.int x2), none, none, none, none, none]) (st' := [.ref a0]) [.aload_n 0] (by decide +kernel) rfl ?_
  obtain ⟨s1, h⟩ := h
  obtain ⟨r2, e3, h⟩ := h
  refine q_getR fl_X10_16 rfl (by decide) (by decide +kernel) s1 e3 ?_
  refine q_blk (pc' := 5) (lo' := [some (.ref a0), some (.int x1), some (.int x2), none, none, none, none, none]) (st' := [.int x1, .ref r2]) [.iload_n 1] (by decide +kernel) rfl ?_
  obtain ⟨s6, h⟩ := h
  refine q_callV (ci := 4) (Mc := M_X4_stationAt) (z := 1) (b := r2) (As := [.int x1]) (st := []) mo_X4_stationAt mi_X4_stationAt ml_X10_123_X4_stationAt rfl rfl (by decide) rfl (by decide) (by decide) rfl (Nat.le_of_ble_eq_true rfl) (by decide +kernel) s6 h (q_fR (fun A4 h => ?_) (fun r5 A4 h => ?_))
  · have h := h.1 rfl
    show q_Wp _ _ _ _ 0 0 8 [some (.ref a0), some (.int x1), some (.int x2), none, none, none, none, none] [.null] A4
    refine q_blk (pc' := 10) (lo' := [some (.ref a0), some (.int x1), some (.int x2), some (.null), none, none, none, none]) (st' := [.null]) [.astore_n 3, .aload_n 3] (by decide +kernel) rfl ?_
    refine q_nnl_n (off := 13) (by decide +kernel) ?_
    exact q_throw (ik := 112) (is := 127) (ic := 116) (i := 6) (cls := "java/lang/IndexOutOfBoundsException") th_X10_112_116_B.1 th_X10_112_116_B.2.1 th_X10_112_116_B.2.2.1 rfl rfl rfl th_X10_112_116_B.2.2.2.1 th_X10_112_116_B.2.2.2.2.1 th_X10_112_116_B.2.2.2.2.2 rfl ⟨by decide, Nat.le_of_ble_eq_true rfl⟩ (by decide) (by decide +kernel) (by decide +kernel) (by decide +kernel) (by decide +kernel) (by decide +kernel) h
  · have h := h.2 r5 rfl
    show q_Wp _ _ _ _ 0 0 8 [some (.ref a0), some (.int x1), some (.int x2), none, none, none, none, none] [.ref r5] A4
    refine q_blk (pc' := 10) (lo' := [some (.ref a0), some (.int x1), some (.int x2), some (.ref r5), none, none, none, none]) (st' := [.ref r5]) [.astore_n 3, .aload_n 3] (by decide +kernel) rfl ?_
    refine q_nnl_y 23 (off := 13) (by decide +kernel) (by decide) ?_
    refine q_blk (pc' := 25) (lo' := [some (.ref a0), some (.int x1), some (.int x2), some (.ref r5), none, none, none, none]) (st' := [.int (nI 1), .int x2]) [.iload_n 2, .iconst 1] (by decide +kernel) rfl ?_
    refine q_icmp_lt 34 (off := 9) (by decide +kernel) (by decide) (fun c8 => ?_) (fun c8 => ?_)
    · have h := h.1 c8
      exact q_throwW (ik := 178) (is := 311) (ic := 182) (i := 18) (cls := "java/lang/IllegalArgumentException") th_X10_178_182_A.1 th_X10_178_182_A.2.1 th_X10_178_182_A.2.2.1 rfl rfl rfl th_X10_178_182_A.2.2.2.1 th_X10_178_182_A.2.2.2.2.1 th_X10_178_182_A.2.2.2.2.2 rfl ⟨by decide, Nat.le_of_ble_eq_true rfl⟩ (by decide) (by decide +kernel) (by decide +kernel) (by decide +kernel) (by decide +kernel) (by decide +kernel) h
    · have h := h.2 c8
      refine q_blk (pc' := 31) (lo' := [some (.ref a0), some (.int x1), some (.int x2), some (.ref r5), none, none, none, none]) (st' := [.int (nI 100), .int x2]) [.iload_n 2, .bipush 100] (by decide +kernel) rfl ?_
      refine q_icmp_le 45 (off := 14) (by decide +kernel) (by decide) (fun c9 => ?_) (fun c9 => ?_)
      · have h := h.1 c9
        refine q_blk (pc' := 54) (lo' := [some (.ref a0), some (.int x1), some (.int x2), some (.ref r5), some (.int (nI 0)), some (.int (-1)), some (.int (nI 0)), none]) (st' := []) [.iconst 0, .istore 4, .iconst (-1), .istore 5, .iconst 0, .istore 6] (by decide +kernel) rfl ?_
        exact q_wk [some (.ref a0), some (.int x1), some (.int x2), none, some (.int (nI 0)), some (.int (-1)), some (.int (nI 0)), none] (And.intro rfl (And.intro rfl (And.intro rfl (And.intro rfl (And.intro rfl (And.intro rfl trivial)))))) h
      · have h := h.2 c9
        exact q_throwW (ik := 178) (is := 311) (ic := 182) (i := 18) (cls := "java/lang/IllegalArgumentException") th_X10_178_182_A.1 th_X10_178_182_A.2.1 th_X10_178_182_A.2.2.1 rfl rfl rfl th_X10_178_182_A.2.2.2.1 th_X10_178_182_A.2.2.2.2.1 th_X10_178_182_A.2.2.2.2.2 rfl ⟨by decide, Nat.le_of_ble_eq_true rfl⟩ (by decide) (by decide +kernel) (by decide +kernel) (by decide +kernel) (by decide +kernel) (by decide +kernel) h
theorem f_X10_bestStaff_54 {G : q_G} {X : String → q_H → Prop} {f : Int32 → q_H → Prop} {A : q_H} {a0 : Nat} {x1 : Int32} {x2 : Int32} {x4 : Int32} {x5 : Int32} {x6 : Int32} {k n : Nat} (h : (((nI 9) < x6 → (k ≤ 279 ∧ n ≤ 1217) ∧ f x4 A) ∧ (¬ (nI 9) < x6 → (k + 277 ≤ 279 ∧ n + 1205 ≤ 1217) ∧ q_sh A a0 = (11, 0) ∧ q_Wc G M_X10_pickedWith [.ref a0, .int x1, .int x6, .int x2] A (q_KI fun r5 A4 => ((r5 ≤ x5 → q_Wp G M_X10_bestStaff (q_KI f) X (k + 277) (n + 1205) 54 [some (.ref a0), some (.int x1), some (.int x2), none, some (.int x4), some (.int x5), some (.int (x6 + (nI 1))), none] [] A4) ∧ (¬ r5 ≤ x5 → q_Wp G M_X10_bestStaff (q_KI f) X (k + 277) (n + 1205) 54 [some (.ref a0), some (.int x1), some (.int x2), none, some (.int x6), some (.int r5), some (.int (x6 + (nI 1))), none] [] A4))) q_nX))) : q_Wp G M_X10_bestStaff (q_KI f) X k n 54 [some (.ref a0), some (.int x1), some (.int x2), none, some (.int x4), some (.int x5), some (.int x6), none] [] A := by
  refine q_blk (pc' := 58) (lo' := [some (.ref a0), some (.int x1), some (.int x2), none, some (.int x4), some (.int x5), some (.int x6), none]) (st' := [.int (nI 9), .int x6]) [.iload 6, .bipush 9] (by decide +kernel) rfl ?_
  refine q_icmp_gt 92 (off := 34) (by decide +kernel) (by decide) (fun c1 => ?_) (fun c1 => ?_)
  · have h := h.1 c1
    refine q_blk (pc' := 94) (lo' := [some (.ref a0), some (.int x1), some (.int x2), none, some (.int x4), some (.int x5), some (.int x6), none]) (st' := [.int x4]) [.iload 4] (by decide +kernel) rfl ?_
    obtain ⟨g2, h⟩ := h
    exact q_retI rfl g2.1 g2.2 (by decide +kernel) ⟨_, rfl, h⟩
  · have h := h.2 c1
    refine q_blk (pc' := 66) (lo' := [some (.ref a0), some (.int x1), some (.int x2), none, some (.int x4), some (.int x5), some (.int x6), none]) (st' := [.int x2, .int x6, .int x1, .ref a0]) [.aload_n 0, .iload_n 1, .iload 6, .iload_n 2] (by decide +kernel) rfl ?_
    obtain ⟨g3, h⟩ := h
    obtain ⟨s6, h⟩ := h
    refine q_callV (ci := 10) (Mc := M_X10_pickedWith) (z := 3) (b := a0) (As := [.int x1, .int x6, .int x2]) (st := []) mo_X10_pickedWith mi_X10_pickedWith ml_X10_368_X10_pickedWith rfl rfl (by decide) rfl (by decide) g3 rfl (Nat.le_of_ble_eq_true rfl) (by decide +kernel) s6 h (q_fI fun r5 A4 h => ?_)
    show q_Wp _ _ _ _ (k + 277) (n + 1205) 69 [some (.ref a0), some (.int x1), some (.int x2), none, some (.int x4), some (.int x5), some (.int x6), none] [.int r5] A4
    refine q_blk (pc' := 75) (lo' := [some (.ref a0), some (.int x1), some (.int x2), none, some (.int x4), some (.int x5), some (.int x6), some (.int r5)]) (st' := [.int x5, .int r5]) [.istore 7, .iload 7, .iload 5] (by decide +kernel) rfl ?_
    refine q_icmp_le 86 (off := 11) (by decide +kernel) (by decide) (fun c7 => ?_) (fun c7 => ?_)
    · have h := h.1 c7
      refine q_blk (pc' := 89) (lo' := [some (.ref a0), some (.int x1), some (.int x2), none, some (.int x4), some (.int x5), some (.int (x6 + (nI 1))), some (.int r5)]) (st' := []) [.iinc 6 1] (by decide +kernel) rfl ?_
      refine q_goto 54 (off := -35) (by decide +kernel) (by decide) ?_
      exact q_wk [some (.ref a0), some (.int x1), some (.int x2), none, some (.int x4), some (.int x5), some (.int (x6 + (nI 1))), none] (And.intro rfl (And.intro rfl (And.intro rfl (And.intro rfl (And.intro rfl (And.intro rfl trivial)))))) h
    · have h := h.2 c7
      refine q_blk (pc' := 89) (lo' := [some (.ref a0), some (.int x1), some (.int x2), none, some (.int x6), some (.int r5), some (.int (x6 + (nI 1))), some (.int r5)]) (st' := []) [.iload 7, .istore 5, .iload 6, .istore 4, .iinc 6 1] (by decide +kernel) rfl ?_
      refine q_goto 54 (off := -35) (by decide +kernel) (by decide) ?_
      exact q_wk [some (.ref a0), some (.int x1), some (.int x2), none, some (.int x6), some (.int r5), some (.int (x6 + (nI 1))), none] (And.intro rfl (And.intro rfl (And.intro rfl (And.intro rfl (And.intro rfl (And.intro rfl trivial)))))) h
theorem f_X10_pickedWith {G : q_G} {X : String → q_H → Prop} {f : Int32 → q_H → Prop} {A : q_H} {a0 : Nat} {x1 : Int32} {x2 : Int32} {x3 : Int32} (h : q_sh A a0 = (11, 0) ∧ q_Wc G M_X10_copyOfLine [.ref a0] A (q_KR fun o4 A1 => ∃ r2 : Nat, o4 = some r2 ∧ q_sh A1 r2 = (5, 0) ∧ q_Wc G M_X4_stationAt [.ref r2, .int x1] A1 (q_KR fun o8 A5 => (o8 = none → f (nI 0) A5) ∧ (∀ r6 : Nat, o8 = some r6 → q_sh A5 r6 = (7, 0) ∧ q_Wc G M_X6_relieve [.ref r6, .int x2] A5 (q_KV fun A10 => q_sh A10 r2 = (5, 0) ∧ q_Wc G M_X4_makeTicks [.ref r2, .int x3] A10 (q_KV fun A12 => q_sh A12 r6 = (7, 0) ∧ f ((q_I A12 r6 6) - (q_I A5 r6 6)) A12) q_nX) q_nX)) q_nX) q_nX) : q_Wc G M_X10_pickedWith [.ref a0, .int x1, .int x2, .int x3] A (q_KI f) X := by
  refine q_Wc.of [some (.ref a0), some (.int x1), some (.int x2), some (.int x3), none, none, none] mo_X10_pickedWith.2.2.2.2.2 rfl (Nat.le_of_ble_eq_true rfl) rfl ?_
  refine q_blk (pc' := 1) (lo' := [some (.ref a0), some (.int x1), some (.int x2), some (.int x3), none, none, none]) (st' := [.ref a0]) [.aload_n 0] (by decide +kernel) rfl ?_
  obtain ⟨s3, h⟩ := h
  refine q_callV (ci := 10) (Mc := M_X10_copyOfLine) (z := 0) (b := a0) (As := []) (st := []) mo_X10_copyOfLine mi_X10_copyOfLine ml_X10_356_X10_copyOfLine rfl rfl (by decide) rfl (by decide) (by decide) rfl (Nat.le_of_ble_eq_true rfl) (by decide +kernel) s3 h (q_fR (fun A1 h => ?_) (fun r2 A1 h => ?_))
  · obtain ⟨_, q9, h⟩ := h
    cases q9
  · obtain ⟨_, q9, h⟩ := h
    cases q9
    show q_Wp _ _ _ _ 277 1205 4 [some (.ref a0), some (.int x1), some (.int x2), some (.int x3), none, none, none] [.ref r2] A1
    refine q_blk (pc' := 9) (lo' := [some (.ref a0), some (.int x1), some (.int x2), some (.int x3), some (.ref r2), none, none]) (st' := [.int x1, .ref r2]) [.astore 4, .aload 4, .iload_n 1] (by decide +kernel) rfl ?_
    obtain ⟨s7, h⟩ := h
    refine q_callV (ci := 4) (Mc := M_X4_stationAt) (z := 1) (b := r2) (As := [.int x1]) (st := []) mo_X4_stationAt mi_X4_stationAt ml_X10_123_X4_stationAt rfl rfl (by decide) rfl (by decide) (by decide) rfl (Nat.le_of_ble_eq_true rfl) (by decide +kernel) s7 h (q_fR (fun A5 h => ?_) (fun r6 A5 h => ?_))
    · have h := h.1 rfl
      show q_Wp _ _ _ _ 277 1205 12 [some (.ref a0), some (.int x1), some (.int x2), some (.int x3), some (.ref r2), none, none] [.null] A5
      refine q_blk (pc' := 16) (lo' := [some (.ref a0), some (.int x1), some (.int x2), some (.int x3), some (.ref r2), some (.null), none]) (st' := [.null]) [.astore 5, .aload 5] (by decide +kernel) rfl ?_
      refine q_nnl_n (off := 5) (by decide +kernel) ?_
      refine q_blk (pc' := 20) (lo' := [some (.ref a0), some (.int x1), some (.int x2), some (.int x3), some (.ref r2), some (.null), none]) (st' := [.int (nI 0)]) [.iconst 0] (by decide +kernel) rfl ?_
      exact q_retI rfl (by decide) (by decide) (by decide +kernel) ⟨_, rfl, h⟩
    · have h := h.2 r6 rfl
      show q_Wp _ _ _ _ 277 1205 12 [some (.ref a0), some (.int x1), some (.int x2), some (.int x3), some (.ref r2), none, none] [.ref r6] A5
      refine q_blk (pc' := 16) (lo' := [some (.ref a0), some (.int x1), some (.int x2), some (.int x3), some (.ref r2), some (.ref r6), none]) (st' := [.ref r6]) [.astore 5, .aload 5] (by decide +kernel) rfl ?_
      refine q_nnl_y 21 (off := 5) (by decide +kernel) (by decide) ?_
      refine q_blk (pc' := 23) (lo' := [some (.ref a0), some (.int x1), some (.int x2), some (.int x3), some (.ref r2), some (.ref r6), none]) (st' := [.ref r6]) [.aload 5] (by decide +kernel) rfl ?_
      obtain ⟨s9, h⟩ := h
      refine q_getI fl_X10_175 rfl (by decide) (by decide +kernel) s9 ?_
      refine q_blk (pc' := 31) (lo' := [some (.ref a0), some (.int x1), some (.int x2), some (.int x3), some (.ref r2), some (.ref r6), some (.int (q_I A5 r6 6))]) (st' := [.int x2, .ref r6]) [.istore 6, .aload 5, .iload_n 2] (by decide +kernel) rfl ?_
      refine q_callV (ci := 6) (Mc := M_X6_relieve) (z := 1) (b := r6) (As := [.int x2]) (st := []) mo_X6_relieve mi_X6_relieve ml_X10_308_X6_relieve rfl rfl (by decide) rfl (by decide) (by decide) rfl (Nat.le_of_ble_eq_true rfl) (by decide +kernel) s9 h (q_fV fun A10 h => ?_)
      show q_Wp _ _ _ _ 277 1205 34 [some (.ref a0), some (.int x1), some (.int x2), some (.int x3), some (.ref r2), some (.ref r6), some (.int (q_I A5 r6 6))] [] A10
      refine q_blk (pc' := 37) (lo' := [some (.ref a0), some (.int x1), some (.int x2), some (.int x3), some (.ref r2), some (.ref r6), some (.int (q_I A5 r6 6))]) (st' := [.int x3, .ref r2]) [.aload 4, .iload_n 3] (by decide +kernel) rfl ?_
      obtain ⟨s14, h⟩ := h
      refine q_callV (ci := 4) (Mc := M_X4_makeTicks) (z := 1) (b := r2) (As := [.int x3]) (st := []) mo_X4_makeTicks mi_X4_makeTicks ml_X10_315_X4_makeTicks rfl rfl (by decide) rfl (by decide) (by decide) rfl (Nat.le_of_ble_eq_true rfl) (by decide +kernel) s14 h (q_fV fun A12 h => ?_)
      show q_Wp _ _ _ _ 277 1205 40 [some (.ref a0), some (.int x1), some (.int x2), some (.int x3), some (.ref r2), some (.ref r6), some (.int (q_I A5 r6 6))] [] A12
      refine q_blk (pc' := 42) (lo' := [some (.ref a0), some (.int x1), some (.int x2), some (.int x3), some (.ref r2), some (.ref r6), some (.int (q_I A5 r6 6))]) (st' := [.ref r6]) [.aload 5] (by decide +kernel) rfl ?_
      obtain ⟨s15, h⟩ := h
      refine q_getI fl_X10_175 rfl (by decide) (by decide +kernel) s15 ?_
      refine q_blk (pc' := 48) (lo' := [some (.ref a0), some (.int x1), some (.int x2), some (.int x3), some (.ref r2), some (.ref r6), some (.int (q_I A5 r6 6))]) (st' := [.int ((q_I A12 r6 6) - (q_I A5 r6 6))]) [.iload 6, .isub] (by decide +kernel) rfl ?_
      exact q_retI rfl (by decide) (by decide) (by decide +kernel) ⟨_, rfl, h⟩
theorem f_X10_emptied {G : q_G} {X : String → q_H → Prop} {f : Int32 → q_H → Prop} {A : q_H} {a0 : Nat} (h : q_sh A a0 = (11, 0) ∧ q_Wc G M_X10_copyOfLine [.ref a0] A (q_KR fun o4 A1 => ∃ r2 : Nat, o4 = some r2 ∧ q_Wp G M_X10_emptied (q_KI f) X 277 1205 7 [none, some (.ref r2), some (.int (nI 0))] [] A1) q_nX) : q_Wc G M_X10_emptied [.ref a0] A (q_KI f) X := by
  refine q_Wc.of [some (.ref a0), none, none] mo_X10_emptied.2.2.2.2.2 rfl (Nat.le_of_ble_eq_true rfl) rfl ?_
  refine q_blk (pc' := 1) (lo' := [some (.ref a0), none, none]) (st' := [.ref a0]) [.aload_n 0] (by decide +kernel) rfl ?_
  obtain ⟨s3, h⟩ := h
  refine q_callV (ci := 10) (Mc := M_X10_copyOfLine) (z := 0) (b := a0) (As := []) (st := []) mo_X10_copyOfLine mi_X10_copyOfLine ml_X10_356_X10_copyOfLine rfl rfl (by decide) rfl (by decide) (by decide) rfl (Nat.le_of_ble_eq_true rfl) (by decide +kernel) s3 h (q_fR (fun A1 h => ?_) (fun r2 A1 h => ?_))
  · obtain ⟨_, q9, h⟩ := h
    cases q9
  · obtain ⟨_, q9, h⟩ := h
    cases q9
    show q_Wp _ _ _ _ 277 1205 4 [some (.ref a0), none, none] [.ref r2] A1
    refine q_blk (pc' := 7) (lo' := [some (.ref a0), some (.ref r2), some (.int (nI 0))]) (st' := []) [.astore_n 1, .iconst 0, .istore_n 2] (by decide +kernel) rfl ?_
    exact q_wk [none, some (.ref r2), some (.int (nI 0))] (And.intro rfl (And.intro rfl trivial)) h
theorem f_X10_emptied_7 {G : q_G} {X : String → q_H → Prop} {f : Int32 → q_H → Prop} {A : q_H} {a1 : Nat} {x2 : Int32} {k n : Nat} (h : (((nI 400) ≤ x2 → (k ≤ 277 ∧ n ≤ 1205) ∧ q_sh A a1 = (5, 0) ∧ q_Wc G M_X4_isEmptied [.ref a1] A (q_KB fun b4 A3 => ((b4 = true → (k ≤ 277 ∧ n ≤ 1205) ∧ f (nI 400) A3) ∧ (b4 = false → (k ≤ 277 ∧ n ≤ 1205) ∧ f (-1) A3))) q_nX) ∧ (¬ (nI 400) ≤ x2 → (k ≤ 277 ∧ n ≤ 1205) ∧ q_sh A a1 = (5, 0) ∧ q_Wc G M_X4_isEmptied [.ref a1] A (q_KB fun b12 A11 => ((b12 = true → (k ≤ 277 ∧ n ≤ 1205) ∧ f x2 A11) ∧ (b12 = false → (k ≤ 277 ∧ n ≤ 1205) ∧ q_sh A11 a1 = (5, 0) ∧ q_Wc G M_X4_makeTicks [.ref a1, .int (nI 1)] A11 (q_KV fun A17 => q_Wp G M_X10_emptied (q_KI f) X k n 7 [none, some (.ref a1), some (.int (x2 + (nI 1)))] [] A17) q_nX))) q_nX))) : q_Wp G M_X10_emptied (q_KI f) X k n 7 [none, some (.ref a1), some (.int x2)] [] A := by
  refine q_blk (pc' := 11) (lo' := [none, some (.ref a1), some (.int x2)]) (st' := [.int (nI 400), .int x2]) [.iload_n 2, .sipush 400] (by decide +kernel) rfl ?_
  refine q_icmp_ge 34 (off := 23) (by decide +kernel) (by decide) (fun c1 => ?_) (fun c1 => ?_)
  · have h := h.1 c1
    refine q_blk (pc' := 35) (lo' := [none, some (.ref a1), some (.int x2)]) (st' := [.ref a1]) [.aload_n 1] (by decide +kernel) rfl ?_
    obtain ⟨g2, h⟩ := h
    obtain ⟨s5, h⟩ := h
    refine q_callV (ci := 4) (Mc := M_X4_isEmptied) (z := 0) (b := a1) (As := []) (st := []) mo_X4_isEmptied mi_X4_isEmptied ml_X10_372_X4_isEmptied rfl rfl (by decide) rfl (by decide) g2 rfl (Nat.le_of_ble_eq_true rfl) (by decide +kernel) s5 h (q_fB fun b4 A3 h => ?_)
    show q_Wp _ _ _ _ k n 38 [none, some (.ref a1), some (.int x2)] [.int (q_i b4)] A3
    refine q_ifB_eq 47 (off := 9) (by decide +kernel) (by decide) (fun c6 => ?_) (fun c6 => ?_)
    · have h := h.2 c6
      refine q_blk (pc' := 48) (lo' := [none, some (.ref a1), some (.int x2)]) (st' := [.int (-1)]) [.iconst (-1)] (by decide +kernel) rfl ?_
      obtain ⟨g8, h⟩ := h
      exact q_retI rfl g8.1 g8.2 (by decide +kernel) ⟨_, rfl, h⟩
    · have h := h.1 c6
      refine q_blk (pc' := 44) (lo' := [none, some (.ref a1), some (.int x2)]) (st' := [.int (nI 400)]) [.sipush 400] (by decide +kernel) rfl ?_
      refine q_goto 48 (off := 4) (by decide +kernel) (by decide) ?_
      obtain ⟨g9, h⟩ := h
      exact q_retI rfl g9.1 g9.2 (by decide +kernel) ⟨_, rfl, h⟩
  · have h := h.2 c1
    refine q_blk (pc' := 15) (lo' := [none, some (.ref a1), some (.int x2)]) (st' := [.ref a1]) [.aload_n 1] (by decide +kernel) rfl ?_
    obtain ⟨g10, h⟩ := h
    obtain ⟨s13, h⟩ := h
    refine q_callV (ci := 4) (Mc := M_X4_isEmptied) (z := 0) (b := a1) (As := []) (st := []) mo_X4_isEmptied mi_X4_isEmptied ml_X10_372_X4_isEmptied rfl rfl (by decide) rfl (by decide) g10 rfl (Nat.le_of_ble_eq_true rfl) (by decide +kernel) s13 h (q_fB fun b12 A11 h => ?_)
    show q_Wp _ _ _ _ k n 18 [none, some (.ref a1), some (.int x2)] [.int (q_i b12)] A11
    refine q_ifB_eq 23 (off := 5) (by decide +kernel) (by decide) (fun c14 => ?_) (fun c14 => ?_)
    · have h := h.2 c14
      refine q_blk (pc' := 25) (lo' := [none, some (.ref a1), some (.int x2)]) (st' := [.int (nI 1), .ref a1]) [.aload_n 1, .iconst 1] (by decide +kernel) rfl ?_
      obtain ⟨g16, h⟩ := h
      obtain ⟨s19, h⟩ := h
      refine q_callV (ci := 4) (Mc := M_X4_makeTicks) (z := 1) (b := a1) (As := [.int (nI 1)]) (st := []) mo_X4_makeTicks mi_X4_makeTicks ml_X10_315_X4_makeTicks rfl rfl (by decide) rfl (by decide) g16 rfl (Nat.le_of_ble_eq_true rfl) (by decide +kernel) s19 h (q_fV fun A17 h => ?_)
      show q_Wp _ _ _ _ k n 28 [none, some (.ref a1), some (.int x2)] [] A17
      refine q_blk (pc' := 31) (lo' := [none, some (.ref a1), some (.int (x2 + (nI 1)))]) (st' := []) [.iinc 2 1] (by decide +kernel) rfl ?_
      refine q_goto 7 (off := -24) (by decide +kernel) (by decide) ?_
      exact h
    · have h := h.1 c14
      refine q_blk (pc' := 22) (lo' := [none, some (.ref a1), some (.int x2)]) (st' := [.int x2]) [.iload_n 2] (by decide +kernel) rfl ?_
      obtain ⟨g20, h⟩ := h
      exact q_retI rfl g20.1 g20.2 (by decide +kernel) ⟨_, rfl, h⟩
theorem f_X10_spareLine {G : q_G} {X : String → q_H → Prop} {f : Option Nat → q_H → Prop} {A : q_H} {a0 : Nat} (h : q_sh A a0 = (11, 0) ∧ ((q_R A a0 3 = none → q_Wc G M_X4_init [.ref (q_sz A)] (q_new A 5 0) (q_KV fun A5 => q_sh A5 a0 = (11, 0) ∧ ((q_R (q_setR A5 a0 3 (some (q_sz A))) a0 3 = none → f none (q_setR A5 a0 3 (some (q_sz A)))) ∧ (∀ r9 : Nat, q_R (q_setR A5 a0 3 (some (q_sz A))) a0 3 = some r9 → f (some r9) (q_setR A5 a0 3 (some (q_sz A)))))) q_nX) ∧ (∀ r3 : Nat, q_R A a0 3 = some r3 → ((q_R A a0 3 = none → f none A) ∧ (∀ r11 : Nat, q_R A a0 3 = some r11 → f (some r11) A))))) : q_Wc G M_X10_spareLine [.ref a0] A (q_KR f) X := by
  refine q_Wc.of [some (.ref a0)] mo_X10_spareLine.2.2.2.2.2 rfl (Nat.le_of_ble_eq_true rfl) rfl ?_
  refine q_blk (pc' := 1) (lo' := [some (.ref a0)]) (st' := [.ref a0]) [.aload_n 0] (by decide +kernel) rfl ?_
  obtain ⟨s1, h⟩ := h
  cases e2 : q_R A a0 3 with
  | none =>
    have h := h.1 e2
    refine q_getN fl_X10_52 rfl (by decide) (by decide +kernel) s1 e2 ?_
    refine q_nnl_n (off := 14) (by decide +kernel) ?_
    refine q_blk (pc' := 8) (lo' := [some (.ref a0)]) (st' := [.ref a0]) [.aload_n 0] (by decide +kernel) rfl ?_
    refine q_newO (idx := 13) ck4 (by decide) kl_X10_13 nw_4.1 nw_4.2 (by decide) (by decide) (by decide +kernel) ?_
    have s4 : q_sh (q_new A 5 0) (q_sz A) = (5, 0) := q_shn _ _ _
    refine q_blk (pc' := 12) (lo' := [some (.ref a0)]) (st' := [.ref (q_sz A), .ref (q_sz A), .ref a0]) [.dup] (by decide +kernel) rfl ?_
    refine q_callI (Mc := M_X4_init) (z := 0) (b := (q_sz A)) (As := []) (st := [.ref (q_sz A), .ref a0]) mo_X4_init mi0_X4_init mI_X10_15_X4_init rfl rfl rfl rfl (by decide) (by decide) rfl (Nat.le_of_ble_eq_true rfl) (by decide +kernel) h (q_fV fun A5 h => ?_)
    show q_Wp _ _ _ _ 277 1205 15 [some (.ref a0)] [.ref (q_sz A), .ref a0] A5
    obtain ⟨s7, h⟩ := h
    refine q_putR (v := (some (q_sz A))) fw_X10_52 rfl (by decide) (by decide +kernel) s7 ?_
    refine q_blk (pc' := 19) (lo' := [some (.ref a0)]) (st' := [.ref a0]) [.aload_n 0] (by decide +kernel) rfl ?_
    cases e8 : q_R (q_setR A5 a0 3 (some (q_sz A))) a0 3 with
    | none =>
      have h := h.1 e8
      refine q_getN fl_X10_52 rfl (by decide) (by decide +kernel) s7 e8 ?_
      exact q_retR (r := none) rfl (Or.inl ⟨_, rfl⟩) (by decide) (by decide) (by decide +kernel) ⟨_, rfl, h⟩
    | some r9 =>
      have h := h.2 r9 e8
      refine q_getR fl_X10_52 rfl (by decide) (by decide +kernel) s7 e8 ?_
      exact q_retR (r := (some r9)) rfl (Or.inl ⟨_, rfl⟩) (by decide) (by decide) (by decide +kernel) ⟨_, rfl, h⟩
  | some r3 =>
    have h := h.2 r3 e2
    refine q_getR fl_X10_52 rfl (by decide) (by decide +kernel) s1 e2 ?_
    refine q_nnl_y 18 (off := 14) (by decide +kernel) (by decide) ?_
    refine q_blk (pc' := 19) (lo' := [some (.ref a0)]) (st' := [.ref a0]) [.aload_n 0] (by decide +kernel) rfl ?_
    cases e10 : q_R A a0 3 with
    | none =>
      have h := h.1 e10
      refine q_getN fl_X10_52 rfl (by decide) (by decide +kernel) s1 e10 ?_
      exact q_retR (r := none) rfl (Or.inl ⟨_, rfl⟩) (by decide) (by decide) (by decide +kernel) ⟨_, rfl, h⟩
    | some r11 =>
      have h := h.2 r11 e10
      refine q_getR fl_X10_52 rfl (by decide) (by decide +kernel) s1 e10 ?_
      exact q_retR (r := (some r11)) rfl (Or.inl ⟨_, rfl⟩) (by decide) (by decide) (by decide +kernel) ⟨_, rfl, h⟩
theorem f_X10_copyOfLine {G : q_G} {X : String → q_H → Prop} {f : Option Nat → q_H → Prop} {A : q_H} {a0 : Nat} (h : q_sh A a0 = (11, 0) ∧ q_Wc G M_X10_spareLine [.ref a0] A (q_KR fun o4 A1 => ∃ r2 : Nat, o4 = some r2 ∧ q_sh A1 a0 = (11, 0) ∧ ∃ r6 : Nat, q_R A1 a0 2 = some r6 ∧ q_sh A1 r2 = (5, 0) ∧ q_Wc G M_X4_copyFrom [.ref r2, .ref r6] A1 (q_KV fun A8 => f (some r2) A8) q_nX) q_nX) : q_Wc G M_X10_copyOfLine [.ref a0] A (q_KR f) X := by
  refine q_Wc.of [some (.ref a0), none] mo_X10_copyOfLine.2.2.2.2.2 rfl (Nat.le_of_ble_eq_true rfl) rfl ?_
  refine q_blk (pc' := 1) (lo' := [some (.ref a0), none]) (st' := [.ref a0]) [.aload_n 0] (by decide +kernel) rfl ?_
  obtain ⟨s3, h⟩ := h
  refine q_callV (ci := 10) (Mc := M_X10_spareLine) (z := 0) (b := a0) (As := []) (st := []) mo_X10_spareLine mi_X10_spareLine ml_X10_39_X10_spareLine rfl rfl (by decide) rfl (by decide) (by decide) rfl (Nat.le_of_ble_eq_true rfl) (by decide +kernel) s3 h (q_fR (fun A1 h => ?_) (fun r2 A1 h => ?_))
  · obtain ⟨_, q9, h⟩ := h
    cases q9
  · obtain ⟨_, q9, h⟩ := h
    cases q9
    show q_Wp _ _ _ _ 277 1205 4 [some (.ref a0), none] [.ref r2] A1
    refine q_blk (pc' := 7) (lo' := [some (.ref a0), some (.ref r2)]) (st' := [.ref a0, .ref r2]) [.astore_n 1, .aload_n 1, .aload_n 0] (by decide +kernel) rfl ?_
    obtain ⟨s5, h⟩ := h
    obtain ⟨r6, e7, h⟩ := h
    refine q_getR fl_X10_16 rfl (by decide) (by decide +kernel) s5 e7 ?_
    obtain ⟨s10, h⟩ := h
    refine q_callV (ci := 4) (Mc := M_X4_copyFrom) (z := 1) (b := r2) (As := [.ref r6]) (st := []) mo_X4_copyFrom mi_X4_copyFrom ml_X10_375_X4_copyFrom rfl rfl (by decide) rfl (by decide) (by decide) rfl (Nat.le_of_ble_eq_true rfl) (by decide +kernel) s10 h (q_fV fun A8 h => ?_)
    show q_Wp _ _ _ _ 277 1205 13 [some (.ref a0), some (.ref r2)] [] A8
    refine q_blk (pc' := 14) (lo' := [some (.ref a0), some (.ref r2)]) (st' := [.ref r2]) [.aload_n 1] (by decide +kernel) rfl ?_
    exact q_retR (r := (some r2)) rfl (Or.inl ⟨_, rfl⟩) (by decide) (by decide) (by decide +kernel) ⟨_, rfl, h⟩
theorem f_X10_remember {G : q_G} {X : String → q_H → Prop} {f : q_H → Prop} {A : q_H} {a0 : Nat} (h : q_sh A a0 = (11, 0) ∧ ∃ r2 : Nat, q_R A a0 4 = some r2 ∧ ∃ z5 : Nat, q_sh A r2 = (64, z5) ∧ z5 < 2147483648 ∧ ∃ j7 : Nat, (q_I A a0 6) = nI j7 ∧ j7 < z5 ∧ ((q_R A r2 j7 = none → q_Wc G M_X4_init [.ref (q_sz A)] (q_new A 5 0) (q_KV fun A13 => q_sh A13 a0 = (11, 0) ∧ ∃ r16 : Nat, q_R A13 a0 4 = some r16 ∧ ∃ z19 : Nat, q_sh A13 r16 = (64, z19) ∧ z19 < 2147483648 ∧ ∃ j21 : Nat, (q_I A13 a0 6) = nI j21 ∧ j21 < z19 ∧ q_sh A13 (q_sz A) = (5, 0) ∧ ∃ r25 : Nat, q_R (q_setR A13 r16 j21 (some (q_sz A))) a0 2 = some r25 ∧ q_Wc G M_X4_copyFrom [.ref (q_sz A), .ref r25] (q_setR A13 r16 j21 (some (q_sz A))) (q_KV fun A27 => q_sh A27 a0 = (11, 0) ∧ (((q_I A27 a0 6) = (nI 5) → (∀ A32 : q_H, A32 = (q_setI (q_setI A27 a0 6 (nI 0)) a0 5 (if (nI 6) < ((q_I (q_setI A27 a0 6 (nI 0)) a0 5) + (nI 1)) then (nI 6) else ((q_I (q_setI A27 a0 6 (nI 0)) a0 5) + (nI 1)))) → f A32)) ∧ (¬ (q_I A27 a0 6) = (nI 5) → (∀ A31 : q_H, A31 = (q_setI (q_setI A27 a0 6 ((q_I A27 a0 6) + (nI 1))) a0 5 (if (nI 6) < ((q_I (q_setI A27 a0 6 ((q_I A27 a0 6) + (nI 1))) a0 5) + (nI 1)) then (nI 6) else ((q_I (q_setI A27 a0 6 ((q_I A27 a0 6) + (nI 1))) a0 5) + (nI 1)))) → f A31)))) q_nX) q_nX) ∧ (∀ r11 : Nat, q_R A r2 j7 = some r11 → ∃ r33 : Nat, q_R A a0 2 = some r33 ∧ q_sh A r11 = (5, 0) ∧ q_Wc G M_X4_copyFrom [.ref r11, .ref r33] A (q_KV fun A35 => q_sh A35 a0 = (11, 0) ∧ (((q_I A35 a0 6) = (nI 5) → (∀ A41 : q_H, A41 = (q_setI (q_setI A35 a0 6 (nI 0)) a0 5 (if (nI 6) < ((q_I (q_setI A35 a0 6 (nI 0)) a0 5) + (nI 1)) then (nI 6) else ((q_I (q_setI A35 a0 6 (nI 0)) a0 5) + (nI 1)))) → f A41)) ∧ (¬ (q_I A35 a0 6) = (nI 5) → (∀ A40 : q_H, A40 = (q_setI (q_setI A35 a0 6 ((q_I A35 a0 6) + (nI 1))) a0 5 (if (nI 6) < ((q_I (q_setI A35 a0 6 ((q_I A35 a0 6) + (nI 1))) a0 5) + (nI 1)) then (nI 6) else ((q_I (q_setI A35 a0 6 ((q_I A35 a0 6) + (nI 1))) a0 5) + (nI 1)))) → f A40)))) q_nX))) : q_Wc G M_X10_remember [.ref a0] A (q_KV f) X := by
  refine q_Wc.of [some (.ref a0), none] mo_X10_remember.2.2.2.2.2 rfl (Nat.le_of_ble_eq_true rfl) rfl ?_
  refine q_blk (pc' := 1) (lo' := [some (.ref a0), none]) (st' := [.ref a0]) [.aload_n 0] (by decide +kernel) rfl ?_
  obtain ⟨s1, h⟩ := h
  obtain ⟨r2, e3, h⟩ := h
  refine q_getR fl_X10_20 rfl (by decide) (by decide +kernel) s1 e3 ?_
  refine q_blk (pc' := 5) (lo' := [some (.ref a0), none]) (st' := [.ref a0, .ref r2]) [.aload_n 0] (by decide +kernel) rfl ?_
  refine q_getI fl_X10_343 rfl (by decide) (by decide +kernel) s1 ?_
  obtain ⟨z5, s4, b6, h⟩ := h
  obtain ⟨j7, e8, h⟩ := h
  obtain ⟨l9, h⟩ := h
  cases e10 : q_R A r2 j7 with
  | none =>
    have h := h.1 e10
    refine q_aaldN (q_rk4 G) e8 (by decide +kernel) s4 l9 b6 e10 ?_
    refine q_blk (pc' := 11) (lo' := [some (.ref a0), some (.null)]) (st' := [.null]) [.astore_n 1, .aload_n 1] (by decide +kernel) rfl ?_
    refine q_nnl_n (off := 21) (by decide +kernel) ?_
    refine q_newO (idx := 13) ck4 (by decide) kl_X10_13 nw_4.1 nw_4.2 (by decide) (by decide) (by decide +kernel) ?_
    have s12 : q_sh (q_new A 5 0) (q_sz A) = (5, 0) := q_shn _ _ _
    refine q_blk (pc' := 18) (lo' := [some (.ref a0), some (.null)]) (st' := [.ref (q_sz A), .ref (q_sz A)]) [.dup] (by decide +kernel) rfl ?_
    refine q_callI (Mc := M_X4_init) (z := 0) (b := (q_sz A)) (As := []) (st := [.ref (q_sz A)]) mo_X4_init mi0_X4_init mI_X10_15_X4_init rfl rfl rfl rfl (by decide) (by decide) rfl (Nat.le_of_ble_eq_true rfl) (by decide +kernel) h (q_fV fun A13 h => ?_)
    show q_Wp _ _ _ _ 277 1205 21 [some (.ref a0), some (.null)] [.ref (q_sz A)] A13
    refine q_blk (pc' := 23) (lo' := [some (.ref a0), some (.ref (q_sz A))]) (st' := [.ref a0]) [.astore_n 1, .aload_n 0] (by decide +kernel) rfl ?_
    obtain ⟨s15, h⟩ := h
    obtain ⟨r16, e17, h⟩ := h
    refine q_getR fl_X10_20 rfl (by decide) (by decide +kernel) s15 e17 ?_
    refine q_blk (pc' := 27) (lo' := [some (.ref a0), some (.ref (q_sz A))]) (st' := [.ref a0, .ref r16]) [.aload_n 0] (by decide +kernel) rfl ?_
    refine q_getI fl_X10_343 rfl (by decide) (by decide +kernel) s15 ?_
    refine q_blk (pc' := 31) (lo' := [some (.ref a0), some (.ref (q_sz A))]) (st' := [.ref (q_sz A), .int (q_I A13 a0 6), .ref r16]) [.aload_n 1] (by decide +kernel) rfl ?_
    obtain ⟨z19, s18, b20, h⟩ := h
    obtain ⟨j21, e22, h⟩ := h
    obtain ⟨l23, h⟩ := h
    obtain ⟨s24, h⟩ := h
    refine q_aast (r := some (q_sz A)) (q_rk4 G) (by decide) e22 (by decide +kernel) s18 l23 b20 (fun _ q9 => by cases q9; exact s24) ?_
    refine q_blk (pc' := 34) (lo' := [some (.ref a0), some (.ref (q_sz A))]) (st' := [.ref a0, .ref (q_sz A)]) [.aload_n 1, .aload_n 0] (by decide +kernel) rfl ?_
    obtain ⟨r25, e26, h⟩ := h
    refine q_getR fl_X10_16 rfl (by decide) (by decide +kernel) s15 e26 ?_
    refine q_callV (ci := 4) (Mc := M_X4_copyFrom) (z := 1) (b := (q_sz A)) (As := [.ref r25]) (st := []) mo_X4_copyFrom mi_X4_copyFrom ml_X10_375_X4_copyFrom rfl rfl (by decide) rfl (by decide) (by decide) rfl (Nat.le_of_ble_eq_true rfl) (by decide +kernel) s24 h (q_fV fun A27 h => ?_)
    show q_Wp _ _ _ _ 277 1205 40 [some (.ref a0), some (.ref (q_sz A))] [] A27
    refine q_blk (pc' := 42) (lo' := [some (.ref a0), some (.ref (q_sz A))]) (st' := [.ref a0, .ref a0]) [.aload_n 0, .aload_n 0] (by decide +kernel) rfl ?_
    obtain ⟨s29, h⟩ := h
    refine q_getI fl_X10_343 rfl (by decide) (by decide +kernel) s29 ?_
    refine q_blk (pc' := 46) (lo' := [some (.ref a0), some (.ref (q_sz A))]) (st' := [.int (nI 5), .int (q_I A27 a0 6), .ref a0]) [.iconst 5] (by decide +kernel) rfl ?_
    refine q_icmp_ne 53 (off := 7) (by decide +kernel) (by decide) (fun c30 => ?_) (fun c30 => ?_)
    · have h := h.2 c30
      refine q_blk (pc' := 54) (lo' := [some (.ref a0), some (.ref (q_sz A))]) (st' := [.ref a0, .ref a0]) [.aload_n 0] (by decide +kernel) rfl ?_
      refine q_getI fl_X10_343 rfl (by decide) (by decide +kernel) s29 ?_
      refine q_blk (pc' := 59) (lo' := [some (.ref a0), some (.ref (q_sz A))]) (st' := [.int ((q_I A27 a0 6) + (nI 1)), .ref a0]) [.iconst 1, .iadd] (by decide +kernel) rfl ?_
      refine q_putI fw_X10_343 rfl (by decide) (by decide +kernel) s29 ?_
      refine q_blk (pc' := 64) (lo' := [some (.ref a0), some (.ref (q_sz A))]) (st' := [.ref a0, .ref a0]) [.aload_n 0, .aload_n 0] (by decide +kernel) rfl ?_
      refine q_getI fl_X10_55 rfl (by decide) (by decide +kernel) s29 ?_
      refine q_blk (pc' := 71) (lo' := [some (.ref a0), some (.ref (q_sz A))]) (st' := [.int (nI 6), .int ((q_I (q_setI A27 a0 6 ((q_I A27 a0 6) + (nI 1))) a0 5) + (nI 1)), .ref a0]) [.iconst 1, .iadd, .bipush 6] (by decide +kernel) rfl ?_
      refine q_mmin mm_X10_379_i.1 mm_X10_379_i.2.1 mm_X10_379_i.2.2.1 mm_X10_379_i.2.2.2 (by decide) (Nat.le_of_ble_eq_true rfl) (by decide) (by decide) (by decide +kernel) ?_
      refine q_putI fw_X10_55 rfl (by decide) (by decide +kernel) s29 ?_
      let A31 : q_H := (q_setI (q_setI A27 a0 6 ((q_I A27 a0 6) + (nI 1))) a0 5 (if (nI 6) < ((q_I (q_setI A27 a0 6 ((q_I A27 a0 6) + (nI 1))) a0 5) + (nI 1)) then (nI 6) else ((q_I (q_setI A27 a0 6 ((q_I A27 a0 6) + (nI 1))) a0 5) + (nI 1))))
      have h := h A31 rfl
      show q_Wp _ _ _ _ 277 1205 77 [some (.ref a0), some (.ref (q_sz A))] [] A31
      exact q_ret0 rfl (by decide) (by decide) (by decide +kernel) ⟨rfl, h⟩
    · have h := h.1 c30
      refine q_blk (pc' := 50) (lo' := [some (.ref a0), some (.ref (q_sz A))]) (st' := [.int (nI 0), .ref a0]) [.iconst 0] (by decide +kernel) rfl ?_
      refine q_goto 59 (off := 9) (by decide +kernel) (by decide) ?_
      refine q_putI fw_X10_343 rfl (by decide) (by decide +kernel) s29 ?_
      refine q_blk (pc' := 64) (lo' := [some (.ref a0), some (.ref (q_sz A))]) (st' := [.ref a0, .ref a0]) [.aload_n 0, .aload_n 0] (by decide +kernel) rfl ?_
      refine q_getI fl_X10_55 rfl (by decide) (by decide +kernel) s29 ?_
      refine q_blk (pc' := 71) (lo' := [some (.ref a0), some (.ref (q_sz A))]) (st' := [.int (nI 6), .int ((q_I (q_setI A27 a0 6 (nI 0)) a0 5) + (nI 1)), .ref a0]) [.iconst 1, .iadd, .bipush 6] (by decide +kernel) rfl ?_
      refine q_mmin mm_X10_379_i.1 mm_X10_379_i.2.1 mm_X10_379_i.2.2.1 mm_X10_379_i.2.2.2 (by decide) (Nat.le_of_ble_eq_true rfl) (by decide) (by decide) (by decide +kernel) ?_
      refine q_putI fw_X10_55 rfl (by decide) (by decide +kernel) s29 ?_
      let A32 : q_H := (q_setI (q_setI A27 a0 6 (nI 0)) a0 5 (if (nI 6) < ((q_I (q_setI A27 a0 6 (nI 0)) a0 5) + (nI 1)) then (nI 6) else ((q_I (q_setI A27 a0 6 (nI 0)) a0 5) + (nI 1))))
      have h := h A32 rfl
      show q_Wp _ _ _ _ 277 1205 77 [some (.ref a0), some (.ref (q_sz A))] [] A32
      exact q_ret0 rfl (by decide) (by decide) (by decide +kernel) ⟨rfl, h⟩
  | some r11 =>
    have h := h.2 r11 e10
    refine q_aaldS (q_rk4 G) e8 (by decide +kernel) s4 l9 b6 e10 ?_
    refine q_blk (pc' := 11) (lo' := [some (.ref a0), some (.ref r11)]) (st' := [.ref r11]) [.astore_n 1, .aload_n 1] (by decide +kernel) rfl ?_
    refine q_nnl_y 32 (off := 21) (by decide +kernel) (by decide) ?_
    refine q_blk (pc' := 34) (lo' := [some (.ref a0), some (.ref r11)]) (st' := [.ref a0, .ref r11]) [.aload_n 1, .aload_n 0] (by decide +kernel) rfl ?_
    obtain ⟨r33, e34, h⟩ := h
    refine q_getR fl_X10_16 rfl (by decide) (by decide +kernel) s1 e34 ?_
    obtain ⟨s37, h⟩ := h
    refine q_callV (ci := 4) (Mc := M_X4_copyFrom) (z := 1) (b := r11) (As := [.ref r33]) (st := []) mo_X4_copyFrom mi_X4_copyFrom ml_X10_375_X4_copyFrom rfl rfl (by decide) rfl (by decide) (by decide) rfl (Nat.le_of_ble_eq_true rfl) (by decide +kernel) s37 h (q_fV fun A35 h => ?_)
    show q_Wp _ _ _ _ 0 0 40 [some (.ref a0), some (.ref r11)] [] A35
    refine q_blk (pc' := 42) (lo' := [some (.ref a0), some (.ref r11)]) (st' := [.ref a0, .ref a0]) [.aload_n 0, .aload_n 0] (by decide +kernel) rfl ?_
    obtain ⟨s38, h⟩ := h
    refine q_getI fl_X10_343 rfl (by decide) (by decide +kernel) s38 ?_
    refine q_blk (pc' := 46) (lo' := [some (.ref a0), some (.ref r11)]) (st' := [.int (nI 5), .int (q_I A35 a0 6), .ref a0]) [.iconst 5] (by decide +kernel) rfl ?_
    refine q_icmp_ne 53 (off := 7) (by decide +kernel) (by decide) (fun c39 => ?_) (fun c39 => ?_)
    · have h := h.2 c39
      refine q_blk (pc' := 54) (lo' := [some (.ref a0), some (.ref r11)]) (st' := [.ref a0, .ref a0]) [.aload_n 0] (by decide +kernel) rfl ?_
      refine q_getI fl_X10_343 rfl (by decide) (by decide +kernel) s38 ?_
      refine q_blk (pc' := 59) (lo' := [some (.ref a0), some (.ref r11)]) (st' := [.int ((q_I A35 a0 6) + (nI 1)), .ref a0]) [.iconst 1, .iadd] (by decide +kernel) rfl ?_
      refine q_putI fw_X10_343 rfl (by decide) (by decide +kernel) s38 ?_
      refine q_blk (pc' := 64) (lo' := [some (.ref a0), some (.ref r11)]) (st' := [.ref a0, .ref a0]) [.aload_n 0, .aload_n 0] (by decide +kernel) rfl ?_
      refine q_getI fl_X10_55 rfl (by decide) (by decide +kernel) s38 ?_
      refine q_blk (pc' := 71) (lo' := [some (.ref a0), some (.ref r11)]) (st' := [.int (nI 6), .int ((q_I (q_setI A35 a0 6 ((q_I A35 a0 6) + (nI 1))) a0 5) + (nI 1)), .ref a0]) [.iconst 1, .iadd, .bipush 6] (by decide +kernel) rfl ?_
      refine q_mmin mm_X10_379_i.1 mm_X10_379_i.2.1 mm_X10_379_i.2.2.1 mm_X10_379_i.2.2.2 (by decide) (Nat.le_of_ble_eq_true rfl) (by decide) (by decide) (by decide +kernel) ?_
      refine q_putI fw_X10_55 rfl (by decide) (by decide +kernel) s38 ?_
      let A40 : q_H := (q_setI (q_setI A35 a0 6 ((q_I A35 a0 6) + (nI 1))) a0 5 (if (nI 6) < ((q_I (q_setI A35 a0 6 ((q_I A35 a0 6) + (nI 1))) a0 5) + (nI 1)) then (nI 6) else ((q_I (q_setI A35 a0 6 ((q_I A35 a0 6) + (nI 1))) a0 5) + (nI 1))))
      have h := h A40 rfl
      show q_Wp _ _ _ _ 0 0 77 [some (.ref a0), some (.ref r11)] [] A40
      exact q_ret0 rfl (by decide) (by decide) (by decide +kernel) ⟨rfl, h⟩
    · have h := h.1 c39
      refine q_blk (pc' := 50) (lo' := [some (.ref a0), some (.ref r11)]) (st' := [.int (nI 0), .ref a0]) [.iconst 0] (by decide +kernel) rfl ?_
      refine q_goto 59 (off := 9) (by decide +kernel) (by decide) ?_
      refine q_putI fw_X10_343 rfl (by decide) (by decide +kernel) s38 ?_
      refine q_blk (pc' := 64) (lo' := [some (.ref a0), some (.ref r11)]) (st' := [.ref a0, .ref a0]) [.aload_n 0, .aload_n 0] (by decide +kernel) rfl ?_
      refine q_getI fl_X10_55 rfl (by decide) (by decide +kernel) s38 ?_
      refine q_blk (pc' := 71) (lo' := [some (.ref a0), some (.ref r11)]) (st' := [.int (nI 6), .int ((q_I (q_setI A35 a0 6 (nI 0)) a0 5) + (nI 1)), .ref a0]) [.iconst 1, .iadd, .bipush 6] (by decide +kernel) rfl ?_
      refine q_mmin mm_X10_379_i.1 mm_X10_379_i.2.1 mm_X10_379_i.2.2.1 mm_X10_379_i.2.2.2 (by decide) (Nat.le_of_ble_eq_true rfl) (by decide) (by decide) (by decide +kernel) ?_
      refine q_putI fw_X10_55 rfl (by decide) (by decide +kernel) s38 ?_
      let A41 : q_H := (q_setI (q_setI A35 a0 6 (nI 0)) a0 5 (if (nI 6) < ((q_I (q_setI A35 a0 6 (nI 0)) a0 5) + (nI 1)) then (nI 6) else ((q_I (q_setI A35 a0 6 (nI 0)) a0 5) + (nI 1))))
      have h := h A41 rfl
      show q_Wp _ _ _ _ 0 0 77 [some (.ref a0), some (.ref r11)] [] A41
      exact q_ret0 rfl (by decide) (by decide) (by decide +kernel) ⟨rfl, h⟩
theorem f_X10_spareLine0 {G : q_G} {X : String → q_H → Prop} {f : Option Nat → q_H → Prop} {A : q_H} {a0 : Nat} (h : q_sh A a0 = (11, 0) ∧ ((q_R A a0 3 = none → False) ∧ (∀ r3 : Nat, q_R A a0 3 = some r3 → ((q_R A a0 3 = none → False) ∧ (∀ r5 : Nat, q_R A a0 3 = some r5 → f (some r5) A))))) : q_Wc G M_X10_spareLine0 [.ref a0] A (q_KR f) X := by
  refine q_Wc.of [some (.ref a0)] mo_X10_spareLine0.2.2.2.2.2 rfl (Nat.le_of_ble_eq_true rfl) rfl ?_
  refine q_blk (pc' := 1) (lo' := [some (.ref a0)]) (st' := [.ref a0]) [.aload_n 0] (by decide +kernel) rfl ?_
  obtain ⟨s1, h⟩ := h
  cases e2 : q_R A a0 3 with
  | none =>
    have h := h.1 e2
    exact h.elim
  | some r3 =>
    have h := h.2 r3 e2
    refine q_getR fl_X10_52 rfl (by decide) (by decide +kernel) s1 e2 ?_
    refine q_nnl_y 18 (off := 14) (by decide +kernel) (by decide) ?_
    refine q_blk (pc' := 19) (lo' := [some (.ref a0)]) (st' := [.ref a0]) [.aload_n 0] (by decide +kernel) rfl ?_
    cases e4 : q_R A a0 3 with
    | none =>
      have h := h.1 e4
      exact h.elim
    | some r5 =>
      have h := h.2 r5 e4
      refine q_getR fl_X10_52 rfl (by decide) (by decide +kernel) s1 e4 ?_
      exact q_retR (r := (some r5)) rfl (Or.inl ⟨_, rfl⟩) (by decide) (by decide) (by decide +kernel) ⟨_, rfl, h⟩
theorem f_X10_copyOfLine0 {G : q_G} {X : String → q_H → Prop} {f : Option Nat → q_H → Prop} {A : q_H} {a0 : Nat} (h : q_sh A a0 = (11, 0) ∧ q_Wc G M_X10_spareLine0 [.ref a0] A (q_KR fun o4 A1 => ∃ r2 : Nat, o4 = some r2 ∧ q_sh A1 a0 = (11, 0) ∧ ∃ r6 : Nat, q_R A1 a0 2 = some r6 ∧ q_sh A1 r2 = (5, 0) ∧ q_Wc G M_X4_copyFrom [.ref r2, .ref r6] A1 (q_KV fun A8 => f (some r2) A8) q_nX) q_nX) : q_Wc G M_X10_copyOfLine0 [.ref a0] A (q_KR f) X := by
  refine q_Wc.of [some (.ref a0), none] mo_X10_copyOfLine0.2.2.2.2.2 rfl (Nat.le_of_ble_eq_true rfl) rfl ?_
  refine q_blk (pc' := 1) (lo' := [some (.ref a0), none]) (st' := [.ref a0]) [.aload_n 0] (by decide +kernel) rfl ?_
  obtain ⟨s3, h⟩ := h
  refine q_callV (ci := 10) (Mc := M_X10_spareLine0) (z := 0) (b := a0) (As := []) (st := []) mo_X10_spareLine0 mi_X10_spareLine0 ml_X10_39_X10_spareLine0 rfl rfl (by decide) rfl (by decide) (by decide) rfl (Nat.le_of_ble_eq_true rfl) (by decide +kernel) s3 h (q_fR (fun A1 h => ?_) (fun r2 A1 h => ?_))
  · obtain ⟨_, q9, h⟩ := h
    cases q9
  · obtain ⟨_, q9, h⟩ := h
    cases q9
    show q_Wp _ _ _ _ 0 0 4 [some (.ref a0), none] [.ref r2] A1
    refine q_blk (pc' := 7) (lo' := [some (.ref a0), some (.ref r2)]) (st' := [.ref a0, .ref r2]) [.astore_n 1, .aload_n 1, .aload_n 0] (by decide +kernel) rfl ?_
    obtain ⟨s5, h⟩ := h
    obtain ⟨r6, e7, h⟩ := h
    refine q_getR fl_X10_16 rfl (by decide) (by decide +kernel) s5 e7 ?_
    obtain ⟨s10, h⟩ := h
    refine q_callV (ci := 4) (Mc := M_X4_copyFrom) (z := 1) (b := r2) (As := [.ref r6]) (st := []) mo_X4_copyFrom mi_X4_copyFrom ml_X10_375_X4_copyFrom rfl rfl (by decide) rfl (by decide) (by decide) rfl (Nat.le_of_ble_eq_true rfl) (by decide +kernel) s10 h (q_fV fun A8 h => ?_)
    show q_Wp _ _ _ _ 0 0 13 [some (.ref a0), some (.ref r2)] [] A8
    refine q_blk (pc' := 14) (lo' := [some (.ref a0), some (.ref r2)]) (st' := [.ref r2]) [.aload_n 1] (by decide +kernel) rfl ?_
    exact q_retR (r := (some r2)) rfl (Or.inl ⟨_, rfl⟩) (by decide) (by decide) (by decide +kernel) ⟨_, rfl, h⟩
theorem f_X10_pickedWith0 {G : q_G} {X : String → q_H → Prop} {f : Int32 → q_H → Prop} {A : q_H} {a0 : Nat} {x1 : Int32} {x2 : Int32} {x3 : Int32} (h : q_sh A a0 = (11, 0) ∧ q_Wc G M_X10_copyOfLine0 [.ref a0] A (q_KR fun o4 A1 => ∃ r2 : Nat, o4 = some r2 ∧ q_sh A1 r2 = (5, 0) ∧ q_Wc G M_X4_stationAt [.ref r2, .int x1] A1 (q_KR fun o8 A5 => (o8 = none → f (nI 0) A5) ∧ (∀ r6 : Nat, o8 = some r6 → q_sh A5 r6 = (7, 0) ∧ q_Wc G M_X6_relieve [.ref r6, .int x2] A5 (q_KV fun A10 => q_sh A10 r2 = (5, 0) ∧ q_Wc G M_X4_makeTicks [.ref r2, .int x3] A10 (q_KV fun A12 => q_sh A12 r6 = (7, 0) ∧ f ((q_I A12 r6 6) - (q_I A5 r6 6)) A12) q_nX) q_nX)) q_nX) q_nX) : q_Wc G M_X10_pickedWith0 [.ref a0, .int x1, .int x2, .int x3] A (q_KI f) X := by
  refine q_Wc.of [some (.ref a0), some (.int x1), some (.int x2), some (.int x3), none, none, none] mo_X10_pickedWith0.2.2.2.2.2 rfl (Nat.le_of_ble_eq_true rfl) rfl ?_
  refine q_blk (pc' := 1) (lo' := [some (.ref a0), some (.int x1), some (.int x2), some (.int x3), none, none, none]) (st' := [.ref a0]) [.aload_n 0] (by decide +kernel) rfl ?_
  obtain ⟨s3, h⟩ := h
  refine q_callV (ci := 10) (Mc := M_X10_copyOfLine0) (z := 0) (b := a0) (As := []) (st := []) mo_X10_copyOfLine0 mi_X10_copyOfLine0 ml_X10_356_X10_copyOfLine0 rfl rfl (by decide) rfl (by decide) (by decide) rfl (Nat.le_of_ble_eq_true rfl) (by decide +kernel) s3 h (q_fR (fun A1 h => ?_) (fun r2 A1 h => ?_))
  · obtain ⟨_, q9, h⟩ := h
    cases q9
  · obtain ⟨_, q9, h⟩ := h
    cases q9
    show q_Wp _ _ _ _ 0 0 4 [some (.ref a0), some (.int x1), some (.int x2), some (.int x3), none, none, none] [.ref r2] A1
    refine q_blk (pc' := 9) (lo' := [some (.ref a0), some (.int x1), some (.int x2), some (.int x3), some (.ref r2), none, none]) (st' := [.int x1, .ref r2]) [.astore 4, .aload 4, .iload_n 1] (by decide +kernel) rfl ?_
    obtain ⟨s7, h⟩ := h
    refine q_callV (ci := 4) (Mc := M_X4_stationAt) (z := 1) (b := r2) (As := [.int x1]) (st := []) mo_X4_stationAt mi_X4_stationAt ml_X10_123_X4_stationAt rfl rfl (by decide) rfl (by decide) (by decide) rfl (Nat.le_of_ble_eq_true rfl) (by decide +kernel) s7 h (q_fR (fun A5 h => ?_) (fun r6 A5 h => ?_))
    · have h := h.1 rfl
      show q_Wp _ _ _ _ 0 0 12 [some (.ref a0), some (.int x1), some (.int x2), some (.int x3), some (.ref r2), none, none] [.null] A5
      refine q_blk (pc' := 16) (lo' := [some (.ref a0), some (.int x1), some (.int x2), some (.int x3), some (.ref r2), some (.null), none]) (st' := [.null]) [.astore 5, .aload 5] (by decide +kernel) rfl ?_
      refine q_nnl_n (off := 5) (by decide +kernel) ?_
      refine q_blk (pc' := 20) (lo' := [some (.ref a0), some (.int x1), some (.int x2), some (.int x3), some (.ref r2), some (.null), none]) (st' := [.int (nI 0)]) [.iconst 0] (by decide +kernel) rfl ?_
      exact q_retI rfl (by decide) (by decide) (by decide +kernel) ⟨_, rfl, h⟩
    · have h := h.2 r6 rfl
      show q_Wp _ _ _ _ 0 0 12 [some (.ref a0), some (.int x1), some (.int x2), some (.int x3), some (.ref r2), none, none] [.ref r6] A5
      refine q_blk (pc' := 16) (lo' := [some (.ref a0), some (.int x1), some (.int x2), some (.int x3), some (.ref r2), some (.ref r6), none]) (st' := [.ref r6]) [.astore 5, .aload 5] (by decide +kernel) rfl ?_
      refine q_nnl_y 21 (off := 5) (by decide +kernel) (by decide) ?_
      refine q_blk (pc' := 23) (lo' := [some (.ref a0), some (.int x1), some (.int x2), some (.int x3), some (.ref r2), some (.ref r6), none]) (st' := [.ref r6]) [.aload 5] (by decide +kernel) rfl ?_
      obtain ⟨s9, h⟩ := h
      refine q_getI fl_X10_175 rfl (by decide) (by decide +kernel) s9 ?_
      refine q_blk (pc' := 31) (lo' := [some (.ref a0), some (.int x1), some (.int x2), some (.int x3), some (.ref r2), some (.ref r6), some (.int (q_I A5 r6 6))]) (st' := [.int x2, .ref r6]) [.istore 6, .aload 5, .iload_n 2] (by decide +kernel) rfl ?_
      refine q_callV (ci := 6) (Mc := M_X6_relieve) (z := 1) (b := r6) (As := [.int x2]) (st := []) mo_X6_relieve mi_X6_relieve ml_X10_308_X6_relieve rfl rfl (by decide) rfl (by decide) (by decide) rfl (Nat.le_of_ble_eq_true rfl) (by decide +kernel) s9 h (q_fV fun A10 h => ?_)
      show q_Wp _ _ _ _ 0 0 34 [some (.ref a0), some (.int x1), some (.int x2), some (.int x3), some (.ref r2), some (.ref r6), some (.int (q_I A5 r6 6))] [] A10
      refine q_blk (pc' := 37) (lo' := [some (.ref a0), some (.int x1), some (.int x2), some (.int x3), some (.ref r2), some (.ref r6), some (.int (q_I A5 r6 6))]) (st' := [.int x3, .ref r2]) [.aload 4, .iload_n 3] (by decide +kernel) rfl ?_
      obtain ⟨s14, h⟩ := h
      refine q_callV (ci := 4) (Mc := M_X4_makeTicks) (z := 1) (b := r2) (As := [.int x3]) (st := []) mo_X4_makeTicks mi_X4_makeTicks ml_X10_315_X4_makeTicks rfl rfl (by decide) rfl (by decide) (by decide) rfl (Nat.le_of_ble_eq_true rfl) (by decide +kernel) s14 h (q_fV fun A12 h => ?_)
      show q_Wp _ _ _ _ 0 0 40 [some (.ref a0), some (.int x1), some (.int x2), some (.int x3), some (.ref r2), some (.ref r6), some (.int (q_I A5 r6 6))] [] A12
      refine q_blk (pc' := 42) (lo' := [some (.ref a0), some (.int x1), some (.int x2), some (.int x3), some (.ref r2), some (.ref r6), some (.int (q_I A5 r6 6))]) (st' := [.ref r6]) [.aload 5] (by decide +kernel) rfl ?_
      obtain ⟨s15, h⟩ := h
      refine q_getI fl_X10_175 rfl (by decide) (by decide +kernel) s15 ?_
      refine q_blk (pc' := 48) (lo' := [some (.ref a0), some (.int x1), some (.int x2), some (.int x3), some (.ref r2), some (.ref r6), some (.int (q_I A5 r6 6))]) (st' := [.int ((q_I A12 r6 6) - (q_I A5 r6 6))]) [.iload 6, .isub] (by decide +kernel) rfl ?_
      exact q_retI rfl (by decide) (by decide) (by decide +kernel) ⟨_, rfl, h⟩
theorem f_X10_bestStaff_v54 {G : q_G} {X : String → q_H → Prop} {f : Int32 → q_H → Prop} {A : q_H} {a0 : Nat} {x1 : Int32} {x2 : Int32} {x4 : Int32} {x5 : Int32} {x6 : Int32} {k n : Nat} (h : (((nI 9) < x6 → (k ≤ 279 ∧ n ≤ 1217) ∧ f x4 A) ∧ (¬ (nI 9) < x6 → (k ≤ 279 ∧ n ≤ 1217) ∧ q_sh A a0 = (11, 0) ∧ q_Wc G M_X10_pickedWith0 [.ref a0, .int x1, .int x6, .int x2] A (q_KI fun r5 A4 => ((r5 ≤ x5 → q_Wp G M_X10_bestStaff (q_KI f) X k n 54 [some (.ref a0), some (.int x1), some (.int x2), none, some (.int x4), some (.int x5), some (.int (x6 + (nI 1))), none] [] A4) ∧ (¬ r5 ≤ x5 → q_Wp G M_X10_bestStaff (q_KI f) X k n 54 [some (.ref a0), some (.int x1), some (.int x2), none, some (.int x6), some (.int r5), some (.int (x6 + (nI 1))), none] [] A4))) q_nX))) : q_Wp G M_X10_bestStaff (q_KI f) X k n 54 [some (.ref a0), some (.int x1), some (.int x2), none, some (.int x4), some (.int x5), some (.int x6), none] [] A := by
  refine q_blk (pc' := 58) (lo' := [some (.ref a0), some (.int x1), some (.int x2), none, some (.int x4), some (.int x5), some (.int x6), none]) (st' := [.int (nI 9), .int x6]) [.iload 6, .bipush 9] (by decide +kernel) rfl ?_
  refine q_icmp_gt 92 (off := 34) (by decide +kernel) (by decide) (fun c1 => ?_) (fun c1 => ?_)
  · have h := h.1 c1
    refine q_blk (pc' := 94) (lo' := [some (.ref a0), some (.int x1), some (.int x2), none, some (.int x4), some (.int x5), some (.int x6), none]) (st' := [.int x4]) [.iload 4] (by decide +kernel) rfl ?_
    obtain ⟨g2, h⟩ := h
    exact q_retI rfl g2.1 g2.2 (by decide +kernel) ⟨_, rfl, h⟩
  · have h := h.2 c1
    refine q_blk (pc' := 66) (lo' := [some (.ref a0), some (.int x1), some (.int x2), none, some (.int x4), some (.int x5), some (.int x6), none]) (st' := [.int x2, .int x6, .int x1, .ref a0]) [.aload_n 0, .iload_n 1, .iload 6, .iload_n 2] (by decide +kernel) rfl ?_
    obtain ⟨g3, h⟩ := h
    obtain ⟨s6, h⟩ := h
    refine q_callV (ci := 10) (Mc := M_X10_pickedWith0) (z := 3) (b := a0) (As := [.int x1, .int x6, .int x2]) (st := []) mo_X10_pickedWith0 mi_X10_pickedWith0 ml_X10_368_X10_pickedWith0 rfl rfl (by decide) rfl (by decide) g3 rfl (Nat.le_of_ble_eq_true rfl) (by decide +kernel) s6 h (q_fI fun r5 A4 h => ?_)
    show q_Wp _ _ _ _ k n 69 [some (.ref a0), some (.int x1), some (.int x2), none, some (.int x4), some (.int x5), some (.int x6), none] [.int r5] A4
    refine q_blk (pc' := 75) (lo' := [some (.ref a0), some (.int x1), some (.int x2), none, some (.int x4), some (.int x5), some (.int x6), some (.int r5)]) (st' := [.int x5, .int r5]) [.istore 7, .iload 7, .iload 5] (by decide +kernel) rfl ?_
    refine q_icmp_le 86 (off := 11) (by decide +kernel) (by decide) (fun c7 => ?_) (fun c7 => ?_)
    · have h := h.1 c7
      refine q_blk (pc' := 89) (lo' := [some (.ref a0), some (.int x1), some (.int x2), none, some (.int x4), some (.int x5), some (.int (x6 + (nI 1))), some (.int r5)]) (st' := []) [.iinc 6 1] (by decide +kernel) rfl ?_
      refine q_goto 54 (off := -35) (by decide +kernel) (by decide) ?_
      exact q_wk [some (.ref a0), some (.int x1), some (.int x2), none, some (.int x4), some (.int x5), some (.int (x6 + (nI 1))), none] (And.intro rfl (And.intro rfl (And.intro rfl (And.intro rfl (And.intro rfl (And.intro rfl trivial)))))) h
    · have h := h.2 c7
      refine q_blk (pc' := 89) (lo' := [some (.ref a0), some (.int x1), some (.int x2), none, some (.int x6), some (.int r5), some (.int (x6 + (nI 1))), some (.int r5)]) (st' := []) [.iload 7, .istore 5, .iload 6, .istore 4, .iinc 6 1] (by decide +kernel) rfl ?_
      refine q_goto 54 (off := -35) (by decide +kernel) (by decide) ?_
      exact q_wk [some (.ref a0), some (.int x1), some (.int x2), none, some (.int x6), some (.int r5), some (.int (x6 + (nI 1))), none] (And.intro rfl (And.intro rfl (And.intro rfl (And.intro rfl (And.intro rfl (And.intro rfl trivial)))))) h

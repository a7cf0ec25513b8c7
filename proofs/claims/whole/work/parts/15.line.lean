/-! CONDITIONS: Line -/
theorem f_X4_init {G : q_G} {X : String → q_H → Prop} {f : q_H → Prop} {A : q_H} {a0 : Nat} (h : q_sh (q_rowI (q_new A 50 8) (q_sz A) (fun j => (q_sval 2).getD j 0)) a0 = (5, 0) ∧ q_sh (q_new (q_setR (q_rowI (q_new A 50 8) (q_sz A) (fun j => (q_sval 2).getD j 0)) a0 1 (some (q_sz A))) 66 8) a0 = (5, 0) ∧ (∀ A5 : q_H, A5 = (q_setR (q_new (q_setR (q_rowI (q_new A 50 8) (q_sz A) (fun j => (q_sval 2).getD j 0)) a0 1 (some (q_sz A))) 66 8) a0 2 (some (q_sz (q_setR (q_rowI (q_new A 50 8) (q_sz A) (fun j => (q_sval 2).getD j 0)) a0 1 (some (q_sz A)))))) → q_sh (q_new A5 61 4) a0 = (5, 0) ∧ q_Wc G M_X3_init [.ref (q_sz (q_setR (q_new A5 61 4) a0 4 (some (q_sz A5))))] (q_new (q_setR (q_new A5 61 4) a0 4 (some (q_sz A5))) 4 0) (q_KV fun A9 => q_sh A9 a0 = (5, 0) ∧ q_Wc G M_X7_init [.ref (q_sz (q_setR A9 a0 6 (some (q_sz (q_setR (q_new A5 61 4) a0 4 (some (q_sz A5)))))))] (q_new (q_setR A9 a0 6 (some (q_sz (q_setR (q_new A5 61 4) a0 4 (some (q_sz A5)))))) 8 0) (q_KV fun A13 => q_sh A13 a0 = (5, 0) ∧ q_Wc G M_X2_init [.ref (q_sz (q_setR A13 a0 7 (some (q_sz (q_setR A9 a0 6 (some (q_sz (q_setR (q_new A5 61 4) a0 4 (some (q_sz A5))))))))))] (q_new (q_setR A13 a0 7 (some (q_sz (q_setR A9 a0 6 (some (q_sz (q_setR (q_new A5 61 4) a0 4 (some (q_sz A5))))))))) 3 0) (q_KV fun A17 => q_sh A17 a0 = (5, 0) ∧ q_Wc G M_X8_init [.ref (q_sz (q_setR A17 a0 8 (some (q_sz (q_setR A13 a0 7 (some (q_sz (q_setR A9 a0 6 (some (q_sz (q_setR (q_new A5 61 4) a0 4 (some (q_sz A5)))))))))))))] (q_new (q_setR A17 a0 8 (some (q_sz (q_setR A13 a0 7 (some (q_sz (q_setR A9 a0 6 (some (q_sz (q_setR (q_new A5 61 4) a0 4 (some (q_sz A5)))))))))))) 9 0) (q_KV fun A21 => q_sh A21 a0 = (5, 0) ∧ (∀ A24 : q_H, A24 = (q_setR A21 a0 9 (some (q_sz (q_setR A17 a0 8 (some (q_sz (q_setR A13 a0 7 (some (q_sz (q_setR A9 a0 6 (some (q_sz (q_setR (q_new A5 61 4) a0 4 (some (q_sz A5))))))))))))))) → q_Wc G M_X2_init [.ref (q_sz A24)] (q_new A24 3 0) (q_KV fun A26 => q_sh A26 a0 = (5, 0) ∧ q_Wc G M_X2_init [.ref (q_sz (q_setR A26 a0 10 (some (q_sz A24))))] (q_new (q_setR A26 a0 10 (some (q_sz A24))) 3 0) (q_KV fun A30 => q_sh A30 a0 = (5, 0) ∧ q_Wp G M_X4_init (q_KV f) X 224 949 102 [some (.ref a0), some (.int (nI 0))] [] (q_setR A30 a0 11 (some (q_sz (q_setR A26 a0 10 (some (q_sz A24))))))) q_nX) q_nX)) q_nX) q_nX) q_nX) q_nX)) : q_Wc G M_X4_init [.ref a0] A (q_KV f) X := by
  refine q_Wc.of [some (.ref a0), none] mo_X4_init.2.2.2.2.2 rfl (Nat.le_of_ble_eq_true rfl) rfl ?_
  refine q_blk (pc' := 1) (lo' := [some (.ref a0), none]) (st' := [.ref a0]) [.aload_n 0] (by decide +kernel) rfl ?_
  refine q_obj ob_X4_3.1 ob_X4_3.2.1 ob_X4_3.2.2 (by decide) (Nat.le_of_ble_eq_true rfl) (by decide +kernel) ?_
  refine q_blk (pc' := 5) (lo' := [some (.ref a0), none]) (st' := [.ref a0]) [.aload_n 0] (by decide +kernel) rfl ?_
  refine q_gets (i := 2) (by decide) gs_X4_9_2 (by decide +kernel) ?_
  refine q_cloneS (i := 2) (by decide) cn_X4_13.1 cn_X4_13.2.1 cn_X4_13.2.2.1 cn_X4_13.2.2.2.1 cn_X4_13.2.2.2.2.1 cn_X4_13.2.2.2.2.2 (by decide) (Nat.le_of_ble_eq_true rfl) (by decide) (by decide) (by decide +kernel) ?_
  have s1 : q_sh (q_rowI (q_new A 50 8) (q_sz A) (fun j => (q_sval 2).getD j 0)) (q_sz A) = (50, 8) := q_shn _ _ _
  refine q_castI kl_X4_14 (by decide +kernel) s1 ?_
  obtain ⟨s2, h⟩ := h
  refine q_putP (v := (some (q_sz A))) fp_X4_18 rfl rfl (by decide) (by decide +kernel) s2 ?_
  refine q_blk (pc' := 20) (lo' := [some (.ref a0), none]) (st' := [.int (nI 8), .ref a0]) [.aload_n 0, .bipush 8] (by decide +kernel) rfl ?_
  refine q_newR (z := 8) (cc := 6) rfl (q_rk6 G) kl_X4_23 rfl (by decide) (by decide) (by decide) (by decide +kernel) ?_
  have s3 : q_sh (q_new (q_setR (q_rowI (q_new A 50 8) (q_sz A) (fun j => (q_sval 2).getD j 0)) a0 1 (some (q_sz A))) 66 8) (q_sz (q_setR (q_rowI (q_new A 50 8) (q_sz A) (fun j => (q_sval 2).getD j 0)) a0 1 (some (q_sz A)))) = (66, 8) := q_shn _ _ _
  obtain ⟨s4, h⟩ := h
  refine q_putP (v := (some (q_sz (q_setR (q_rowI (q_new A 50 8) (q_sz A) (fun j => (q_sval 2).getD j 0)) a0 1 (some (q_sz A)))))) fp_X4_25 rfl rfl (by decide) (by decide +kernel) s4 ?_
  let A5 : q_H := (q_setR (q_new (q_setR (q_rowI (q_new A 50 8) (q_sz A) (fun j => (q_sval 2).getD j 0)) a0 1 (some (q_sz A))) 66 8) a0 2 (some (q_sz (q_setR (q_rowI (q_new A 50 8) (q_sz A) (fun j => (q_sval 2).getD j 0)) a0 1 (some (q_sz A))))))
  have h := h A5 rfl
  show q_Wp _ _ _ _ 2 16 26 [some (.ref a0), none] [] A5
  refine q_blk (pc' := 28) (lo' := [some (.ref a0), none]) (st' := [.int (nI 4), .ref a0]) [.aload_n 0, .iconst 4] (by decide +kernel) rfl ?_
  refine q_newR (z := 4) (cc := 1) rfl (q_rk1 G) kl_X4_29 rfl (by decide) (by decide) (by decide) (by decide +kernel) ?_
  have s6 : q_sh (q_new A5 61 4) (q_sz A5) = (61, 4) := q_shn _ _ _
  obtain ⟨s7, h⟩ := h
  refine q_putP (v := (some (q_sz A5))) fp_X4_31 rfl rfl (by decide) (by decide +kernel) s7 ?_
  refine q_blk (pc' := 35) (lo' := [some (.ref a0), none]) (st' := [.ref a0]) [.aload_n 0] (by decide +kernel) rfl ?_
  refine q_newO (idx := 35) ck3 (by decide) kl_X4_35 nw_3.1 nw_3.2 (by decide) (by decide) (by decide +kernel) ?_
  have s8 : q_sh (q_new (q_setR (q_new A5 61 4) a0 4 (some (q_sz A5))) 4 0) (q_sz (q_setR (q_new A5 61 4) a0 4 (some (q_sz A5)))) = (4, 0) := q_shn _ _ _
  refine q_blk (pc' := 39) (lo' := [some (.ref a0), none]) (st' := [.ref (q_sz (q_setR (q_new A5 61 4) a0 4 (some (q_sz A5)))), .ref (q_sz (q_setR (q_new A5 61 4) a0 4 (some (q_sz A5)))), .ref a0]) [.dup] (by decide +kernel) rfl ?_
  refine q_callI (Mc := M_X3_init) (z := 0) (b := (q_sz (q_setR (q_new A5 61 4) a0 4 (some (q_sz A5))))) (As := []) (st := [.ref (q_sz (q_setR (q_new A5 61 4) a0 4 (some (q_sz A5)))), .ref a0]) mo_X3_init mi0_X3_init mI_X4_37_X3_init rfl rfl rfl rfl (by decide) (by decide) rfl (Nat.le_of_ble_eq_true rfl) (by decide +kernel) h (q_fV fun A9 h => ?_)
  show q_Wp _ _ _ _ 95 353 42 [some (.ref a0), none] [.ref (q_sz (q_setR (q_new A5 61 4) a0 4 (some (q_sz A5)))), .ref a0] A9
  obtain ⟨s11, h⟩ := h
  refine q_putP (v := (some (q_sz (q_setR (q_new A5 61 4) a0 4 (some (q_sz A5)))))) fp_X4_38 rfl rfl (by decide) (by decide +kernel) s11 ?_
  refine q_blk (pc' := 46) (lo' := [some (.ref a0), none]) (st' := [.ref a0]) [.aload_n 0] (by decide +kernel) rfl ?_
  refine q_newO (idx := 42) ck7 (by decide) kl_X4_42 nw_7.1 nw_7.2 (by decide) (by decide) (by decide +kernel) ?_
  have s12 : q_sh (q_new (q_setR A9 a0 6 (some (q_sz (q_setR (q_new A5 61 4) a0 4 (some (q_sz A5)))))) 8 0) (q_sz (q_setR A9 a0 6 (some (q_sz (q_setR (q_new A5 61 4) a0 4 (some (q_sz A5))))))) = (8, 0) := q_shn _ _ _
  refine q_blk (pc' := 50) (lo' := [some (.ref a0), none]) (st' := [.ref (q_sz (q_setR A9 a0 6 (some (q_sz (q_setR (q_new A5 61 4) a0 4 (some (q_sz A5))))))), .ref (q_sz (q_setR A9 a0 6 (some (q_sz (q_setR (q_new A5 61 4) a0 4 (some (q_sz A5))))))), .ref a0]) [.dup] (by decide +kernel) rfl ?_
  refine q_callI (Mc := M_X7_init) (z := 0) (b := (q_sz (q_setR A9 a0 6 (some (q_sz (q_setR (q_new A5 61 4) a0 4 (some (q_sz A5)))))))) (As := []) (st := [.ref (q_sz (q_setR A9 a0 6 (some (q_sz (q_setR (q_new A5 61 4) a0 4 (some (q_sz A5))))))), .ref a0]) mo_X7_init mi0_X7_init mI_X4_44_X7_init rfl rfl rfl rfl (by decide) (by decide) rfl (Nat.le_of_ble_eq_true rfl) (by decide +kernel) h (q_fV fun A13 h => ?_)
  show q_Wp _ _ _ _ 217 915 53 [some (.ref a0), none] [.ref (q_sz (q_setR A9 a0 6 (some (q_sz (q_setR (q_new A5 61 4) a0 4 (some (q_sz A5))))))), .ref a0] A13
  obtain ⟨s15, h⟩ := h
  refine q_putP (v := (some (q_sz (q_setR A9 a0 6 (some (q_sz (q_setR (q_new A5 61 4) a0 4 (some (q_sz A5))))))))) fp_X4_45 rfl rfl (by decide) (by decide +kernel) s15 ?_
  refine q_blk (pc' := 57) (lo' := [some (.ref a0), none]) (st' := [.ref a0]) [.aload_n 0] (by decide +kernel) rfl ?_
  refine q_newO (idx := 49) ck2 (by decide) kl_X4_49 nw_2.1 nw_2.2 (by decide) (by decide) (by decide +kernel) ?_
  have s16 : q_sh (q_new (q_setR A13 a0 7 (some (q_sz (q_setR A9 a0 6 (some (q_sz (q_setR (q_new A5 61 4) a0 4 (some (q_sz A5))))))))) 3 0) (q_sz (q_setR A13 a0 7 (some (q_sz (q_setR A9 a0 6 (some (q_sz (q_setR (q_new A5 61 4) a0 4 (some (q_sz A5)))))))))) = (3, 0) := q_shn _ _ _
  refine q_blk (pc' := 61) (lo' := [some (.ref a0), none]) (st' := [.ref (q_sz (q_setR A13 a0 7 (some (q_sz (q_setR A9 a0 6 (some (q_sz (q_setR (q_new A5 61 4) a0 4 (some (q_sz A5)))))))))), .ref (q_sz (q_setR A13 a0 7 (some (q_sz (q_setR A9 a0 6 (some (q_sz (q_setR (q_new A5 61 4) a0 4 (some (q_sz A5)))))))))), .ref a0]) [.dup] (by decide +kernel) rfl ?_
  refine q_callI (Mc := M_X2_init) (z := 0) (b := (q_sz (q_setR A13 a0 7 (some (q_sz (q_setR A9 a0 6 (some (q_sz (q_setR (q_new A5 61 4) a0 4 (some (q_sz A5))))))))))) (As := []) (st := [.ref (q_sz (q_setR A13 a0 7 (some (q_sz (q_setR A9 a0 6 (some (q_sz (q_setR (q_new A5 61 4) a0 4 (some (q_sz A5)))))))))), .ref a0]) mo_X2_init mi0_X2_init mI_X4_51_X2_init rfl rfl rfl rfl (by decide) (by decide) rfl (Nat.le_of_ble_eq_true rfl) (by decide +kernel) h (q_fV fun A17 h => ?_)
  show q_Wp _ _ _ _ 219 923 64 [some (.ref a0), none] [.ref (q_sz (q_setR A13 a0 7 (some (q_sz (q_setR A9 a0 6 (some (q_sz (q_setR (q_new A5 61 4) a0 4 (some (q_sz A5)))))))))), .ref a0] A17
  obtain ⟨s19, h⟩ := h
  refine q_putP (v := (some (q_sz (q_setR A13 a0 7 (some (q_sz (q_setR A9 a0 6 (some (q_sz (q_setR (q_new A5 61 4) a0 4 (some (q_sz A5)))))))))))) fp_X4_52 rfl rfl (by decide) (by decide +kernel) s19 ?_
  refine q_blk (pc' := 68) (lo' := [some (.ref a0), none]) (st' := [.ref a0]) [.aload_n 0] (by decide +kernel) rfl ?_
  refine q_newO (idx := 56) ck8 (by decide) kl_X4_56 nw_8.1 nw_8.2 (by decide) (by decide) (by decide +kernel) ?_
  have s20 : q_sh (q_new (q_setR A17 a0 8 (some (q_sz (q_setR A13 a0 7 (some (q_sz (q_setR A9 a0 6 (some (q_sz (q_setR (q_new A5 61 4) a0 4 (some (q_sz A5)))))))))))) 9 0) (q_sz (q_setR A17 a0 8 (some (q_sz (q_setR A13 a0 7 (some (q_sz (q_setR A9 a0 6 (some (q_sz (q_setR (q_new A5 61 4) a0 4 (some (q_sz A5))))))))))))) = (9, 0) := q_shn _ _ _
  refine q_blk (pc' := 72) (lo' := [some (.ref a0), none]) (st' := [.ref (q_sz (q_setR A17 a0 8 (some (q_sz (q_setR A13 a0 7 (some (q_sz (q_setR A9 a0 6 (some (q_sz (q_setR (q_new A5 61 4) a0 4 (some (q_sz A5))))))))))))), .ref (q_sz (q_setR A17 a0 8 (some (q_sz (q_setR A13 a0 7 (some (q_sz (q_setR A9 a0 6 (some (q_sz (q_setR (q_new A5 61 4) a0 4 (some (q_sz A5))))))))))))), .ref a0]) [.dup] (by decide +kernel) rfl ?_
  refine q_callI (Mc := M_X8_init) (z := 0) (b := (q_sz (q_setR A17 a0 8 (some (q_sz (q_setR A13 a0 7 (some (q_sz (q_setR A9 a0 6 (some (q_sz (q_setR (q_new A5 61 4) a0 4 (some (q_sz A5)))))))))))))) (As := []) (st := [.ref (q_sz (q_setR A17 a0 8 (some (q_sz (q_setR A13 a0 7 (some (q_sz (q_setR A9 a0 6 (some (q_sz (q_setR (q_new A5 61 4) a0 4 (some (q_sz A5))))))))))))), .ref a0]) mo_X8_init mi0_X8_init mI_X4_58_X8_init rfl rfl rfl rfl (by decide) (by decide) rfl (Nat.le_of_ble_eq_true rfl) (by decide +kernel) h (q_fV fun A21 h => ?_)
  show q_Wp _ _ _ _ 220 933 75 [some (.ref a0), none] [.ref (q_sz (q_setR A17 a0 8 (some (q_sz (q_setR A13 a0 7 (some (q_sz (q_setR A9 a0 6 (some (q_sz (q_setR (q_new A5 61 4) a0 4 (some (q_sz A5))))))))))))), .ref a0] A21
  obtain ⟨s23, h⟩ := h
  refine q_putP (v := (some (q_sz (q_setR A17 a0 8 (some (q_sz (q_setR A13 a0 7 (some (q_sz (q_setR A9 a0 6 (some (q_sz (q_setR (q_new A5 61 4) a0 4 (some (q_sz A5))))))))))))))) fp_X4_59 rfl rfl (by decide) (by decide +kernel) s23 ?_
  let A24 : q_H := (q_setR A21 a0 9 (some (q_sz (q_setR A17 a0 8 (some (q_sz (q_setR A13 a0 7 (some (q_sz (q_setR A9 a0 6 (some (q_sz (q_setR (q_new A5 61 4) a0 4 (some (q_sz A5)))))))))))))))
  have h := h A24 rfl
  show q_Wp _ _ _ _ 220 933 78 [some (.ref a0), none] [] A24
  refine q_blk (pc' := 79) (lo' := [some (.ref a0), none]) (st' := [.ref a0]) [.aload_n 0] (by decide +kernel) rfl ?_
  refine q_newO (idx := 49) ck2 (by decide) kl_X4_49 nw_2.1 nw_2.2 (by decide) (by decide) (by decide +kernel) ?_
  have s25 : q_sh (q_new A24 3 0) (q_sz A24) = (3, 0) := q_shn _ _ _
  refine q_blk (pc' := 83) (lo' := [some (.ref a0), none]) (st' := [.ref (q_sz A24), .ref (q_sz A24), .ref a0]) [.dup] (by decide +kernel) rfl ?_
  refine q_callI (Mc := M_X2_init) (z := 0) (b := (q_sz A24)) (As := []) (st := [.ref (q_sz A24), .ref a0]) mo_X2_init mi0_X2_init mI_X4_51_X2_init rfl rfl rfl rfl (by decide) (by decide) rfl (Nat.le_of_ble_eq_true rfl) (by decide +kernel) h (q_fV fun A26 h => ?_)
  show q_Wp _ _ _ _ 222 941 86 [some (.ref a0), none] [.ref (q_sz A24), .ref a0] A26
  obtain ⟨s28, h⟩ := h
  refine q_putP (v := (some (q_sz A24))) fp_X4_63 rfl rfl (by decide) (by decide +kernel) s28 ?_
  refine q_blk (pc' := 90) (lo' := [some (.ref a0), none]) (st' := [.ref a0]) [.aload_n 0] (by decide +kernel) rfl ?_
  refine q_newO (idx := 49) ck2 (by decide) kl_X4_49 nw_2.1 nw_2.2 (by decide) (by decide) (by decide +kernel) ?_
  have s29 : q_sh (q_new (q_setR A26 a0 10 (some (q_sz A24))) 3 0) (q_sz (q_setR A26 a0 10 (some (q_sz A24)))) = (3, 0) := q_shn _ _ _
  refine q_blk (pc' := 94) (lo' := [some (.ref a0), none]) (st' := [.ref (q_sz (q_setR A26 a0 10 (some (q_sz A24)))), .ref (q_sz (q_setR A26 a0 10 (some (q_sz A24)))), .ref a0]) [.dup] (by decide +kernel) rfl ?_
  refine q_callI (Mc := M_X2_init) (z := 0) (b := (q_sz (q_setR A26 a0 10 (some (q_sz A24))))) (As := []) (st := [.ref (q_sz (q_setR A26 a0 10 (some (q_sz A24)))), .ref a0]) mo_X2_init mi0_X2_init mI_X4_51_X2_init rfl rfl rfl rfl (by decide) (by decide) rfl (Nat.le_of_ble_eq_true rfl) (by decide +kernel) h (q_fV fun A30 h => ?_)
  show q_Wp _ _ _ _ 224 949 97 [some (.ref a0), none] [.ref (q_sz (q_setR A26 a0 10 (some (q_sz A24)))), .ref a0] A30
  obtain ⟨s32, h⟩ := h
  refine q_putP (v := (some (q_sz (q_setR A26 a0 10 (some (q_sz A24)))))) fp_X4_66 rfl rfl (by decide) (by decide +kernel) s32 ?_
  refine q_blk (pc' := 102) (lo' := [some (.ref a0), some (.int (nI 0))]) (st' := []) [.iconst 0, .istore_n 1] (by decide +kernel) rfl ?_
  exact h
theorem f_X4_init_102 {G : q_G} {X : String → q_H → Prop} {f : q_H → Prop} {A : q_H} {a0 : Nat} {x1 : Int32} {k n : Nat} (h : q_sh A a0 = (5, 0) ∧ ∃ r2 : Nat, q_R A a0 2 = some r2 ∧ ∃ z5 : Nat, q_sh A r2 = (66, z5) ∧ z5 < 2147483648 ∧ (((nI z5) ≤ x1 → q_Wp G M_X4_init (q_KV f) X k n 132 [some (.ref a0), some (.int (nI 0))] [] A) ∧ (¬ (nI z5) ≤ x1 → (k + 1 ≤ 276 ∧ n + 9 ≤ 1193) ∧ (k + 1 + 5 ≤ 276 ∧ n + 9 + 18 ≤ 1193) ∧ q_Wc G M_X6_init [.ref (q_sz A)] (q_new A 7 0) (q_KV fun A11 => ∃ z14 : Nat, q_sh A11 r2 = (66, z14) ∧ z14 < 2147483648 ∧ ∃ j16 : Nat, x1 = nI j16 ∧ j16 < z14 ∧ q_sh A11 (q_sz A) = (7, 0) ∧ q_Wp G M_X4_init (q_KV f) X (k + 1 + 5) (n + 9 + 18) 102 [some (.ref a0), some (.int (x1 + (nI 1)))] [] (q_setR A11 r2 j16 (some (q_sz A)))) q_nX))) : q_Wp G M_X4_init (q_KV f) X k n 102 [some (.ref a0), some (.int x1)] [] A := by
  refine q_blk (pc' := 104) (lo' := [some (.ref a0), some (.int x1)]) (st' := [.ref a0, .int x1]) [.iload_n 1, .aload_n 0] (by decide +kernel) rfl ?_
  obtain ⟨s1, h⟩ := h
  obtain ⟨r2, e3, h⟩ := h
  refine q_getR fl_X4_25 rfl (by decide) (by decide +kernel) s1 e3 ?_
  obtain ⟨z5, s4, b6, h⟩ := h
  refine q_alenR (q_rk6 G) (by decide +kernel) s4 ?_
  refine q_icmp_ge 130 (off := 22) (by decide +kernel) (by decide) (fun c7 => ?_) (fun c7 => ?_)
  · have h := h.1 c7
    refine q_blk (pc' := 132) (lo' := [some (.ref a0), some (.int (nI 0))]) (st' := []) [.iconst 0, .istore_n 1] (by decide +kernel) rfl ?_
    exact h
  · have h := h.2 c7
    refine q_blk (pc' := 112) (lo' := [some (.ref a0), some (.int x1)]) (st' := [.ref a0]) [.aload_n 0] (by decide +kernel) rfl ?_
    refine q_getR fl_X4_25 rfl (by decide) (by decide +kernel) s1 e3 ?_
    refine q_blk (pc' := 116) (lo' := [some (.ref a0), some (.int x1)]) (st' := [.int x1, .ref r2]) [.iload_n 1] (by decide +kernel) rfl ?_
    obtain ⟨g8, h⟩ := h
    refine q_newO (idx := 23) ck6 (by decide) kl_X4_23 nw_6.1 nw_6.2 g8.1 g8.2 (by decide +kernel) ?_
    have s9 : q_sh (q_new A 7 0) (q_sz A) = (7, 0) := q_shn _ _ _
    refine q_blk (pc' := 120) (lo' := [some (.ref a0), some (.int x1)]) (st' := [.ref (q_sz A), .ref (q_sz A), .int x1, .ref r2]) [.dup] (by decide +kernel) rfl ?_
    obtain ⟨g10, h⟩ := h
    refine q_callI (Mc := M_X6_init) (z := 0) (b := (q_sz A)) (As := []) (st := [.ref (q_sz A), .int x1, .ref r2]) mo_X6_init mi0_X6_init mI_X4_69_X6_init rfl rfl rfl rfl (by decide) g10 rfl (Nat.le_of_ble_eq_true rfl) (by decide +kernel) h (q_fV fun A11 h => ?_)
    show q_Wp _ _ _ _ (k + 1 + 5) (n + 9 + 18) 123 [some (.ref a0), some (.int x1)] [.ref (q_sz A), .int x1, .ref r2] A11
    obtain ⟨z14, s13, b15, h⟩ := h
    obtain ⟨j16, e17, h⟩ := h
    obtain ⟨l18, h⟩ := h
    obtain ⟨s19, h⟩ := h
    refine q_aast (r := some (q_sz A)) (q_rk6 G) (by decide) e17 (by decide +kernel) s13 l18 b15 (fun _ q9 => by cases q9; exact s19) ?_
    refine q_blk (pc' := 127) (lo' := [some (.ref a0), some (.int (x1 + (nI 1)))]) (st' := []) [.iinc 1 1] (by decide +kernel) rfl ?_
    refine q_goto 102 (off := -25) (by decide +kernel) (by decide) ?_
    exact h
theorem f_X4_init_132 {G : q_G} {X : String → q_H → Prop} {f : q_H → Prop} {A : q_H} {a0 : Nat} {x1 : Int32} {k n : Nat} (h : q_sh A a0 = (5, 0) ∧ ∃ r2 : Nat, q_R A a0 4 = some r2 ∧ ∃ z5 : Nat, q_sh A r2 = (61, z5) ∧ z5 < 2147483648 ∧ (((nI z5) ≤ x1 → (k ≤ 276 ∧ n ≤ 1193) ∧ f A) ∧ (¬ (nI z5) ≤ x1 → (k + 1 ≤ 276 ∧ n + 7 ≤ 1193) ∧ (k + 1 ≤ 276 ∧ n + 7 ≤ 1193) ∧ q_Wc G M_X1_init [.ref (q_sz A)] (q_new A 2 0) (q_KV fun A12 => ∃ z15 : Nat, q_sh A12 r2 = (61, z15) ∧ z15 < 2147483648 ∧ ∃ j17 : Nat, x1 = nI j17 ∧ j17 < z15 ∧ q_sh A12 (q_sz A) = (2, 0) ∧ q_Wp G M_X4_init (q_KV f) X (k + 1) (n + 7) 132 [some (.ref a0), some (.int (x1 + (nI 1)))] [] (q_setR A12 r2 j17 (some (q_sz A)))) q_nX))) : q_Wp G M_X4_init (q_KV f) X k n 132 [some (.ref a0), some (.int x1)] [] A := by
  refine q_blk (pc' := 134) (lo' := [some (.ref a0), some (.int x1)]) (st' := [.ref a0, .int x1]) [.iload_n 1, .aload_n 0] (by decide +kernel) rfl ?_
  obtain ⟨s1, h⟩ := h
  obtain ⟨r2, e3, h⟩ := h
  refine q_getR fl_X4_31 rfl (by decide) (by decide +kernel) s1 e3 ?_
  obtain ⟨z5, s4, b6, h⟩ := h
  refine q_alenR (q_rk1 G) (by decide +kernel) s4 ?_
  refine q_icmp_ge 160 (off := 22) (by decide +kernel) (by decide) (fun c7 => ?_) (fun c7 => ?_)
  · have h := h.1 c7
    obtain ⟨g8, h⟩ := h
    exact q_ret0 rfl g8.1 g8.2 (by decide +kernel) ⟨rfl, h⟩
  · have h := h.2 c7
    refine q_blk (pc' := 142) (lo' := [some (.ref a0), some (.int x1)]) (st' := [.ref a0]) [.aload_n 0] (by decide +kernel) rfl ?_
    refine q_getR fl_X4_31 rfl (by decide) (by decide +kernel) s1 e3 ?_
    refine q_blk (pc' := 146) (lo' := [some (.ref a0), some (.int x1)]) (st' := [.int x1, .ref r2]) [.iload_n 1] (by decide +kernel) rfl ?_
    obtain ⟨g9, h⟩ := h
    refine q_newO (idx := 29) ck1 (by decide) kl_X4_29 nw_1.1 nw_1.2 g9.1 g9.2 (by decide +kernel) ?_
    have s10 : q_sh (q_new A 2 0) (q_sz A) = (2, 0) := q_shn _ _ _
    refine q_blk (pc' := 150) (lo' := [some (.ref a0), some (.int x1)]) (st' := [.ref (q_sz A), .ref (q_sz A), .int x1, .ref r2]) [.dup] (by decide +kernel) rfl ?_
    obtain ⟨g11, h⟩ := h
    refine q_callI (Mc := M_X1_init) (z := 0) (b := (q_sz A)) (As := []) (st := [.ref (q_sz A), .int x1, .ref r2]) mo_X1_init mi0_X1_init mI_X4_70_X1_init rfl rfl rfl rfl (by decide) g11 rfl (Nat.le_of_ble_eq_true rfl) (by decide +kernel) h (q_fV fun A12 h => ?_)
    show q_Wp _ _ _ _ (k + 1) (n + 7) 153 [some (.ref a0), some (.int x1)] [.ref (q_sz A), .int x1, .ref r2] A12
    obtain ⟨z15, s14, b16, h⟩ := h
    obtain ⟨j17, e18, h⟩ := h
    obtain ⟨l19, h⟩ := h
    obtain ⟨s20, h⟩ := h
    refine q_aast (r := some (q_sz A)) (q_rk1 G) (by decide) e18 (by decide +kernel) s14 l19 b16 (fun _ q9 => by cases q9; exact s20) ?_
    refine q_blk (pc' := 157) (lo' := [some (.ref a0), some (.int (x1 + (nI 1)))]) (st' := []) [.iinc 1 1] (by decide +kernel) rfl ?_
    refine q_goto 132 (off := -25) (by decide +kernel) (by decide) ?_
    exact h
theorem f_X4_hasMaterial {G : q_G} {X : String → q_H → Prop} {f : Bool → q_H → Prop} {A : q_H} {a0 : Nat} {x1 : Int32} (h : ((x1 < nI 0 → f false A) ∧ (¬ x1 < nI 0 → q_sh A a0 = (5, 0) ∧ (((q_I A a0 0) ≤ x1 → f false A) ∧ (¬ (q_I A a0 0) ≤ x1 → f true A))))) : q_Wc G M_X4_hasMaterial [.ref a0, .int x1] A (q_KB f) X := by
  refine q_Wc.of [some (.ref a0), some (.int x1)] mo_X4_hasMaterial.2.2.2.2.2 rfl (Nat.le_of_ble_eq_true rfl) rfl ?_
  refine q_blk (pc' := 1) (lo' := [some (.ref a0), some (.int x1)]) (st' := [.int x1]) [.iload_n 1] (by decide +kernel) rfl ?_
  refine q_if_lt 16 (off := 15) (by decide +kernel) (by decide) (fun c1 => ?_) (fun c1 => ?_)
  · have h := h.1 c1
    refine q_blk (pc' := 17) (lo' := [some (.ref a0), some (.int x1)]) (st' := [.int (nI 0)]) [.iconst 0] (by decide +kernel) rfl ?_
    exact q_retZ (r := q_i false) rfl (q_nz _) (by decide) (by decide) (by decide +kernel) ⟨false, rfl, h⟩
  · have h := h.2 c1
    refine q_blk (pc' := 6) (lo' := [some (.ref a0), some (.int x1)]) (st' := [.ref a0, .int x1]) [.iload_n 1, .aload_n 0] (by decide +kernel) rfl ?_
    obtain ⟨s2, h⟩ := h
    refine q_getI fl_X4_71 rfl (by decide) (by decide +kernel) s2 ?_
    refine q_icmp_ge 16 (off := 7) (by decide +kernel) (by decide) (fun c3 => ?_) (fun c3 => ?_)
    · have h := h.1 c3
      refine q_blk (pc' := 17) (lo' := [some (.ref a0), some (.int x1)]) (st' := [.int (nI 0)]) [.iconst 0] (by decide +kernel) rfl ?_
      exact q_retZ (r := q_i false) rfl (q_nz _) (by decide) (by decide) (by decide +kernel) ⟨false, rfl, h⟩
    · have h := h.2 c3
      refine q_blk (pc' := 13) (lo' := [some (.ref a0), some (.int x1)]) (st' := [.int (nI 1)]) [.iconst 1] (by decide +kernel) rfl ?_
      refine q_goto 17 (off := 4) (by decide +kernel) (by decide) ?_
      exact q_retZ (r := q_i true) rfl (q_nz _) (by decide) (by decide) (by decide +kernel) ⟨true, rfl, h⟩
theorem f_X4_stationAt {G : q_G} {X : String → q_H → Prop} {f : Option Nat → q_H → Prop} {A : q_H} {a0 : Nat} {x1 : Int32} (h : ((x1 < nI 0 → f none A) ∧ (¬ x1 < nI 0 → q_sh A a0 = (5, 0) ∧ (((q_I A a0 3) ≤ x1 → f none A) ∧ (¬ (q_I A a0 3) ≤ x1 → ∃ r4 : Nat, q_R A a0 2 = some r4 ∧ ∃ z7 : Nat, q_sh A r4 = (66, z7) ∧ z7 < 2147483648 ∧ ∃ j9 : Nat, x1 = nI j9 ∧ j9 < z7 ∧ ∃ r12 : Nat, q_R A r4 j9 = some r12 ∧ f (some r12) A))))) : q_Wc G M_X4_stationAt [.ref a0, .int x1] A (q_KR f) X := by
  refine q_Wc.of [some (.ref a0), some (.int x1)] mo_X4_stationAt.2.2.2.2.2 rfl (Nat.le_of_ble_eq_true rfl) rfl ?_
  refine q_blk (pc' := 1) (lo' := [some (.ref a0), some (.int x1)]) (st' := [.int x1]) [.iload_n 1] (by decide +kernel) rfl ?_
  refine q_if_lt 21 (off := 20) (by decide +kernel) (by decide) (fun c1 => ?_) (fun c1 => ?_)
  · have h := h.1 c1
    refine q_blk (pc' := 22) (lo' := [some (.ref a0), some (.int x1)]) (st' := [.null]) [.aconst_null] (by decide +kernel) rfl ?_
    exact q_retR (r := none) rfl (Or.inl ⟨_, rfl⟩) (by decide) (by decide) (by decide +kernel) ⟨_, rfl, h⟩
  · have h := h.2 c1
    refine q_blk (pc' := 6) (lo' := [some (.ref a0), some (.int x1)]) (st' := [.ref a0, .int x1]) [.iload_n 1, .aload_n 0] (by decide +kernel) rfl ?_
    obtain ⟨s2, h⟩ := h
    refine q_getI fl_X4_75 rfl (by decide) (by decide +kernel) s2 ?_
    refine q_icmp_ge 21 (off := 12) (by decide +kernel) (by decide) (fun c3 => ?_) (fun c3 => ?_)
    · have h := h.1 c3
      refine q_blk (pc' := 22) (lo' := [some (.ref a0), some (.int x1)]) (st' := [.null]) [.aconst_null] (by decide +kernel) rfl ?_
      exact q_retR (r := none) rfl (Or.inl ⟨_, rfl⟩) (by decide) (by decide) (by decide +kernel) ⟨_, rfl, h⟩
    · have h := h.2 c3
      refine q_blk (pc' := 13) (lo' := [some (.ref a0), some (.int x1)]) (st' := [.ref a0]) [.aload_n 0] (by decide +kernel) rfl ?_
      obtain ⟨r4, e5, h⟩ := h
      refine q_getR fl_X4_25 rfl (by decide) (by decide +kernel) s2 e5 ?_
      refine q_blk (pc' := 17) (lo' := [some (.ref a0), some (.int x1)]) (st' := [.int x1, .ref r4]) [.iload_n 1] (by decide +kernel) rfl ?_
      obtain ⟨z7, s6, b8, h⟩ := h
      obtain ⟨j9, e10, h⟩ := h
      obtain ⟨l11, h⟩ := h
      obtain ⟨r12, e13, h⟩ := h
      refine q_aaldS (q_rk6 G) e10 (by decide +kernel) s6 l11 b8 e13 ?_
      refine q_goto 22 (off := 4) (by decide +kernel) (by decide) ?_
      exact q_retR (r := (some r12)) rfl (Or.inl ⟨_, rfl⟩) (by decide) (by decide) (by decide +kernel) ⟨_, rfl, h⟩
theorem f_X4_buyerAt {G : q_G} {X : String → q_H → Prop} {f : Option Nat → q_H → Prop} {A : q_H} {a0 : Nat} {x1 : Int32} (h : ((x1 < nI 0 → f none A) ∧ (¬ x1 < nI 0 → q_sh A a0 = (5, 0) ∧ (((q_I A a0 5) ≤ x1 → f none A) ∧ (¬ (q_I A a0 5) ≤ x1 → ∃ r4 : Nat, q_R A a0 4 = some r4 ∧ ∃ z7 : Nat, q_sh A r4 = (61, z7) ∧ z7 < 2147483648 ∧ ∃ j9 : Nat, x1 = nI j9 ∧ j9 < z7 ∧ ∃ r12 : Nat, q_R A r4 j9 = some r12 ∧ f (some r12) A))))) : q_Wc G M_X4_buyerAt [.ref a0, .int x1] A (q_KR f) X := by
  refine q_Wc.of [some (.ref a0), some (.int x1)] mo_X4_buyerAt.2.2.2.2.2 rfl (Nat.le_of_ble_eq_true rfl) rfl ?_
  refine q_blk (pc' := 1) (lo' := [some (.ref a0), some (.int x1)]) (st' := [.int x1]) [.iload_n 1] (by decide +kernel) rfl ?_
  refine q_if_lt 21 (off := 20) (by decide +kernel) (by decide) (fun c1 => ?_) (fun c1 => ?_)
  · have h := h.1 c1
    refine q_blk (pc' := 22) (lo' := [some (.ref a0), some (.int x1)]) (st' := [.null]) [.aconst_null] (by decide +kernel) rfl ?_
    exact q_retR (r := none) rfl (Or.inl ⟨_, rfl⟩) (by decide) (by decide) (by decide +kernel) ⟨_, rfl, h⟩
  · have h := h.2 c1
    refine q_blk (pc' := 6) (lo' := [some (.ref a0), some (.int x1)]) (st' := [.ref a0, .int x1]) [.iload_n 1, .aload_n 0] (by decide +kernel) rfl ?_
    obtain ⟨s2, h⟩ := h
    refine q_getI fl_X4_78 rfl (by decide) (by decide +kernel) s2 ?_
    refine q_icmp_ge 21 (off := 12) (by decide +kernel) (by decide) (fun c3 => ?_) (fun c3 => ?_)
    · have h := h.1 c3
      refine q_blk (pc' := 22) (lo' := [some (.ref a0), some (.int x1)]) (st' := [.null]) [.aconst_null] (by decide +kernel) rfl ?_
      exact q_retR (r := none) rfl (Or.inl ⟨_, rfl⟩) (by decide) (by decide) (by decide +kernel) ⟨_, rfl, h⟩
    · have h := h.2 c3
      refine q_blk (pc' := 13) (lo' := [some (.ref a0), some (.int x1)]) (st' := [.ref a0]) [.aload_n 0] (by decide +kernel) rfl ?_
      obtain ⟨r4, e5, h⟩ := h
      refine q_getR fl_X4_31 rfl (by decide) (by decide +kernel) s2 e5 ?_
      refine q_blk (pc' := 17) (lo' := [some (.ref a0), some (.int x1)]) (st' := [.int x1, .ref r4]) [.iload_n 1] (by decide +kernel) rfl ?_
      obtain ⟨z7, s6, b8, h⟩ := h
      obtain ⟨j9, e10, h⟩ := h
      obtain ⟨l11, h⟩ := h
      obtain ⟨r12, e13, h⟩ := h
      refine q_aaldS (q_rk1 G) e10 (by decide +kernel) s6 l11 b8 e13 ?_
      refine q_goto 22 (off := 4) (by decide +kernel) (by decide) ?_
      exact q_retR (r := (some r12)) rfl (Or.inl ⟨_, rfl⟩) (by decide) (by decide) (by decide +kernel) ⟨_, rfl, h⟩
theorem f_X4_buyerNamed {G : q_G} {X : String → q_H → Prop} {f : Int32 → q_H → Prop} {A : q_H} {a0 : Nat} {x1 : Int32} (h : q_Wp G M_X4_buyerNamed (q_KI f) X 0 0 2 [some (.ref a0), some (.int x1), some (.int (nI 0))] [] A) : q_Wc G M_X4_buyerNamed [.ref a0, .int x1] A (q_KI f) X := by
  refine q_Wc.of [some (.ref a0), some (.int x1), none] mo_X4_buyerNamed.2.2.2.2.2 rfl (Nat.le_of_ble_eq_true rfl) rfl ?_
  refine q_blk (pc' := 2) (lo' := [some (.ref a0), some (.int x1), some (.int (nI 0))]) (st' := []) [.iconst 0, .istore_n 2] (by decide +kernel) rfl ?_
  exact h
theorem f_X4_buyerNamed_2 {G : q_G} {X : String → q_H → Prop} {f : Int32 → q_H → Prop} {A : q_H} {a0 : Nat} {x1 : Int32} {x2 : Int32} (h : q_sh A a0 = (5, 0) ∧ (((q_I A a0 5) ≤ x2 → f (-1) A) ∧ (¬ (q_I A a0 5) ≤ x2 → ∃ r3 : Nat, q_R A a0 4 = some r3 ∧ ∃ z6 : Nat, q_sh A r3 = (61, z6) ∧ z6 < 2147483648 ∧ ∃ j8 : Nat, x2 = nI j8 ∧ j8 < z6 ∧ ∃ r11 : Nat, q_R A r3 j8 = some r11 ∧ q_sh A r11 = (2, 0) ∧ (((q_I A r11 0) = x1 → f x2 A) ∧ (¬ (q_I A r11 0) = x1 → q_Wp G M_X4_buyerNamed (q_KI f) X 0 0 2 [some (.ref a0), some (.int x1), some (.int (x2 + (nI 1)))] [] A))))) : q_Wp G M_X4_buyerNamed (q_KI f) X 0 0 2 [some (.ref a0), some (.int x1), some (.int x2)] [] A := by
  refine q_blk (pc' := 4) (lo' := [some (.ref a0), some (.int x1), some (.int x2)]) (st' := [.ref a0, .int x2]) [.iload_n 2, .aload_n 0] (by decide +kernel) rfl ?_
  obtain ⟨s1, h⟩ := h
  refine q_getI fl_X4_78 rfl (by decide) (by decide +kernel) s1 ?_
  refine q_icmp_ge 31 (off := 24) (by decide +kernel) (by decide) (fun c2 => ?_) (fun c2 => ?_)
  · have h := h.1 c2
    refine q_blk (pc' := 32) (lo' := [some (.ref a0), some (.int x1), some (.int x2)]) (st' := [.int (-1)]) [.iconst (-1)] (by decide +kernel) rfl ?_
    exact q_retI rfl (by decide) (by decide) (by decide +kernel) ⟨_, rfl, h⟩
  · have h := h.2 c2
    refine q_blk (pc' := 11) (lo' := [some (.ref a0), some (.int x1), some (.int x2)]) (st' := [.ref a0]) [.aload_n 0] (by decide +kernel) rfl ?_
    obtain ⟨r3, e4, h⟩ := h
    refine q_getR fl_X4_31 rfl (by decide) (by decide +kernel) s1 e4 ?_
    refine q_blk (pc' := 15) (lo' := [some (.ref a0), some (.int x1), some (.int x2)]) (st' := [.int x2, .ref r3]) [.iload_n 2] (by decide +kernel) rfl ?_
    obtain ⟨z6, s5, b7, h⟩ := h
    obtain ⟨j8, e9, h⟩ := h
    obtain ⟨l10, h⟩ := h
    obtain ⟨r11, e12, h⟩ := h
    refine q_aaldS (q_rk1 G) e9 (by decide +kernel) s5 l10 b7 e12 ?_
    obtain ⟨s13, h⟩ := h
    refine q_getI fl_X4_81 rfl (by decide) (by decide +kernel) s13 ?_
    refine q_blk (pc' := 20) (lo' := [some (.ref a0), some (.int x1), some (.int x2)]) (st' := [.int x1, .int (q_I A r11 0)]) [.iload_n 1] (by decide +kernel) rfl ?_
    refine q_icmp_ne 25 (off := 5) (by decide +kernel) (by decide) (fun c14 => ?_) (fun c14 => ?_)
    · have h := h.2 c14
      refine q_blk (pc' := 28) (lo' := [some (.ref a0), some (.int x1), some (.int (x2 + (nI 1)))]) (st' := []) [.iinc 2 1] (by decide +kernel) rfl ?_
      refine q_goto 2 (off := -26) (by decide +kernel) (by decide) ?_
      exact h
    · have h := h.1 c14
      refine q_blk (pc' := 24) (lo' := [some (.ref a0), some (.int x1), some (.int x2)]) (st' := [.int x2]) [.iload_n 2] (by decide +kernel) rfl ?_
      exact q_retI rfl (by decide) (by decide) (by decide +kernel) ⟨_, rfl, h⟩
theorem f_X4_heapAt {G : q_G} {X : String → q_H → Prop} {f : Option Nat → q_H → Prop} {A : q_H} {a0 : Nat} {x1 : Int32} (h : ((x1 = (nI 46) → q_sh A a0 = (5, 0) ∧ ∃ r36 : Nat, q_R A a0 8 = some r36 ∧ f (some r36) A) ∧ (¬ x1 = (nI 46) → ((x1 < (nI 16) → ((x1 < (nI 8) → q_sh A a0 = (5, 0) ∧ q_Wc G M_X4_stationAt [.ref a0, .int x1] A (q_KR fun o8 A5 => (o8 = none → f none A5) ∧ (∀ r6 : Nat, o8 = some r6 → q_sh A5 r6 = (7, 0) ∧ ∃ r11 : Nat, q_R A5 r6 8 = some r11 ∧ f (some r11) A5)) q_nX) ∧ (¬ x1 < (nI 8) → q_sh A a0 = (5, 0) ∧ q_Wc G M_X4_stationAt [.ref a0, .int (x1 - (nI 8))] A (q_KR fun o17 A14 => (o17 = none → f none A14) ∧ (∀ r15 : Nat, o17 = some r15 → q_sh A14 r15 = (7, 0) ∧ ∃ r20 : Nat, q_R A14 r15 7 = some r20 ∧ q_sh A14 r20 = (6, 0) ∧ ∃ r23 : Nat, q_R A14 r20 0 = some r23 ∧ f (some r23) A14)) q_nX))) ∧ (¬ x1 < (nI 16) → q_sh A a0 = (5, 0) ∧ ∃ r26 : Nat, q_R A a0 6 = some r26 ∧ q_sh A r26 = (4, 0) ∧ q_Wc G M_X3_parcelAt [.ref r26, .int (x1 - (nI 16))] A (q_KR fun o31 A28 => (o31 = none → f none A28) ∧ (∀ r29 : Nat, o31 = some r29 → q_sh A28 r29 = (6, 0) ∧ ∃ r33 : Nat, q_R A28 r29 0 = some r33 ∧ f (some r33) A28)) q_nX))))) : q_Wc G M_X4_heapAt [.ref a0, .int x1] A (q_KR f) X := by
  refine q_Wc.of [some (.ref a0), some (.int x1), none, none] mo_X4_heapAt.2.2.2.2.2 rfl (Nat.le_of_ble_eq_true rfl) rfl ?_
  refine q_blk (pc' := 3) (lo' := [some (.ref a0), some (.int x1), none, none]) (st' := [.int (nI 46), .int x1]) [.iload_n 1, .bipush 46] (by decide +kernel) rfl ?_
  refine q_icmp_ne 11 (off := 8) (by decide +kernel) (by decide) (fun c1 => ?_) (fun c1 => ?_)
  · have h := h.2 c1
    refine q_blk (pc' := 14) (lo' := [some (.ref a0), some (.int x1), none, none]) (st' := [.int (nI 16), .int x1]) [.iload_n 1, .bipush 16] (by decide +kernel) rfl ?_
    refine q_icmp_lt 42 (off := 28) (by decide +kernel) (by decide) (fun c2 => ?_) (fun c2 => ?_)
    · have h := h.1 c2
      refine q_blk (pc' := 45) (lo' := [some (.ref a0), some (.int x1), none, none]) (st' := [.int (nI 8), .int x1]) [.iload_n 1, .bipush 8] (by decide +kernel) rfl ?_
      refine q_icmp_lt 52 (off := 7) (by decide +kernel) (by decide) (fun c3 => ?_) (fun c3 => ?_)
      · have h := h.1 c3
        refine q_blk (pc' := 56) (lo' := [some (.ref a0), some (.int x1), some (.int (nI 0)), none]) (st' := [.int (nI 0), .ref a0]) [.iconst 0, .istore_n 2, .aload_n 0, .iload_n 2] (by decide +kernel) rfl ?_
        refine q_if_eq 66 (off := 10) (by decide +kernel) (by decide) (fun _ => ?_) (fun c9 => absurd (by decide) c9)
        refine q_blk (pc' := 67) (lo' := [some (.ref a0), some (.int x1), some (.int (nI 0)), none]) (st' := [.int x1, .ref a0]) [.iload_n 1] (by decide +kernel) rfl ?_
        obtain ⟨s7, h⟩ := h
        refine q_callV (ci := 4) (Mc := M_X4_stationAt) (z := 1) (b := a0) (As := [.int x1]) (st := []) mo_X4_stationAt mi_X4_stationAt ml_X4_93_X4_stationAt rfl rfl (by decide) rfl (by decide) (by decide) rfl (Nat.le_of_ble_eq_true rfl) (by decide +kernel) s7 h (q_fR (fun A5 h => ?_) (fun r6 A5 h => ?_))
        · have h := h.1 rfl
          show q_Wp _ _ _ _ 0 0 70 [some (.ref a0), some (.int x1), some (.int (nI 0)), none] [.null] A5
          refine q_blk (pc' := 72) (lo' := [some (.ref a0), some (.int x1), some (.int (nI 0)), some (.null)]) (st' := [.null]) [.astore_n 3, .aload_n 3] (by decide +kernel) rfl ?_
          refine q_nnl_n (off := 5) (by decide +kernel) ?_
          refine q_blk (pc' := 76) (lo' := [some (.ref a0), some (.int x1), some (.int (nI 0)), some (.null)]) (st' := [.null]) [.aconst_null] (by decide +kernel) rfl ?_
          exact q_retR (r := none) rfl (Or.inl ⟨_, rfl⟩) (by decide) (by decide) (by decide +kernel) ⟨_, rfl, h⟩
        · have h := h.2 r6 rfl
          show q_Wp _ _ _ _ 0 0 70 [some (.ref a0), some (.int x1), some (.int (nI 0)), none] [.ref r6] A5
          refine q_blk (pc' := 72) (lo' := [some (.ref a0), some (.int x1), some (.int (nI 0)), some (.ref r6)]) (st' := [.ref r6]) [.astore_n 3, .aload_n 3] (by decide +kernel) rfl ?_
          refine q_nnl_y 77 (off := 5) (by decide +kernel) (by decide) ?_
          refine q_blk (pc' := 78) (lo' := [some (.ref a0), some (.int x1), some (.int (nI 0)), some (.ref r6)]) (st' := [.int (nI 0)]) [.iload_n 2] (by decide +kernel) rfl ?_
          refine q_if_eq 91 (off := 13) (by decide +kernel) (by decide) (fun _ => ?_) (fun c9 => absurd (by decide) c9)
          refine q_blk (pc' := 92) (lo' := [some (.ref a0), some (.int x1), some (.int (nI 0)), some (.ref r6)]) (st' := [.ref r6]) [.aload_n 3] (by decide +kernel) rfl ?_
          obtain ⟨s10, h⟩ := h
          obtain ⟨r11, e12, h⟩ := h
          refine q_getR fl_X4_101 rfl (by decide) (by decide +kernel) s10 e12 ?_
          exact q_retR (r := (some r11)) rfl (Or.inl ⟨_, rfl⟩) (by decide) (by decide) (by decide +kernel) ⟨_, rfl, h⟩
      · have h := h.2 c3
        refine q_blk (pc' := 49) (lo' := [some (.ref a0), some (.int x1), none, none]) (st' := [.int (nI 1)]) [.iconst 1] (by decide +kernel) rfl ?_
        refine q_goto 53 (off := 4) (by decide +kernel) (by decide) ?_
        refine q_blk (pc' := 56) (lo' := [some (.ref a0), some (.int x1), some (.int (nI 1)), none]) (st' := [.int (nI 1), .ref a0]) [.istore_n 2, .aload_n 0, .iload_n 2] (by decide +kernel) rfl ?_
        refine q_if_eq 66 (off := 10) (by decide +kernel) (by decide) (fun c9 => absurd c9 (by decide)) (fun _ => ?_)
        refine q_blk (pc' := 63) (lo' := [some (.ref a0), some (.int x1), some (.int (nI 1)), none]) (st' := [.int (x1 - (nI 8)), .ref a0]) [.iload_n 1, .bipush 8, .isub] (by decide +kernel) rfl ?_
        refine q_goto 67 (off := 4) (by decide +kernel) (by decide) ?_
        obtain ⟨s16, h⟩ := h
        refine q_callV (ci := 4) (Mc := M_X4_stationAt) (z := 1) (b := a0) (As := [.int (x1 - (nI 8))]) (st := []) mo_X4_stationAt mi_X4_stationAt ml_X4_93_X4_stationAt rfl rfl (by decide) rfl (by decide) (by decide) rfl (Nat.le_of_ble_eq_true rfl) (by decide +kernel) s16 h (q_fR (fun A14 h => ?_) (fun r15 A14 h => ?_))
        · have h := h.1 rfl
          show q_Wp _ _ _ _ 0 0 70 [some (.ref a0), some (.int x1), some (.int (nI 1)), none] [.null] A14
          refine q_blk (pc' := 72) (lo' := [some (.ref a0), some (.int x1), some (.int (nI 1)), some (.null)]) (st' := [.null]) [.astore_n 3, .aload_n 3] (by decide +kernel) rfl ?_
          refine q_nnl_n (off := 5) (by decide +kernel) ?_
          refine q_blk (pc' := 76) (lo' := [some (.ref a0), some (.int x1), some (.int (nI 1)), some (.null)]) (st' := [.null]) [.aconst_null] (by decide +kernel) rfl ?_
          exact q_retR (r := none) rfl (Or.inl ⟨_, rfl⟩) (by decide) (by decide) (by decide +kernel) ⟨_, rfl, h⟩
        · have h := h.2 r15 rfl
          show q_Wp _ _ _ _ 0 0 70 [some (.ref a0), some (.int x1), some (.int (nI 1)), none] [.ref r15] A14
          refine q_blk (pc' := 72) (lo' := [some (.ref a0), some (.int x1), some (.int (nI 1)), some (.ref r15)]) (st' := [.ref r15]) [.astore_n 3, .aload_n 3] (by decide +kernel) rfl ?_
          refine q_nnl_y 77 (off := 5) (by decide +kernel) (by decide) ?_
          refine q_blk (pc' := 78) (lo' := [some (.ref a0), some (.int x1), some (.int (nI 1)), some (.ref r15)]) (st' := [.int (nI 1)]) [.iload_n 2] (by decide +kernel) rfl ?_
          refine q_if_eq 91 (off := 13) (by decide +kernel) (by decide) (fun c9 => absurd c9 (by decide)) (fun _ => ?_)
          refine q_blk (pc' := 82) (lo' := [some (.ref a0), some (.int x1), some (.int (nI 1)), some (.ref r15)]) (st' := [.ref r15]) [.aload_n 3] (by decide +kernel) rfl ?_
          obtain ⟨s19, h⟩ := h
          obtain ⟨r20, e21, h⟩ := h
          refine q_getR fl_X4_97 rfl (by decide) (by decide +kernel) s19 e21 ?_
          obtain ⟨s22, h⟩ := h
          obtain ⟨r23, e24, h⟩ := h
          refine q_getR fl_X4_88 rfl (by decide) (by decide +kernel) s22 e24 ?_
          refine q_goto 95 (off := 7) (by decide +kernel) (by decide) ?_
          exact q_retR (r := (some r23)) rfl (Or.inl ⟨_, rfl⟩) (by decide) (by decide) (by decide +kernel) ⟨_, rfl, h⟩
    · have h := h.2 c2
      refine q_blk (pc' := 18) (lo' := [some (.ref a0), some (.int x1), none, none]) (st' := [.ref a0]) [.aload_n 0] (by decide +kernel) rfl ?_
      obtain ⟨s25, h⟩ := h
      obtain ⟨r26, e27, h⟩ := h
      refine q_getR fl_X4_38 rfl (by decide) (by decide +kernel) s25 e27 ?_
      refine q_blk (pc' := 25) (lo' := [some (.ref a0), some (.int x1), none, none]) (st' := [.int (x1 - (nI 16)), .ref r26]) [.iload_n 1, .bipush 16, .isub] (by decide +kernel) rfl ?_
      obtain ⟨s30, h⟩ := h
      refine q_callV (ci := 3) (Mc := M_X3_parcelAt) (z := 1) (b := r26) (As := [.int (x1 - (nI 16))]) (st := []) mo_X3_parcelAt mi_X3_parcelAt ml_X4_84_X3_parcelAt rfl rfl (by decide) rfl (by decide) (by decide) rfl (Nat.le_of_ble_eq_true rfl) (by decide +kernel) s30 h (q_fR (fun A28 h => ?_) (fun r29 A28 h => ?_))
      · have h := h.1 rfl
        show q_Wp _ _ _ _ 0 0 28 [some (.ref a0), some (.int x1), none, none] [.null] A28
        refine q_blk (pc' := 30) (lo' := [some (.ref a0), some (.int x1), some (.null), none]) (st' := [.null]) [.astore_n 2, .aload_n 2] (by decide +kernel) rfl ?_
        refine q_nnl_n (off := 7) (by decide +kernel) ?_
        refine q_blk (pc' := 34) (lo' := [some (.ref a0), some (.int x1), some (.null), none]) (st' := [.null]) [.aconst_null] (by decide +kernel) rfl ?_
        refine q_goto 41 (off := 7) (by decide +kernel) (by decide) ?_
        exact q_retR (r := none) rfl (Or.inl ⟨_, rfl⟩) (by decide) (by decide) (by decide +kernel) ⟨_, rfl, h⟩
      · have h := h.2 r29 rfl
        show q_Wp _ _ _ _ 0 0 28 [some (.ref a0), some (.int x1), none, none] [.ref r29] A28
        refine q_blk (pc' := 30) (lo' := [some (.ref a0), some (.int x1), some (.ref r29), none]) (st' := [.ref r29]) [.astore_n 2, .aload_n 2] (by decide +kernel) rfl ?_
        refine q_nnl_y 37 (off := 7) (by decide +kernel) (by decide) ?_
        refine q_blk (pc' := 38) (lo' := [some (.ref a0), some (.int x1), some (.ref r29), none]) (st' := [.ref r29]) [.aload_n 2] (by decide +kernel) rfl ?_
        obtain ⟨s32, h⟩ := h
        obtain ⟨r33, e34, h⟩ := h
        refine q_getR fl_X4_88 rfl (by decide) (by decide +kernel) s32 e34 ?_
        exact q_retR (r := (some r33)) rfl (Or.inl ⟨_, rfl⟩) (by decide) (by decide) (by decide +kernel) ⟨_, rfl, h⟩
  · have h := h.1 c1
    refine q_blk (pc' := 7) (lo' := [some (.ref a0), some (.int x1), none, none]) (st' := [.ref a0]) [.aload_n 0] (by decide +kernel) rfl ?_
    obtain ⟨s35, h⟩ := h
    obtain ⟨r36, e37, h⟩ := h
    refine q_getR fl_X4_52 rfl (by decide) (by decide +kernel) s35 e37 ?_
    exact q_retR (r := (some r36)) rfl (Or.inl ⟨_, rfl⟩) (by decide) (by decide) (by decide +kernel) ⟨_, rfl, h⟩
theorem f_X4_parcelsOnBelt {G : q_G} {X : String → q_H → Prop} {f : Int32 → q_H → Prop} {A : q_H} {a0 : Nat} (h : q_Wp G M_X4_parcelsOnBelt (q_KI f) X 0 0 4 [some (.ref a0), some (.int (nI 0)), some (.int (nI 0))] [] A) : q_Wc G M_X4_parcelsOnBelt [.ref a0] A (q_KI f) X := by
  refine q_Wc.of [some (.ref a0), none, none] mo_X4_parcelsOnBelt.2.2.2.2.2 rfl (Nat.le_of_ble_eq_true rfl) rfl ?_
  refine q_blk (pc' := 4) (lo' := [some (.ref a0), some (.int (nI 0)), some (.int (nI 0))]) (st' := []) [.iconst 0, .istore_n 1, .iconst 0, .istore_n 2] (by decide +kernel) rfl ?_
  exact h
theorem f_X4_parcelsOnBelt_4 {G : q_G} {X : String → q_H → Prop} {f : Int32 → q_H → Prop} {A : q_H} {a0 : Nat} {x1 : Int32} {x2 : Int32} (h : q_sh A a0 = (5, 0) ∧ (((q_I A a0 3) ≤ x2 → f x1 A) ∧ (¬ (q_I A a0 3) ≤ x2 → ∃ r3 : Nat, q_R A a0 2 = some r3 ∧ ∃ z6 : Nat, q_sh A r3 = (66, z6) ∧ z6 < 2147483648 ∧ ∃ j8 : Nat, x2 = nI j8 ∧ j8 < z6 ∧ ∃ r11 : Nat, q_R A r3 j8 = some r11 ∧ q_sh A r11 = (7, 0) ∧ q_Wc G M_X6_isSlotEmpty [.ref r11] A (q_KB fun b14 A13 => ((b14 = true → q_Wp G M_X4_parcelsOnBelt (q_KI f) X 0 0 4 [some (.ref a0), some (.int (x1 + (nI 0))), some (.int (x2 + (nI 1)))] [] A13) ∧ (b14 = false → q_Wp G M_X4_parcelsOnBelt (q_KI f) X 0 0 4 [some (.ref a0), some (.int (x1 + (nI 1))), some (.int (x2 + (nI 1)))] [] A13))) q_nX))) : q_Wp G M_X4_parcelsOnBelt (q_KI f) X 0 0 4 [some (.ref a0), some (.int x1), some (.int x2)] [] A := by
  refine q_blk (pc' := 6) (lo' := [some (.ref a0), some (.int x1), some (.int x2)]) (st' := [.ref a0, .int x2]) [.iload_n 2, .aload_n 0] (by decide +kernel) rfl ?_
  obtain ⟨s1, h⟩ := h
  refine q_getI fl_X4_75 rfl (by decide) (by decide +kernel) s1 ?_
  refine q_icmp_ge 38 (off := 29) (by decide +kernel) (by decide) (fun c2 => ?_) (fun c2 => ?_)
  · have h := h.1 c2
    refine q_blk (pc' := 39) (lo' := [some (.ref a0), some (.int x1), some (.int x2)]) (st' := [.int x1]) [.iload_n 1] (by decide +kernel) rfl ?_
    exact q_retI rfl (by decide) (by decide) (by decide +kernel) ⟨_, rfl, h⟩
  · have h := h.2 c2
    refine q_blk (pc' := 14) (lo' := [some (.ref a0), some (.int x1), some (.int x2)]) (st' := [.ref a0, .int x1]) [.iload_n 1, .aload_n 0] (by decide +kernel) rfl ?_
    obtain ⟨r3, e4, h⟩ := h
    refine q_getR fl_X4_25 rfl (by decide) (by decide +kernel) s1 e4 ?_
    refine q_blk (pc' := 18) (lo' := [some (.ref a0), some (.int x1), some (.int x2)]) (st' := [.int x2, .ref r3, .int x1]) [.iload_n 2] (by decide +kernel) rfl ?_
    obtain ⟨z6, s5, b7, h⟩ := h
    obtain ⟨j8, e9, h⟩ := h
    obtain ⟨l10, h⟩ := h
    obtain ⟨r11, e12, h⟩ := h
    refine q_aaldS (q_rk6 G) e9 (by decide +kernel) s5 l10 b7 e12 ?_
    obtain ⟨s15, h⟩ := h
    refine q_callV (ci := 6) (Mc := M_X6_isSlotEmpty) (z := 0) (b := r11) (As := []) (st := [.int x1]) mo_X6_isSlotEmpty mi_X6_isSlotEmpty ml_X4_104_X6_isSlotEmpty rfl rfl (by decide) rfl (by decide) (by decide) rfl (Nat.le_of_ble_eq_true rfl) (by decide +kernel) s15 h (q_fB fun b14 A13 h => ?_)
    show q_Wp _ _ _ _ 0 0 22 [some (.ref a0), some (.int x1), some (.int x2)] [.int (q_i b14), .int x1] A13
    refine q_ifB_eq 29 (off := 7) (by decide +kernel) (by decide) (fun c16 => ?_) (fun c16 => ?_)
    · have h := h.2 c16
      refine q_blk (pc' := 35) (lo' := [some (.ref a0), some (.int (x1 + (nI 1))), some (.int (x2 + (nI 1)))]) (st' := []) [.iconst 1, .iadd, .istore_n 1, .iinc 2 1] (by decide +kernel) rfl ?_
      refine q_goto 4 (off := -31) (by decide +kernel) (by decide) ?_
      exact h
    · have h := h.1 c16
      refine q_blk (pc' := 26) (lo' := [some (.ref a0), some (.int x1), some (.int x2)]) (st' := [.int (nI 0), .int x1]) [.iconst 0] (by decide +kernel) rfl ?_
      refine q_goto 30 (off := 4) (by decide +kernel) (by decide) ?_
      refine q_blk (pc' := 35) (lo' := [some (.ref a0), some (.int (x1 + (nI 0))), some (.int (x2 + (nI 1)))]) (st' := []) [.iadd, .istore_n 1, .iinc 2 1] (by decide +kernel) rfl ?_
      refine q_goto 4 (off := -31) (by decide +kernel) (by decide) ?_
      exact h
theorem f_X4_massOnBelt {G : q_G} {X : String → q_H → Prop} {f : Int32 → q_H → Prop} {A : q_H} {a0 : Nat} (h : q_Wp G M_X4_massOnBelt (q_KI f) X 0 0 4 [some (.ref a0), some (.int (nI 0)), some (.int (nI 0))] [] A) : q_Wc G M_X4_massOnBelt [.ref a0] A (q_KI f) X := by
  refine q_Wc.of [some (.ref a0), none, none] mo_X4_massOnBelt.2.2.2.2.2 rfl (Nat.le_of_ble_eq_true rfl) rfl ?_
  refine q_blk (pc' := 4) (lo' := [some (.ref a0), some (.int (nI 0)), some (.int (nI 0))]) (st' := []) [.iconst 0, .istore_n 1, .iconst 0, .istore_n 2] (by decide +kernel) rfl ?_
  exact h
theorem f_X4_massOnBelt_4 {G : q_G} {X : String → q_H → Prop} {f : Int32 → q_H → Prop} {A : q_H} {a0 : Nat} {x1 : Int32} {x2 : Int32} (h : q_sh A a0 = (5, 0) ∧ (((q_I A a0 3) ≤ x2 → f x1 A) ∧ (¬ (q_I A a0 3) ≤ x2 → ∃ r3 : Nat, q_R A a0 2 = some r3 ∧ ∃ z6 : Nat, q_sh A r3 = (66, z6) ∧ z6 < 2147483648 ∧ ∃ j8 : Nat, x2 = nI j8 ∧ j8 < z6 ∧ ∃ r11 : Nat, q_R A r3 j8 = some r11 ∧ q_sh A r11 = (7, 0) ∧ ∃ r14 : Nat, q_R A r11 7 = some r14 ∧ q_sh A r14 = (6, 0) ∧ ∃ r17 : Nat, q_R A r14 0 = some r17 ∧ q_sh A r17 = (3, 0) ∧ q_Wp G M_X4_massOnBelt (q_KI f) X 0 0 4 [some (.ref a0), some (.int (x1 + (q_I A r17 1))), some (.int (x2 + (nI 1)))] [] A))) : q_Wp G M_X4_massOnBelt (q_KI f) X 0 0 4 [some (.ref a0), some (.int x1), some (.int x2)] [] A := by
  refine q_blk (pc' := 6) (lo' := [some (.ref a0), some (.int x1), some (.int x2)]) (st' := [.ref a0, .int x2]) [.iload_n 2, .aload_n 0] (by decide +kernel) rfl ?_
  obtain ⟨s1, h⟩ := h
  refine q_getI fl_X4_75 rfl (by decide) (by decide +kernel) s1 ?_
  refine q_icmp_ge 36 (off := 27) (by decide +kernel) (by decide) (fun c2 => ?_) (fun c2 => ?_)
  · have h := h.1 c2
    refine q_blk (pc' := 37) (lo' := [some (.ref a0), some (.int x1), some (.int x2)]) (st' := [.int x1]) [.iload_n 1] (by decide +kernel) rfl ?_
    exact q_retI rfl (by decide) (by decide) (by decide +kernel) ⟨_, rfl, h⟩
  · have h := h.2 c2
    refine q_blk (pc' := 14) (lo' := [some (.ref a0), some (.int x1), some (.int x2)]) (st' := [.ref a0, .int x1]) [.iload_n 1, .aload_n 0] (by decide +kernel) rfl ?_
    obtain ⟨r3, e4, h⟩ := h
    refine q_getR fl_X4_25 rfl (by decide) (by decide +kernel) s1 e4 ?_
    refine q_blk (pc' := 18) (lo' := [some (.ref a0), some (.int x1), some (.int x2)]) (st' := [.int x2, .ref r3, .int x1]) [.iload_n 2] (by decide +kernel) rfl ?_
    obtain ⟨z6, s5, b7, h⟩ := h
    obtain ⟨j8, e9, h⟩ := h
    obtain ⟨l10, h⟩ := h
    obtain ⟨r11, e12, h⟩ := h
    refine q_aaldS (q_rk6 G) e9 (by decide +kernel) s5 l10 b7 e12 ?_
    obtain ⟨s13, h⟩ := h
    obtain ⟨r14, e15, h⟩ := h
    refine q_getR fl_X4_97 rfl (by decide) (by decide +kernel) s13 e15 ?_
    obtain ⟨s16, h⟩ := h
    obtain ⟨r17, e18, h⟩ := h
    refine q_getR fl_X4_88 rfl (by decide) (by decide +kernel) s16 e18 ?_
    obtain ⟨s19, h⟩ := h
    refine q_getI fl_X4_108 rfl (by decide) (by decide +kernel) s19 ?_
    refine q_blk (pc' := 33) (lo' := [some (.ref a0), some (.int (x1 + (q_I A r17 1))), some (.int (x2 + (nI 1)))]) (st' := []) [.iadd, .istore_n 1, .iinc 2 1] (by decide +kernel) rfl ?_
    refine q_goto 4 (off := -29) (by decide +kernel) (by decide) ?_
    exact h
theorem f_X4_massInBunkers {G : q_G} {X : String → q_H → Prop} {f : Int32 → q_H → Prop} {A : q_H} {a0 : Nat} (h : q_Wp G M_X4_massInBunkers (q_KI f) X 0 0 4 [some (.ref a0), some (.int (nI 0)), some (.int (nI 0))] [] A) : q_Wc G M_X4_massInBunkers [.ref a0] A (q_KI f) X := by
  refine q_Wc.of [some (.ref a0), none, none] mo_X4_massInBunkers.2.2.2.2.2 rfl (Nat.le_of_ble_eq_true rfl) rfl ?_
  refine q_blk (pc' := 4) (lo' := [some (.ref a0), some (.int (nI 0)), some (.int (nI 0))]) (st' := []) [.iconst 0, .istore_n 1, .iconst 0, .istore_n 2] (by decide +kernel) rfl ?_
  exact h
theorem f_X4_massInBunkers_4 {G : q_G} {X : String → q_H → Prop} {f : Int32 → q_H → Prop} {A : q_H} {a0 : Nat} {x1 : Int32} {x2 : Int32} (h : q_sh A a0 = (5, 0) ∧ (((q_I A a0 3) ≤ x2 → f x1 A) ∧ (¬ (q_I A a0 3) ≤ x2 → ∃ r3 : Nat, q_R A a0 2 = some r3 ∧ ∃ z6 : Nat, q_sh A r3 = (66, z6) ∧ z6 < 2147483648 ∧ ∃ j8 : Nat, x2 = nI j8 ∧ j8 < z6 ∧ ∃ r11 : Nat, q_R A r3 j8 = some r11 ∧ q_sh A r11 = (7, 0) ∧ ∃ r14 : Nat, q_R A r11 8 = some r14 ∧ q_sh A r14 = (3, 0) ∧ q_Wp G M_X4_massInBunkers (q_KI f) X 0 0 4 [some (.ref a0), some (.int (x1 + (q_I A r14 1))), some (.int (x2 + (nI 1)))] [] A))) : q_Wp G M_X4_massInBunkers (q_KI f) X 0 0 4 [some (.ref a0), some (.int x1), some (.int x2)] [] A := by
  refine q_blk (pc' := 6) (lo' := [some (.ref a0), some (.int x1), some (.int x2)]) (st' := [.ref a0, .int x2]) [.iload_n 2, .aload_n 0] (by decide +kernel) rfl ?_
  obtain ⟨s1, h⟩ := h
  refine q_getI fl_X4_75 rfl (by decide) (by decide +kernel) s1 ?_
  refine q_icmp_ge 33 (off := 24) (by decide +kernel) (by decide) (fun c2 => ?_) (fun c2 => ?_)
  · have h := h.1 c2
    refine q_blk (pc' := 34) (lo' := [some (.ref a0), some (.int x1), some (.int x2)]) (st' := [.int x1]) [.iload_n 1] (by decide +kernel) rfl ?_
    exact q_retI rfl (by decide) (by decide) (by decide +kernel) ⟨_, rfl, h⟩
  · have h := h.2 c2
    refine q_blk (pc' := 14) (lo' := [some (.ref a0), some (.int x1), some (.int x2)]) (st' := [.ref a0, .int x1]) [.iload_n 1, .aload_n 0] (by decide +kernel) rfl ?_
    obtain ⟨r3, e4, h⟩ := h
    refine q_getR fl_X4_25 rfl (by decide) (by decide +kernel) s1 e4 ?_
    refine q_blk (pc' := 18) (lo' := [some (.ref a0), some (.int x1), some (.int x2)]) (st' := [.int x2, .ref r3, .int x1]) [.iload_n 2] (by decide +kernel) rfl ?_
    obtain ⟨z6, s5, b7, h⟩ := h
    obtain ⟨j8, e9, h⟩ := h
    obtain ⟨l10, h⟩ := h
    obtain ⟨r11, e12, h⟩ := h
    refine q_aaldS (q_rk6 G) e9 (by decide +kernel) s5 l10 b7 e12 ?_
    obtain ⟨s13, h⟩ := h
    obtain ⟨r14, e15, h⟩ := h
    refine q_getR fl_X4_101 rfl (by decide) (by decide +kernel) s13 e15 ?_
    obtain ⟨s16, h⟩ := h
    refine q_getI fl_X4_108 rfl (by decide) (by decide +kernel) s16 ?_
    refine q_blk (pc' := 30) (lo' := [some (.ref a0), some (.int (x1 + (q_I A r14 1))), some (.int (x2 + (nI 1)))]) (st' := []) [.iadd, .istore_n 1, .iinc 2 1] (by decide +kernel) rfl ?_
    refine q_goto 4 (off := -26) (by decide +kernel) (by decide) ?_
    exact h
theorem f_X4_greatestTiredness {G : q_G} {X : String → q_H → Prop} {f : Int32 → q_H → Prop} {A : q_H} {a0 : Nat} (h : q_Wp G M_X4_greatestTiredness (q_KI f) X 0 0 4 [some (.ref a0), some (.int (nI 0)), some (.int (nI 0))] [] A) : q_Wc G M_X4_greatestTiredness [.ref a0] A (q_KI f) X := by
  refine q_Wc.of [some (.ref a0), none, none] mo_X4_greatestTiredness.2.2.2.2.2 rfl (Nat.le_of_ble_eq_true rfl) rfl ?_
  refine q_blk (pc' := 4) (lo' := [some (.ref a0), some (.int (nI 0)), some (.int (nI 0))]) (st' := []) [.iconst 0, .istore_n 1, .iconst 0, .istore_n 2] (by decide +kernel) rfl ?_
  exact h
theorem f_X4_greatestTiredness_4 {G : q_G} {X : String → q_H → Prop} {f : Int32 → q_H → Prop} {A : q_H} {a0 : Nat} {x1 : Int32} {x2 : Int32} (h : q_sh A a0 = (5, 0) ∧ (((q_I A a0 3) ≤ x2 → f x1 A) ∧ (¬ (q_I A a0 3) ≤ x2 → ∃ r3 : Nat, q_R A a0 2 = some r3 ∧ ∃ z6 : Nat, q_sh A r3 = (66, z6) ∧ z6 < 2147483648 ∧ ∃ j8 : Nat, x2 = nI j8 ∧ j8 < z6 ∧ ∃ r11 : Nat, q_R A r3 j8 = some r11 ∧ q_sh A r11 = (7, 0) ∧ q_Wp G M_X4_greatestTiredness (q_KI f) X 0 0 4 [some (.ref a0), some (.int (if x1 < (q_I A r11 4) then (q_I A r11 4) else x1)), some (.int (x2 + (nI 1)))] [] A))) : q_Wp G M_X4_greatestTiredness (q_KI f) X 0 0 4 [some (.ref a0), some (.int x1), some (.int x2)] [] A := by
  refine q_blk (pc' := 6) (lo' := [some (.ref a0), some (.int x1), some (.int x2)]) (st' := [.ref a0, .int x2]) [.iload_n 2, .aload_n 0] (by decide +kernel) rfl ?_
  obtain ⟨s1, h⟩ := h
  refine q_getI fl_X4_75 rfl (by decide) (by decide +kernel) s1 ?_
  refine q_icmp_ge 32 (off := 23) (by decide +kernel) (by decide) (fun c2 => ?_) (fun c2 => ?_)
  · have h := h.1 c2
    refine q_blk (pc' := 33) (lo' := [some (.ref a0), some (.int x1), some (.int x2)]) (st' := [.int x1]) [.iload_n 1] (by decide +kernel) rfl ?_
    exact q_retI rfl (by decide) (by decide) (by decide +kernel) ⟨_, rfl, h⟩
  · have h := h.2 c2
    refine q_blk (pc' := 14) (lo' := [some (.ref a0), some (.int x1), some (.int x2)]) (st' := [.ref a0, .int x1]) [.iload_n 1, .aload_n 0] (by decide +kernel) rfl ?_
    obtain ⟨r3, e4, h⟩ := h
    refine q_getR fl_X4_25 rfl (by decide) (by decide +kernel) s1 e4 ?_
    refine q_blk (pc' := 18) (lo' := [some (.ref a0), some (.int x1), some (.int x2)]) (st' := [.int x2, .ref r3, .int x1]) [.iload_n 2] (by decide +kernel) rfl ?_
    obtain ⟨z6, s5, b7, h⟩ := h
    obtain ⟨j8, e9, h⟩ := h
    obtain ⟨l10, h⟩ := h
    obtain ⟨r11, e12, h⟩ := h
    refine q_aaldS (q_rk6 G) e9 (by decide +kernel) s5 l10 b7 e12 ?_
    obtain ⟨s13, h⟩ := h
    refine q_getI fl_X4_111 rfl (by decide) (by decide +kernel) s13 ?_
    refine q_mmax mm_X4_114_a.1 mm_X4_114_a.2.1 mm_X4_114_a.2.2.1 mm_X4_114_a.2.2.2 (by decide) (Nat.le_of_ble_eq_true rfl) (by decide) (by decide) (by decide +kernel) ?_
    refine q_blk (pc' := 29) (lo' := [some (.ref a0), some (.int (if x1 < (q_I A r11 4) then (q_I A r11 4) else x1)), some (.int (x2 + (nI 1)))]) (st' := []) [.istore_n 1, .iinc 2 1] (by decide +kernel) rfl ?_
    refine q_goto 4 (off := -25) (by decide +kernel) (by decide) ?_
    exact h
theorem f_X4_isEmptied {G : q_G} {X : String → q_H → Prop} {f : Bool → q_H → Prop} {A : q_H} {a0 : Nat} (h : q_sh A a0 = (5, 0) ∧ ∃ r2 : Nat, q_R A a0 6 = some r2 ∧ q_sh A r2 = (4, 0) ∧ (((q_I A r2 2) = nI 0 → q_Wc G M_X4_parcelsOnBelt [.ref a0] A (q_KI fun r7 A6 => ((r7 = nI 0 → f true A6) ∧ (¬ r7 = nI 0 → f false A6))) q_nX) ∧ (¬ (q_I A r2 2) = nI 0 → f false A))) : q_Wc G M_X4_isEmptied [.ref a0] A (q_KB f) X := by
  refine q_Wc.of [some (.ref a0)] mo_X4_isEmptied.2.2.2.2.2 rfl (Nat.le_of_ble_eq_true rfl) rfl ?_
  refine q_blk (pc' := 1) (lo' := [some (.ref a0)]) (st' := [.ref a0]) [.aload_n 0] (by decide +kernel) rfl ?_
  obtain ⟨s1, h⟩ := h
  obtain ⟨r2, e3, h⟩ := h
  refine q_getR fl_X4_38 rfl (by decide) (by decide +kernel) s1 e3 ?_
  obtain ⟨s4, h⟩ := h
  refine q_getI fl_X4_120 rfl (by decide) (by decide +kernel) s4 ?_
  refine q_if_ne 21 (off := 14) (by decide +kernel) (by decide) (fun c5 => ?_) (fun c5 => ?_)
  · have h := h.2 c5
    refine q_blk (pc' := 22) (lo' := [some (.ref a0)]) (st' := [.int (nI 0)]) [.iconst 0] (by decide +kernel) rfl ?_
    exact q_retZ (r := q_i false) rfl (q_nz _) (by decide) (by decide) (by decide +kernel) ⟨false, rfl, h⟩
  · have h := h.1 c5
    refine q_blk (pc' := 11) (lo' := [some (.ref a0)]) (st' := [.ref a0]) [.aload_n 0] (by decide +kernel) rfl ?_
    refine q_callV (ci := 4) (Mc := M_X4_parcelsOnBelt) (z := 0) (b := a0) (As := []) (st := []) mo_X4_parcelsOnBelt mi_X4_parcelsOnBelt ml_X4_123_X4_parcelsOnBelt rfl rfl (by decide) rfl (by decide) (by decide) rfl (Nat.le_of_ble_eq_true rfl) (by decide +kernel) s1 h (q_fI fun r7 A6 h => ?_)
    show q_Wp _ _ _ _ 0 0 14 [some (.ref a0)] [.int r7] A6
    refine q_if_ne 21 (off := 7) (by decide +kernel) (by decide) (fun c8 => ?_) (fun c8 => ?_)
    · have h := h.2 c8
      refine q_blk (pc' := 22) (lo' := [some (.ref a0)]) (st' := [.int (nI 0)]) [.iconst 0] (by decide +kernel) rfl ?_
      exact q_retZ (r := q_i false) rfl (q_nz _) (by decide) (by decide) (by decide +kernel) ⟨false, rfl, h⟩
    · have h := h.1 c8
      refine q_blk (pc' := 18) (lo' := [some (.ref a0)]) (st' := [.int (nI 1)]) [.iconst 1] (by decide +kernel) rfl ?_
      refine q_goto 22 (off := 4) (by decide +kernel) (by decide) ?_
      exact q_retZ (r := q_i true) rfl (q_nz _) (by decide) (by decide) (by decide +kernel) ⟨true, rfl, h⟩
theorem f_X4_addStation {G : q_G} {X : String → q_H → Prop} {f : q_H → Prop} {A : q_H} {a0 : Nat} {x1 : Int32} {x2 : Int32} {x3 : Int32} {x4 : Int32} (h : q_sh A a0 = (5, 0) ∧ ∃ r2 : Nat, q_R A a0 2 = some r2 ∧ ∃ z5 : Nat, q_sh A r2 = (66, z5) ∧ z5 < 2147483648 ∧ (((q_I A a0 3) < (nI z5) → ∃ j8 : Nat, (q_I A a0 3) = nI j8 ∧ j8 < z5 ∧ ∃ r11 : Nat, q_R A r2 j8 = some r11 ∧ q_sh A r11 = (7, 0) ∧ q_Wc G M_X6_relieve [.ref r11, .int x2] (q_setI (q_setI (q_setI A r11 0 x1) r11 2 x3) r11 3 x4) (q_KV fun A14 => q_sh A14 r11 = (7, 0) ∧ ∃ r17 : Nat, q_R A14 r11 7 = some r17 ∧ q_sh A14 r17 = (6, 0) ∧ ∃ r20 : Nat, q_R A14 r17 0 = some r20 ∧ q_sh A14 r20 = (3, 0) ∧ q_Wc G M_X2_clear [.ref r20] (q_setI (q_setI A14 r11 5 (nI 0)) r11 6 (nI 0)) (q_KV fun A22 => q_sh A22 r11 = (7, 0) ∧ ∃ r26 : Nat, q_R A22 r11 8 = some r26 ∧ q_sh A22 r26 = (3, 0) ∧ q_Wc G M_X2_clear [.ref r26] A22 (q_KV fun A28 => q_sh A28 a0 = (5, 0) ∧ f (q_setI A28 a0 3 ((q_I A28 a0 3) + (nI 1)))) q_nX) q_nX) q_nX) ∧ (¬ (q_I A a0 3) < (nI z5) → f A))) : q_Wc G M_X4_addStation [.ref a0, .int x1, .int x2, .int x3, .int x4] A (q_KV f) X := by
  refine q_Wc.of [some (.ref a0), some (.int x1), some (.int x2), some (.int x3), some (.int x4), none] mo_X4_addStation.2.2.2.2.2 rfl (Nat.le_of_ble_eq_true rfl) rfl ?_
  refine q_blk (pc' := 1) (lo' := [some (.ref a0), some (.int x1), some (.int x2), some (.int x3), some (.int x4), none]) (st' := [.ref a0]) [.aload_n 0] (by decide +kernel) rfl ?_
  obtain ⟨s1, h⟩ := h
  refine q_getI fl_X4_75 rfl (by decide) (by decide +kernel) s1 ?_
  refine q_blk (pc' := 5) (lo' := [some (.ref a0), some (.int x1), some (.int x2), some (.int x3), some (.int x4), none]) (st' := [.ref a0, .int (q_I A a0 3)]) [.aload_n 0] (by decide +kernel) rfl ?_
  obtain ⟨r2, e3, h⟩ := h
  refine q_getR fl_X4_25 rfl (by decide) (by decide +kernel) s1 e3 ?_
  obtain ⟨z5, s4, b6, h⟩ := h
  refine q_alenR (q_rk6 G) (by decide +kernel) s4 ?_
  refine q_icmp_lt 13 (off := 4) (by decide +kernel) (by decide) (fun c7 => ?_) (fun c7 => ?_)
  · have h := h.1 c7
    refine q_blk (pc' := 14) (lo' := [some (.ref a0), some (.int x1), some (.int x2), some (.int x3), some (.int x4), none]) (st' := [.ref a0]) [.aload_n 0] (by decide +kernel) rfl ?_
    refine q_getR fl_X4_25 rfl (by decide) (by decide +kernel) s1 e3 ?_
    refine q_blk (pc' := 18) (lo' := [some (.ref a0), some (.int x1), some (.int x2), some (.int x3), some (.int x4), none]) (st' := [.ref a0, .ref r2]) [.aload_n 0] (by decide +kernel) rfl ?_
    refine q_getI fl_X4_75 rfl (by decide) (by decide +kernel) s1 ?_
    obtain ⟨j8, e9, h⟩ := h
    obtain ⟨l10, h⟩ := h
    obtain ⟨r11, e12, h⟩ := h
    refine q_aaldS (q_rk6 G) e9 (by decide +kernel) s4 l10 b6 e12 ?_
    refine q_blk (pc' := 27) (lo' := [some (.ref a0), some (.int x1), some (.int x2), some (.int x3), some (.int x4), some (.ref r11)]) (st' := [.int x1, .ref r11]) [.astore 5, .aload 5, .iload_n 1] (by decide +kernel) rfl ?_
    obtain ⟨s13, h⟩ := h
    refine q_putI fw_X4_127 rfl (by decide) (by decide +kernel) s13 ?_
    refine q_blk (pc' := 33) (lo' := [some (.ref a0), some (.int x1), some (.int x2), some (.int x3), some (.int x4), some (.ref r11)]) (st' := [.int x3, .ref r11]) [.aload 5, .iload_n 3] (by decide +kernel) rfl ?_
    refine q_putI fw_X4_130 rfl (by decide) (by decide +kernel) s13 ?_
    refine q_blk (pc' := 40) (lo' := [some (.ref a0), some (.int x1), some (.int x2), some (.int x3), some (.int x4), some (.ref r11)]) (st' := [.int x4, .ref r11]) [.aload 5, .iload 4] (by decide +kernel) rfl ?_
    refine q_putI fw_X4_133 rfl (by decide) (by decide +kernel) s13 ?_
    refine q_blk (pc' := 46) (lo' := [some (.ref a0), some (.int x1), some (.int x2), some (.int x3), some (.int x4), some (.ref r11)]) (st' := [.int x2, .ref r11]) [.aload 5, .iload_n 2] (by decide +kernel) rfl ?_
    refine q_callV (ci := 6) (Mc := M_X6_relieve) (z := 1) (b := r11) (As := [.int x2]) (st := []) mo_X6_relieve mi_X6_relieve ml_X4_136_X6_relieve rfl rfl (by decide) rfl (by decide) (by decide) rfl (Nat.le_of_ble_eq_true rfl) (by decide +kernel) s13 h (q_fV fun A14 h => ?_)
    show q_Wp _ _ _ _ 0 0 49 [some (.ref a0), some (.int x1), some (.int x2), some (.int x3), some (.int x4), some (.ref r11)] [] A14
    refine q_blk (pc' := 52) (lo' := [some (.ref a0), some (.int x1), some (.int x2), some (.int x3), some (.int x4), some (.ref r11)]) (st' := [.int (nI 0), .ref r11]) [.aload 5, .iconst 0] (by decide +kernel) rfl ?_
    obtain ⟨s16, h⟩ := h
    refine q_putI fw_X4_140 rfl (by decide) (by decide +kernel) s16 ?_
    refine q_blk (pc' := 58) (lo' := [some (.ref a0), some (.int x1), some (.int x2), some (.int x3), some (.int x4), some (.ref r11)]) (st' := [.int (nI 0), .ref r11]) [.aload 5, .iconst 0] (by decide +kernel) rfl ?_
    refine q_putI fw_X4_143 rfl (by decide) (by decide +kernel) s16 ?_
    refine q_blk (pc' := 63) (lo' := [some (.ref a0), some (.int x1), some (.int x2), some (.int x3), some (.int x4), some (.ref r11)]) (st' := [.ref r11]) [.aload 5] (by decide +kernel) rfl ?_
    obtain ⟨r17, e18, h⟩ := h
    refine q_getR fl_X4_97 rfl (by decide) (by decide +kernel) s16 e18 ?_
    obtain ⟨s19, h⟩ := h
    obtain ⟨r20, e21, h⟩ := h
    refine q_getR fl_X4_88 rfl (by decide) (by decide +kernel) s19 e21 ?_
    obtain ⟨s24, h⟩ := h
    refine q_callV (ci := 2) (Mc := M_X2_clear) (z := 0) (b := r20) (As := []) (st := []) mo_X2_clear mi_X2_clear ml_X4_146_X2_clear rfl rfl (by decide) rfl (by decide) (by decide) rfl (Nat.le_of_ble_eq_true rfl) (by decide +kernel) s24 h (q_fV fun A22 h => ?_)
    show q_Wp _ _ _ _ 0 0 72 [some (.ref a0), some (.int x1), some (.int x2), some (.int x3), some (.int x4), some (.ref r11)] [] A22
    refine q_blk (pc' := 74) (lo' := [some (.ref a0), some (.int x1), some (.int x2), some (.int x3), some (.int x4), some (.ref r11)]) (st' := [.ref r11]) [.aload 5] (by decide +kernel) rfl ?_
    obtain ⟨s25, h⟩ := h
    obtain ⟨r26, e27, h⟩ := h
    refine q_getR fl_X4_101 rfl (by decide) (by decide +kernel) s25 e27 ?_
    obtain ⟨s30, h⟩ := h
    refine q_callV (ci := 2) (Mc := M_X2_clear) (z := 0) (b := r26) (As := []) (st := []) mo_X2_clear mi_X2_clear ml_X4_146_X2_clear rfl rfl (by decide) rfl (by decide) (by decide) rfl (Nat.le_of_ble_eq_true rfl) (by decide +kernel) s30 h (q_fV fun A28 h => ?_)
    show q_Wp _ _ _ _ 0 0 80 [some (.ref a0), some (.int x1), some (.int x2), some (.int x3), some (.int x4), some (.ref r11)] [] A28
    refine q_blk (pc' := 82) (lo' := [some (.ref a0), some (.int x1), some (.int x2), some (.int x3), some (.int x4), some (.ref r11)]) (st' := [.ref a0, .ref a0]) [.aload_n 0, .dup] (by decide +kernel) rfl ?_
    obtain ⟨s31, h⟩ := h
    refine q_getI fl_X4_75 rfl (by decide) (by decide +kernel) s31 ?_
    refine q_blk (pc' := 87) (lo' := [some (.ref a0), some (.int x1), some (.int x2), some (.int x3), some (.int x4), some (.ref r11)]) (st' := [.int ((q_I A28 a0 3) + (nI 1)), .ref a0]) [.iconst 1, .iadd] (by decide +kernel) rfl ?_
    refine q_putI fw_X4_75 rfl (by decide) (by decide +kernel) s31 ?_
    exact q_ret0 rfl (by decide) (by decide) (by decide +kernel) ⟨rfl, h⟩
  · have h := h.2 c7
    exact q_ret0 rfl (by decide) (by decide) (by decide +kernel) ⟨rfl, h⟩
theorem f_X4_makeTicks {G : q_G} {X : String → q_H → Prop} {f : q_H → Prop} {A : q_H} {a0 : Nat} {x1 : Int32} (h : q_Wp G M_X4_makeTicks (q_KV f) X 0 0 2 [some (.ref a0), some (.int x1), some (.int (nI 0)), none] [] A) : q_Wc G M_X4_makeTicks [.ref a0, .int x1] A (q_KV f) X := by
  refine q_Wc.of [some (.ref a0), some (.int x1), none, none] mo_X4_makeTicks.2.2.2.2.2 rfl (Nat.le_of_ble_eq_true rfl) rfl ?_
  refine q_blk (pc' := 2) (lo' := [some (.ref a0), some (.int x1), some (.int (nI 0)), none]) (st' := []) [.iconst 0, .istore_n 2] (by decide +kernel) rfl ?_
  exact h
theorem f_X4_makeTicks_2 {G : q_G} {X : String → q_H → Prop} {f : q_H → Prop} {A : q_H} {a0 : Nat} {x1 : Int32} {x2 : Int32} (h : ((x1 ≤ x2 → f A) ∧ (¬ x1 ≤ x2 → q_sh A a0 = (5, 0) ∧ q_Wc G M_X4_leaveBelt [.ref a0] A (q_KV fun A2 => q_sh A2 a0 = (5, 0) ∧ q_Wc G M_X4_moveBelt [.ref a0] A2 (q_KV fun A5 => q_sh A5 a0 = (5, 0) ∧ q_Wc G M_X4_feedBelt [.ref a0] A5 (q_KV fun A8 => q_Wp G M_X4_makeTicks (q_KV f) X 0 0 21 [some (.ref a0), some (.int x1), some (.int x2), some (.int (nI 0))] [] A8) q_nX) q_nX) q_nX))) : q_Wp G M_X4_makeTicks (q_KV f) X 0 0 2 [some (.ref a0), some (.int x1), some (.int x2), none] [] A := by
  refine q_blk (pc' := 4) (lo' := [some (.ref a0), some (.int x1), some (.int x2), none]) (st' := [.int x1, .int x2]) [.iload_n 2, .iload_n 1] (by decide +kernel) rfl ?_
  refine q_icmp_ge 96 (off := 92) (by decide +kernel) (by decide) (fun c1 => ?_) (fun c1 => ?_)
  · have h := h.1 c1
    exact q_ret0 rfl (by decide) (by decide) (by decide +kernel) ⟨rfl, h⟩
  · have h := h.2 c1
    refine q_blk (pc' := 8) (lo' := [some (.ref a0), some (.int x1), some (.int x2), none]) (st' := [.ref a0]) [.aload_n 0] (by decide +kernel) rfl ?_
    obtain ⟨s4, h⟩ := h
    refine q_callV (ci := 4) (Mc := M_X4_leaveBelt) (z := 0) (b := a0) (As := []) (st := []) mo_X4_leaveBelt mi_X4_leaveBelt ml_X4_149_X4_leaveBelt rfl rfl (by decide) rfl (by decide) (by decide) rfl (Nat.le_of_ble_eq_true rfl) (by decide +kernel) s4 h (q_fV fun A2 h => ?_)
    show q_Wp _ _ _ _ 0 0 11 [some (.ref a0), some (.int x1), some (.int x2), none] [] A2
    refine q_blk (pc' := 12) (lo' := [some (.ref a0), some (.int x1), some (.int x2), none]) (st' := [.ref a0]) [.aload_n 0] (by decide +kernel) rfl ?_
    obtain ⟨s7, h⟩ := h
    refine q_callV (ci := 4) (Mc := M_X4_moveBelt) (z := 0) (b := a0) (As := []) (st := []) mo_X4_moveBelt mi_X4_moveBelt ml_X4_152_X4_moveBelt rfl rfl (by decide) rfl (by decide) (by decide) rfl (Nat.le_of_ble_eq_true rfl) (by decide +kernel) s7 h (q_fV fun A5 h => ?_)
    show q_Wp _ _ _ _ 0 0 15 [some (.ref a0), some (.int x1), some (.int x2), none] [] A5
    refine q_blk (pc' := 16) (lo' := [some (.ref a0), some (.int x1), some (.int x2), none]) (st' := [.ref a0]) [.aload_n 0] (by decide +kernel) rfl ?_
    obtain ⟨s10, h⟩ := h
    refine q_callV (ci := 4) (Mc := M_X4_feedBelt) (z := 0) (b := a0) (As := []) (st := []) mo_X4_feedBelt mi_X4_feedBelt ml_X4_155_X4_feedBelt rfl rfl (by decide) rfl (by decide) (by decide) rfl (Nat.le_of_ble_eq_true rfl) (by decide +kernel) s10 h (q_fV fun A8 h => ?_)
    show q_Wp _ _ _ _ 0 0 19 [some (.ref a0), some (.int x1), some (.int x2), none] [] A8
    refine q_blk (pc' := 21) (lo' := [some (.ref a0), some (.int x1), some (.int x2), some (.int (nI 0))]) (st' := []) [.iconst 0, .istore_n 3] (by decide +kernel) rfl ?_
    exact h
theorem f_X4_makeTicks_21 {G : q_G} {X : String → q_H → Prop} {f : q_H → Prop} {A : q_H} {a0 : Nat} {x1 : Int32} {x2 : Int32} {x3 : Int32} (h : q_sh A a0 = (5, 0) ∧ (((q_I A a0 3) ≤ x3 → q_Wp G M_X4_makeTicks (q_KV f) X 0 0 53 [some (.ref a0), some (.int x1), some (.int x2), some (.int (nI 0))] [] A) ∧ (¬ (q_I A a0 3) ≤ x3 → ∃ r3 : Nat, q_R A a0 2 = some r3 ∧ ∃ z6 : Nat, q_sh A r3 = (66, z6) ∧ z6 < 2147483648 ∧ ∃ j8 : Nat, x3 = nI j8 ∧ j8 < z6 ∧ ∃ r11 : Nat, q_R A r3 j8 = some r11 ∧ ∃ r13 : Nat, q_R A a0 1 = some r13 ∧ ∃ z16 : Nat, q_sh A r13 = (50, z16) ∧ z16 < 2147483648 ∧ 6 < z16 ∧ q_sh A r11 = (7, 0) ∧ q_Wc G M_X6_pick [.ref r11, .int (q_I A r13 6)] A (q_KV fun A19 => q_Wp G M_X4_makeTicks (q_KV f) X 0 0 21 [some (.ref a0), some (.int x1), some (.int x2), some (.int (x3 + (nI 1)))] [] A19) q_nX))) : q_Wp G M_X4_makeTicks (q_KV f) X 0 0 21 [some (.ref a0), some (.int x1), some (.int x2), some (.int x3)] [] A := by
  refine q_blk (pc' := 23) (lo' := [some (.ref a0), some (.int x1), some (.int x2), some (.int x3)]) (st' := [.ref a0, .int x3]) [.iload_n 3, .aload_n 0] (by decide +kernel) rfl ?_
  obtain ⟨s1, h⟩ := h
  refine q_getI fl_X4_75 rfl (by decide) (by decide +kernel) s1 ?_
  refine q_icmp_ge 51 (off := 25) (by decide +kernel) (by decide) (fun c2 => ?_) (fun c2 => ?_)
  · have h := h.1 c2
    refine q_blk (pc' := 53) (lo' := [some (.ref a0), some (.int x1), some (.int x2), some (.int (nI 0))]) (st' := []) [.iconst 0, .istore_n 3] (by decide +kernel) rfl ?_
    exact h
  · have h := h.2 c2
    refine q_blk (pc' := 30) (lo' := [some (.ref a0), some (.int x1), some (.int x2), some (.int x3)]) (st' := [.ref a0]) [.aload_n 0] (by decide +kernel) rfl ?_
    obtain ⟨r3, e4, h⟩ := h
    refine q_getR fl_X4_25 rfl (by decide) (by decide +kernel) s1 e4 ?_
    refine q_blk (pc' := 34) (lo' := [some (.ref a0), some (.int x1), some (.int x2), some (.int x3)]) (st' := [.int x3, .ref r3]) [.iload_n 3] (by decide +kernel) rfl ?_
    obtain ⟨z6, s5, b7, h⟩ := h
    obtain ⟨j8, e9, h⟩ := h
    obtain ⟨l10, h⟩ := h
    obtain ⟨r11, e12, h⟩ := h
    refine q_aaldS (q_rk6 G) e9 (by decide +kernel) s5 l10 b7 e12 ?_
    refine q_blk (pc' := 36) (lo' := [some (.ref a0), some (.int x1), some (.int x2), some (.int x3)]) (st' := [.ref a0, .ref r11]) [.aload_n 0] (by decide +kernel) rfl ?_
    obtain ⟨r13, e14, h⟩ := h
    refine q_getR fl_X4_18 rfl (by decide) (by decide +kernel) s1 e14 ?_
    refine q_blk (pc' := 41) (lo' := [some (.ref a0), some (.int x1), some (.int x2), some (.int x3)]) (st' := [.int (nI 6), .ref r13, .ref r11]) [.bipush 6] (by decide +kernel) rfl ?_
    obtain ⟨z16, s15, b17, h⟩ := h
    obtain ⟨l18, h⟩ := h
    refine q_iald rfl (by decide +kernel) s15 l18 b17 ?_
    obtain ⟨s21, h⟩ := h
    refine q_callV (ci := 6) (Mc := M_X6_pick) (z := 1) (b := r11) (As := [.int (q_I A r13 6)]) (st := []) mo_X6_pick mi_X6_pick ml_X4_158_X6_pick rfl rfl (by decide) rfl (by decide) (by decide) rfl (Nat.le_of_ble_eq_true rfl) (by decide +kernel) s21 h (q_fV fun A19 h => ?_)
    show q_Wp _ _ _ _ 0 0 45 [some (.ref a0), some (.int x1), some (.int x2), some (.int x3)] [] A19
    refine q_blk (pc' := 48) (lo' := [some (.ref a0), some (.int x1), some (.int x2), some (.int (x3 + (nI 1)))]) (st' := []) [.iinc 3 1] (by decide +kernel) rfl ?_
    refine q_goto 21 (off := -27) (by decide +kernel) (by decide) ?_
    exact h
theorem f_X4_makeTicks_53 {G : q_G} {X : String → q_H → Prop} {f : q_H → Prop} {A : q_H} {a0 : Nat} {x1 : Int32} {x2 : Int32} {x3 : Int32} (h : q_sh A a0 = (5, 0) ∧ (((q_I A a0 3) ≤ x3 → ∃ r3 : Nat, q_R A a0 9 = some r3 ∧ q_sh A r3 = (9, 0) ∧ q_Wp G M_X4_makeTicks (q_KV f) X 0 0 2 [some (.ref a0), some (.int x1), some (.int (x2 + (nI 1))), none] [] (q_setI A r3 0 ((q_I A r3 0) + (nI 1)))) ∧ (¬ (q_I A a0 3) ≤ x3 → ∃ r6 : Nat, q_R A a0 2 = some r6 ∧ ∃ z9 : Nat, q_sh A r6 = (66, z9) ∧ z9 < 2147483648 ∧ ∃ j11 : Nat, x3 = nI j11 ∧ j11 < z9 ∧ ∃ r14 : Nat, q_R A r6 j11 = some r14 ∧ q_Wc G M_X4_pressBales [.ref a0, .ref r14] A (q_KV fun A16 => q_Wp G M_X4_makeTicks (q_KV f) X 0 0 53 [some (.ref a0), some (.int x1), some (.int x2), some (.int (x3 + (nI 1)))] [] A16) q_nX))) : q_Wp G M_X4_makeTicks (q_KV f) X 0 0 53 [some (.ref a0), some (.int x1), some (.int x2), some (.int x3)] [] A := by
  refine q_blk (pc' := 55) (lo' := [some (.ref a0), some (.int x1), some (.int x2), some (.int x3)]) (st' := [.ref a0, .int x3]) [.iload_n 3, .aload_n 0] (by decide +kernel) rfl ?_
  obtain ⟨s1, h⟩ := h
  refine q_getI fl_X4_75 rfl (by decide) (by decide +kernel) s1 ?_
  refine q_icmp_ge 77 (off := 19) (by decide +kernel) (by decide) (fun c2 => ?_) (fun c2 => ?_)
  · have h := h.1 c2
    refine q_blk (pc' := 78) (lo' := [some (.ref a0), some (.int x1), some (.int x2), some (.int x3)]) (st' := [.ref a0]) [.aload_n 0] (by decide +kernel) rfl ?_
    obtain ⟨r3, e4, h⟩ := h
    refine q_getR fl_X4_59 rfl (by decide) (by decide +kernel) s1 e4 ?_
    refine q_blk (pc' := 82) (lo' := [some (.ref a0), some (.int x1), some (.int x2), some (.int x3)]) (st' := [.ref r3, .ref r3]) [.dup] (by decide +kernel) rfl ?_
    obtain ⟨s5, h⟩ := h
    refine q_getI fl_X4_165 rfl (by decide) (by decide +kernel) s5 ?_
    refine q_blk (pc' := 87) (lo' := [some (.ref a0), some (.int x1), some (.int x2), some (.int x3)]) (st' := [.int ((q_I A r3 0) + (nI 1)), .ref r3]) [.iconst 1, .iadd] (by decide +kernel) rfl ?_
    refine q_putI fw_X4_165 rfl (by decide) (by decide +kernel) s5 ?_
    refine q_blk (pc' := 93) (lo' := [some (.ref a0), some (.int x1), some (.int (x2 + (nI 1))), some (.int x3)]) (st' := []) [.iinc 2 1] (by decide +kernel) rfl ?_
    refine q_goto 2 (off := -91) (by decide +kernel) (by decide) ?_
    exact q_wk [some (.ref a0), some (.int x1), some (.int (x2 + (nI 1))), none] (And.intro rfl (And.intro rfl (And.intro rfl trivial))) h
  · have h := h.2 c2
    refine q_blk (pc' := 63) (lo' := [some (.ref a0), some (.int x1), some (.int x2), some (.int x3)]) (st' := [.ref a0, .ref a0]) [.aload_n 0, .aload_n 0] (by decide +kernel) rfl ?_
    obtain ⟨r6, e7, h⟩ := h
    refine q_getR fl_X4_25 rfl (by decide) (by decide +kernel) s1 e7 ?_
    refine q_blk (pc' := 67) (lo' := [some (.ref a0), some (.int x1), some (.int x2), some (.int x3)]) (st' := [.int x3, .ref r6, .ref a0]) [.iload_n 3] (by decide +kernel) rfl ?_
    obtain ⟨z9, s8, b10, h⟩ := h
    obtain ⟨j11, e12, h⟩ := h
    obtain ⟨l13, h⟩ := h
    obtain ⟨r14, e15, h⟩ := h
    refine q_aaldS (q_rk6 G) e12 (by decide +kernel) s8 l13 b10 e15 ?_
    refine q_callV (ci := 4) (Mc := M_X4_pressBales) (z := 1) (b := a0) (As := [.ref r14]) (st := []) mo_X4_pressBales mi_X4_pressBales ml_X4_161_X4_pressBales rfl rfl (by decide) rfl (by decide) (by decide) rfl (Nat.le_of_ble_eq_true rfl) (by decide +kernel) s1 h (q_fV fun A16 h => ?_)
    show q_Wp _ _ _ _ 0 0 71 [some (.ref a0), some (.int x1), some (.int x2), some (.int x3)] [] A16
    refine q_blk (pc' := 74) (lo' := [some (.ref a0), some (.int x1), some (.int x2), some (.int (x3 + (nI 1)))]) (st' := []) [.iinc 3 1] (by decide +kernel) rfl ?_
    refine q_goto 53 (off := -21) (by decide +kernel) (by decide) ?_
    exact h
theorem f_X4_leaveBelt {G : q_G} {X : String → q_H → Prop} {f : q_H → Prop} {A : q_H} {a0 : Nat} (h : q_sh A a0 = (5, 0) ∧ q_Wc G M_X4_stationAt [.ref a0, .int ((q_I A a0 3) - (nI 1))] A (q_KR fun o4 A2 => (o4 = none → f A2) ∧ (∀ r3 : Nat, o4 = some r3 → q_sh A2 r3 = (7, 0) ∧ q_Wc G M_X6_isSlotEmpty [.ref r3] A2 (q_KB fun b6 A5 => ((b6 = true → f A5) ∧ (b6 = false → q_sh A5 r3 = (7, 0) ∧ ∃ r11 : Nat, q_R A5 r3 7 = some r11 ∧ q_sh A5 a0 = (5, 0) ∧ q_Wc G M_X4_goesRound [.ref a0, .ref r11] A5 (q_KB fun b14 A13 => ((b14 = true → q_sh A13 a0 = (5, 0) ∧ ∃ r34 : Nat, q_R A13 a0 6 = some r34 ∧ q_sh A13 r11 = (6, 0) ∧ q_sh A13 r34 = (4, 0) ∧ q_Wc G M_X3_addLast [.ref r34, .int ((q_I A13 r11 1) + (nI 1))] A13 (q_KR fun o40 A37 => (o40 = none → q_sh A37 a0 = (5, 0) ∧ ∃ r42 : Nat, q_R A37 a0 8 = some r42 ∧ q_sh A37 r11 = (6, 0) ∧ ∃ r45 : Nat, q_R A37 r11 0 = some r45 ∧ q_sh A37 r42 = (3, 0) ∧ q_Wc G M_X2_putAll [.ref r42, .ref r45] A37 (q_KV fun A47 => q_sh A47 r11 = (6, 0) ∧ ∃ r51 : Nat, q_R A47 r11 0 = some r51 ∧ q_sh A47 r51 = (3, 0) ∧ q_Wc G M_X2_clear [.ref r51] A47 (q_KV fun A53 => f A53) q_nX) q_nX) ∧ (∀ r38 : Nat, o40 = some r38 → q_sh A37 r38 = (6, 0) ∧ ∃ r57 : Nat, q_R A37 r38 0 = some r57 ∧ q_sh A37 r11 = (6, 0) ∧ ∃ r60 : Nat, q_R A37 r11 0 = some r60 ∧ q_sh A37 r57 = (3, 0) ∧ q_Wc G M_X2_putAll [.ref r57, .ref r60] A37 (q_KV fun A62 => q_sh A62 a0 = (5, 0) ∧ ∃ r66 : Nat, q_R A62 a0 9 = some r66 ∧ q_sh A62 r66 = (9, 0) ∧ q_sh A62 r11 = (6, 0) ∧ ∃ r70 : Nat, q_R A62 r11 0 = some r70 ∧ q_sh A62 r70 = (3, 0) ∧ q_Wc G M_X2_clear [.ref r70] (q_setI A62 r66 3 ((q_I A62 r66 3) + (nI 1))) (q_KV fun A72 => f A72) q_nX) q_nX)) q_nX) ∧ (b14 = false → q_sh A13 a0 = (5, 0) ∧ ∃ r19 : Nat, q_R A13 a0 8 = some r19 ∧ q_sh A13 r11 = (6, 0) ∧ ∃ r22 : Nat, q_R A13 r11 0 = some r22 ∧ q_sh A13 r19 = (3, 0) ∧ q_Wc G M_X2_putAll [.ref r19, .ref r22] A13 (q_KV fun A24 => q_sh A24 r11 = (6, 0) ∧ ∃ r28 : Nat, q_R A24 r11 0 = some r28 ∧ q_sh A24 r28 = (3, 0) ∧ q_Wc G M_X2_clear [.ref r28] A24 (q_KV fun A30 => f A30) q_nX) q_nX))) q_nX))) q_nX)) q_nX) : q_Wc G M_X4_leaveBelt [.ref a0] A (q_KV f) X := by
  refine q_Wc.of [some (.ref a0), none, none, none] mo_X4_leaveBelt.2.2.2.2.2 rfl (Nat.le_of_ble_eq_true rfl) rfl ?_
  refine q_blk (pc' := 2) (lo' := [some (.ref a0), none, none, none]) (st' := [.ref a0, .ref a0]) [.aload_n 0, .aload_n 0] (by decide +kernel) rfl ?_
  obtain ⟨s1, h⟩ := h
  refine q_getI fl_X4_75 rfl (by decide) (by decide +kernel) s1 ?_
  refine q_blk (pc' := 7) (lo' := [some (.ref a0), none, none, none]) (st' := [.int ((q_I A a0 3) - (nI 1)), .ref a0]) [.iconst 1, .isub] (by decide +kernel) rfl ?_
  refine q_callV (ci := 4) (Mc := M_X4_stationAt) (z := 1) (b := a0) (As := [.int ((q_I A a0 3) - (nI 1))]) (st := []) mo_X4_stationAt mi_X4_stationAt ml_X4_93_X4_stationAt rfl rfl (by decide) rfl (by decide) (by decide) rfl (Nat.le_of_ble_eq_true rfl) (by decide +kernel) s1 h (q_fR (fun A2 h => ?_) (fun r3 A2 h => ?_))
  · have h := h.1 rfl
    show q_Wp _ _ _ _ 0 0 10 [some (.ref a0), none, none, none] [.null] A2
    refine q_blk (pc' := 12) (lo' := [some (.ref a0), some (.null), none, none]) (st' := [.null]) [.astore_n 1, .aload_n 1] (by decide +kernel) rfl ?_
    refine q_nul_y 22 (off := 10) (by decide +kernel) (by decide) ?_
    exact q_ret0 rfl (by decide) (by decide) (by decide +kernel) ⟨rfl, h⟩
  · have h := h.2 r3 rfl
    show q_Wp _ _ _ _ 0 0 10 [some (.ref a0), none, none, none] [.ref r3] A2
    refine q_blk (pc' := 12) (lo' := [some (.ref a0), some (.ref r3), none, none]) (st' := [.ref r3]) [.astore_n 1, .aload_n 1] (by decide +kernel) rfl ?_
    refine q_nul_n (off := 10) (by decide +kernel) ?_
    refine q_blk (pc' := 16) (lo' := [some (.ref a0), some (.ref r3), none, none]) (st' := [.ref r3]) [.aload_n 1] (by decide +kernel) rfl ?_
    obtain ⟨s7, h⟩ := h
    refine q_callV (ci := 6) (Mc := M_X6_isSlotEmpty) (z := 0) (b := r3) (As := []) (st := []) mo_X6_isSlotEmpty mi_X6_isSlotEmpty ml_X4_104_X6_isSlotEmpty rfl rfl (by decide) rfl (by decide) (by decide) rfl (Nat.le_of_ble_eq_true rfl) (by decide +kernel) s7 h (q_fB fun b6 A5 h => ?_)
    show q_Wp _ _ _ _ 0 0 19 [some (.ref a0), some (.ref r3), none, none] [.int (q_i b6)] A5
    refine q_ifB_eq 23 (off := 4) (by decide +kernel) (by decide) (fun c8 => ?_) (fun c8 => ?_)
    · have h := h.2 c8
      refine q_blk (pc' := 24) (lo' := [some (.ref a0), some (.ref r3), none, none]) (st' := [.ref r3]) [.aload_n 1] (by decide +kernel) rfl ?_
      obtain ⟨s10, h⟩ := h
      obtain ⟨r11, e12, h⟩ := h
      refine q_getR fl_X4_97 rfl (by decide) (by decide +kernel) s10 e12 ?_
      refine q_blk (pc' := 30) (lo' := [some (.ref a0), some (.ref r3), some (.ref r11), none]) (st' := [.ref r11, .ref a0]) [.astore_n 2, .aload_n 0, .aload_n 2] (by decide +kernel) rfl ?_
      obtain ⟨s15, h⟩ := h
      refine q_callV (ci := 4) (Mc := M_X4_goesRound) (z := 1) (b := a0) (As := [.ref r11]) (st := []) mo_X4_goesRound mi_X4_goesRound ml_X4_168_X4_goesRound rfl rfl (by decide) rfl (by decide) (by decide) rfl (Nat.le_of_ble_eq_true rfl) (by decide +kernel) s15 h (q_fB fun b14 A13 h => ?_)
      show q_Wp _ _ _ _ 0 0 33 [some (.ref a0), some (.ref r3), some (.ref r11), none] [.int (q_i b14)] A13
      refine q_ifB_eq 52 (off := 19) (by decide +kernel) (by decide) (fun c16 => ?_) (fun c16 => ?_)
      · have h := h.2 c16
        refine q_blk (pc' := 55) (lo' := [some (.ref a0), some (.ref r3), some (.ref r11), some (.null)]) (st' := [.null]) [.aconst_null, .astore_n 3, .aload_n 3] (by decide +kernel) rfl ?_
        refine q_nnl_n (off := 17) (by decide +kernel) ?_
        refine q_blk (pc' := 59) (lo' := [some (.ref a0), some (.ref r3), some (.ref r11), some (.null)]) (st' := [.ref a0]) [.aload_n 0] (by decide +kernel) rfl ?_
        obtain ⟨s18, h⟩ := h
        obtain ⟨r19, e20, h⟩ := h
        refine q_getR fl_X4_52 rfl (by decide) (by decide +kernel) s18 e20 ?_
        refine q_blk (pc' := 63) (lo' := [some (.ref a0), some (.ref r3), some (.ref r11), some (.null)]) (st' := [.ref r11, .ref r19]) [.aload_n 2] (by decide +kernel) rfl ?_
        obtain ⟨s21, h⟩ := h
        obtain ⟨r22, e23, h⟩ := h
        refine q_getR fl_X4_88 rfl (by decide) (by decide +kernel) s21 e23 ?_
        obtain ⟨s26, h⟩ := h
        refine q_callV (ci := 2) (Mc := M_X2_putAll) (z := 1) (b := r19) (As := [.ref r22]) (st := []) mo_X2_putAll mi_X2_putAll ml_X4_178_X2_putAll rfl rfl (by decide) rfl (by decide) (by decide) rfl (Nat.le_of_ble_eq_true rfl) (by decide +kernel) s26 h (q_fV fun A24 h => ?_)
        show q_Wp _ _ _ _ 0 0 69 [some (.ref a0), some (.ref r3), some (.ref r11), some (.null)] [] A24
        refine q_goto 96 (off := 27) (by decide +kernel) (by decide) ?_
        refine q_blk (pc' := 97) (lo' := [some (.ref a0), some (.ref r3), some (.ref r11), some (.null)]) (st' := [.ref r11]) [.aload_n 2] (by decide +kernel) rfl ?_
        obtain ⟨s27, h⟩ := h
        obtain ⟨r28, e29, h⟩ := h
        refine q_getR fl_X4_88 rfl (by decide) (by decide +kernel) s27 e29 ?_
        obtain ⟨s32, h⟩ := h
        refine q_callV (ci := 2) (Mc := M_X2_clear) (z := 0) (b := r28) (As := []) (st := []) mo_X2_clear mi_X2_clear ml_X4_146_X2_clear rfl rfl (by decide) rfl (by decide) (by decide) rfl (Nat.le_of_ble_eq_true rfl) (by decide +kernel) s32 h (q_fV fun A30 h => ?_)
        show q_Wp _ _ _ _ 0 0 103 [some (.ref a0), some (.ref r3), some (.ref r11), some (.null)] [] A30
        exact q_ret0 rfl (by decide) (by decide) (by decide +kernel) ⟨rfl, h⟩
      · have h := h.1 c16
        refine q_blk (pc' := 37) (lo' := [some (.ref a0), some (.ref r3), some (.ref r11), none]) (st' := [.ref a0]) [.aload_n 0] (by decide +kernel) rfl ?_
        obtain ⟨s33, h⟩ := h
        obtain ⟨r34, e35, h⟩ := h
        refine q_getR fl_X4_38 rfl (by decide) (by decide +kernel) s33 e35 ?_
        refine q_blk (pc' := 41) (lo' := [some (.ref a0), some (.ref r3), some (.ref r11), none]) (st' := [.ref r11, .ref r34]) [.aload_n 2] (by decide +kernel) rfl ?_
        obtain ⟨s36, h⟩ := h
        refine q_getI fl_X4_172 rfl (by decide) (by decide +kernel) s36 ?_
        refine q_blk (pc' := 46) (lo' := [some (.ref a0), some (.ref r3), some (.ref r11), none]) (st' := [.int ((q_I A13 r11 1) + (nI 1)), .ref r34]) [.iconst 1, .iadd] (by decide +kernel) rfl ?_
        obtain ⟨s39, h⟩ := h
        refine q_callV (ci := 3) (Mc := M_X3_addLast) (z := 1) (b := r34) (As := [.int ((q_I A13 r11 1) + (nI 1))]) (st := []) mo_X3_addLast mi_X3_addLast ml_X4_175_X3_addLast rfl rfl (by decide) rfl (by decide) (by decide) rfl (Nat.le_of_ble_eq_true rfl) (by decide +kernel) s39 h (q_fR (fun A37 h => ?_) (fun r38 A37 h => ?_))
        · have h := h.1 rfl
          show q_Wp _ _ _ _ 0 0 49 [some (.ref a0), some (.ref r3), some (.ref r11), none] [.null] A37
          refine q_goto 53 (off := 4) (by decide +kernel) (by decide) ?_
          refine q_blk (pc' := 55) (lo' := [some (.ref a0), some (.ref r3), some (.ref r11), some (.null)]) (st' := [.null]) [.astore_n 3, .aload_n 3] (by decide +kernel) rfl ?_
          refine q_nnl_n (off := 17) (by decide +kernel) ?_
          refine q_blk (pc' := 59) (lo' := [some (.ref a0), some (.ref r3), some (.ref r11), some (.null)]) (st' := [.ref a0]) [.aload_n 0] (by decide +kernel) rfl ?_
          obtain ⟨s41, h⟩ := h
          obtain ⟨r42, e43, h⟩ := h
          refine q_getR fl_X4_52 rfl (by decide) (by decide +kernel) s41 e43 ?_
          refine q_blk (pc' := 63) (lo' := [some (.ref a0), some (.ref r3), some (.ref r11), some (.null)]) (st' := [.ref r11, .ref r42]) [.aload_n 2] (by decide +kernel) rfl ?_
          obtain ⟨s44, h⟩ := h
          obtain ⟨r45, e46, h⟩ := h
          refine q_getR fl_X4_88 rfl (by decide) (by decide +kernel) s44 e46 ?_
          obtain ⟨s49, h⟩ := h
          refine q_callV (ci := 2) (Mc := M_X2_putAll) (z := 1) (b := r42) (As := [.ref r45]) (st := []) mo_X2_putAll mi_X2_putAll ml_X4_178_X2_putAll rfl rfl (by decide) rfl (by decide) (by decide) rfl (Nat.le_of_ble_eq_true rfl) (by decide +kernel) s49 h (q_fV fun A47 h => ?_)
          show q_Wp _ _ _ _ 0 0 69 [some (.ref a0), some (.ref r3), some (.ref r11), some (.null)] [] A47
          refine q_goto 96 (off := 27) (by decide +kernel) (by decide) ?_
          refine q_blk (pc' := 97) (lo' := [some (.ref a0), some (.ref r3), some (.ref r11), some (.null)]) (st' := [.ref r11]) [.aload_n 2] (by decide +kernel) rfl ?_
          obtain ⟨s50, h⟩ := h
          obtain ⟨r51, e52, h⟩ := h
          refine q_getR fl_X4_88 rfl (by decide) (by decide +kernel) s50 e52 ?_
          obtain ⟨s55, h⟩ := h
          refine q_callV (ci := 2) (Mc := M_X2_clear) (z := 0) (b := r51) (As := []) (st := []) mo_X2_clear mi_X2_clear ml_X4_146_X2_clear rfl rfl (by decide) rfl (by decide) (by decide) rfl (Nat.le_of_ble_eq_true rfl) (by decide +kernel) s55 h (q_fV fun A53 h => ?_)
          show q_Wp _ _ _ _ 0 0 103 [some (.ref a0), some (.ref r3), some (.ref r11), some (.null)] [] A53
          exact q_ret0 rfl (by decide) (by decide) (by decide +kernel) ⟨rfl, h⟩
        · have h := h.2 r38 rfl
          show q_Wp _ _ _ _ 0 0 49 [some (.ref a0), some (.ref r3), some (.ref r11), none] [.ref r38] A37
          refine q_goto 53 (off := 4) (by decide +kernel) (by decide) ?_
          refine q_blk (pc' := 55) (lo' := [some (.ref a0), some (.ref r3), some (.ref r11), some (.ref r38)]) (st' := [.ref r38]) [.astore_n 3, .aload_n 3] (by decide +kernel) rfl ?_
          refine q_nnl_y 72 (off := 17) (by decide +kernel) (by decide) ?_
          refine q_blk (pc' := 73) (lo' := [some (.ref a0), some (.ref r3), some (.ref r11), some (.ref r38)]) (st' := [.ref r38]) [.aload_n 3] (by decide +kernel) rfl ?_
          obtain ⟨s56, h⟩ := h
          obtain ⟨r57, e58, h⟩ := h
          refine q_getR fl_X4_88 rfl (by decide) (by decide +kernel) s56 e58 ?_
          refine q_blk (pc' := 77) (lo' := [some (.ref a0), some (.ref r3), some (.ref r11), some (.ref r38)]) (st' := [.ref r11, .ref r57]) [.aload_n 2] (by decide +kernel) rfl ?_
          obtain ⟨s59, h⟩ := h
          obtain ⟨r60, e61, h⟩ := h
          refine q_getR fl_X4_88 rfl (by decide) (by decide +kernel) s59 e61 ?_
          obtain ⟨s64, h⟩ := h
          refine q_callV (ci := 2) (Mc := M_X2_putAll) (z := 1) (b := r57) (As := [.ref r60]) (st := []) mo_X2_putAll mi_X2_putAll ml_X4_178_X2_putAll rfl rfl (by decide) rfl (by decide) (by decide) rfl (Nat.le_of_ble_eq_true rfl) (by decide +kernel) s64 h (q_fV fun A62 h => ?_)
          show q_Wp _ _ _ _ 0 0 83 [some (.ref a0), some (.ref r3), some (.ref r11), some (.ref r38)] [] A62
          refine q_blk (pc' := 84) (lo' := [some (.ref a0), some (.ref r3), some (.ref r11), some (.ref r38)]) (st' := [.ref a0]) [.aload_n 0] (by decide +kernel) rfl ?_
          obtain ⟨s65, h⟩ := h
          obtain ⟨r66, e67, h⟩ := h
          refine q_getR fl_X4_59 rfl (by decide) (by decide +kernel) s65 e67 ?_
          refine q_blk (pc' := 88) (lo' := [some (.ref a0), some (.ref r3), some (.ref r11), some (.ref r38)]) (st' := [.ref r66, .ref r66]) [.dup] (by decide +kernel) rfl ?_
          obtain ⟨s68, h⟩ := h
          refine q_getI fl_X4_182 rfl (by decide) (by decide +kernel) s68 ?_
          refine q_blk (pc' := 93) (lo' := [some (.ref a0), some (.ref r3), some (.ref r11), some (.ref r38)]) (st' := [.int ((q_I A62 r66 3) + (nI 1)), .ref r66]) [.iconst 1, .iadd] (by decide +kernel) rfl ?_
          refine q_putI fw_X4_182 rfl (by decide) (by decide +kernel) s68 ?_
          refine q_blk (pc' := 97) (lo' := [some (.ref a0), some (.ref r3), some (.ref r11), some (.ref r38)]) (st' := [.ref r11]) [.aload_n 2] (by decide +kernel) rfl ?_
          obtain ⟨s69, h⟩ := h
          obtain ⟨r70, e71, h⟩ := h
          refine q_getR fl_X4_88 rfl (by decide) (by decide +kernel) s69 e71 ?_
          obtain ⟨s74, h⟩ := h
          refine q_callV (ci := 2) (Mc := M_X2_clear) (z := 0) (b := r70) (As := []) (st := []) mo_X2_clear mi_X2_clear ml_X4_146_X2_clear rfl rfl (by decide) rfl (by decide) (by decide) rfl (Nat.le_of_ble_eq_true rfl) (by decide +kernel) s74 h (q_fV fun A72 h => ?_)
          show q_Wp _ _ _ _ 0 0 103 [some (.ref a0), some (.ref r3), some (.ref r11), some (.ref r38)] [] A72
          exact q_ret0 rfl (by decide) (by decide) (by decide +kernel) ⟨rfl, h⟩
    · have h := h.1 c8
      exact q_ret0 rfl (by decide) (by decide) (by decide +kernel) ⟨rfl, h⟩
theorem f_X4_goesRound {G : q_G} {X : String → q_H → Prop} {f : Bool → q_H → Prop} {A : q_H} {a0 : Nat} {a1 : Nat} (h : q_sh A a1 = (6, 0) ∧ q_sh A a0 = (5, 0) ∧ ∃ r3 : Nat, q_R A a0 1 = some r3 ∧ ∃ z6 : Nat, q_sh A r3 = (50, z6) ∧ z6 < 2147483648 ∧ 5 < z6 ∧ (((q_I A r3 5) ≤ (q_I A a1 1) → f false A) ∧ (¬ (q_I A r3 5) ≤ (q_I A a1 1) → ∃ r10 : Nat, q_R A a0 6 = some r10 ∧ q_sh A r10 = (4, 0) ∧ q_Wc G M_X3_isFull [.ref r10] A (q_KB fun b13 A12 => ((b13 = true → f false A12) ∧ (b13 = false → q_Wp G M_X4_goesRound (q_KB f) X 0 0 29 [some (.ref a0), some (.ref a1), some (.int (nI 0)), some (.int (nI 0))] [] A12))) q_nX))) : q_Wc G M_X4_goesRound [.ref a0, .ref a1] A (q_KB f) X := by
  refine q_Wc.of [some (.ref a0), some (.ref a1), none, none] mo_X4_goesRound.2.2.2.2.2 rfl (Nat.le_of_ble_eq_true rfl) rfl ?_
  refine q_blk (pc' := 1) (lo' := [some (.ref a0), some (.ref a1), none, none]) (st' := [.ref a1]) [.aload_n 1] (by decide +kernel) rfl ?_
  obtain ⟨s1, h⟩ := h
  refine q_getI fl_X4_172 rfl (by decide) (by decide +kernel) s1 ?_
  refine q_blk (pc' := 5) (lo' := [some (.ref a0), some (.ref a1), none, none]) (st' := [.ref a0, .int (q_I A a1 1)]) [.aload_n 0] (by decide +kernel) rfl ?_
  obtain ⟨s2, h⟩ := h
  obtain ⟨r3, e4, h⟩ := h
  refine q_getR fl_X4_18 rfl (by decide) (by decide +kernel) s2 e4 ?_
  refine q_blk (pc' := 9) (lo' := [some (.ref a0), some (.ref a1), none, none]) (st' := [.int (nI 5), .ref r3, .int (q_I A a1 1)]) [.iconst 5] (by decide +kernel) rfl ?_
  obtain ⟨z6, s5, b7, h⟩ := h
  obtain ⟨l8, h⟩ := h
  refine q_iald rfl (by decide +kernel) s5 l8 b7 ?_
  refine q_icmp_ge 23 (off := 13) (by decide +kernel) (by decide) (fun c9 => ?_) (fun c9 => ?_)
  · have h := h.1 c9
    refine q_blk (pc' := 24) (lo' := [some (.ref a0), some (.ref a1), none, none]) (st' := [.int (nI 0)]) [.iconst 0] (by decide +kernel) rfl ?_
    exact q_retZ (r := q_i false) rfl (q_nz _) (by decide) (by decide) (by decide +kernel) ⟨false, rfl, h⟩
  · have h := h.2 c9
    refine q_blk (pc' := 14) (lo' := [some (.ref a0), some (.ref a1), none, none]) (st' := [.ref a0]) [.aload_n 0] (by decide +kernel) rfl ?_
    obtain ⟨r10, e11, h⟩ := h
    refine q_getR fl_X4_38 rfl (by decide) (by decide +kernel) s2 e11 ?_
    obtain ⟨s14, h⟩ := h
    refine q_callV (ci := 3) (Mc := M_X3_isFull) (z := 0) (b := r10) (As := []) (st := []) mo_X3_isFull mi_X3_isFull ml_X4_185_X3_isFull rfl rfl (by decide) rfl (by decide) (by decide) rfl (Nat.le_of_ble_eq_true rfl) (by decide +kernel) s14 h (q_fB fun b13 A12 h => ?_)
    show q_Wp _ _ _ _ 0 0 20 [some (.ref a0), some (.ref a1), none, none] [.int (q_i b13)] A12
    refine q_ifB_eq 25 (off := 5) (by decide +kernel) (by decide) (fun c15 => ?_) (fun c15 => ?_)
    · have h := h.2 c15
      refine q_blk (pc' := 29) (lo' := [some (.ref a0), some (.ref a1), some (.int (nI 0)), some (.int (nI 0))]) (st' := []) [.iconst 0, .istore_n 2, .iconst 0, .istore_n 3] (by decide +kernel) rfl ?_
      exact h
    · have h := h.1 c15
      refine q_blk (pc' := 24) (lo' := [some (.ref a0), some (.ref a1), none, none]) (st' := [.int (nI 0)]) [.iconst 0] (by decide +kernel) rfl ?_
      exact q_retZ (r := q_i false) rfl (q_nz _) (by decide) (by decide) (by decide +kernel) ⟨false, rfl, h⟩
theorem f_X4_goesRound_29 {G : q_G} {X : String → q_H → Prop} {f : Bool → q_H → Prop} {A : q_H} {a0 : Nat} {a1 : Nat} {x2 : Int32} {x3 : Int32} (h : q_sh A a0 = (5, 0) ∧ (((q_I A a0 0) ≤ x3 → q_sh A a1 = (6, 0) ∧ ∃ r4 : Nat, q_R A a1 0 = some r4 ∧ q_sh A r4 = (3, 0) ∧ ((x2 < (nI 1) → f false A) ∧ (¬ x2 < (nI 1) → (((q_I A r4 1) ≤ nI 0 → f false A) ∧ (¬ (q_I A r4 1) ≤ nI 0 → (¬ (q_I A r4 1) = nI 0) ∧ ∃ r10 : Nat, q_R A a0 1 = some r10 ∧ ∃ z13 : Nat, q_sh A r10 = (50, z13) ∧ z13 < 2147483648 ∧ 4 < z13 ∧ ((((x2 * (nI 100)) / (q_I A r4 1)) < (q_I A r10 4) → f false A) ∧ (¬ ((x2 * (nI 100)) / (q_I A r4 1)) < (q_I A r10 4) → f true A))))))) ∧ (¬ (q_I A a0 0) ≤ x3 → q_Wc G M_X4_isTarget [.ref a0, .int x3] A (q_KB fun b18 A17 => ((b18 = true → q_sh A17 a1 = (6, 0) ∧ ∃ r22 : Nat, q_R A17 a1 0 = some r22 ∧ q_sh A17 r22 = (3, 0) ∧ q_Wc G M_X2_of [.ref r22, .int x3] A17 (q_KI fun r25 A24 => q_Wp G M_X4_goesRound (q_KB f) X 0 0 29 [some (.ref a0), some (.ref a1), some (.int (x2 + r25)), some (.int (x3 + (nI 1)))] [] A24) q_nX) ∧ (b18 = false → q_Wp G M_X4_goesRound (q_KB f) X 0 0 29 [some (.ref a0), some (.ref a1), some (.int (x2 + (nI 0))), some (.int (x3 + (nI 1)))] [] A17))) q_nX))) : q_Wp G M_X4_goesRound (q_KB f) X 0 0 29 [some (.ref a0), some (.ref a1), some (.int x2), some (.int x3)] [] A := by
  refine q_blk (pc' := 31) (lo' := [some (.ref a0), some (.ref a1), some (.int x2), some (.int x3)]) (st' := [.ref a0, .int x3]) [.iload_n 3, .aload_n 0] (by decide +kernel) rfl ?_
  obtain ⟨s1, h⟩ := h
  refine q_getI fl_X4_71 rfl (by decide) (by decide +kernel) s1 ?_
  refine q_icmp_ge 66 (off := 32) (by decide +kernel) (by decide) (fun c2 => ?_) (fun c2 => ?_)
  · have h := h.1 c2
    refine q_blk (pc' := 67) (lo' := [some (.ref a0), some (.ref a1), some (.int x2), some (.int x3)]) (st' := [.ref a1]) [.aload_n 1] (by decide +kernel) rfl ?_
    obtain ⟨s3, h⟩ := h
    obtain ⟨r4, e5, h⟩ := h
    refine q_getR fl_X4_88 rfl (by decide) (by decide +kernel) s3 e5 ?_
    obtain ⟨s6, h⟩ := h
    refine q_getI fl_X4_108 rfl (by decide) (by decide +kernel) s6 ?_
    refine q_blk (pc' := 76) (lo' := [some (.ref a0), some (.ref a1), some (.int x2), some (.int (q_I A r4 1))]) (st' := [.int (nI 1), .int x2]) [.istore_n 3, .iload_n 2, .iconst 1] (by decide +kernel) rfl ?_
    refine q_icmp_lt 102 (off := 26) (by decide +kernel) (by decide) (fun c7 => ?_) (fun c7 => ?_)
    · have h := h.1 c7
      refine q_blk (pc' := 103) (lo' := [some (.ref a0), some (.ref a1), some (.int x2), some (.int (q_I A r4 1))]) (st' := [.int (nI 0)]) [.iconst 0] (by decide +kernel) rfl ?_
      exact q_retZ (r := q_i false) rfl (q_nz _) (by decide) (by decide) (by decide +kernel) ⟨false, rfl, h⟩
    · have h := h.2 c7
      refine q_blk (pc' := 80) (lo' := [some (.ref a0), some (.ref a1), some (.int x2), some (.int (q_I A r4 1))]) (st' := [.int (q_I A r4 1)]) [.iload_n 3] (by decide +kernel) rfl ?_
      refine q_if_le 102 (off := 22) (by decide +kernel) (by decide) (fun c8 => ?_) (fun c8 => ?_)
      · have h := h.1 c8
        refine q_blk (pc' := 103) (lo' := [some (.ref a0), some (.ref a1), some (.int x2), some (.int (q_I A r4 1))]) (st' := [.int (nI 0)]) [.iconst 0] (by decide +kernel) rfl ?_
        exact q_retZ (r := q_i false) rfl (q_nz _) (by decide) (by decide) (by decide +kernel) ⟨false, rfl, h⟩
      · have h := h.2 c8
        refine q_blk (pc' := 88) (lo' := [some (.ref a0), some (.ref a1), some (.int x2), some (.int (q_I A r4 1))]) (st' := [.int (q_I A r4 1), .int (x2 * (nI 100))]) [.iload_n 2, .bipush 100, .imul, .iload_n 3] (by decide +kernel) rfl ?_
        obtain ⟨d9, h⟩ := h
        refine q_idiv (by decide +kernel) d9 ?_
        refine q_blk (pc' := 90) (lo' := [some (.ref a0), some (.ref a1), some (.int x2), some (.int (q_I A r4 1))]) (st' := [.ref a0, .int ((x2 * (nI 100)) / (q_I A r4 1))]) [.aload_n 0] (by decide +kernel) rfl ?_
        obtain ⟨r10, e11, h⟩ := h
        refine q_getR fl_X4_18 rfl (by decide) (by decide +kernel) s1 e11 ?_
        refine q_blk (pc' := 94) (lo' := [some (.ref a0), some (.ref a1), some (.int x2), some (.int (q_I A r4 1))]) (st' := [.int (nI 4), .ref r10, .int ((x2 * (nI 100)) / (q_I A r4 1))]) [.iconst 4] (by decide +kernel) rfl ?_
        obtain ⟨z13, s12, b14, h⟩ := h
        obtain ⟨l15, h⟩ := h
        refine q_iald rfl (by decide +kernel) s12 l15 b14 ?_
        refine q_icmp_lt 102 (off := 7) (by decide +kernel) (by decide) (fun c16 => ?_) (fun c16 => ?_)
        · have h := h.1 c16
          refine q_blk (pc' := 103) (lo' := [some (.ref a0), some (.ref a1), some (.int x2), some (.int (q_I A r4 1))]) (st' := [.int (nI 0)]) [.iconst 0] (by decide +kernel) rfl ?_
          exact q_retZ (r := q_i false) rfl (q_nz _) (by decide) (by decide) (by decide +kernel) ⟨false, rfl, h⟩
        · have h := h.2 c16
          refine q_blk (pc' := 99) (lo' := [some (.ref a0), some (.ref a1), some (.int x2), some (.int (q_I A r4 1))]) (st' := [.int (nI 1)]) [.iconst 1] (by decide +kernel) rfl ?_
          refine q_goto 103 (off := 4) (by decide +kernel) (by decide) ?_
          exact q_retZ (r := q_i true) rfl (q_nz _) (by decide) (by decide) (by decide +kernel) ⟨true, rfl, h⟩
  · have h := h.2 c2
    refine q_blk (pc' := 40) (lo' := [some (.ref a0), some (.ref a1), some (.int x2), some (.int x3)]) (st' := [.int x3, .ref a0, .int x2]) [.iload_n 2, .aload_n 0, .iload_n 3] (by decide +kernel) rfl ?_
    refine q_callV (ci := 4) (Mc := M_X4_isTarget) (z := 1) (b := a0) (As := [.int x3]) (st := [.int x2]) mo_X4_isTarget mi_X4_isTarget ml_X4_188_X4_isTarget rfl rfl (by decide) rfl (by decide) (by decide) rfl (Nat.le_of_ble_eq_true rfl) (by decide +kernel) s1 h (q_fB fun b18 A17 h => ?_)
    show q_Wp _ _ _ _ 0 0 43 [some (.ref a0), some (.ref a1), some (.int x2), some (.int x3)] [.int (q_i b18), .int x2] A17
    refine q_ifB_eq 57 (off := 14) (by decide +kernel) (by decide) (fun c19 => ?_) (fun c19 => ?_)
    · have h := h.2 c19
      refine q_blk (pc' := 63) (lo' := [some (.ref a0), some (.ref a1), some (.int (x2 + (nI 0))), some (.int (x3 + (nI 1)))]) (st' := []) [.iconst 0, .iadd, .istore_n 2, .iinc 3 1] (by decide +kernel) rfl ?_
      refine q_goto 29 (off := -34) (by decide +kernel) (by decide) ?_
      exact h
    · have h := h.1 c19
      refine q_blk (pc' := 47) (lo' := [some (.ref a0), some (.ref a1), some (.int x2), some (.int x3)]) (st' := [.ref a1, .int x2]) [.aload_n 1] (by decide +kernel) rfl ?_
      obtain ⟨s21, h⟩ := h
      obtain ⟨r22, e23, h⟩ := h
      refine q_getR fl_X4_88 rfl (by decide) (by decide +kernel) s21 e23 ?_
      refine q_blk (pc' := 51) (lo' := [some (.ref a0), some (.ref a1), some (.int x2), some (.int x3)]) (st' := [.int x3, .ref r22, .int x2]) [.iload_n 3] (by decide +kernel) rfl ?_
      obtain ⟨s26, h⟩ := h
      refine q_callV (ci := 2) (Mc := M_X2_of) (z := 1) (b := r22) (As := [.int x3]) (st := [.int x2]) mo_X2_of mi_X2_of ml_X4_192_X2_of rfl rfl (by decide) rfl (by decide) (by decide) rfl (Nat.le_of_ble_eq_true rfl) (by decide +kernel) s26 h (q_fI fun r25 A24 h => ?_)
      show q_Wp _ _ _ _ 0 0 54 [some (.ref a0), some (.ref a1), some (.int x2), some (.int x3)] [.int r25, .int x2] A24
      refine q_goto 58 (off := 4) (by decide +kernel) (by decide) ?_
      refine q_blk (pc' := 63) (lo' := [some (.ref a0), some (.ref a1), some (.int (x2 + r25)), some (.int (x3 + (nI 1)))]) (st' := []) [.iadd, .istore_n 2, .iinc 3 1] (by decide +kernel) rfl ?_
      refine q_goto 29 (off := -34) (by decide +kernel) (by decide) ?_
      exact h
theorem f_X4_isTarget {G : q_G} {X : String → q_H → Prop} {f : Bool → q_H → Prop} {A : q_H} {a0 : Nat} {x1 : Int32} (h : q_Wp G M_X4_isTarget (q_KB f) X 0 0 2 [some (.ref a0), some (.int x1), some (.int (nI 0))] [] A) : q_Wc G M_X4_isTarget [.ref a0, .int x1] A (q_KB f) X := by
  refine q_Wc.of [some (.ref a0), some (.int x1), none] mo_X4_isTarget.2.2.2.2.2 rfl (Nat.le_of_ble_eq_true rfl) rfl ?_
  refine q_blk (pc' := 2) (lo' := [some (.ref a0), some (.int x1), some (.int (nI 0))]) (st' := []) [.iconst 0, .istore_n 2] (by decide +kernel) rfl ?_
  exact h
theorem f_X4_isTarget_2 {G : q_G} {X : String → q_H → Prop} {f : Bool → q_H → Prop} {A : q_H} {a0 : Nat} {x1 : Int32} {x2 : Int32} (h : q_sh A a0 = (5, 0) ∧ (((q_I A a0 3) ≤ x2 → f false A) ∧ (¬ (q_I A a0 3) ≤ x2 → ∃ r3 : Nat, q_R A a0 2 = some r3 ∧ ∃ z6 : Nat, q_sh A r3 = (66, z6) ∧ z6 < 2147483648 ∧ ∃ j8 : Nat, x2 = nI j8 ∧ j8 < z6 ∧ ∃ r11 : Nat, q_R A r3 j8 = some r11 ∧ q_sh A r11 = (7, 0) ∧ (((q_I A r11 0) = x1 → f true A) ∧ (¬ (q_I A r11 0) = x1 → q_Wp G M_X4_isTarget (q_KB f) X 0 0 2 [some (.ref a0), some (.int x1), some (.int (x2 + (nI 1)))] [] A))))) : q_Wp G M_X4_isTarget (q_KB f) X 0 0 2 [some (.ref a0), some (.int x1), some (.int x2)] [] A := by
  refine q_blk (pc' := 4) (lo' := [some (.ref a0), some (.int x1), some (.int x2)]) (st' := [.ref a0, .int x2]) [.iload_n 2, .aload_n 0] (by decide +kernel) rfl ?_
  obtain ⟨s1, h⟩ := h
  refine q_getI fl_X4_75 rfl (by decide) (by decide +kernel) s1 ?_
  refine q_icmp_ge 31 (off := 24) (by decide +kernel) (by decide) (fun c2 => ?_) (fun c2 => ?_)
  · have h := h.1 c2
    refine q_blk (pc' := 32) (lo' := [some (.ref a0), some (.int x1), some (.int x2)]) (st' := [.int (nI 0)]) [.iconst 0] (by decide +kernel) rfl ?_
    exact q_retZ (r := q_i false) rfl (q_nz _) (by decide) (by decide) (by decide +kernel) ⟨false, rfl, h⟩
  · have h := h.2 c2
    refine q_blk (pc' := 11) (lo' := [some (.ref a0), some (.int x1), some (.int x2)]) (st' := [.ref a0]) [.aload_n 0] (by decide +kernel) rfl ?_
    obtain ⟨r3, e4, h⟩ := h
    refine q_getR fl_X4_25 rfl (by decide) (by decide +kernel) s1 e4 ?_
    refine q_blk (pc' := 15) (lo' := [some (.ref a0), some (.int x1), some (.int x2)]) (st' := [.int x2, .ref r3]) [.iload_n 2] (by decide +kernel) rfl ?_
    obtain ⟨z6, s5, b7, h⟩ := h
    obtain ⟨j8, e9, h⟩ := h
    obtain ⟨l10, h⟩ := h
    obtain ⟨r11, e12, h⟩ := h
    refine q_aaldS (q_rk6 G) e9 (by decide +kernel) s5 l10 b7 e12 ?_
    obtain ⟨s13, h⟩ := h
    refine q_getI fl_X4_127 rfl (by decide) (by decide +kernel) s13 ?_
    refine q_blk (pc' := 20) (lo' := [some (.ref a0), some (.int x1), some (.int x2)]) (st' := [.int x1, .int (q_I A r11 0)]) [.iload_n 1] (by decide +kernel) rfl ?_
    refine q_icmp_ne 25 (off := 5) (by decide +kernel) (by decide) (fun c14 => ?_) (fun c14 => ?_)
    · have h := h.2 c14
      refine q_blk (pc' := 28) (lo' := [some (.ref a0), some (.int x1), some (.int (x2 + (nI 1)))]) (st' := []) [.iinc 2 1] (by decide +kernel) rfl ?_
      refine q_goto 2 (off := -26) (by decide +kernel) (by decide) ?_
      exact h
    · have h := h.1 c14
      refine q_blk (pc' := 24) (lo' := [some (.ref a0), some (.int x1), some (.int x2)]) (st' := [.int (nI 1)]) [.iconst 1] (by decide +kernel) rfl ?_
      exact q_retZ (r := q_i true) rfl (q_nz _) (by decide) (by decide) (by decide +kernel) ⟨true, rfl, h⟩
theorem f_X4_moveBelt {G : q_G} {X : String → q_H → Prop} {f : q_H → Prop} {A : q_H} {a0 : Nat} (h : q_sh A a0 = (5, 0) ∧ (((nI 1) ≤ (q_I A a0 3) → ∃ r3 : Nat, q_R A a0 2 = some r3 ∧ ∃ z6 : Nat, q_sh A r3 = (66, z6) ∧ z6 < 2147483648 ∧ ∃ j8 : Nat, ((q_I A a0 3) - (nI 1)) = nI j8 ∧ j8 < z6 ∧ ∃ r11 : Nat, q_R A r3 j8 = some r11 ∧ q_sh A r11 = (7, 0) ∧ ∃ r14 : Nat, q_R A r11 7 = some r14 ∧ q_Wp G M_X4_moveBelt (q_KV f) X 0 0 31 [some (.ref a0), some (.ref r14), some (.int ((q_I A a0 3) - (nI 1)))] [] A) ∧ (¬ (nI 1) ≤ (q_I A a0 3) → f A))) : q_Wc G M_X4_moveBelt [.ref a0] A (q_KV f) X := by
  refine q_Wc.of [some (.ref a0), none, none] mo_X4_moveBelt.2.2.2.2.2 rfl (Nat.le_of_ble_eq_true rfl) rfl ?_
  refine q_blk (pc' := 1) (lo' := [some (.ref a0), none, none]) (st' := [.ref a0]) [.aload_n 0] (by decide +kernel) rfl ?_
  obtain ⟨s1, h⟩ := h
  refine q_getI fl_X4_75 rfl (by decide) (by decide +kernel) s1 ?_
  refine q_blk (pc' := 5) (lo' := [some (.ref a0), none, none]) (st' := [.int (nI 1), .int (q_I A a0 3)]) [.iconst 1] (by decide +kernel) rfl ?_
  refine q_icmp_ge 9 (off := 4) (by decide +kernel) (by decide) (fun c2 => ?_) (fun c2 => ?_)
  · have h := h.1 c2
    refine q_blk (pc' := 10) (lo' := [some (.ref a0), none, none]) (st' := [.ref a0]) [.aload_n 0] (by decide +kernel) rfl ?_
    obtain ⟨r3, e4, h⟩ := h
    refine q_getR fl_X4_25 rfl (by decide) (by decide +kernel) s1 e4 ?_
    refine q_blk (pc' := 14) (lo' := [some (.ref a0), none, none]) (st' := [.ref a0, .ref r3]) [.aload_n 0] (by decide +kernel) rfl ?_
    refine q_getI fl_X4_75 rfl (by decide) (by decide +kernel) s1 ?_
    refine q_blk (pc' := 19) (lo' := [some (.ref a0), none, none]) (st' := [.int ((q_I A a0 3) - (nI 1)), .ref r3]) [.iconst 1, .isub] (by decide +kernel) rfl ?_
    obtain ⟨z6, s5, b7, h⟩ := h
    obtain ⟨j8, e9, h⟩ := h
    obtain ⟨l10, h⟩ := h
    obtain ⟨r11, e12, h⟩ := h
    refine q_aaldS (q_rk6 G) e9 (by decide +kernel) s5 l10 b7 e12 ?_
    obtain ⟨s13, h⟩ := h
    obtain ⟨r14, e15, h⟩ := h
    refine q_getR fl_X4_97 rfl (by decide) (by decide +kernel) s13 e15 ?_
    refine q_blk (pc' := 25) (lo' := [some (.ref a0), some (.ref r14), none]) (st' := [.ref a0]) [.astore_n 1, .aload_n 0] (by decide +kernel) rfl ?_
    refine q_getI fl_X4_75 rfl (by decide) (by decide +kernel) s1 ?_
    refine q_blk (pc' := 31) (lo' := [some (.ref a0), some (.ref r14), some (.int ((q_I A a0 3) - (nI 1)))]) (st' := []) [.iconst 1, .isub, .istore_n 2] (by decide +kernel) rfl ?_
    exact h
  · have h := h.2 c2
    exact q_ret0 rfl (by decide) (by decide) (by decide +kernel) ⟨rfl, h⟩
theorem f_X4_moveBelt_31 {G : q_G} {X : String → q_H → Prop} {f : q_H → Prop} {A : q_H} {a0 : Nat} {a1 : Nat} {x2 : Int32} (h : ((x2 ≤ nI 0 → q_sh A a0 = (5, 0) ∧ ∃ r3 : Nat, q_R A a0 2 = some r3 ∧ ∃ z6 : Nat, q_sh A r3 = (66, z6) ∧ z6 < 2147483648 ∧ 0 < z6 ∧ ∃ r9 : Nat, q_R A r3 0 = some r9 ∧ q_sh A r9 = (7, 0) ∧ f (q_setR A r9 7 (some a1))) ∧ (¬ x2 ≤ nI 0 → q_sh A a0 = (5, 0) ∧ ∃ r13 : Nat, q_R A a0 2 = some r13 ∧ ∃ z16 : Nat, q_sh A r13 = (66, z16) ∧ z16 < 2147483648 ∧ ∃ j18 : Nat, x2 = nI j18 ∧ j18 < z16 ∧ ∃ r21 : Nat, q_R A r13 j18 = some r21 ∧ ∃ j23 : Nat, (x2 - (nI 1)) = nI j23 ∧ j23 < z16 ∧ ∃ r26 : Nat, q_R A r13 j23 = some r26 ∧ q_sh A r26 = (7, 0) ∧ ∃ r29 : Nat, q_R A r26 7 = some r29 ∧ q_sh A r21 = (7, 0) ∧ q_Wp G M_X4_moveBelt (q_KV f) X 0 0 31 [some (.ref a0), some (.ref a1), some (.int (x2 + Int32.ofInt (-1)))] [] (q_setR A r21 7 (some r29))))) : q_Wp G M_X4_moveBelt (q_KV f) X 0 0 31 [some (.ref a0), some (.ref a1), some (.int x2)] [] A := by
  refine q_blk (pc' := 32) (lo' := [some (.ref a0), some (.ref a1), some (.int x2)]) (st' := [.int x2]) [.iload_n 2] (by decide +kernel) rfl ?_
  refine q_if_le 61 (off := 29) (by decide +kernel) (by decide) (fun c1 => ?_) (fun c1 => ?_)
  · have h := h.1 c1
    refine q_blk (pc' := 62) (lo' := [some (.ref a0), some (.ref a1), some (.int x2)]) (st' := [.ref a0]) [.aload_n 0] (by decide +kernel) rfl ?_
    obtain ⟨s2, h⟩ := h
    obtain ⟨r3, e4, h⟩ := h
    refine q_getR fl_X4_25 rfl (by decide) (by decide +kernel) s2 e4 ?_
    refine q_blk (pc' := 66) (lo' := [some (.ref a0), some (.ref a1), some (.int x2)]) (st' := [.int (nI 0), .ref r3]) [.iconst 0] (by decide +kernel) rfl ?_
    obtain ⟨z6, s5, b7, h⟩ := h
    obtain ⟨l8, h⟩ := h
    obtain ⟨r9, e10, h⟩ := h
    refine q_aaldS (q_rk6 G) rfl (by decide +kernel) s5 l8 b7 e10 ?_
    refine q_blk (pc' := 68) (lo' := [some (.ref a0), some (.ref a1), some (.int x2)]) (st' := [.ref a1, .ref r9]) [.aload_n 1] (by decide +kernel) rfl ?_
    obtain ⟨s11, h⟩ := h
    refine q_putR (v := (some a1)) fw_X4_97 rfl (by decide) (by decide +kernel) s11 ?_
    exact q_ret0 rfl (by decide) (by decide) (by decide +kernel) ⟨rfl, h⟩
  · have h := h.2 c1
    refine q_blk (pc' := 36) (lo' := [some (.ref a0), some (.ref a1), some (.int x2)]) (st' := [.ref a0]) [.aload_n 0] (by decide +kernel) rfl ?_
    obtain ⟨s12, h⟩ := h
    obtain ⟨r13, e14, h⟩ := h
    refine q_getR fl_X4_25 rfl (by decide) (by decide +kernel) s12 e14 ?_
    refine q_blk (pc' := 40) (lo' := [some (.ref a0), some (.ref a1), some (.int x2)]) (st' := [.int x2, .ref r13]) [.iload_n 2] (by decide +kernel) rfl ?_
    obtain ⟨z16, s15, b17, h⟩ := h
    obtain ⟨j18, e19, h⟩ := h
    obtain ⟨l20, h⟩ := h
    obtain ⟨r21, e22, h⟩ := h
    refine q_aaldS (q_rk6 G) e19 (by decide +kernel) s15 l20 b17 e22 ?_
    refine q_blk (pc' := 42) (lo' := [some (.ref a0), some (.ref a1), some (.int x2)]) (st' := [.ref a0, .ref r21]) [.aload_n 0] (by decide +kernel) rfl ?_
    refine q_getR fl_X4_25 rfl (by decide) (by decide +kernel) s12 e14 ?_
    refine q_blk (pc' := 48) (lo' := [some (.ref a0), some (.ref a1), some (.int x2)]) (st' := [.int (x2 - (nI 1)), .ref r13, .ref r21]) [.iload_n 2, .iconst 1, .isub] (by decide +kernel) rfl ?_
    obtain ⟨j23, e24, h⟩ := h
    obtain ⟨l25, h⟩ := h
    obtain ⟨r26, e27, h⟩ := h
    refine q_aaldS (q_rk6 G) e24 (by decide +kernel) s15 l25 b17 e27 ?_
    obtain ⟨s28, h⟩ := h
    obtain ⟨r29, e30, h⟩ := h
    refine q_getR fl_X4_97 rfl (by decide) (by decide +kernel) s28 e30 ?_
    obtain ⟨s31, h⟩ := h
    refine q_putR (v := (some r29)) fw_X4_97 rfl (by decide) (by decide +kernel) s31 ?_
    refine q_blk (pc' := 58) (lo' := [some (.ref a0), some (.ref a1), some (.int (x2 + Int32.ofInt (-1)))]) (st' := []) [.iinc 2 (-1)] (by decide +kernel) rfl ?_
    refine q_goto 31 (off := -27) (by decide +kernel) (by decide) ?_
    exact h
theorem f_X4_feedBelt {G : q_G} {X : String → q_H → Prop} {f : q_H → Prop} {A : q_H} {a0 : Nat} (h : q_sh A a0 = (5, 0) ∧ ∃ r2 : Nat, q_R A a0 6 = some r2 ∧ q_sh A r2 = (4, 0) ∧ q_Wc G M_X3_parcelAt [.ref r2, .int (nI 0)] A (q_KR fun o7 A4 => (o7 = none → q_sh A4 a0 = (5, 0) ∧ q_Wc G M_X4_stationAt [.ref a0, .int (nI 0)] A4 (q_KR fun o11 A8 => (o11 = none → f A8) ∧ (∀ r9 : Nat, o11 = some r9 → f A8)) q_nX) ∧ (∀ r5 : Nat, o7 = some r5 → q_sh A4 a0 = (5, 0) ∧ q_Wc G M_X4_stationAt [.ref a0, .int (nI 0)] A4 (q_KR fun o15 A12 => (o15 = none → f A12) ∧ (∀ r13 : Nat, o15 = some r13 → q_sh A12 r5 = (6, 0) ∧ ∃ r17 : Nat, q_R A12 r5 0 = some r17 ∧ q_sh A12 a0 = (5, 0) ∧ ∃ r20 : Nat, q_R A12 a0 1 = some r20 ∧ ∃ z23 : Nat, q_sh A12 r20 = (50, z23) ∧ z23 < 2147483648 ∧ 0 < z23 ∧ q_sh A12 r13 = (7, 0) ∧ ∃ r27 : Nat, q_R A12 r13 7 = some r27 ∧ q_sh A12 r27 = (6, 0) ∧ ∃ r30 : Nat, q_R A12 r27 0 = some r30 ∧ q_sh A12 r17 = (3, 0) ∧ q_Wc G M_X2_movePortion [.ref r17, .int (q_I A12 r20 0), .ref r30] A12 (q_KV fun A32 => q_sh A32 r13 = (7, 0) ∧ ∃ r36 : Nat, q_R A32 r13 7 = some r36 ∧ q_sh A32 r5 = (6, 0) ∧ q_sh A32 r36 = (6, 0) ∧ ∃ r40 : Nat, q_R A32 r5 0 = some r40 ∧ q_sh A32 r40 = (3, 0) ∧ (((q_I (q_setI A32 r36 1 (q_I A32 r5 1)) r40 1) = nI 0 → q_sh A32 a0 = (5, 0) ∧ ∃ r45 : Nat, q_R A32 a0 6 = some r45 ∧ q_sh A32 r45 = (4, 0) ∧ q_Wc G M_X3_dropFirst [.ref r45] (q_setI A32 r36 1 (q_I A32 r5 1)) (q_KV fun A47 => f A47) q_nX) ∧ (¬ (q_I (q_setI A32 r36 1 (q_I A32 r5 1)) r40 1) = nI 0 → f (q_setI A32 r36 1 (q_I A32 r5 1))))) q_nX)) q_nX)) q_nX) : q_Wc G M_X4_feedBelt [.ref a0] A (q_KV f) X := by
  refine q_Wc.of [some (.ref a0), none, none] mo_X4_feedBelt.2.2.2.2.2 rfl (Nat.le_of_ble_eq_true rfl) rfl ?_
  refine q_blk (pc' := 1) (lo' := [some (.ref a0), none, none]) (st' := [.ref a0]) [.aload_n 0] (by decide +kernel) rfl ?_
  obtain ⟨s1, h⟩ := h
  obtain ⟨r2, e3, h⟩ := h
  refine q_getR fl_X4_38 rfl (by decide) (by decide +kernel) s1 e3 ?_
  refine q_blk (pc' := 5) (lo' := [some (.ref a0), none, none]) (st' := [.int (nI 0), .ref r2]) [.iconst 0] (by decide +kernel) rfl ?_
  obtain ⟨s6, h⟩ := h
  refine q_callV (ci := 3) (Mc := M_X3_parcelAt) (z := 1) (b := r2) (As := [.int (nI 0)]) (st := []) mo_X3_parcelAt mi_X3_parcelAt ml_X4_84_X3_parcelAt rfl rfl (by decide) rfl (by decide) (by decide) rfl (Nat.le_of_ble_eq_true rfl) (by decide +kernel) s6 h (q_fR (fun A4 h => ?_) (fun r5 A4 h => ?_))
  · have h := h.1 rfl
    show q_Wp _ _ _ _ 0 0 8 [some (.ref a0), none, none] [.null] A4
    refine q_blk (pc' := 11) (lo' := [some (.ref a0), some (.null), none]) (st' := [.int (nI 0), .ref a0]) [.astore_n 1, .aload_n 0, .iconst 0] (by decide +kernel) rfl ?_
    obtain ⟨s10, h⟩ := h
    refine q_callV (ci := 4) (Mc := M_X4_stationAt) (z := 1) (b := a0) (As := [.int (nI 0)]) (st := []) mo_X4_stationAt mi_X4_stationAt ml_X4_93_X4_stationAt rfl rfl (by decide) rfl (by decide) (by decide) rfl (Nat.le_of_ble_eq_true rfl) (by decide +kernel) s10 h (q_fR (fun A8 h => ?_) (fun r9 A8 h => ?_))
    · have h := h.1 rfl
      show q_Wp _ _ _ _ 0 0 14 [some (.ref a0), some (.null), none] [.null] A8
      refine q_blk (pc' := 16) (lo' := [some (.ref a0), some (.null), some (.null)]) (st' := [.null]) [.astore_n 2, .aload_n 1] (by decide +kernel) rfl ?_
      refine q_nul_y 23 (off := 7) (by decide +kernel) (by decide) ?_
      exact q_ret0 rfl (by decide) (by decide) (by decide +kernel) ⟨rfl, h⟩
    · have h := h.2 r9 rfl
      show q_Wp _ _ _ _ 0 0 14 [some (.ref a0), some (.null), none] [.ref r9] A8
      refine q_blk (pc' := 16) (lo' := [some (.ref a0), some (.null), some (.ref r9)]) (st' := [.null]) [.astore_n 2, .aload_n 1] (by decide +kernel) rfl ?_
      refine q_nul_y 23 (off := 7) (by decide +kernel) (by decide) ?_
      exact q_ret0 rfl (by decide) (by decide) (by decide +kernel) ⟨rfl, h⟩
  · have h := h.2 r5 rfl
    show q_Wp _ _ _ _ 0 0 8 [some (.ref a0), none, none] [.ref r5] A4
    refine q_blk (pc' := 11) (lo' := [some (.ref a0), some (.ref r5), none]) (st' := [.int (nI 0), .ref a0]) [.astore_n 1, .aload_n 0, .iconst 0] (by decide +kernel) rfl ?_
    obtain ⟨s14, h⟩ := h
    refine q_callV (ci := 4) (Mc := M_X4_stationAt) (z := 1) (b := a0) (As := [.int (nI 0)]) (st := []) mo_X4_stationAt mi_X4_stationAt ml_X4_93_X4_stationAt rfl rfl (by decide) rfl (by decide) (by decide) rfl (Nat.le_of_ble_eq_true rfl) (by decide +kernel) s14 h (q_fR (fun A12 h => ?_) (fun r13 A12 h => ?_))
    · have h := h.1 rfl
      show q_Wp _ _ _ _ 0 0 14 [some (.ref a0), some (.ref r5), none] [.null] A12
      refine q_blk (pc' := 16) (lo' := [some (.ref a0), some (.ref r5), some (.null)]) (st' := [.ref r5]) [.astore_n 2, .aload_n 1] (by decide +kernel) rfl ?_
      refine q_nul_n (off := 7) (by decide +kernel) ?_
      refine q_blk (pc' := 20) (lo' := [some (.ref a0), some (.ref r5), some (.null)]) (st' := [.null]) [.aload_n 2] (by decide +kernel) rfl ?_
      refine q_nnl_n (off := 4) (by decide +kernel) ?_
      exact q_ret0 rfl (by decide) (by decide) (by decide +kernel) ⟨rfl, h⟩
    · have h := h.2 r13 rfl
      show q_Wp _ _ _ _ 0 0 14 [some (.ref a0), some (.ref r5), none] [.ref r13] A12
      refine q_blk (pc' := 16) (lo' := [some (.ref a0), some (.ref r5), some (.ref r13)]) (st' := [.ref r5]) [.astore_n 2, .aload_n 1] (by decide +kernel) rfl ?_
      refine q_nul_n (off := 7) (by decide +kernel) ?_
      refine q_blk (pc' := 20) (lo' := [some (.ref a0), some (.ref r5), some (.ref r13)]) (st' := [.ref r13]) [.aload_n 2] (by decide +kernel) rfl ?_
      refine q_nnl_y 24 (off := 4) (by decide +kernel) (by decide) ?_
      refine q_blk (pc' := 25) (lo' := [some (.ref a0), some (.ref r5), some (.ref r13)]) (st' := [.ref r5]) [.aload_n 1] (by decide +kernel) rfl ?_
      obtain ⟨s16, h⟩ := h
      obtain ⟨r17, e18, h⟩ := h
      refine q_getR fl_X4_88 rfl (by decide) (by decide +kernel) s16 e18 ?_
      refine q_blk (pc' := 29) (lo' := [some (.ref a0), some (.ref r5), some (.ref r13)]) (st' := [.ref a0, .ref r17]) [.aload_n 0] (by decide +kernel) rfl ?_
      obtain ⟨s19, h⟩ := h
      obtain ⟨r20, e21, h⟩ := h
      refine q_getR fl_X4_18 rfl (by decide) (by decide +kernel) s19 e21 ?_
      refine q_blk (pc' := 33) (lo' := [some (.ref a0), some (.ref r5), some (.ref r13)]) (st' := [.int (nI 0), .ref r20, .ref r17]) [.iconst 0] (by decide +kernel) rfl ?_
      obtain ⟨z23, s22, b24, h⟩ := h
      obtain ⟨l25, h⟩ := h
      refine q_iald rfl (by decide +kernel) s22 l25 b24 ?_
      refine q_blk (pc' := 35) (lo' := [some (.ref a0), some (.ref r5), some (.ref r13)]) (st' := [.ref r13, .int (q_I A12 r20 0), .ref r17]) [.aload_n 2] (by decide +kernel) rfl ?_
      obtain ⟨s26, h⟩ := h
      obtain ⟨r27, e28, h⟩ := h
      refine q_getR fl_X4_97 rfl (by decide) (by decide +kernel) s26 e28 ?_
      obtain ⟨s29, h⟩ := h
      obtain ⟨r30, e31, h⟩ := h
      refine q_getR fl_X4_88 rfl (by decide) (by decide +kernel) s29 e31 ?_
      obtain ⟨s34, h⟩ := h
      refine q_callV (ci := 2) (Mc := M_X2_movePortion) (z := 2) (b := r17) (As := [.int (q_I A12 r20 0), .ref r30]) (st := []) mo_X2_movePortion mi_X2_movePortion ml_X4_196_X2_movePortion rfl rfl (by decide) rfl (by decide) (by decide) rfl (Nat.le_of_ble_eq_true rfl) (by decide +kernel) s34 h (q_fV fun A32 h => ?_)
      show q_Wp _ _ _ _ 0 0 44 [some (.ref a0), some (.ref r5), some (.ref r13)] [] A32
      refine q_blk (pc' := 45) (lo' := [some (.ref a0), some (.ref r5), some (.ref r13)]) (st' := [.ref r13]) [.aload_n 2] (by decide +kernel) rfl ?_
      obtain ⟨s35, h⟩ := h
      obtain ⟨r36, e37, h⟩ := h
      refine q_getR fl_X4_97 rfl (by decide) (by decide +kernel) s35 e37 ?_
      refine q_blk (pc' := 49) (lo' := [some (.ref a0), some (.ref r5), some (.ref r13)]) (st' := [.ref r5, .ref r36]) [.aload_n 1] (by decide +kernel) rfl ?_
      obtain ⟨s38, h⟩ := h
      refine q_getI fl_X4_172 rfl (by decide) (by decide +kernel) s38 ?_
      obtain ⟨s39, h⟩ := h
      refine q_putI fw_X4_172 rfl (by decide) (by decide +kernel) s39 ?_
      refine q_blk (pc' := 56) (lo' := [some (.ref a0), some (.ref r5), some (.ref r13)]) (st' := [.ref r5]) [.aload_n 1] (by decide +kernel) rfl ?_
      obtain ⟨r40, e41, h⟩ := h
      refine q_getR fl_X4_88 rfl (by decide) (by decide +kernel) s38 e41 ?_
      obtain ⟨s42, h⟩ := h
      refine q_getI fl_X4_108 rfl (by decide) (by decide +kernel) s42 ?_
      refine q_if_ne 72 (off := 10) (by decide +kernel) (by decide) (fun c43 => ?_) (fun c43 => ?_)
      · have h := h.2 c43
        exact q_ret0 rfl (by decide) (by decide) (by decide +kernel) ⟨rfl, h⟩
      · have h := h.1 c43
        refine q_blk (pc' := 66) (lo' := [some (.ref a0), some (.ref r5), some (.ref r13)]) (st' := [.ref a0]) [.aload_n 0] (by decide +kernel) rfl ?_
        obtain ⟨s44, h⟩ := h
        obtain ⟨r45, e46, h⟩ := h
        refine q_getR fl_X4_38 rfl (by decide) (by decide +kernel) s44 e46 ?_
        obtain ⟨s49, h⟩ := h
        refine q_callV (ci := 3) (Mc := M_X3_dropFirst) (z := 0) (b := r45) (As := []) (st := []) mo_X3_dropFirst mi_X3_dropFirst ml_X4_200_X3_dropFirst rfl rfl (by decide) rfl (by decide) (by decide) rfl (Nat.le_of_ble_eq_true rfl) (by decide +kernel) s49 h (q_fV fun A47 h => ?_)
        show q_Wp _ _ _ _ 0 0 72 [some (.ref a0), some (.ref r5), some (.ref r13)] [] A47
        exact q_ret0 rfl (by decide) (by decide) (by decide +kernel) ⟨rfl, h⟩
theorem f_X4_pressBales {G : q_G} {X : String → q_H → Prop} {f : q_H → Prop} {A : q_H} {a0 : Nat} {a1 : Nat} (h : q_sh A a0 = (5, 0) ∧ ∃ r2 : Nat, q_R A a0 7 = some r2 ∧ q_sh A r2 = (8, 0) ∧ q_Wp G M_X4_pressBales (q_KV f) X 0 0 8 [some (.ref a0), some (.ref a1), some (.int (q_I A r2 1))] [] A) : q_Wc G M_X4_pressBales [.ref a0, .ref a1] A (q_KV f) X := by
  refine q_Wc.of [some (.ref a0), some (.ref a1), none] mo_X4_pressBales.2.2.2.2.2 rfl (Nat.le_of_ble_eq_true rfl) rfl ?_
  refine q_blk (pc' := 1) (lo' := [some (.ref a0), some (.ref a1), none]) (st' := [.ref a0]) [.aload_n 0] (by decide +kernel) rfl ?_
  obtain ⟨s1, h⟩ := h
  obtain ⟨r2, e3, h⟩ := h
  refine q_getR fl_X4_45 rfl (by decide) (by decide +kernel) s1 e3 ?_
  obtain ⟨s4, h⟩ := h
  refine q_getI fl_X4_203 rfl (by decide) (by decide +kernel) s4 ?_
  refine q_blk (pc' := 8) (lo' := [some (.ref a0), some (.ref a1), some (.int (q_I A r2 1))]) (st' := []) [.istore_n 2] (by decide +kernel) rfl ?_
  exact h
theorem f_X4_pressBales_8 {G : q_G} {X : String → q_H → Prop} {f : q_H → Prop} {A : q_H} {a0 : Nat} {a1 : Nat} {x2 : Int32} (h : (((nI 40) ≤ x2 → f A) ∧ (¬ (nI 40) ≤ x2 → q_sh A a1 = (7, 0) ∧ ∃ r3 : Nat, q_R A a1 8 = some r3 ∧ q_sh A r3 = (3, 0) ∧ q_sh A a0 = (5, 0) ∧ ∃ r7 : Nat, q_R A a0 1 = some r7 ∧ ∃ z10 : Nat, q_sh A r7 = (50, z10) ∧ z10 < 2147483648 ∧ 1 < z10 ∧ (((q_I A r7 1) ≤ (q_I A r3 1) → q_Wc G M_X4_pressBale [.ref a0, .ref a1] A (q_KV fun A14 => q_Wp G M_X4_pressBales (q_KV f) X 0 0 8 [some (.ref a0), some (.ref a1), some (.int (x2 + (nI 1)))] [] A14) q_nX) ∧ (¬ (q_I A r7 1) ≤ (q_I A r3 1) → f A))))) : q_Wp G M_X4_pressBales (q_KV f) X 0 0 8 [some (.ref a0), some (.ref a1), some (.int x2)] [] A := by
  refine q_blk (pc' := 11) (lo' := [some (.ref a0), some (.ref a1), some (.int x2)]) (st' := [.int (nI 40), .int x2]) [.iload_n 2, .bipush 40] (by decide +kernel) rfl ?_
  refine q_icmp_ge 42 (off := 31) (by decide +kernel) (by decide) (fun c1 => ?_) (fun c1 => ?_)
  · have h := h.1 c1
    exact q_ret0 rfl (by decide) (by decide) (by decide +kernel) ⟨rfl, h⟩
  · have h := h.2 c1
    refine q_blk (pc' := 15) (lo' := [some (.ref a0), some (.ref a1), some (.int x2)]) (st' := [.ref a1]) [.aload_n 1] (by decide +kernel) rfl ?_
    obtain ⟨s2, h⟩ := h
    obtain ⟨r3, e4, h⟩ := h
    refine q_getR fl_X4_101 rfl (by decide) (by decide +kernel) s2 e4 ?_
    obtain ⟨s5, h⟩ := h
    refine q_getI fl_X4_108 rfl (by decide) (by decide +kernel) s5 ?_
    refine q_blk (pc' := 22) (lo' := [some (.ref a0), some (.ref a1), some (.int x2)]) (st' := [.ref a0, .int (q_I A r3 1)]) [.aload_n 0] (by decide +kernel) rfl ?_
    obtain ⟨s6, h⟩ := h
    obtain ⟨r7, e8, h⟩ := h
    refine q_getR fl_X4_18 rfl (by decide) (by decide +kernel) s6 e8 ?_
    refine q_blk (pc' := 26) (lo' := [some (.ref a0), some (.ref a1), some (.int x2)]) (st' := [.int (nI 1), .ref r7, .int (q_I A r3 1)]) [.iconst 1] (by decide +kernel) rfl ?_
    obtain ⟨z10, s9, b11, h⟩ := h
    obtain ⟨l12, h⟩ := h
    refine q_iald rfl (by decide +kernel) s9 l12 b11 ?_
    refine q_icmp_ge 31 (off := 4) (by decide +kernel) (by decide) (fun c13 => ?_) (fun c13 => ?_)
    · have h := h.1 c13
      refine q_blk (pc' := 33) (lo' := [some (.ref a0), some (.ref a1), some (.int x2)]) (st' := [.ref a1, .ref a0]) [.aload_n 0, .aload_n 1] (by decide +kernel) rfl ?_
      refine q_callV (ci := 4) (Mc := M_X4_pressBale) (z := 1) (b := a0) (As := [.ref a1]) (st := []) mo_X4_pressBale mi_X4_pressBale ml_X4_204_X4_pressBale rfl rfl (by decide) rfl (by decide) (by decide) rfl (Nat.le_of_ble_eq_true rfl) (by decide +kernel) s6 h (q_fV fun A14 h => ?_)
      show q_Wp _ _ _ _ 0 0 36 [some (.ref a0), some (.ref a1), some (.int x2)] [] A14
      refine q_blk (pc' := 39) (lo' := [some (.ref a0), some (.ref a1), some (.int (x2 + (nI 1)))]) (st' := []) [.iinc 2 1] (by decide +kernel) rfl ?_
      refine q_goto 8 (off := -31) (by decide +kernel) (by decide) ?_
      exact h
    · have h := h.2 c13
      exact q_ret0 rfl (by decide) (by decide) (by decide +kernel) ⟨rfl, h⟩
theorem f_X4_pressBale {G : q_G} {X : String → q_H → Prop} {f : q_H → Prop} {A : q_H} {a0 : Nat} {a1 : Nat} (h : q_sh A a0 = (5, 0) ∧ ∃ r2 : Nat, q_R A a0 7 = some r2 ∧ q_sh A r2 = (8, 0) ∧ q_Wc G M_X7_addLast [.ref r2] A (q_KR fun o7 A4 => (o7 = none → f A4) ∧ (∀ r5 : Nat, o7 = some r5 → q_sh A4 a1 = (7, 0) ∧ ∃ r9 : Nat, q_R A4 a1 8 = some r9 ∧ q_sh A4 a0 = (5, 0) ∧ ∃ r12 : Nat, q_R A4 a0 1 = some r12 ∧ ∃ z15 : Nat, q_sh A4 r12 = (50, z15) ∧ z15 < 2147483648 ∧ 1 < z15 ∧ q_sh A4 r5 = (1, 0) ∧ ∃ r19 : Nat, q_R A4 r5 4 = some r19 ∧ q_sh A4 r9 = (3, 0) ∧ q_Wc G M_X2_movePortion [.ref r9, .int (q_I A4 r12 1), .ref r19] A4 (q_KV fun A21 => q_sh A21 a0 = (5, 0) ∧ ∃ r25 : Nat, q_R A21 a0 9 = some r25 ∧ q_sh A21 r25 = (9, 0) ∧ q_sh A21 r5 = (1, 0) ∧ q_sh A21 a1 = (7, 0) ∧ ∃ r30 : Nat, q_R A21 a0 1 = some r30 ∧ ∃ z33 : Nat, q_sh A21 r30 = (50, z33) ∧ z33 < 2147483648 ∧ 2 < z33 ∧ 3 < z33 ∧ q_Wc G M_X0_judge [.ref r5, .int (q_I (q_setI (q_setI A21 r5 0 (q_I A21 r25 1)) r5 1 (q_I (q_setI A21 r5 0 (q_I A21 r25 1)) a1 0)) r30 2), .int (q_I (q_setI (q_setI A21 r5 0 (q_I A21 r25 1)) r5 1 (q_I (q_setI A21 r5 0 (q_I A21 r25 1)) a1 0)) r30 3)] (q_setI (q_setI A21 r5 0 (q_I A21 r25 1)) r5 1 (q_I (q_setI A21 r5 0 (q_I A21 r25 1)) a1 0)) (q_KV fun A37 => q_sh A37 a1 = (7, 0) ∧ q_sh A37 a0 = (5, 0) ∧ ∃ r41 : Nat, q_R A37 a0 9 = some r41 ∧ q_sh A37 r41 = (9, 0) ∧ q_sh A37 r5 = (1, 0) ∧ (((q_I (q_setI (q_setI A37 a1 5 ((q_I A37 a1 5) + (nI 1))) r41 1 ((q_I (q_setI A37 a1 5 ((q_I A37 a1 5) + (nI 1))) r41 1) + (nI 1))) r5 3) = nI 0 → (∀ A67 : q_H, A67 = (q_setI (q_setI (q_setI A37 a1 5 ((q_I A37 a1 5) + (nI 1))) r41 1 ((q_I (q_setI A37 a1 5 ((q_I A37 a1 5) + (nI 1))) r41 1) + (nI 1))) r41 2 ((q_I (q_setI (q_setI A37 a1 5 ((q_I A37 a1 5) + (nI 1))) r41 1 ((q_I (q_setI A37 a1 5 ((q_I A37 a1 5) + (nI 1))) r41 1) + (nI 1))) r41 2) + (nI 1))) → ∃ r68 : Nat, q_R A37 a0 10 = some r68 ∧ ∃ r70 : Nat, q_R A37 r5 4 = some r70 ∧ q_sh A37 r70 = (3, 0) ∧ q_sh A37 r68 = (3, 0) ∧ q_Wc G M_X2_put [.ref r68, .int (q_I A67 r5 1), .int (q_I A67 r70 1)] A67 (q_KV fun A73 => q_sh A73 a0 = (5, 0) ∧ ∃ r77 : Nat, q_R A73 a0 11 = some r77 ∧ q_sh A73 r5 = (1, 0) ∧ ∃ r80 : Nat, q_R A73 r5 4 = some r80 ∧ q_sh A73 r80 = (3, 0) ∧ q_Wc G M_X2_of [.ref r80, .int (q_I A73 r5 1)] A73 (q_KI fun r83 A82 => q_sh A82 r77 = (3, 0) ∧ q_Wc G M_X2_put [.ref r77, .int (q_I A73 r5 1), .int r83] A82 (q_KV fun A85 => f A85) q_nX) q_nX) q_nX)) ∧ (¬ (q_I (q_setI (q_setI A37 a1 5 ((q_I A37 a1 5) + (nI 1))) r41 1 ((q_I (q_setI A37 a1 5 ((q_I A37 a1 5) + (nI 1))) r41 1) + (nI 1))) r5 3) = nI 0 → (∀ A46 : q_H, A46 = (q_setI (q_setI (q_setI A37 a1 5 ((q_I A37 a1 5) + (nI 1))) r41 1 ((q_I (q_setI A37 a1 5 ((q_I A37 a1 5) + (nI 1))) r41 1) + (nI 1))) r41 2 ((q_I (q_setI (q_setI A37 a1 5 ((q_I A37 a1 5) + (nI 1))) r41 1 ((q_I (q_setI A37 a1 5 ((q_I A37 a1 5) + (nI 1))) r41 1) + (nI 1))) r41 2) + (nI 0))) → ∃ r47 : Nat, q_R A37 a0 10 = some r47 ∧ ∃ r49 : Nat, q_R A37 r5 4 = some r49 ∧ q_sh A37 r49 = (3, 0) ∧ q_sh A37 r47 = (3, 0) ∧ q_Wc G M_X2_put [.ref r47, .int (q_I A46 r5 1), .int (q_I A46 r49 1)] A46 (q_KV fun A52 => q_sh A52 a0 = (5, 0) ∧ ∃ r56 : Nat, q_R A52 a0 11 = some r56 ∧ q_sh A52 r5 = (1, 0) ∧ ∃ r59 : Nat, q_R A52 r5 4 = some r59 ∧ q_sh A52 r59 = (3, 0) ∧ q_Wc G M_X2_of [.ref r59, .int (q_I A52 r5 1)] A52 (q_KI fun r62 A61 => q_sh A61 r56 = (3, 0) ∧ q_Wc G M_X2_put [.ref r56, .int (q_I A52 r5 1), .int r62] A61 (q_KV fun A64 => f A64) q_nX) q_nX) q_nX)))) q_nX) q_nX)) q_nX) : q_Wc G M_X4_pressBale [.ref a0, .ref a1] A (q_KV f) X := by
  refine q_Wc.of [some (.ref a0), some (.ref a1), none] mo_X4_pressBale.2.2.2.2.2 rfl (Nat.le_of_ble_eq_true rfl) rfl ?_
  refine q_blk (pc' := 1) (lo' := [some (.ref a0), some (.ref a1), none]) (st' := [.ref a0]) [.aload_n 0] (by decide +kernel) rfl ?_
  obtain ⟨s1, h⟩ := h
  obtain ⟨r2, e3, h⟩ := h
  refine q_getR fl_X4_45 rfl (by decide) (by decide +kernel) s1 e3 ?_
  obtain ⟨s6, h⟩ := h
  refine q_callV (ci := 7) (Mc := M_X7_addLast) (z := 0) (b := r2) (As := []) (st := []) mo_X7_addLast mi_X7_addLast ml_X4_207_X7_addLast rfl rfl (by decide) rfl (by decide) (by decide) rfl (Nat.le_of_ble_eq_true rfl) (by decide +kernel) s6 h (q_fR (fun A4 h => ?_) (fun r5 A4 h => ?_))
  · have h := h.1 rfl
    show q_Wp _ _ _ _ 0 0 7 [some (.ref a0), some (.ref a1), none] [.null] A4
    refine q_blk (pc' := 9) (lo' := [some (.ref a0), some (.ref a1), some (.null)]) (st' := [.null]) [.astore_n 2, .aload_n 2] (by decide +kernel) rfl ?_
    refine q_nnl_n (off := 4) (by decide +kernel) ?_
    exact q_ret0 rfl (by decide) (by decide) (by decide +kernel) ⟨rfl, h⟩
  · have h := h.2 r5 rfl
    show q_Wp _ _ _ _ 0 0 7 [some (.ref a0), some (.ref a1), none] [.ref r5] A4
    refine q_blk (pc' := 9) (lo' := [some (.ref a0), some (.ref a1), some (.ref r5)]) (st' := [.ref r5]) [.astore_n 2, .aload_n 2] (by decide +kernel) rfl ?_
    refine q_nnl_y 13 (off := 4) (by decide +kernel) (by decide) ?_
    refine q_blk (pc' := 14) (lo' := [some (.ref a0), some (.ref a1), some (.ref r5)]) (st' := [.ref a1]) [.aload_n 1] (by decide +kernel) rfl ?_
    obtain ⟨s8, h⟩ := h
    obtain ⟨r9, e10, h⟩ := h
    refine q_getR fl_X4_101 rfl (by decide) (by decide +kernel) s8 e10 ?_
    refine q_blk (pc' := 18) (lo' := [some (.ref a0), some (.ref a1), some (.ref r5)]) (st' := [.ref a0, .ref r9]) [.aload_n 0] (by decide +kernel) rfl ?_
    obtain ⟨s11, h⟩ := h
    obtain ⟨r12, e13, h⟩ := h
    refine q_getR fl_X4_18 rfl (by decide) (by decide +kernel) s11 e13 ?_
    refine q_blk (pc' := 22) (lo' := [some (.ref a0), some (.ref a1), some (.ref r5)]) (st' := [.int (nI 1), .ref r12, .ref r9]) [.iconst 1] (by decide +kernel) rfl ?_
    obtain ⟨z15, s14, b16, h⟩ := h
    obtain ⟨l17, h⟩ := h
    refine q_iald rfl (by decide +kernel) s14 l17 b16 ?_
    refine q_blk (pc' := 24) (lo' := [some (.ref a0), some (.ref a1), some (.ref r5)]) (st' := [.ref r5, .int (q_I A4 r12 1), .ref r9]) [.aload_n 2] (by decide +kernel) rfl ?_
    obtain ⟨s18, h⟩ := h
    obtain ⟨r19, e20, h⟩ := h
    refine q_getR fl_X4_210 rfl (by decide) (by decide +kernel) s18 e20 ?_
    obtain ⟨s23, h⟩ := h
    refine q_callV (ci := 2) (Mc := M_X2_movePortion) (z := 2) (b := r9) (As := [.int (q_I A4 r12 1), .ref r19]) (st := []) mo_X2_movePortion mi_X2_movePortion ml_X4_196_X2_movePortion rfl rfl (by decide) rfl (by decide) (by decide) rfl (Nat.le_of_ble_eq_true rfl) (by decide +kernel) s23 h (q_fV fun A21 h => ?_)
    show q_Wp _ _ _ _ 0 0 30 [some (.ref a0), some (.ref a1), some (.ref r5)] [] A21
    refine q_blk (pc' := 32) (lo' := [some (.ref a0), some (.ref a1), some (.ref r5)]) (st' := [.ref a0, .ref r5]) [.aload_n 2, .aload_n 0] (by decide +kernel) rfl ?_
    obtain ⟨s24, h⟩ := h
    obtain ⟨r25, e26, h⟩ := h
    refine q_getR fl_X4_59 rfl (by decide) (by decide +kernel) s24 e26 ?_
    obtain ⟨s27, h⟩ := h
    refine q_getI fl_X4_213 rfl (by decide) (by decide +kernel) s27 ?_
    obtain ⟨s28, h⟩ := h
    refine q_putI fw_X4_214 rfl (by decide) (by decide +kernel) s28 ?_
    refine q_blk (pc' := 43) (lo' := [some (.ref a0), some (.ref a1), some (.ref r5)]) (st' := [.ref a1, .ref r5]) [.aload_n 2, .aload_n 1] (by decide +kernel) rfl ?_
    obtain ⟨s29, h⟩ := h
    refine q_getI fl_X4_127 rfl (by decide) (by decide +kernel) s29 ?_
    refine q_putI fw_X4_217 rfl (by decide) (by decide +kernel) s28 ?_
    refine q_blk (pc' := 51) (lo' := [some (.ref a0), some (.ref a1), some (.ref r5)]) (st' := [.ref a0, .ref r5]) [.aload_n 2, .aload_n 0] (by decide +kernel) rfl ?_
    obtain ⟨r30, e31, h⟩ := h
    refine q_getR fl_X4_18 rfl (by decide) (by decide +kernel) s24 e31 ?_
    refine q_blk (pc' := 55) (lo' := [some (.ref a0), some (.ref a1), some (.ref r5)]) (st' := [.int (nI 2), .ref r30, .ref r5]) [.iconst 2] (by decide +kernel) rfl ?_
    obtain ⟨z33, s32, b34, h⟩ := h
    obtain ⟨l35, h⟩ := h
    refine q_iald rfl (by decide +kernel) s32 l35 b34 ?_
    refine q_blk (pc' := 57) (lo' := [some (.ref a0), some (.ref a1), some (.ref r5)]) (st' := [.ref a0, .int (q_I (q_setI (q_setI A21 r5 0 (q_I A21 r25 1)) r5 1 (q_I (q_setI A21 r5 0 (q_I A21 r25 1)) a1 0)) r30 2), .ref r5]) [.aload_n 0] (by decide +kernel) rfl ?_
    refine q_getR fl_X4_18 rfl (by decide) (by decide +kernel) s24 e31 ?_
    refine q_blk (pc' := 61) (lo' := [some (.ref a0), some (.ref a1), some (.ref r5)]) (st' := [.int (nI 3), .ref r30, .int (q_I (q_setI (q_setI A21 r5 0 (q_I A21 r25 1)) r5 1 (q_I (q_setI A21 r5 0 (q_I A21 r25 1)) a1 0)) r30 2), .ref r5]) [.iconst 3] (by decide +kernel) rfl ?_
    obtain ⟨l36, h⟩ := h
    refine q_iald rfl (by decide +kernel) s32 l36 b34 ?_
    refine q_callV (ci := 0) (Mc := M_X0_judge) (z := 2) (b := r5) (As := [.int (q_I (q_setI (q_setI A21 r5 0 (q_I A21 r25 1)) r5 1 (q_I (q_setI A21 r5 0 (q_I A21 r25 1)) a1 0)) r30 2), .int (q_I (q_setI (q_setI A21 r5 0 (q_I A21 r25 1)) r5 1 (q_I (q_setI A21 r5 0 (q_I A21 r25 1)) a1 0)) r30 3)]) (st := []) mo_X0_judge mi_X0_judge ml_X4_220_X0_judge rfl rfl (by decide) rfl (by decide) (by decide) rfl (Nat.le_of_ble_eq_true rfl) (by decide +kernel) s28 h (q_fV fun A37 h => ?_)
    show q_Wp _ _ _ _ 0 0 65 [some (.ref a0), some (.ref a1), some (.ref r5)] [] A37
    refine q_blk (pc' := 67) (lo' := [some (.ref a0), some (.ref a1), some (.ref r5)]) (st' := [.ref a1, .ref a1]) [.aload_n 1, .dup] (by decide +kernel) rfl ?_
    obtain ⟨s39, h⟩ := h
    refine q_getI fl_X4_140 rfl (by decide) (by decide +kernel) s39 ?_
    refine q_blk (pc' := 72) (lo' := [some (.ref a0), some (.ref a1), some (.ref r5)]) (st' := [.int ((q_I A37 a1 5) + (nI 1)), .ref a1]) [.iconst 1, .iadd] (by decide +kernel) rfl ?_
    refine q_putI fw_X4_140 rfl (by decide) (by decide +kernel) s39 ?_
    refine q_blk (pc' := 76) (lo' := [some (.ref a0), some (.ref a1), some (.ref r5)]) (st' := [.ref a0]) [.aload_n 0] (by decide +kernel) rfl ?_
    obtain ⟨s40, h⟩ := h
    obtain ⟨r41, e42, h⟩ := h
    refine q_getR fl_X4_59 rfl (by decide) (by decide +kernel) s40 e42 ?_
    refine q_blk (pc' := 80) (lo' := [some (.ref a0), some (.ref a1), some (.ref r5)]) (st' := [.ref r41, .ref r41]) [.dup] (by decide +kernel) rfl ?_
    obtain ⟨s43, h⟩ := h
    refine q_getI fl_X4_213 rfl (by decide) (by decide +kernel) s43 ?_
    refine q_blk (pc' := 85) (lo' := [some (.ref a0), some (.ref a1), some (.ref r5)]) (st' := [.int ((q_I (q_setI A37 a1 5 ((q_I A37 a1 5) + (nI 1))) r41 1) + (nI 1)), .ref r41]) [.iconst 1, .iadd] (by decide +kernel) rfl ?_
    refine q_putI fw_X4_213 rfl (by decide) (by decide +kernel) s43 ?_
    refine q_blk (pc' := 89) (lo' := [some (.ref a0), some (.ref a1), some (.ref r5)]) (st' := [.ref a0]) [.aload_n 0] (by decide +kernel) rfl ?_
    refine q_getR fl_X4_59 rfl (by decide) (by decide +kernel) s40 e42 ?_
    refine q_blk (pc' := 93) (lo' := [some (.ref a0), some (.ref a1), some (.ref r5)]) (st' := [.ref r41, .ref r41]) [.dup] (by decide +kernel) rfl ?_
    refine q_getI fl_X4_224 rfl (by decide) (by decide +kernel) s43 ?_
    refine q_blk (pc' := 97) (lo' := [some (.ref a0), some (.ref a1), some (.ref r5)]) (st' := [.ref r5, .int (q_I (q_setI (q_setI A37 a1 5 ((q_I A37 a1 5) + (nI 1))) r41 1 ((q_I (q_setI A37 a1 5 ((q_I A37 a1 5) + (nI 1))) r41 1) + (nI 1))) r41 2), .ref r41]) [.aload_n 2] (by decide +kernel) rfl ?_
    obtain ⟨s44, h⟩ := h
    refine q_getI fl_X4_227 rfl (by decide) (by decide +kernel) s44 ?_
    refine q_if_ne 107 (off := 7) (by decide +kernel) (by decide) (fun c45 => ?_) (fun c45 => ?_)
    · have h := h.2 c45
      refine q_blk (pc' := 109) (lo' := [some (.ref a0), some (.ref a1), some (.ref r5)]) (st' := [.int ((q_I (q_setI (q_setI A37 a1 5 ((q_I A37 a1 5) + (nI 1))) r41 1 ((q_I (q_setI A37 a1 5 ((q_I A37 a1 5) + (nI 1))) r41 1) + (nI 1))) r41 2) + (nI 0)), .ref r41]) [.iconst 0, .iadd] (by decide +kernel) rfl ?_
      refine q_putI fw_X4_224 rfl (by decide) (by decide +kernel) s43 ?_
      let A46 : q_H := (q_setI (q_setI (q_setI A37 a1 5 ((q_I A37 a1 5) + (nI 1))) r41 1 ((q_I (q_setI A37 a1 5 ((q_I A37 a1 5) + (nI 1))) r41 1) + (nI 1))) r41 2 ((q_I (q_setI (q_setI A37 a1 5 ((q_I A37 a1 5) + (nI 1))) r41 1 ((q_I (q_setI A37 a1 5 ((q_I A37 a1 5) + (nI 1))) r41 1) + (nI 1))) r41 2) + (nI 0)))
      have h := h A46 rfl
      show q_Wp _ _ _ _ 0 0 112 [some (.ref a0), some (.ref a1), some (.ref r5)] [] A46
      refine q_blk (pc' := 113) (lo' := [some (.ref a0), some (.ref a1), some (.ref r5)]) (st' := [.ref a0]) [.aload_n 0] (by decide +kernel) rfl ?_
      obtain ⟨r47, e48, h⟩ := h
      refine q_getR fl_X4_63 rfl (by decide) (by decide +kernel) s40 e48 ?_
      refine q_blk (pc' := 117) (lo' := [some (.ref a0), some (.ref a1), some (.ref r5)]) (st' := [.ref r5, .ref r47]) [.aload_n 2] (by decide +kernel) rfl ?_
      refine q_getI fl_X4_217 rfl (by decide) (by decide +kernel) s44 ?_
      refine q_blk (pc' := 121) (lo' := [some (.ref a0), some (.ref a1), some (.ref r5)]) (st' := [.ref r5, .int (q_I A46 r5 1), .ref r47]) [.aload_n 2] (by decide +kernel) rfl ?_
      obtain ⟨r49, e50, h⟩ := h
      refine q_getR fl_X4_210 rfl (by decide) (by decide +kernel) s44 e50 ?_
      obtain ⟨s51, h⟩ := h
      refine q_getI fl_X4_108 rfl (by decide) (by decide +kernel) s51 ?_
      obtain ⟨s54, h⟩ := h
      refine q_callV (ci := 2) (Mc := M_X2_put) (z := 2) (b := r47) (As := [.int (q_I A46 r5 1), .int (q_I A46 r49 1)]) (st := []) mo_X2_put mi_X2_put ml_X4_230_X2_put rfl rfl (by decide) rfl (by decide) (by decide) rfl (Nat.le_of_ble_eq_true rfl) (by decide +kernel) s54 h (q_fV fun A52 h => ?_)
      show q_Wp _ _ _ _ 0 0 130 [some (.ref a0), some (.ref a1), some (.ref r5)] [] A52
      refine q_blk (pc' := 131) (lo' := [some (.ref a0), some (.ref a1), some (.ref r5)]) (st' := [.ref a0]) [.aload_n 0] (by decide +kernel) rfl ?_
      obtain ⟨s55, h⟩ := h
      obtain ⟨r56, e57, h⟩ := h
      refine q_getR fl_X4_66 rfl (by decide) (by decide +kernel) s55 e57 ?_
      refine q_blk (pc' := 135) (lo' := [some (.ref a0), some (.ref a1), some (.ref r5)]) (st' := [.ref r5, .ref r56]) [.aload_n 2] (by decide +kernel) rfl ?_
      obtain ⟨s58, h⟩ := h
      refine q_getI fl_X4_217 rfl (by decide) (by decide +kernel) s58 ?_
      refine q_blk (pc' := 139) (lo' := [some (.ref a0), some (.ref a1), some (.ref r5)]) (st' := [.ref r5, .int (q_I A52 r5 1), .ref r56]) [.aload_n 2] (by decide +kernel) rfl ?_
      obtain ⟨r59, e60, h⟩ := h
      refine q_getR fl_X4_210 rfl (by decide) (by decide +kernel) s58 e60 ?_
      refine q_blk (pc' := 143) (lo' := [some (.ref a0), some (.ref a1), some (.ref r5)]) (st' := [.ref r5, .ref r59, .int (q_I A52 r5 1), .ref r56]) [.aload_n 2] (by decide +kernel) rfl ?_
      refine q_getI fl_X4_217 rfl (by decide) (by decide +kernel) s58 ?_
      obtain ⟨s63, h⟩ := h
      refine q_callV (ci := 2) (Mc := M_X2_of) (z := 1) (b := r59) (As := [.int (q_I A52 r5 1)]) (st := [.int (q_I A52 r5 1), .ref r56]) mo_X2_of mi_X2_of ml_X4_192_X2_of rfl rfl (by decide) rfl (by decide) (by decide) rfl (Nat.le_of_ble_eq_true rfl) (by decide +kernel) s63 h (q_fI fun r62 A61 h => ?_)
      show q_Wp _ _ _ _ 0 0 149 [some (.ref a0), some (.ref a1), some (.ref r5)] [.int r62, .int (q_I A52 r5 1), .ref r56] A61
      obtain ⟨s66, h⟩ := h
      refine q_callV (ci := 2) (Mc := M_X2_put) (z := 2) (b := r56) (As := [.int (q_I A52 r5 1), .int r62]) (st := []) mo_X2_put mi_X2_put ml_X4_230_X2_put rfl rfl (by decide) rfl (by decide) (by decide) rfl (Nat.le_of_ble_eq_true rfl) (by decide +kernel) s66 h (q_fV fun A64 h => ?_)
      show q_Wp _ _ _ _ 0 0 152 [some (.ref a0), some (.ref a1), some (.ref r5)] [] A64
      exact q_ret0 rfl (by decide) (by decide) (by decide +kernel) ⟨rfl, h⟩
    · have h := h.1 c45
      refine q_blk (pc' := 104) (lo' := [some (.ref a0), some (.ref a1), some (.ref r5)]) (st' := [.int (nI 1), .int (q_I (q_setI (q_setI A37 a1 5 ((q_I A37 a1 5) + (nI 1))) r41 1 ((q_I (q_setI A37 a1 5 ((q_I A37 a1 5) + (nI 1))) r41 1) + (nI 1))) r41 2), .ref r41]) [.iconst 1] (by decide +kernel) rfl ?_
      refine q_goto 108 (off := 4) (by decide +kernel) (by decide) ?_
      refine q_blk (pc' := 109) (lo' := [some (.ref a0), some (.ref a1), some (.ref r5)]) (st' := [.int ((q_I (q_setI (q_setI A37 a1 5 ((q_I A37 a1 5) + (nI 1))) r41 1 ((q_I (q_setI A37 a1 5 ((q_I A37 a1 5) + (nI 1))) r41 1) + (nI 1))) r41 2) + (nI 1)), .ref r41]) [.iadd] (by decide +kernel) rfl ?_
      refine q_putI fw_X4_224 rfl (by decide) (by decide +kernel) s43 ?_
      let A67 : q_H := (q_setI (q_setI (q_setI A37 a1 5 ((q_I A37 a1 5) + (nI 1))) r41 1 ((q_I (q_setI A37 a1 5 ((q_I A37 a1 5) + (nI 1))) r41 1) + (nI 1))) r41 2 ((q_I (q_setI (q_setI A37 a1 5 ((q_I A37 a1 5) + (nI 1))) r41 1 ((q_I (q_setI A37 a1 5 ((q_I A37 a1 5) + (nI 1))) r41 1) + (nI 1))) r41 2) + (nI 1)))
      have h := h A67 rfl
      show q_Wp _ _ _ _ 0 0 112 [some (.ref a0), some (.ref a1), some (.ref r5)] [] A67
      refine q_blk (pc' := 113) (lo' := [some (.ref a0), some (.ref a1), some (.ref r5)]) (st' := [.ref a0]) [.aload_n 0] (by decide +kernel) rfl ?_
      obtain ⟨r68, e69, h⟩ := h
      refine q_getR fl_X4_63 rfl (by decide) (by decide +kernel) s40 e69 ?_
      refine q_blk (pc' := 117) (lo' := [some (.ref a0), some (.ref a1), some (.ref r5)]) (st' := [.ref r5, .ref r68]) [.aload_n 2] (by decide +kernel) rfl ?_
      refine q_getI fl_X4_217 rfl (by decide) (by decide +kernel) s44 ?_
      refine q_blk (pc' := 121) (lo' := [some (.ref a0), some (.ref a1), some (.ref r5)]) (st' := [.ref r5, .int (q_I A67 r5 1), .ref r68]) [.aload_n 2] (by decide +kernel) rfl ?_
      obtain ⟨r70, e71, h⟩ := h
      refine q_getR fl_X4_210 rfl (by decide) (by decide +kernel) s44 e71 ?_
      obtain ⟨s72, h⟩ := h
      refine q_getI fl_X4_108 rfl (by decide) (by decide +kernel) s72 ?_
      obtain ⟨s75, h⟩ := h
      refine q_callV (ci := 2) (Mc := M_X2_put) (z := 2) (b := r68) (As := [.int (q_I A67 r5 1), .int (q_I A67 r70 1)]) (st := []) mo_X2_put mi_X2_put ml_X4_230_X2_put rfl rfl (by decide) rfl (by decide) (by decide) rfl (Nat.le_of_ble_eq_true rfl) (by decide +kernel) s75 h (q_fV fun A73 h => ?_)
      show q_Wp _ _ _ _ 0 0 130 [some (.ref a0), some (.ref a1), some (.ref r5)] [] A73
      refine q_blk (pc' := 131) (lo' := [some (.ref a0), some (.ref a1), some (.ref r5)]) (st' := [.ref a0]) [.aload_n 0] (by decide +kernel) rfl ?_
      obtain ⟨s76, h⟩ := h
      obtain ⟨r77, e78, h⟩ := h
      refine q_getR fl_X4_66 rfl (by decide) (by decide +kernel) s76 e78 ?_
      refine q_blk (pc' := 135) (lo' := [some (.ref a0), some (.ref a1), some (.ref r5)]) (st' := [.ref r5, .ref r77]) [.aload_n 2] (by decide +kernel) rfl ?_
      obtain ⟨s79, h⟩ := h
      refine q_getI fl_X4_217 rfl (by decide) (by decide +kernel) s79 ?_
      refine q_blk (pc' := 139) (lo' := [some (.ref a0), some (.ref a1), some (.ref r5)]) (st' := [.ref r5, .int (q_I A73 r5 1), .ref r77]) [.aload_n 2] (by decide +kernel) rfl ?_
      obtain ⟨r80, e81, h⟩ := h
      refine q_getR fl_X4_210 rfl (by decide) (by decide +kernel) s79 e81 ?_
      refine q_blk (pc' := 143) (lo' := [some (.ref a0), some (.ref a1), some (.ref r5)]) (st' := [.ref r5, .ref r80, .int (q_I A73 r5 1), .ref r77]) [.aload_n 2] (by decide +kernel) rfl ?_
      refine q_getI fl_X4_217 rfl (by decide) (by decide +kernel) s79 ?_
      obtain ⟨s84, h⟩ := h
      refine q_callV (ci := 2) (Mc := M_X2_of) (z := 1) (b := r80) (As := [.int (q_I A73 r5 1)]) (st := [.int (q_I A73 r5 1), .ref r77]) mo_X2_of mi_X2_of ml_X4_192_X2_of rfl rfl (by decide) rfl (by decide) (by decide) rfl (Nat.le_of_ble_eq_true rfl) (by decide +kernel) s84 h (q_fI fun r83 A82 h => ?_)
      show q_Wp _ _ _ _ 0 0 149 [some (.ref a0), some (.ref a1), some (.ref r5)] [.int r83, .int (q_I A73 r5 1), .ref r77] A82
      obtain ⟨s87, h⟩ := h
      refine q_callV (ci := 2) (Mc := M_X2_put) (z := 2) (b := r77) (As := [.int (q_I A73 r5 1), .int r83]) (st := []) mo_X2_put mi_X2_put ml_X4_230_X2_put rfl rfl (by decide) rfl (by decide) (by decide) rfl (Nat.le_of_ble_eq_true rfl) (by decide +kernel) s87 h (q_fV fun A85 h => ?_)
      show q_Wp _ _ _ _ 0 0 152 [some (.ref a0), some (.ref a1), some (.ref r5)] [] A85
      exact q_ret0 rfl (by decide) (by decide) (by decide +kernel) ⟨rfl, h⟩
theorem f_X4_takeBack {G : q_G} {X : String → q_H → Prop} {f : q_H → Prop} {A : q_H} {a0 : Nat} {a1 : Nat} (h : q_sh A a0 = (5, 0) ∧ ∃ r2 : Nat, q_R A a0 6 = some r2 ∧ q_sh A r2 = (4, 0) ∧ q_Wc G M_X3_addLast [.ref r2, .int (nI 0)] A (q_KR fun o7 A4 => (o7 = none → f A4) ∧ (∀ r5 : Nat, o7 = some r5 → q_sh A4 r5 = (6, 0) ∧ ∃ r9 : Nat, q_R A4 r5 0 = some r9 ∧ q_sh A4 a1 = (1, 0) ∧ ∃ r12 : Nat, q_R A4 a1 4 = some r12 ∧ q_sh A4 r9 = (3, 0) ∧ q_Wc G M_X2_putAll [.ref r9, .ref r12] A4 (q_KV fun A14 => q_sh A14 a0 = (5, 0) ∧ ∃ r18 : Nat, q_R A14 a0 9 = some r18 ∧ q_sh A14 r18 = (9, 0) ∧ f (q_setI A14 r18 5 ((q_I A14 r18 5) + (nI 1)))) q_nX)) q_nX) : q_Wc G M_X4_takeBack [.ref a0, .ref a1] A (q_KV f) X := by
  refine q_Wc.of [some (.ref a0), some (.ref a1), none] mo_X4_takeBack.2.2.2.2.2 rfl (Nat.le_of_ble_eq_true rfl) rfl ?_
  refine q_blk (pc' := 1) (lo' := [some (.ref a0), some (.ref a1), none]) (st' := [.ref a0]) [.aload_n 0] (by decide +kernel) rfl ?_
  obtain ⟨s1, h⟩ := h
  obtain ⟨r2, e3, h⟩ := h
  refine q_getR fl_X4_38 rfl (by decide) (by decide +kernel) s1 e3 ?_
  refine q_blk (pc' := 5) (lo' := [some (.ref a0), some (.ref a1), none]) (st' := [.int (nI 0), .ref r2]) [.iconst 0] (by decide +kernel) rfl ?_
  obtain ⟨s6, h⟩ := h
  refine q_callV (ci := 3) (Mc := M_X3_addLast) (z := 1) (b := r2) (As := [.int (nI 0)]) (st := []) mo_X3_addLast mi_X3_addLast ml_X4_175_X3_addLast rfl rfl (by decide) rfl (by decide) (by decide) rfl (Nat.le_of_ble_eq_true rfl) (by decide +kernel) s6 h (q_fR (fun A4 h => ?_) (fun r5 A4 h => ?_))
  · have h := h.1 rfl
    show q_Wp _ _ _ _ 0 0 8 [some (.ref a0), some (.ref a1), none] [.null] A4
    refine q_blk (pc' := 10) (lo' := [some (.ref a0), some (.ref a1), some (.null)]) (st' := [.null]) [.astore_n 2, .aload_n 2] (by decide +kernel) rfl ?_
    refine q_nul_y 37 (off := 27) (by decide +kernel) (by decide) ?_
    exact q_ret0 rfl (by decide) (by decide) (by decide +kernel) ⟨rfl, h⟩
  · have h := h.2 r5 rfl
    show q_Wp _ _ _ _ 0 0 8 [some (.ref a0), some (.ref a1), none] [.ref r5] A4
    refine q_blk (pc' := 10) (lo' := [some (.ref a0), some (.ref a1), some (.ref r5)]) (st' := [.ref r5]) [.astore_n 2, .aload_n 2] (by decide +kernel) rfl ?_
    refine q_nul_n (off := 27) (by decide +kernel) ?_
    refine q_blk (pc' := 14) (lo' := [some (.ref a0), some (.ref a1), some (.ref r5)]) (st' := [.ref r5]) [.aload_n 2] (by decide +kernel) rfl ?_
    obtain ⟨s8, h⟩ := h
    obtain ⟨r9, e10, h⟩ := h
    refine q_getR fl_X4_88 rfl (by decide) (by decide +kernel) s8 e10 ?_
    refine q_blk (pc' := 18) (lo' := [some (.ref a0), some (.ref a1), some (.ref r5)]) (st' := [.ref a1, .ref r9]) [.aload_n 1] (by decide +kernel) rfl ?_
    obtain ⟨s11, h⟩ := h
    obtain ⟨r12, e13, h⟩ := h
    refine q_getR fl_X4_210 rfl (by decide) (by decide +kernel) s11 e13 ?_
    obtain ⟨s16, h⟩ := h
    refine q_callV (ci := 2) (Mc := M_X2_putAll) (z := 1) (b := r9) (As := [.ref r12]) (st := []) mo_X2_putAll mi_X2_putAll ml_X4_178_X2_putAll rfl rfl (by decide) rfl (by decide) (by decide) rfl (Nat.le_of_ble_eq_true rfl) (by decide +kernel) s16 h (q_fV fun A14 h => ?_)
    show q_Wp _ _ _ _ 0 0 24 [some (.ref a0), some (.ref a1), some (.ref r5)] [] A14
    refine q_blk (pc' := 25) (lo' := [some (.ref a0), some (.ref a1), some (.ref r5)]) (st' := [.ref a0]) [.aload_n 0] (by decide +kernel) rfl ?_
    obtain ⟨s17, h⟩ := h
    obtain ⟨r18, e19, h⟩ := h
    refine q_getR fl_X4_59 rfl (by decide) (by decide +kernel) s17 e19 ?_
    refine q_blk (pc' := 29) (lo' := [some (.ref a0), some (.ref a1), some (.ref r5)]) (st' := [.ref r18, .ref r18]) [.dup] (by decide +kernel) rfl ?_
    obtain ⟨s20, h⟩ := h
    refine q_getI fl_X4_233 rfl (by decide) (by decide +kernel) s20 ?_
    refine q_blk (pc' := 34) (lo' := [some (.ref a0), some (.ref a1), some (.ref r5)]) (st' := [.int ((q_I A14 r18 5) + (nI 1)), .ref r18]) [.iconst 1, .iadd] (by decide +kernel) rfl ?_
    refine q_putI fw_X4_233 rfl (by decide) (by decide +kernel) s20 ?_
    exact q_ret0 rfl (by decide) (by decide) (by decide +kernel) ⟨rfl, h⟩
theorem f_X4_handOver {G : q_G} {X : String → q_H → Prop} {f : Int32 → q_H → Prop} {A : q_H} {a0 : Nat} {a1 : Nat} {a2 : Nat} (h : q_sh A a0 = (5, 0) ∧ ∃ r2 : Nat, q_R A a0 1 = some r2 ∧ ∃ z5 : Nat, q_sh A r2 = (50, z5) ∧ z5 < 2147483648 ∧ 7 < z5 ∧ q_sh A a2 = (2, 0) ∧ q_Wc G M_X1_payFor [.ref a2, .ref a1, .int (q_I A r2 7)] A (q_KI fun r9 A8 => q_sh A8 a2 = (2, 0) ∧ q_sh A8 a0 = (5, 0) ∧ ∃ r13 : Nat, q_R A8 a0 9 = some r13 ∧ q_sh A8 r13 = (9, 0) ∧ q_Wc G M_X1_claimsFor [.ref a2, .ref a1] (q_setI (q_setI A8 a2 6 ((q_I A8 a2 6) + r9)) r13 4 ((q_I (q_setI A8 a2 6 ((q_I A8 a2 6) + r9)) r13 4) + (nI 1))) (q_KB fun b17 A16 => ((b17 = true → q_sh A16 r13 = (9, 0) ∧ q_sh A16 a0 = (5, 0) ∧ ∃ r32 : Nat, q_R A16 a0 9 = some r32 ∧ q_sh A16 r32 = (9, 0) ∧ q_sh A16 a1 = (1, 0) ∧ ∃ r36 : Nat, q_R A16 a1 4 = some r36 ∧ q_sh A16 r36 = (3, 0) ∧ (∀ A39 : q_H, A39 = (q_setI (q_setI A16 r13 6 ((q_I (q_setI (q_setI A8 a2 6 ((q_I A8 a2 6) + r9)) r13 4 ((q_I (q_setI A8 a2 6 ((q_I A8 a2 6) + r9)) r13 4) + (nI 1))) r13 6) + (nI 1))) r32 8 ((q_I (q_setI A16 r13 6 ((q_I (q_setI (q_setI A8 a2 6 ((q_I A8 a2 6) + r9)) r13 4 ((q_I (q_setI A8 a2 6 ((q_I A8 a2 6) + r9)) r13 4) + (nI 1))) r13 6) + (nI 1))) r32 8) + (q_I (q_setI A16 r13 6 ((q_I (q_setI (q_setI A8 a2 6 ((q_I A8 a2 6) + r9)) r13 4 ((q_I (q_setI A8 a2 6 ((q_I A8 a2 6) + r9)) r13 4) + (nI 1))) r13 6) + (nI 1))) r36 1))) → f r9 A39)) ∧ (b17 = false → q_sh A16 r13 = (9, 0) ∧ q_sh A16 a0 = (5, 0) ∧ ∃ r22 : Nat, q_R A16 a0 9 = some r22 ∧ q_sh A16 r22 = (9, 0) ∧ q_sh A16 a1 = (1, 0) ∧ ∃ r26 : Nat, q_R A16 a1 4 = some r26 ∧ q_sh A16 r26 = (3, 0) ∧ (∀ A29 : q_H, A29 = (q_setI (q_setI A16 r13 6 ((q_I (q_setI (q_setI A8 a2 6 ((q_I A8 a2 6) + r9)) r13 4 ((q_I (q_setI A8 a2 6 ((q_I A8 a2 6) + r9)) r13 4) + (nI 1))) r13 6) + (nI 0))) r22 8 ((q_I (q_setI A16 r13 6 ((q_I (q_setI (q_setI A8 a2 6 ((q_I A8 a2 6) + r9)) r13 4 ((q_I (q_setI A8 a2 6 ((q_I A8 a2 6) + r9)) r13 4) + (nI 1))) r13 6) + (nI 0))) r22 8) + (q_I (q_setI A16 r13 6 ((q_I (q_setI (q_setI A8 a2 6 ((q_I A8 a2 6) + r9)) r13 4 ((q_I (q_setI A8 a2 6 ((q_I A8 a2 6) + r9)) r13 4) + (nI 1))) r13 6) + (nI 0))) r26 1))) → f r9 A29)))) q_nX) q_nX) : q_Wc G M_X4_handOver [.ref a0, .ref a1, .ref a2] A (q_KI f) X := by
  refine q_Wc.of [some (.ref a0), some (.ref a1), some (.ref a2), none] mo_X4_handOver.2.2.2.2.2 rfl (Nat.le_of_ble_eq_true rfl) rfl ?_
  refine q_blk (pc' := 3) (lo' := [some (.ref a0), some (.ref a1), some (.ref a2), none]) (st' := [.ref a0, .ref a1, .ref a2]) [.aload_n 2, .aload_n 1, .aload_n 0] (by decide +kernel) rfl ?_
  obtain ⟨s1, h⟩ := h
  obtain ⟨r2, e3, h⟩ := h
  refine q_getR fl_X4_18 rfl (by decide) (by decide +kernel) s1 e3 ?_
  refine q_blk (pc' := 8) (lo' := [some (.ref a0), some (.ref a1), some (.ref a2), none]) (st' := [.int (nI 7), .ref r2, .ref a1, .ref a2]) [.bipush 7] (by decide +kernel) rfl ?_
  obtain ⟨z5, s4, b6, h⟩ := h
  obtain ⟨l7, h⟩ := h
  refine q_iald rfl (by decide +kernel) s4 l7 b6 ?_
  obtain ⟨s10, h⟩ := h
  refine q_callV (ci := 1) (Mc := M_X1_payFor) (z := 2) (b := a2) (As := [.ref a1, .int (q_I A r2 7)]) (st := []) mo_X1_payFor mi_X1_payFor ml_X4_236_X1_payFor rfl rfl (by decide) rfl (by decide) (by decide) rfl (Nat.le_of_ble_eq_true rfl) (by decide +kernel) s10 h (q_fI fun r9 A8 h => ?_)
  show q_Wp _ _ _ _ 0 0 12 [some (.ref a0), some (.ref a1), some (.ref a2), none] [.int r9] A8
  refine q_blk (pc' := 15) (lo' := [some (.ref a0), some (.ref a1), some (.ref a2), some (.int r9)]) (st' := [.ref a2, .ref a2]) [.istore_n 3, .aload_n 2, .dup] (by decide +kernel) rfl ?_
  obtain ⟨s11, h⟩ := h
  refine q_getI fl_X4_240 rfl (by decide) (by decide +kernel) s11 ?_
  refine q_blk (pc' := 20) (lo' := [some (.ref a0), some (.ref a1), some (.ref a2), some (.int r9)]) (st' := [.int ((q_I A8 a2 6) + r9), .ref a2]) [.iload_n 3, .iadd] (by decide +kernel) rfl ?_
  refine q_putI fw_X4_240 rfl (by decide) (by decide +kernel) s11 ?_
  refine q_blk (pc' := 24) (lo' := [some (.ref a0), some (.ref a1), some (.ref a2), some (.int r9)]) (st' := [.ref a0]) [.aload_n 0] (by decide +kernel) rfl ?_
  obtain ⟨s12, h⟩ := h
  obtain ⟨r13, e14, h⟩ := h
  refine q_getR fl_X4_59 rfl (by decide) (by decide +kernel) s12 e14 ?_
  refine q_blk (pc' := 28) (lo' := [some (.ref a0), some (.ref a1), some (.ref a2), some (.int r9)]) (st' := [.ref r13, .ref r13]) [.dup] (by decide +kernel) rfl ?_
  obtain ⟨s15, h⟩ := h
  refine q_getI fl_X4_243 rfl (by decide) (by decide +kernel) s15 ?_
  refine q_blk (pc' := 33) (lo' := [some (.ref a0), some (.ref a1), some (.ref a2), some (.int r9)]) (st' := [.int ((q_I (q_setI A8 a2 6 ((q_I A8 a2 6) + r9)) r13 4) + (nI 1)), .ref r13]) [.iconst 1, .iadd] (by decide +kernel) rfl ?_
  refine q_putI fw_X4_243 rfl (by decide) (by decide +kernel) s15 ?_
  refine q_blk (pc' := 37) (lo' := [some (.ref a0), some (.ref a1), some (.ref a2), some (.int r9)]) (st' := [.ref a0]) [.aload_n 0] (by decide +kernel) rfl ?_
  refine q_getR fl_X4_59 rfl (by decide) (by decide +kernel) s12 e14 ?_
  refine q_blk (pc' := 41) (lo' := [some (.ref a0), some (.ref a1), some (.ref a2), some (.int r9)]) (st' := [.ref r13, .ref r13]) [.dup] (by decide +kernel) rfl ?_
  refine q_getI fl_X4_246 rfl (by decide) (by decide +kernel) s15 ?_
  refine q_blk (pc' := 46) (lo' := [some (.ref a0), some (.ref a1), some (.ref a2), some (.int r9)]) (st' := [.ref a1, .ref a2, .int (q_I (q_setI (q_setI A8 a2 6 ((q_I A8 a2 6) + r9)) r13 4 ((q_I (q_setI A8 a2 6 ((q_I A8 a2 6) + r9)) r13 4) + (nI 1))) r13 6), .ref r13]) [.aload_n 2, .aload_n 1] (by decide +kernel) rfl ?_
  refine q_callV (ci := 1) (Mc := M_X1_claimsFor) (z := 1) (b := a2) (As := [.ref a1]) (st := [.int (q_I (q_setI (q_setI A8 a2 6 ((q_I A8 a2 6) + r9)) r13 4 ((q_I (q_setI A8 a2 6 ((q_I A8 a2 6) + r9)) r13 4) + (nI 1))) r13 6), .ref r13]) mo_X1_claimsFor mi_X1_claimsFor ml_X4_249_X1_claimsFor rfl rfl (by decide) rfl (by decide) (by decide) rfl (Nat.le_of_ble_eq_true rfl) (by decide +kernel) s11 h (q_fB fun b17 A16 h => ?_)
  show q_Wp _ _ _ _ 0 0 49 [some (.ref a0), some (.ref a1), some (.ref a2), some (.int r9)] [.int (q_i b17), .int (q_I (q_setI (q_setI A8 a2 6 ((q_I A8 a2 6) + r9)) r13 4 ((q_I (q_setI A8 a2 6 ((q_I A8 a2 6) + r9)) r13 4) + (nI 1))) r13 6), .ref r13] A16
  refine q_ifB_eq 56 (off := 7) (by decide +kernel) (by decide) (fun c18 => ?_) (fun c18 => ?_)
  · have h := h.2 c18
    refine q_blk (pc' := 58) (lo' := [some (.ref a0), some (.ref a1), some (.ref a2), some (.int r9)]) (st' := [.int ((q_I (q_setI (q_setI A8 a2 6 ((q_I A8 a2 6) + r9)) r13 4 ((q_I (q_setI A8 a2 6 ((q_I A8 a2 6) + r9)) r13 4) + (nI 1))) r13 6) + (nI 0)), .ref r13]) [.iconst 0, .iadd] (by decide +kernel) rfl ?_
    obtain ⟨s20, h⟩ := h
    refine q_putI fw_X4_246 rfl (by decide) (by decide +kernel) s20 ?_
    refine q_blk (pc' := 62) (lo' := [some (.ref a0), some (.ref a1), some (.ref a2), some (.int r9)]) (st' := [.ref a0]) [.aload_n 0] (by decide +kernel) rfl ?_
    obtain ⟨s21, h⟩ := h
    obtain ⟨r22, e23, h⟩ := h
    refine q_getR fl_X4_59 rfl (by decide) (by decide +kernel) s21 e23 ?_
    refine q_blk (pc' := 66) (lo' := [some (.ref a0), some (.ref a1), some (.ref a2), some (.int r9)]) (st' := [.ref r22, .ref r22]) [.dup] (by decide +kernel) rfl ?_
    obtain ⟨s24, h⟩ := h
    refine q_getI fl_X4_253 rfl (by decide) (by decide +kernel) s24 ?_
    refine q_blk (pc' := 70) (lo' := [some (.ref a0), some (.ref a1), some (.ref a2), some (.int r9)]) (st' := [.ref a1, .int (q_I (q_setI A16 r13 6 ((q_I (q_setI (q_setI A8 a2 6 ((q_I A8 a2 6) + r9)) r13 4 ((q_I (q_setI A8 a2 6 ((q_I A8 a2 6) + r9)) r13 4) + (nI 1))) r13 6) + (nI 0))) r22 8), .ref r22]) [.aload_n 1] (by decide +kernel) rfl ?_
    obtain ⟨s25, h⟩ := h
    obtain ⟨r26, e27, h⟩ := h
    refine q_getR fl_X4_210 rfl (by decide) (by decide +kernel) s25 e27 ?_
    obtain ⟨s28, h⟩ := h
    refine q_getI fl_X4_108 rfl (by decide) (by decide +kernel) s28 ?_
    refine q_blk (pc' := 77) (lo' := [some (.ref a0), some (.ref a1), some (.ref a2), some (.int r9)]) (st' := [.int ((q_I (q_setI A16 r13 6 ((q_I (q_setI (q_setI A8 a2 6 ((q_I A8 a2 6) + r9)) r13 4 ((q_I (q_setI A8 a2 6 ((q_I A8 a2 6) + r9)) r13 4) + (nI 1))) r13 6) + (nI 0))) r22 8) + (q_I (q_setI A16 r13 6 ((q_I (q_setI (q_setI A8 a2 6 ((q_I A8 a2 6) + r9)) r13 4 ((q_I (q_setI A8 a2 6 ((q_I A8 a2 6) + r9)) r13 4) + (nI 1))) r13 6) + (nI 0))) r26 1)), .ref r22]) [.iadd] (by decide +kernel) rfl ?_
    refine q_putI fw_X4_253 rfl (by decide) (by decide +kernel) s24 ?_
    let A29 : q_H := (q_setI (q_setI A16 r13 6 ((q_I (q_setI (q_setI A8 a2 6 ((q_I A8 a2 6) + r9)) r13 4 ((q_I (q_setI A8 a2 6 ((q_I A8 a2 6) + r9)) r13 4) + (nI 1))) r13 6) + (nI 0))) r22 8 ((q_I (q_setI A16 r13 6 ((q_I (q_setI (q_setI A8 a2 6 ((q_I A8 a2 6) + r9)) r13 4 ((q_I (q_setI A8 a2 6 ((q_I A8 a2 6) + r9)) r13 4) + (nI 1))) r13 6) + (nI 0))) r22 8) + (q_I (q_setI A16 r13 6 ((q_I (q_setI (q_setI A8 a2 6 ((q_I A8 a2 6) + r9)) r13 4 ((q_I (q_setI A8 a2 6 ((q_I A8 a2 6) + r9)) r13 4) + (nI 1))) r13 6) + (nI 0))) r26 1)))
    have h := h A29 rfl
    show q_Wp _ _ _ _ 0 0 80 [some (.ref a0), some (.ref a1), some (.ref a2), some (.int r9)] [] A29
    refine q_blk (pc' := 81) (lo' := [some (.ref a0), some (.ref a1), some (.ref a2), some (.int r9)]) (st' := [.int r9]) [.iload_n 3] (by decide +kernel) rfl ?_
    exact q_retI rfl (by decide) (by decide) (by decide +kernel) ⟨_, rfl, h⟩
  · have h := h.1 c18
    refine q_blk (pc' := 53) (lo' := [some (.ref a0), some (.ref a1), some (.ref a2), some (.int r9)]) (st' := [.int (nI 1), .int (q_I (q_setI (q_setI A8 a2 6 ((q_I A8 a2 6) + r9)) r13 4 ((q_I (q_setI A8 a2 6 ((q_I A8 a2 6) + r9)) r13 4) + (nI 1))) r13 6), .ref r13]) [.iconst 1] (by decide +kernel) rfl ?_
    refine q_goto 57 (off := 4) (by decide +kernel) (by decide) ?_
    refine q_blk (pc' := 58) (lo' := [some (.ref a0), some (.ref a1), some (.ref a2), some (.int r9)]) (st' := [.int ((q_I (q_setI (q_setI A8 a2 6 ((q_I A8 a2 6) + r9)) r13 4 ((q_I (q_setI A8 a2 6 ((q_I A8 a2 6) + r9)) r13 4) + (nI 1))) r13 6) + (nI 1)), .ref r13]) [.iadd] (by decide +kernel) rfl ?_
    obtain ⟨s30, h⟩ := h
    refine q_putI fw_X4_246 rfl (by decide) (by decide +kernel) s30 ?_
    refine q_blk (pc' := 62) (lo' := [some (.ref a0), some (.ref a1), some (.ref a2), some (.int r9)]) (st' := [.ref a0]) [.aload_n 0] (by decide +kernel) rfl ?_
    obtain ⟨s31, h⟩ := h
    obtain ⟨r32, e33, h⟩ := h
    refine q_getR fl_X4_59 rfl (by decide) (by decide +kernel) s31 e33 ?_
    refine q_blk (pc' := 66) (lo' := [some (.ref a0), some (.ref a1), some (.ref a2), some (.int r9)]) (st' := [.ref r32, .ref r32]) [.dup] (by decide +kernel) rfl ?_
    obtain ⟨s34, h⟩ := h
    refine q_getI fl_X4_253 rfl (by decide) (by decide +kernel) s34 ?_
    refine q_blk (pc' := 70) (lo' := [some (.ref a0), some (.ref a1), some (.ref a2), some (.int r9)]) (st' := [.ref a1, .int (q_I (q_setI A16 r13 6 ((q_I (q_setI (q_setI A8 a2 6 ((q_I A8 a2 6) + r9)) r13 4 ((q_I (q_setI A8 a2 6 ((q_I A8 a2 6) + r9)) r13 4) + (nI 1))) r13 6) + (nI 1))) r32 8), .ref r32]) [.aload_n 1] (by decide +kernel) rfl ?_
    obtain ⟨s35, h⟩ := h
    obtain ⟨r36, e37, h⟩ := h
    refine q_getR fl_X4_210 rfl (by decide) (by decide +kernel) s35 e37 ?_
    obtain ⟨s38, h⟩ := h
    refine q_getI fl_X4_108 rfl (by decide) (by decide +kernel) s38 ?_
    refine q_blk (pc' := 77) (lo' := [some (.ref a0), some (.ref a1), some (.ref a2), some (.int r9)]) (st' := [.int ((q_I (q_setI A16 r13 6 ((q_I (q_setI (q_setI A8 a2 6 ((q_I A8 a2 6) + r9)) r13 4 ((q_I (q_setI A8 a2 6 ((q_I A8 a2 6) + r9)) r13 4) + (nI 1))) r13 6) + (nI 1))) r32 8) + (q_I (q_setI A16 r13 6 ((q_I (q_setI (q_setI A8 a2 6 ((q_I A8 a2 6) + r9)) r13 4 ((q_I (q_setI A8 a2 6 ((q_I A8 a2 6) + r9)) r13 4) + (nI 1))) r13 6) + (nI 1))) r36 1)), .ref r32]) [.iadd] (by decide +kernel) rfl ?_
    refine q_putI fw_X4_253 rfl (by decide) (by decide +kernel) s34 ?_
    let A39 : q_H := (q_setI (q_setI A16 r13 6 ((q_I (q_setI (q_setI A8 a2 6 ((q_I A8 a2 6) + r9)) r13 4 ((q_I (q_setI A8 a2 6 ((q_I A8 a2 6) + r9)) r13 4) + (nI 1))) r13 6) + (nI 1))) r32 8 ((q_I (q_setI A16 r13 6 ((q_I (q_setI (q_setI A8 a2 6 ((q_I A8 a2 6) + r9)) r13 4 ((q_I (q_setI A8 a2 6 ((q_I A8 a2 6) + r9)) r13 4) + (nI 1))) r13 6) + (nI 1))) r32 8) + (q_I (q_setI A16 r13 6 ((q_I (q_setI (q_setI A8 a2 6 ((q_I A8 a2 6) + r9)) r13 4 ((q_I (q_setI A8 a2 6 ((q_I A8 a2 6) + r9)) r13 4) + (nI 1))) r13 6) + (nI 1))) r36 1)))
    have h := h A39 rfl
    show q_Wp _ _ _ _ 0 0 80 [some (.ref a0), some (.ref a1), some (.ref a2), some (.int r9)] [] A39
    refine q_blk (pc' := 81) (lo' := [some (.ref a0), some (.ref a1), some (.ref a2), some (.int r9)]) (st' := [.int r9]) [.iload_n 3] (by decide +kernel) rfl ?_
    exact q_retI rfl (by decide) (by decide) (by decide +kernel) ⟨_, rfl, h⟩
theorem f_X4_reset {G : q_G} {X : String → q_H → Prop} {f : q_H → Prop} {A : q_H} {a0 : Nat} (h : q_sh A a0 = (5, 0) ∧ ∃ r2 : Nat, q_R A a0 1 = some r2 ∧ ∃ z5 : Nat, q_sh A r2 = (50, z5) ∧ z5 < 2147483648 ∧ z5 ≤ 8 ∧ z5 ≤ z5 ∧ ∃ r9 : Nat, q_R A a0 6 = some r9 ∧ q_sh A r9 = (4, 0) ∧ (∀ A12 : q_H, A12 = (q_setI (q_setI (q_setI (q_rowI (q_setI A a0 0 (nI 0)) r2 (fun j => if j < z5 then (q_sval 2).getD j 0 else q_I (q_setI A a0 0 (nI 0)) r2 j)) a0 3 (nI 0)) a0 5 (nI 0)) r9 2 (nI 0)) → ∃ r13 : Nat, q_R A a0 7 = some r13 ∧ q_sh A r13 = (8, 0) ∧ ∃ r16 : Nat, q_R A a0 8 = some r16 ∧ q_sh A r16 = (3, 0) ∧ q_Wc G M_X2_clear [.ref r16] (q_setI A12 r13 1 (nI 0)) (q_KV fun A18 => q_sh A18 a0 = (5, 0) ∧ ∃ r22 : Nat, q_R A18 a0 10 = some r22 ∧ q_sh A18 r22 = (3, 0) ∧ q_Wc G M_X2_clear [.ref r22] A18 (q_KV fun A24 => q_sh A24 a0 = (5, 0) ∧ ∃ r28 : Nat, q_R A24 a0 11 = some r28 ∧ q_sh A24 r28 = (3, 0) ∧ q_Wc G M_X2_clear [.ref r28] A24 (q_KV fun A30 => q_sh A30 a0 = (5, 0) ∧ ∃ r34 : Nat, q_R A30 a0 9 = some r34 ∧ q_Wc G M_X8_init [.ref (q_sz A30)] (q_new A30 9 0) (q_KV fun A37 => q_sh A37 r34 = (9, 0) ∧ q_Wc G M_X8_copyFrom [.ref r34, .ref (q_sz A30)] A37 (q_KV fun A39 => f A39) q_nX) q_nX) q_nX) q_nX) q_nX)) : q_Wc G M_X4_reset [.ref a0] A (q_KV f) X := by
  refine q_Wc.of [some (.ref a0)] mo_X4_reset.2.2.2.2.2 rfl (Nat.le_of_ble_eq_true rfl) rfl ?_
  refine q_blk (pc' := 2) (lo' := [some (.ref a0)]) (st' := [.int (nI 0), .ref a0]) [.aload_n 0, .iconst 0] (by decide +kernel) rfl ?_
  obtain ⟨s1, h⟩ := h
  refine q_putI fw_X4_71 rfl (by decide) (by decide +kernel) s1 ?_
  refine q_gets (i := 2) (by decide) gs_X4_9_2 (by decide +kernel) ?_
  refine q_blk (pc' := 10) (lo' := [some (.ref a0)]) (st' := [.ref a0, .int (nI 0), .ref (q_st G 2)]) [.iconst 0, .aload_n 0] (by decide +kernel) rfl ?_
  obtain ⟨r2, e3, h⟩ := h
  refine q_getR fl_X4_18 rfl (by decide) (by decide +kernel) s1 e3 ?_
  refine q_blk (pc' := 15) (lo' := [some (.ref a0)]) (st' := [.ref a0, .int (nI 0), .ref r2, .int (nI 0), .ref (q_st G 2)]) [.iconst 0, .aload_n 0] (by decide +kernel) rfl ?_
  refine q_getR fl_X4_18 rfl (by decide) (by decide +kernel) s1 e3 ?_
  obtain ⟨z5, s4, b6, h⟩ := h
  refine q_alenI (by decide +kernel) s4 ?_
  obtain ⟨l7, l8, h⟩ := h
  refine q_acpyS (i := 2) (by decide) cp_X4_256.1 cp_X4_256.2.1 cp_X4_256.2.2.1 cp_X4_256.2.2.2 (by decide) (Nat.le_of_ble_eq_true rfl) (by decide +kernel) rfl s4 l7 l8 b6 ?_
  refine q_blk (pc' := 24) (lo' := [some (.ref a0)]) (st' := [.int (nI 0), .ref a0]) [.aload_n 0, .iconst 0] (by decide +kernel) rfl ?_
  refine q_putI fw_X4_75 rfl (by decide) (by decide +kernel) s1 ?_
  refine q_blk (pc' := 29) (lo' := [some (.ref a0)]) (st' := [.int (nI 0), .ref a0]) [.aload_n 0, .iconst 0] (by decide +kernel) rfl ?_
  refine q_putI fw_X4_78 rfl (by decide) (by decide +kernel) s1 ?_
  refine q_blk (pc' := 33) (lo' := [some (.ref a0)]) (st' := [.ref a0]) [.aload_n 0] (by decide +kernel) rfl ?_
  obtain ⟨r9, e10, h⟩ := h
  refine q_getR fl_X4_38 rfl (by decide) (by decide +kernel) s1 e10 ?_
  refine q_blk (pc' := 37) (lo' := [some (.ref a0)]) (st' := [.int (nI 0), .ref r9]) [.iconst 0] (by decide +kernel) rfl ?_
  obtain ⟨s11, h⟩ := h
  refine q_putI fw_X4_120 rfl (by decide) (by decide +kernel) s11 ?_
  let A12 : q_H := (q_setI (q_setI (q_setI (q_rowI (q_setI A a0 0 (nI 0)) r2 (fun j => if j < z5 then (q_sval 2).getD j 0 else q_I (q_setI A a0 0 (nI 0)) r2 j)) a0 3 (nI 0)) a0 5 (nI 0)) r9 2 (nI 0))
  have h := h A12 rfl
  show q_Wp _ _ _ _ 0 0 40 [some (.ref a0)] [] A12
  refine q_blk (pc' := 41) (lo' := [some (.ref a0)]) (st' := [.ref a0]) [.aload_n 0] (by decide +kernel) rfl ?_
  obtain ⟨r13, e14, h⟩ := h
  refine q_getR fl_X4_45 rfl (by decide) (by decide +kernel) s1 e14 ?_
  refine q_blk (pc' := 45) (lo' := [some (.ref a0)]) (st' := [.int (nI 0), .ref r13]) [.iconst 0] (by decide +kernel) rfl ?_
  obtain ⟨s15, h⟩ := h
  refine q_putI fw_X4_203 rfl (by decide) (by decide +kernel) s15 ?_
  refine q_blk (pc' := 49) (lo' := [some (.ref a0)]) (st' := [.ref a0]) [.aload_n 0] (by decide +kernel) rfl ?_
  obtain ⟨r16, e17, h⟩ := h
  refine q_getR fl_X4_52 rfl (by decide) (by decide +kernel) s1 e17 ?_
  obtain ⟨s20, h⟩ := h
  refine q_callV (ci := 2) (Mc := M_X2_clear) (z := 0) (b := r16) (As := []) (st := []) mo_X2_clear mi_X2_clear ml_X4_146_X2_clear rfl rfl (by decide) rfl (by decide) (by decide) rfl (Nat.le_of_ble_eq_true rfl) (by decide +kernel) s20 h (q_fV fun A18 h => ?_)
  show q_Wp _ _ _ _ 0 0 55 [some (.ref a0)] [] A18
  refine q_blk (pc' := 56) (lo' := [some (.ref a0)]) (st' := [.ref a0]) [.aload_n 0] (by decide +kernel) rfl ?_
  obtain ⟨s21, h⟩ := h
  obtain ⟨r22, e23, h⟩ := h
  refine q_getR fl_X4_63 rfl (by decide) (by decide +kernel) s21 e23 ?_
  obtain ⟨s26, h⟩ := h
  refine q_callV (ci := 2) (Mc := M_X2_clear) (z := 0) (b := r22) (As := []) (st := []) mo_X2_clear mi_X2_clear ml_X4_146_X2_clear rfl rfl (by decide) rfl (by decide) (by decide) rfl (Nat.le_of_ble_eq_true rfl) (by decide +kernel) s26 h (q_fV fun A24 h => ?_)
  show q_Wp _ _ _ _ 0 0 62 [some (.ref a0)] [] A24
  refine q_blk (pc' := 63) (lo' := [some (.ref a0)]) (st' := [.ref a0]) [.aload_n 0] (by decide +kernel) rfl ?_
  obtain ⟨s27, h⟩ := h
  obtain ⟨r28, e29, h⟩ := h
  refine q_getR fl_X4_66 rfl (by decide) (by decide +kernel) s27 e29 ?_
  obtain ⟨s32, h⟩ := h
  refine q_callV (ci := 2) (Mc := M_X2_clear) (z := 0) (b := r28) (As := []) (st := []) mo_X2_clear mi_X2_clear ml_X4_146_X2_clear rfl rfl (by decide) rfl (by decide) (by decide) rfl (Nat.le_of_ble_eq_true rfl) (by decide +kernel) s32 h (q_fV fun A30 h => ?_)
  show q_Wp _ _ _ _ 0 0 69 [some (.ref a0)] [] A30
  refine q_blk (pc' := 70) (lo' := [some (.ref a0)]) (st' := [.ref a0]) [.aload_n 0] (by decide +kernel) rfl ?_
  obtain ⟨s33, h⟩ := h
  obtain ⟨r34, e35, h⟩ := h
  refine q_getR fl_X4_59 rfl (by decide) (by decide +kernel) s33 e35 ?_
  refine q_newO (idx := 56) ck8 (by decide) kl_X4_56 nw_8.1 nw_8.2 (by decide) (by decide) (by decide +kernel) ?_
  have s36 : q_sh (q_new A30 9 0) (q_sz A30) = (9, 0) := q_shn _ _ _
  refine q_blk (pc' := 77) (lo' := [some (.ref a0)]) (st' := [.ref (q_sz A30), .ref (q_sz A30), .ref r34]) [.dup] (by decide +kernel) rfl ?_
  refine q_callI (Mc := M_X8_init) (z := 0) (b := (q_sz A30)) (As := []) (st := [.ref (q_sz A30), .ref r34]) mo_X8_init mi0_X8_init mI_X4_58_X8_init rfl rfl rfl rfl (by decide) (by decide) rfl (Nat.le_of_ble_eq_true rfl) (by decide +kernel) h (q_fV fun A37 h => ?_)
  show q_Wp _ _ _ _ 1 10 80 [some (.ref a0)] [.ref (q_sz A30), .ref r34] A37
  obtain ⟨s41, h⟩ := h
  refine q_callV (ci := 8) (Mc := M_X8_copyFrom) (z := 1) (b := r34) (As := [.ref (q_sz A30)]) (st := []) mo_X8_copyFrom mi_X8_copyFrom ml_X4_262_X8_copyFrom rfl rfl (by decide) rfl (by decide) (by decide) rfl (Nat.le_of_ble_eq_true rfl) (by decide +kernel) s41 h (q_fV fun A39 h => ?_)
  show q_Wp _ _ _ _ 1 10 83 [some (.ref a0)] [] A39
  exact q_ret0 rfl (by decide) (by decide) (by decide +kernel) ⟨rfl, h⟩
theorem f_X4_copyFrom {G : q_G} {X : String → q_H → Prop} {f : q_H → Prop} {A : q_H} {a0 : Nat} {a1 : Nat} (h : q_sh A a1 = (5, 0) ∧ q_sh A a0 = (5, 0) ∧ ∃ r3 : Nat, q_R A a1 1 = some r3 ∧ ∃ r5 : Nat, q_R A a0 1 = some r5 ∧ ∃ z8 : Nat, q_sh A r5 = (50, z8) ∧ z8 < 2147483648 ∧ ∃ z11 : Nat, q_sh A r3 = (50, z11) ∧ z11 < 2147483648 ∧ z8 ≤ z11 ∧ z8 ≤ z8 ∧ (∀ A15 : q_H, A15 = (q_setI (q_rowI (q_setI A a0 0 (q_I A a1 0)) r5 (fun j => if j < z8 then q_I (q_setI A a0 0 (q_I A a1 0)) r3 j else q_I (q_setI A a0 0 (q_I A a1 0)) r5 j)) a0 3 (q_I (q_rowI (q_setI A a0 0 (q_I A a1 0)) r5 (fun j => if j < z8 then q_I (q_setI A a0 0 (q_I A a1 0)) r3 j else q_I (q_setI A a0 0 (q_I A a1 0)) r5 j)) a1 3)) → q_Wp G M_X4_copyFrom (q_KV f) X 0 0 36 [some (.ref a0), some (.ref a1), some (.int (nI 0))] [] A15)) : q_Wc G M_X4_copyFrom [.ref a0, .ref a1] A (q_KV f) X := by
  refine q_Wc.of [some (.ref a0), some (.ref a1), none] mo_X4_copyFrom.2.2.2.2.2 rfl (Nat.le_of_ble_eq_true rfl) rfl ?_
  refine q_blk (pc' := 2) (lo' := [some (.ref a0), some (.ref a1), none]) (st' := [.ref a1, .ref a0]) [.aload_n 0, .aload_n 1] (by decide +kernel) rfl ?_
  obtain ⟨s1, h⟩ := h
  refine q_getI fl_X4_71 rfl (by decide) (by decide +kernel) s1 ?_
  obtain ⟨s2, h⟩ := h
  refine q_putI fw_X4_71 rfl (by decide) (by decide +kernel) s2 ?_
  refine q_blk (pc' := 9) (lo' := [some (.ref a0), some (.ref a1), none]) (st' := [.ref a1]) [.aload_n 1] (by decide +kernel) rfl ?_
  obtain ⟨r3, e4, h⟩ := h
  refine q_getR fl_X4_18 rfl (by decide) (by decide +kernel) s1 e4 ?_
  refine q_blk (pc' := 14) (lo' := [some (.ref a0), some (.ref a1), none]) (st' := [.ref a0, .int (nI 0), .ref r3]) [.iconst 0, .aload_n 0] (by decide +kernel) rfl ?_
  obtain ⟨r5, e6, h⟩ := h
  refine q_getR fl_X4_18 rfl (by decide) (by decide +kernel) s2 e6 ?_
  refine q_blk (pc' := 19) (lo' := [some (.ref a0), some (.ref a1), none]) (st' := [.ref a0, .int (nI 0), .ref r5, .int (nI 0), .ref r3]) [.iconst 0, .aload_n 0] (by decide +kernel) rfl ?_
  refine q_getR fl_X4_18 rfl (by decide) (by decide +kernel) s2 e6 ?_
  obtain ⟨z8, s7, b9, h⟩ := h
  refine q_alenI (by decide +kernel) s7 ?_
  obtain ⟨z11, s10, b12, h⟩ := h
  obtain ⟨l13, l14, h⟩ := h
  refine q_acpy cp_X4_256.1 cp_X4_256.2.1 cp_X4_256.2.2.1 cp_X4_256.2.2.2 (by decide) (Nat.le_of_ble_eq_true rfl) (by decide +kernel) rfl s10 s7 l13 l14 b9 b12 ?_
  refine q_blk (pc' := 28) (lo' := [some (.ref a0), some (.ref a1), none]) (st' := [.ref a1, .ref a0]) [.aload_n 0, .aload_n 1] (by decide +kernel) rfl ?_
  refine q_getI fl_X4_75 rfl (by decide) (by decide +kernel) s1 ?_
  refine q_putI fw_X4_75 rfl (by decide) (by decide +kernel) s2 ?_
  let A15 : q_H := (q_setI (q_rowI (q_setI A a0 0 (q_I A a1 0)) r5 (fun j => if j < z8 then q_I (q_setI A a0 0 (q_I A a1 0)) r3 j else q_I (q_setI A a0 0 (q_I A a1 0)) r5 j)) a0 3 (q_I (q_rowI (q_setI A a0 0 (q_I A a1 0)) r5 (fun j => if j < z8 then q_I (q_setI A a0 0 (q_I A a1 0)) r3 j else q_I (q_setI A a0 0 (q_I A a1 0)) r5 j)) a1 3))
  have h := h A15 rfl
  show q_Wp _ _ _ _ 0 0 34 [some (.ref a0), some (.ref a1), none] [] A15
  refine q_blk (pc' := 36) (lo' := [some (.ref a0), some (.ref a1), some (.int (nI 0))]) (st' := []) [.iconst 0, .istore_n 2] (by decide +kernel) rfl ?_
  exact h
theorem f_X4_copyFrom_36 {G : q_G} {X : String → q_H → Prop} {f : q_H → Prop} {A : q_H} {a0 : Nat} {a1 : Nat} {x2 : Int32} (h : q_sh A a0 = (5, 0) ∧ (((q_I A a0 3) ≤ x2 → q_sh A a1 = (5, 0) ∧ q_Wp G M_X4_copyFrom (q_KV f) X 0 0 75 [some (.ref a0), some (.ref a1), some (.int (nI 0))] [] (q_setI A a0 5 (q_I A a1 5))) ∧ (¬ (q_I A a0 3) ≤ x2 → ∃ r4 : Nat, q_R A a0 2 = some r4 ∧ ∃ z7 : Nat, q_sh A r4 = (66, z7) ∧ z7 < 2147483648 ∧ ∃ j9 : Nat, x2 = nI j9 ∧ j9 < z7 ∧ ∃ r12 : Nat, q_R A r4 j9 = some r12 ∧ q_sh A a1 = (5, 0) ∧ ∃ r15 : Nat, q_R A a1 2 = some r15 ∧ ∃ z18 : Nat, q_sh A r15 = (66, z18) ∧ z18 < 2147483648 ∧ j9 < z18 ∧ ∃ r21 : Nat, q_R A r15 j9 = some r21 ∧ q_sh A r12 = (7, 0) ∧ q_Wc G M_X6_copyFrom [.ref r12, .ref r21] A (q_KV fun A23 => q_Wp G M_X4_copyFrom (q_KV f) X 0 0 36 [some (.ref a0), some (.ref a1), some (.int (x2 + (nI 1)))] [] A23) q_nX))) : q_Wp G M_X4_copyFrom (q_KV f) X 0 0 36 [some (.ref a0), some (.ref a1), some (.int x2)] [] A := by
  refine q_blk (pc' := 38) (lo' := [some (.ref a0), some (.ref a1), some (.int x2)]) (st' := [.ref a0, .int x2]) [.iload_n 2, .aload_n 0] (by decide +kernel) rfl ?_
  obtain ⟨s1, h⟩ := h
  refine q_getI fl_X4_75 rfl (by decide) (by decide +kernel) s1 ?_
  refine q_icmp_ge 65 (off := 24) (by decide +kernel) (by decide) (fun c2 => ?_) (fun c2 => ?_)
  · have h := h.1 c2
    refine q_blk (pc' := 67) (lo' := [some (.ref a0), some (.ref a1), some (.int x2)]) (st' := [.ref a1, .ref a0]) [.aload_n 0, .aload_n 1] (by decide +kernel) rfl ?_
    obtain ⟨s3, h⟩ := h
    refine q_getI fl_X4_78 rfl (by decide) (by decide +kernel) s3 ?_
    refine q_putI fw_X4_78 rfl (by decide) (by decide +kernel) s1 ?_
    refine q_blk (pc' := 75) (lo' := [some (.ref a0), some (.ref a1), some (.int (nI 0))]) (st' := []) [.iconst 0, .istore_n 2] (by decide +kernel) rfl ?_
    exact h
  · have h := h.2 c2
    refine q_blk (pc' := 45) (lo' := [some (.ref a0), some (.ref a1), some (.int x2)]) (st' := [.ref a0]) [.aload_n 0] (by decide +kernel) rfl ?_
    obtain ⟨r4, e5, h⟩ := h
    refine q_getR fl_X4_25 rfl (by decide) (by decide +kernel) s1 e5 ?_
    refine q_blk (pc' := 49) (lo' := [some (.ref a0), some (.ref a1), some (.int x2)]) (st' := [.int x2, .ref r4]) [.iload_n 2] (by decide +kernel) rfl ?_
    obtain ⟨z7, s6, b8, h⟩ := h
    obtain ⟨j9, e10, h⟩ := h
    obtain ⟨l11, h⟩ := h
    obtain ⟨r12, e13, h⟩ := h
    refine q_aaldS (q_rk6 G) e10 (by decide +kernel) s6 l11 b8 e13 ?_
    refine q_blk (pc' := 51) (lo' := [some (.ref a0), some (.ref a1), some (.int x2)]) (st' := [.ref a1, .ref r12]) [.aload_n 1] (by decide +kernel) rfl ?_
    obtain ⟨s14, h⟩ := h
    obtain ⟨r15, e16, h⟩ := h
    refine q_getR fl_X4_25 rfl (by decide) (by decide +kernel) s14 e16 ?_
    refine q_blk (pc' := 55) (lo' := [some (.ref a0), some (.ref a1), some (.int x2)]) (st' := [.int x2, .ref r15, .ref r12]) [.iload_n 2] (by decide +kernel) rfl ?_
    obtain ⟨z18, s17, b19, h⟩ := h
    obtain ⟨l20, h⟩ := h
    obtain ⟨r21, e22, h⟩ := h
    refine q_aaldS (q_rk6 G) e10 (by decide +kernel) s17 l20 b19 e22 ?_
    obtain ⟨s25, h⟩ := h
    refine q_callV (ci := 6) (Mc := M_X6_copyFrom) (z := 1) (b := r12) (As := [.ref r21]) (st := []) mo_X6_copyFrom mi_X6_copyFrom ml_X4_266_X6_copyFrom rfl rfl (by decide) rfl (by decide) (by decide) rfl (Nat.le_of_ble_eq_true rfl) (by decide +kernel) s25 h (q_fV fun A23 h => ?_)
    show q_Wp _ _ _ _ 0 0 59 [some (.ref a0), some (.ref a1), some (.int x2)] [] A23
    refine q_blk (pc' := 62) (lo' := [some (.ref a0), some (.ref a1), some (.int (x2 + (nI 1)))]) (st' := []) [.iinc 2 1] (by decide +kernel) rfl ?_
    refine q_goto 36 (off := -26) (by decide +kernel) (by decide) ?_
    exact h
theorem f_X4_copyFrom_75 {G : q_G} {X : String → q_H → Prop} {f : q_H → Prop} {A : q_H} {a0 : Nat} {a1 : Nat} {x2 : Int32} (h : q_sh A a0 = (5, 0) ∧ (((q_I A a0 5) ≤ x2 → ∃ r3 : Nat, q_R A a0 6 = some r3 ∧ q_sh A a1 = (5, 0) ∧ ∃ r6 : Nat, q_R A a1 6 = some r6 ∧ q_sh A r3 = (4, 0) ∧ q_Wc G M_X3_copyFrom [.ref r3, .ref r6] A (q_KV fun A8 => q_sh A8 a0 = (5, 0) ∧ ∃ r12 : Nat, q_R A8 a0 7 = some r12 ∧ q_sh A8 a1 = (5, 0) ∧ ∃ r15 : Nat, q_R A8 a1 7 = some r15 ∧ q_sh A8 r12 = (8, 0) ∧ q_Wc G M_X7_copyFrom [.ref r12, .ref r15] A8 (q_KV fun A17 => q_sh A17 a0 = (5, 0) ∧ ∃ r21 : Nat, q_R A17 a0 8 = some r21 ∧ q_sh A17 a1 = (5, 0) ∧ ∃ r24 : Nat, q_R A17 a1 8 = some r24 ∧ q_sh A17 r21 = (3, 0) ∧ q_Wc G M_X2_copyFrom [.ref r21, .ref r24] A17 (q_KV fun A26 => q_sh A26 a0 = (5, 0) ∧ ∃ r30 : Nat, q_R A26 a0 10 = some r30 ∧ q_sh A26 a1 = (5, 0) ∧ ∃ r33 : Nat, q_R A26 a1 10 = some r33 ∧ q_sh A26 r30 = (3, 0) ∧ q_Wc G M_X2_copyFrom [.ref r30, .ref r33] A26 (q_KV fun A35 => q_sh A35 a0 = (5, 0) ∧ ∃ r39 : Nat, q_R A35 a0 11 = some r39 ∧ q_sh A35 a1 = (5, 0) ∧ ∃ r42 : Nat, q_R A35 a1 11 = some r42 ∧ q_sh A35 r39 = (3, 0) ∧ q_Wc G M_X2_copyFrom [.ref r39, .ref r42] A35 (q_KV fun A44 => q_sh A44 a0 = (5, 0) ∧ ∃ r48 : Nat, q_R A44 a0 9 = some r48 ∧ q_sh A44 a1 = (5, 0) ∧ ∃ r51 : Nat, q_R A44 a1 9 = some r51 ∧ q_sh A44 r48 = (9, 0) ∧ q_Wc G M_X8_copyFrom [.ref r48, .ref r51] A44 (q_KV fun A53 => f A53) q_nX) q_nX) q_nX) q_nX) q_nX) q_nX) ∧ (¬ (q_I A a0 5) ≤ x2 → ∃ r56 : Nat, q_R A a0 4 = some r56 ∧ ∃ z59 : Nat, q_sh A r56 = (61, z59) ∧ z59 < 2147483648 ∧ ∃ j61 : Nat, x2 = nI j61 ∧ j61 < z59 ∧ ∃ r64 : Nat, q_R A r56 j61 = some r64 ∧ q_sh A a1 = (5, 0) ∧ ∃ r67 : Nat, q_R A a1 4 = some r67 ∧ ∃ z70 : Nat, q_sh A r67 = (61, z70) ∧ z70 < 2147483648 ∧ j61 < z70 ∧ ∃ r73 : Nat, q_R A r67 j61 = some r73 ∧ q_sh A r64 = (2, 0) ∧ q_Wc G M_X1_copyFrom [.ref r64, .ref r73] A (q_KV fun A75 => q_Wp G M_X4_copyFrom (q_KV f) X 0 0 75 [some (.ref a0), some (.ref a1), some (.int (x2 + (nI 1)))] [] A75) q_nX))) : q_Wp G M_X4_copyFrom (q_KV f) X 0 0 75 [some (.ref a0), some (.ref a1), some (.int x2)] [] A := by
  refine q_blk (pc' := 77) (lo' := [some (.ref a0), some (.ref a1), some (.int x2)]) (st' := [.ref a0, .int x2]) [.iload_n 2, .aload_n 0] (by decide +kernel) rfl ?_
  obtain ⟨s1, h⟩ := h
  refine q_getI fl_X4_78 rfl (by decide) (by decide +kernel) s1 ?_
  refine q_icmp_ge 104 (off := 24) (by decide +kernel) (by decide) (fun c2 => ?_) (fun c2 => ?_)
  · have h := h.1 c2
    refine q_blk (pc' := 105) (lo' := [some (.ref a0), some (.ref a1), some (.int x2)]) (st' := [.ref a0]) [.aload_n 0] (by decide +kernel) rfl ?_
    obtain ⟨r3, e4, h⟩ := h
    refine q_getR fl_X4_38 rfl (by decide) (by decide +kernel) s1 e4 ?_
    refine q_blk (pc' := 109) (lo' := [some (.ref a0), some (.ref a1), some (.int x2)]) (st' := [.ref a1, .ref r3]) [.aload_n 1] (by decide +kernel) rfl ?_
    obtain ⟨s5, h⟩ := h
    obtain ⟨r6, e7, h⟩ := h
    refine q_getR fl_X4_38 rfl (by decide) (by decide +kernel) s5 e7 ?_
    obtain ⟨s10, h⟩ := h
    refine q_callV (ci := 3) (Mc := M_X3_copyFrom) (z := 1) (b := r3) (As := [.ref r6]) (st := []) mo_X3_copyFrom mi_X3_copyFrom ml_X4_271_X3_copyFrom rfl rfl (by decide) rfl (by decide) (by decide) rfl (Nat.le_of_ble_eq_true rfl) (by decide +kernel) s10 h (q_fV fun A8 h => ?_)
    show q_Wp _ _ _ _ 0 0 115 [some (.ref a0), some (.ref a1), some (.int x2)] [] A8
    refine q_blk (pc' := 116) (lo' := [some (.ref a0), some (.ref a1), some (.int x2)]) (st' := [.ref a0]) [.aload_n 0] (by decide +kernel) rfl ?_
    obtain ⟨s11, h⟩ := h
    obtain ⟨r12, e13, h⟩ := h
    refine q_getR fl_X4_45 rfl (by decide) (by decide +kernel) s11 e13 ?_
    refine q_blk (pc' := 120) (lo' := [some (.ref a0), some (.ref a1), some (.int x2)]) (st' := [.ref a1, .ref r12]) [.aload_n 1] (by decide +kernel) rfl ?_
    obtain ⟨s14, h⟩ := h
    obtain ⟨r15, e16, h⟩ := h
    refine q_getR fl_X4_45 rfl (by decide) (by decide +kernel) s14 e16 ?_
    obtain ⟨s19, h⟩ := h
    refine q_callV (ci := 7) (Mc := M_X7_copyFrom) (z := 1) (b := r12) (As := [.ref r15]) (st := []) mo_X7_copyFrom mi_X7_copyFrom ml_X4_274_X7_copyFrom rfl rfl (by decide) rfl (by decide) (by decide) rfl (Nat.le_of_ble_eq_true rfl) (by decide +kernel) s19 h (q_fV fun A17 h => ?_)
    show q_Wp _ _ _ _ 0 0 126 [some (.ref a0), some (.ref a1), some (.int x2)] [] A17
    refine q_blk (pc' := 127) (lo' := [some (.ref a0), some (.ref a1), some (.int x2)]) (st' := [.ref a0]) [.aload_n 0] (by decide +kernel) rfl ?_
    obtain ⟨s20, h⟩ := h
    obtain ⟨r21, e22, h⟩ := h
    refine q_getR fl_X4_52 rfl (by decide) (by decide +kernel) s20 e22 ?_
    refine q_blk (pc' := 131) (lo' := [some (.ref a0), some (.ref a1), some (.int x2)]) (st' := [.ref a1, .ref r21]) [.aload_n 1] (by decide +kernel) rfl ?_
    obtain ⟨s23, h⟩ := h
    obtain ⟨r24, e25, h⟩ := h
    refine q_getR fl_X4_52 rfl (by decide) (by decide +kernel) s23 e25 ?_
    obtain ⟨s28, h⟩ := h
    refine q_callV (ci := 2) (Mc := M_X2_copyFrom) (z := 1) (b := r21) (As := [.ref r24]) (st := []) mo_X2_copyFrom mi_X2_copyFrom ml_X4_277_X2_copyFrom rfl rfl (by decide) rfl (by decide) (by decide) rfl (Nat.le_of_ble_eq_true rfl) (by decide +kernel) s28 h (q_fV fun A26 h => ?_)
    show q_Wp _ _ _ _ 0 0 137 [some (.ref a0), some (.ref a1), some (.int x2)] [] A26
    refine q_blk (pc' := 138) (lo' := [some (.ref a0), some (.ref a1), some (.int x2)]) (st' := [.ref a0]) [.aload_n 0] (by decide +kernel) rfl ?_
    obtain ⟨s29, h⟩ := h
    obtain ⟨r30, e31, h⟩ := h
    refine q_getR fl_X4_63 rfl (by decide) (by decide +kernel) s29 e31 ?_
    refine q_blk (pc' := 142) (lo' := [some (.ref a0), some (.ref a1), some (.int x2)]) (st' := [.ref a1, .ref r30]) [.aload_n 1] (by decide +kernel) rfl ?_
    obtain ⟨s32, h⟩ := h
    obtain ⟨r33, e34, h⟩ := h
    refine q_getR fl_X4_63 rfl (by decide) (by decide +kernel) s32 e34 ?_
    obtain ⟨s37, h⟩ := h
    refine q_callV (ci := 2) (Mc := M_X2_copyFrom) (z := 1) (b := r30) (As := [.ref r33]) (st := []) mo_X2_copyFrom mi_X2_copyFrom ml_X4_277_X2_copyFrom rfl rfl (by decide) rfl (by decide) (by decide) rfl (Nat.le_of_ble_eq_true rfl) (by decide +kernel) s37 h (q_fV fun A35 h => ?_)
    show q_Wp _ _ _ _ 0 0 148 [some (.ref a0), some (.ref a1), some (.int x2)] [] A35
    refine q_blk (pc' := 149) (lo' := [some (.ref a0), some (.ref a1), some (.int x2)]) (st' := [.ref a0]) [.aload_n 0] (by decide +kernel) rfl ?_
    obtain ⟨s38, h⟩ := h
    obtain ⟨r39, e40, h⟩ := h
    refine q_getR fl_X4_66 rfl (by decide) (by decide +kernel) s38 e40 ?_
    refine q_blk (pc' := 153) (lo' := [some (.ref a0), some (.ref a1), some (.int x2)]) (st' := [.ref a1, .ref r39]) [.aload_n 1] (by decide +kernel) rfl ?_
    obtain ⟨s41, h⟩ := h
    obtain ⟨r42, e43, h⟩ := h
    refine q_getR fl_X4_66 rfl (by decide) (by decide +kernel) s41 e43 ?_
    obtain ⟨s46, h⟩ := h
    refine q_callV (ci := 2) (Mc := M_X2_copyFrom) (z := 1) (b := r39) (As := [.ref r42]) (st := []) mo_X2_copyFrom mi_X2_copyFrom ml_X4_277_X2_copyFrom rfl rfl (by decide) rfl (by decide) (by decide) rfl (Nat.le_of_ble_eq_true rfl) (by decide +kernel) s46 h (q_fV fun A44 h => ?_)
    show q_Wp _ _ _ _ 0 0 159 [some (.ref a0), some (.ref a1), some (.int x2)] [] A44
    refine q_blk (pc' := 160) (lo' := [some (.ref a0), some (.ref a1), some (.int x2)]) (st' := [.ref a0]) [.aload_n 0] (by decide +kernel) rfl ?_
    obtain ⟨s47, h⟩ := h
    obtain ⟨r48, e49, h⟩ := h
    refine q_getR fl_X4_59 rfl (by decide) (by decide +kernel) s47 e49 ?_
    refine q_blk (pc' := 164) (lo' := [some (.ref a0), some (.ref a1), some (.int x2)]) (st' := [.ref a1, .ref r48]) [.aload_n 1] (by decide +kernel) rfl ?_
    obtain ⟨s50, h⟩ := h
    obtain ⟨r51, e52, h⟩ := h
    refine q_getR fl_X4_59 rfl (by decide) (by decide +kernel) s50 e52 ?_
    obtain ⟨s55, h⟩ := h
    refine q_callV (ci := 8) (Mc := M_X8_copyFrom) (z := 1) (b := r48) (As := [.ref r51]) (st := []) mo_X8_copyFrom mi_X8_copyFrom ml_X4_262_X8_copyFrom rfl rfl (by decide) rfl (by decide) (by decide) rfl (Nat.le_of_ble_eq_true rfl) (by decide +kernel) s55 h (q_fV fun A53 h => ?_)
    show q_Wp _ _ _ _ 0 0 170 [some (.ref a0), some (.ref a1), some (.int x2)] [] A53
    exact q_ret0 rfl (by decide) (by decide) (by decide +kernel) ⟨rfl, h⟩
  · have h := h.2 c2
    refine q_blk (pc' := 84) (lo' := [some (.ref a0), some (.ref a1), some (.int x2)]) (st' := [.ref a0]) [.aload_n 0] (by decide +kernel) rfl ?_
    obtain ⟨r56, e57, h⟩ := h
    refine q_getR fl_X4_31 rfl (by decide) (by decide +kernel) s1 e57 ?_
    refine q_blk (pc' := 88) (lo' := [some (.ref a0), some (.ref a1), some (.int x2)]) (st' := [.int x2, .ref r56]) [.iload_n 2] (by decide +kernel) rfl ?_
    obtain ⟨z59, s58, b60, h⟩ := h
    obtain ⟨j61, e62, h⟩ := h
    obtain ⟨l63, h⟩ := h
    obtain ⟨r64, e65, h⟩ := h
    refine q_aaldS (q_rk1 G) e62 (by decide +kernel) s58 l63 b60 e65 ?_
    refine q_blk (pc' := 90) (lo' := [some (.ref a0), some (.ref a1), some (.int x2)]) (st' := [.ref a1, .ref r64]) [.aload_n 1] (by decide +kernel) rfl ?_
    obtain ⟨s66, h⟩ := h
    obtain ⟨r67, e68, h⟩ := h
    refine q_getR fl_X4_31 rfl (by decide) (by decide +kernel) s66 e68 ?_
    refine q_blk (pc' := 94) (lo' := [some (.ref a0), some (.ref a1), some (.int x2)]) (st' := [.int x2, .ref r67, .ref r64]) [.iload_n 2] (by decide +kernel) rfl ?_
    obtain ⟨z70, s69, b71, h⟩ := h
    obtain ⟨l72, h⟩ := h
    obtain ⟨r73, e74, h⟩ := h
    refine q_aaldS (q_rk1 G) e62 (by decide +kernel) s69 l72 b71 e74 ?_
    obtain ⟨s77, h⟩ := h
    refine q_callV (ci := 1) (Mc := M_X1_copyFrom) (z := 1) (b := r64) (As := [.ref r73]) (st := []) mo_X1_copyFrom mi_X1_copyFrom ml_X4_268_X1_copyFrom rfl rfl (by decide) rfl (by decide) (by decide) rfl (Nat.le_of_ble_eq_true rfl) (by decide +kernel) s77 h (q_fV fun A75 h => ?_)
    show q_Wp _ _ _ _ 0 0 98 [some (.ref a0), some (.ref a1), some (.int x2)] [] A75
    refine q_blk (pc' := 101) (lo' := [some (.ref a0), some (.ref a1), some (.int (x2 + (nI 1)))]) (st' := []) [.iinc 2 1] (by decide +kernel) rfl ?_
    refine q_goto 75 (off := -26) (by decide +kernel) (by decide) ?_
    exact h

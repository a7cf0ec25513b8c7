/-! CONDITIONS: RecyclingLineLaw -/
theorem f_L_setting {G : q_G} {X : String → q_H → Prop} {f : Int32 → q_H → Prop} {A : q_H} {a0 : Nat} {x1 : Int32} {a2 : Nat} (h : q_sh A a0 = (11, 0) ∧ q_Wc G M_X10_setting [.ref a0, .int x1] A (q_KI fun r2 A1 => ∃ z5 : Nat, q_sh A1 a2 = (52, z5) ∧ z5 < 2147483648 ∧ 0 < z5 ∧ f (nI 0) (q_setL A1 a2 0 (r2.toInt64))) (fun E A1 => (E = "java/lang/IndexOutOfBoundsException" ∧ f (nI 1) A1))) : q_Wc G M_L_setting [.ref a0, .int x1, .ref a2] A (q_KI f) X := by
  refine q_Wc.ofH [some (.ref a0), some (.int x1), some (.ref a2), none] mo_L_setting.2.2.2.2.2 ⟨_, _, rfl⟩ (Nat.le_of_ble_eq_true rfl) rfl ?_
  refine q_blk (pc' := 4) (lo' := [some (.ref a0), some (.int x1), some (.ref a2), none]) (st' := [.int x1, .ref a0, .int (nI 0), .ref a2]) [.aload_n 2, .iconst 0, .aload_n 0, .iload_n 1] (by decide +kernel) rfl ?_
  obtain ⟨s3, h⟩ := h
  refine q_callVX (ci := 10) (Mc := M_X10_setting) (z := 1) (b := a0) (As := [.int x1]) (st := [.int (nI 0), .ref a2]) mo_X10_setting mi_X10_setting ml_L_7_X10_setting rfl rfl (by decide) rfl (by decide) (by decide) rfl (Nat.le_of_ble_eq_true rfl) (by decide +kernel) s3 h (q_fI fun r2 A1 h => ?_) (fun E A1 h => ?_)
  · show q_Wp _ _ _ _ 1 6 7 [some (.ref a0), some (.int x1), some (.ref a2), none] [.int r2, .int (nI 0), .ref a2] A1
    refine q_blk (pc' := 8) (lo' := [some (.ref a0), some (.int x1), some (.ref a2), none]) (st' := [.long (r2.toInt64), .int (nI 0), .ref a2]) [.i2l] (by decide +kernel) rfl ?_
    obtain ⟨z5, s4, b6, h⟩ := h
    obtain ⟨l7, h⟩ := h
    refine q_last rfl (by decide +kernel) s4 l7 b6 ?_
    refine q_goto 15 (off := 6) (by decide +kernel) (by decide) ?_
    refine q_blk (pc' := 16) (lo' := [some (.ref a0), some (.int x1), some (.ref a2), none]) (st' := [.int (nI 0)]) [.iconst 0] (by decide +kernel) rfl ?_
    exact q_retI rfl (by decide) (by decide) (by decide +kernel) ⟨_, rfl, h⟩
  · obtain ⟨q9, h⟩ := h
    subst q9
    refine ⟨12, hn_L_setting_4_0, fun q8 => ?_⟩
    show q_Wp _ _ _ _ 1 6 12 [some (.ref a0), some (.int x1), some (.ref a2), none] [.ref q8] A1
    refine q_blk (pc' := 14) (lo' := [some (.ref a0), some (.int x1), some (.ref a2), some (.ref q8)]) (st' := [.int (nI 1)]) [.astore_n 3, .iconst 1] (by decide +kernel) rfl ?_
    exact q_retI rfl (by decide) (by decide) (by decide +kernel) ⟨_, rfl, h⟩
theorem f_L_station {G : q_G} {X : String → q_H → Prop} {f : Int32 → q_H → Prop} {A : q_H} {a0 : Nat} {x1 : Int32} {x2 : Int32} {a3 : Nat} (h : q_sh A a0 = (11, 0) ∧ q_Wc G M_X10_station [.ref a0, .int x1, .int x2] A (q_KI fun r2 A1 => ∃ z5 : Nat, q_sh A1 a3 = (52, z5) ∧ z5 < 2147483648 ∧ 0 < z5 ∧ f (nI 0) (q_setL A1 a3 0 (r2.toInt64))) (fun E A1 => (E = "java/lang/IndexOutOfBoundsException" ∧ f (nI 1) A1) ∨ (E = "java/lang/IllegalArgumentException" ∧ f (nI 2) A1))) : q_Wc G M_L_station [.ref a0, .int x1, .int x2, .ref a3] A (q_KI f) X := by
  refine q_Wc.ofH [some (.ref a0), some (.int x1), some (.int x2), some (.ref a3), none] mo_L_station.2.2.2.2.2 ⟨_, _, rfl⟩ (Nat.le_of_ble_eq_true rfl) rfl ?_
  refine q_blk (pc' := 5) (lo' := [some (.ref a0), some (.int x1), some (.int x2), some (.ref a3), none]) (st' := [.int x2, .int x1, .ref a0, .int (nI 0), .ref a3]) [.aload_n 3, .iconst 0, .aload_n 0, .iload_n 1, .iload_n 2] (by decide +kernel) rfl ?_
  obtain ⟨s3, h⟩ := h
  refine q_callVX (ci := 10) (Mc := M_X10_station) (z := 2) (b := a0) (As := [.int x1, .int x2]) (st := [.int (nI 0), .ref a3]) mo_X10_station mi_X10_station ml_L_15_X10_station rfl rfl (by decide) rfl (by decide) (by decide) rfl (Nat.le_of_ble_eq_true rfl) (by decide +kernel) s3 h (q_fI fun r2 A1 h => ?_) (fun E A1 h => ?_)
  · show q_Wp _ _ _ _ 2 12 8 [some (.ref a0), some (.int x1), some (.int x2), some (.ref a3), none] [.int r2, .int (nI 0), .ref a3] A1
    refine q_blk (pc' := 9) (lo' := [some (.ref a0), some (.int x1), some (.int x2), some (.ref a3), none]) (st' := [.long (r2.toInt64), .int (nI 0), .ref a3]) [.i2l] (by decide +kernel) rfl ?_
    obtain ⟨z5, s4, b6, h⟩ := h
    obtain ⟨l7, h⟩ := h
    refine q_last rfl (by decide +kernel) s4 l7 b6 ?_
    refine q_goto 21 (off := 11) (by decide +kernel) (by decide) ?_
    refine q_blk (pc' := 22) (lo' := [some (.ref a0), some (.int x1), some (.int x2), some (.ref a3), none]) (st' := [.int (nI 0)]) [.iconst 0] (by decide +kernel) rfl ?_
    exact q_retI rfl (by decide) (by decide) (by decide +kernel) ⟨_, rfl, h⟩
  · rcases h with ⟨q9, h⟩ | ⟨q9, h⟩
    · subst q9
      refine ⟨13, hn_L_station_5_0, fun q8 => ?_⟩
      show q_Wp _ _ _ _ 2 12 13 [some (.ref a0), some (.int x1), some (.int x2), some (.ref a3), none] [.ref q8] A1
      refine q_blk (pc' := 16) (lo' := [some (.ref a0), some (.int x1), some (.int x2), some (.ref a3), some (.ref q8)]) (st' := [.int (nI 1)]) [.astore 4, .iconst 1] (by decide +kernel) rfl ?_
      exact q_retI rfl (by decide) (by decide) (by decide +kernel) ⟨_, rfl, h⟩
    · subst q9
      refine ⟨17, hn_L_station_5_1, fun q8 => ?_⟩
      show q_Wp _ _ _ _ 2 12 17 [some (.ref a0), some (.int x1), some (.int x2), some (.ref a3), none] [.ref q8] A1
      refine q_blk (pc' := 20) (lo' := [some (.ref a0), some (.int x1), some (.int x2), some (.ref a3), some (.ref q8)]) (st' := [.int (nI 2)]) [.astore 4, .iconst 2] (by decide +kernel) rfl ?_
      exact q_retI rfl (by decide) (by decide) (by decide +kernel) ⟨_, rfl, h⟩
theorem f_L_mass {G : q_G} {X : String → q_H → Prop} {f : Int32 → q_H → Prop} {A : q_H} {a0 : Nat} {x1 : Int32} {x2 : Int32} {a3 : Nat} (h : q_sh A a0 = (11, 0) ∧ q_Wc G M_X10_mass [.ref a0, .int x1, .int x2] A (q_KI fun r2 A1 => ∃ z5 : Nat, q_sh A1 a3 = (52, z5) ∧ z5 < 2147483648 ∧ 0 < z5 ∧ f (nI 0) (q_setL A1 a3 0 (r2.toInt64))) (fun E A1 => (E = "java/lang/IllegalArgumentException" ∧ f (nI 1) A1) ∨ (E = "java/lang/IndexOutOfBoundsException" ∧ f (nI 2) A1))) : q_Wc G M_L_mass [.ref a0, .int x1, .int x2, .ref a3] A (q_KI f) X := by
  refine q_Wc.ofH [some (.ref a0), some (.int x1), some (.int x2), some (.ref a3), none] mo_L_mass.2.2.2.2.2 ⟨_, _, rfl⟩ (Nat.le_of_ble_eq_true rfl) rfl ?_
  refine q_blk (pc' := 5) (lo' := [some (.ref a0), some (.int x1), some (.int x2), some (.ref a3), none]) (st' := [.int x2, .int x1, .ref a0, .int (nI 0), .ref a3]) [.aload_n 3, .iconst 0, .aload_n 0, .iload_n 1, .iload_n 2] (by decide +kernel) rfl ?_
  obtain ⟨s3, h⟩ := h
  refine q_callVX (ci := 10) (Mc := M_X10_mass) (z := 2) (b := a0) (As := [.int x1, .int x2]) (st := [.int (nI 0), .ref a3]) mo_X10_mass mi_X10_mass ml_L_21_X10_mass rfl rfl (by decide) rfl (by decide) (by decide) rfl (Nat.le_of_ble_eq_true rfl) (by decide +kernel) s3 h (q_fI fun r2 A1 h => ?_) (fun E A1 h => ?_)
  · show q_Wp _ _ _ _ 2 12 8 [some (.ref a0), some (.int x1), some (.int x2), some (.ref a3), none] [.int r2, .int (nI 0), .ref a3] A1
    refine q_blk (pc' := 9) (lo' := [some (.ref a0), some (.int x1), some (.int x2), some (.ref a3), none]) (st' := [.long (r2.toInt64), .int (nI 0), .ref a3]) [.i2l] (by decide +kernel) rfl ?_
    obtain ⟨z5, s4, b6, h⟩ := h
    obtain ⟨l7, h⟩ := h
    refine q_last rfl (by decide +kernel) s4 l7 b6 ?_
    refine q_goto 21 (off := 11) (by decide +kernel) (by decide) ?_
    refine q_blk (pc' := 22) (lo' := [some (.ref a0), some (.int x1), some (.int x2), some (.ref a3), none]) (st' := [.int (nI 0)]) [.iconst 0] (by decide +kernel) rfl ?_
    exact q_retI rfl (by decide) (by decide) (by decide +kernel) ⟨_, rfl, h⟩
  · rcases h with ⟨q9, h⟩ | ⟨q9, h⟩
    · subst q9
      refine ⟨13, hn_L_mass_5_0, fun q8 => ?_⟩
      show q_Wp _ _ _ _ 2 12 13 [some (.ref a0), some (.int x1), some (.int x2), some (.ref a3), none] [.ref q8] A1
      refine q_blk (pc' := 16) (lo' := [some (.ref a0), some (.int x1), some (.int x2), some (.ref a3), some (.ref q8)]) (st' := [.int (nI 1)]) [.astore 4, .iconst 1] (by decide +kernel) rfl ?_
      exact q_retI rfl (by decide) (by decide) (by decide +kernel) ⟨_, rfl, h⟩
    · subst q9
      refine ⟨17, hn_L_mass_5_1, fun q8 => ?_⟩
      show q_Wp _ _ _ _ 2 12 17 [some (.ref a0), some (.int x1), some (.int x2), some (.ref a3), none] [.ref q8] A1
      refine q_blk (pc' := 20) (lo' := [some (.ref a0), some (.int x1), some (.int x2), some (.ref a3), some (.ref q8)]) (st' := [.int (nI 2)]) [.astore 4, .iconst 2] (by decide +kernel) rfl ?_
      exact q_retI rfl (by decide) (by decide) (by decide +kernel) ⟨_, rfl, h⟩
theorem f_L_bale {G : q_G} {X : String → q_H → Prop} {f : Int32 → q_H → Prop} {A : q_H} {a0 : Nat} {x1 : Int32} {x2 : Int32} {a3 : Nat} (h : q_sh A a0 = (11, 0) ∧ q_Wc G M_X10_bale [.ref a0, .int x1, .int x2] A (q_KI fun r2 A1 => ∃ z5 : Nat, q_sh A1 a3 = (52, z5) ∧ z5 < 2147483648 ∧ 0 < z5 ∧ f (nI 0) (q_setL A1 a3 0 (r2.toInt64))) (fun E A1 => (E = "java/lang/IndexOutOfBoundsException" ∧ f (nI 1) A1) ∨ (E = "java/lang/IllegalArgumentException" ∧ f (nI 2) A1))) : q_Wc G M_L_bale [.ref a0, .int x1, .int x2, .ref a3] A (q_KI f) X := by
  refine q_Wc.ofH [some (.ref a0), some (.int x1), some (.int x2), some (.ref a3), none] mo_L_bale.2.2.2.2.2 ⟨_, _, rfl⟩ (Nat.le_of_ble_eq_true rfl) rfl ?_
  refine q_blk (pc' := 5) (lo' := [some (.ref a0), some (.int x1), some (.int x2), some (.ref a3), none]) (st' := [.int x2, .int x1, .ref a0, .int (nI 0), .ref a3]) [.aload_n 3, .iconst 0, .aload_n 0, .iload_n 1, .iload_n 2] (by decide +kernel) rfl ?_
  obtain ⟨s3, h⟩ := h
  refine q_callVX (ci := 10) (Mc := M_X10_bale) (z := 2) (b := a0) (As := [.int x1, .int x2]) (st := [.int (nI 0), .ref a3]) mo_X10_bale mi_X10_bale ml_L_24_X10_bale rfl rfl (by decide) rfl (by decide) (by decide) rfl (Nat.le_of_ble_eq_true rfl) (by decide +kernel) s3 h (q_fI fun r2 A1 h => ?_) (fun E A1 h => ?_)
  · show q_Wp _ _ _ _ 2 12 8 [some (.ref a0), some (.int x1), some (.int x2), some (.ref a3), none] [.int r2, .int (nI 0), .ref a3] A1
    refine q_blk (pc' := 9) (lo' := [some (.ref a0), some (.int x1), some (.int x2), some (.ref a3), none]) (st' := [.long (r2.toInt64), .int (nI 0), .ref a3]) [.i2l] (by decide +kernel) rfl ?_
    obtain ⟨z5, s4, b6, h⟩ := h
    obtain ⟨l7, h⟩ := h
    refine q_last rfl (by decide +kernel) s4 l7 b6 ?_
    refine q_goto 21 (off := 11) (by decide +kernel) (by decide) ?_
    refine q_blk (pc' := 22) (lo' := [some (.ref a0), some (.int x1), some (.int x2), some (.ref a3), none]) (st' := [.int (nI 0)]) [.iconst 0] (by decide +kernel) rfl ?_
    exact q_retI rfl (by decide) (by decide) (by decide +kernel) ⟨_, rfl, h⟩
  · rcases h with ⟨q9, h⟩ | ⟨q9, h⟩
    · subst q9
      refine ⟨13, hn_L_bale_5_0, fun q8 => ?_⟩
      show q_Wp _ _ _ _ 2 12 13 [some (.ref a0), some (.int x1), some (.int x2), some (.ref a3), none] [.ref q8] A1
      refine q_blk (pc' := 16) (lo' := [some (.ref a0), some (.int x1), some (.int x2), some (.ref a3), some (.ref q8)]) (st' := [.int (nI 1)]) [.astore 4, .iconst 1] (by decide +kernel) rfl ?_
      exact q_retI rfl (by decide) (by decide) (by decide +kernel) ⟨_, rfl, h⟩
    · subst q9
      refine ⟨17, hn_L_bale_5_1, fun q8 => ?_⟩
      show q_Wp _ _ _ _ 2 12 17 [some (.ref a0), some (.int x1), some (.int x2), some (.ref a3), none] [.ref q8] A1
      refine q_blk (pc' := 20) (lo' := [some (.ref a0), some (.int x1), some (.int x2), some (.ref a3), some (.ref q8)]) (st' := [.int (nI 2)]) [.astore 4, .iconst 2] (by decide +kernel) rfl ?_
      exact q_retI rfl (by decide) (by decide) (by decide +kernel) ⟨_, rfl, h⟩
theorem f_L_buyer {G : q_G} {X : String → q_H → Prop} {f : Int32 → q_H → Prop} {A : q_H} {a0 : Nat} {x1 : Int32} {x2 : Int32} {a3 : Nat} (h : q_sh A a0 = (11, 0) ∧ q_Wc G M_X10_buyer [.ref a0, .int x1, .int x2] A (q_KI fun r2 A1 => ∃ z5 : Nat, q_sh A1 a3 = (52, z5) ∧ z5 < 2147483648 ∧ 0 < z5 ∧ f (nI 0) (q_setL A1 a3 0 (r2.toInt64))) (fun E A1 => (E = "java/lang/IndexOutOfBoundsException" ∧ f (nI 1) A1) ∨ (E = "java/lang/IllegalArgumentException" ∧ f (nI 2) A1))) : q_Wc G M_L_buyer [.ref a0, .int x1, .int x2, .ref a3] A (q_KI f) X := by
  refine q_Wc.ofH [some (.ref a0), some (.int x1), some (.int x2), some (.ref a3), none] mo_L_buyer.2.2.2.2.2 ⟨_, _, rfl⟩ (Nat.le_of_ble_eq_true rfl) rfl ?_
  refine q_blk (pc' := 5) (lo' := [some (.ref a0), some (.int x1), some (.int x2), some (.ref a3), none]) (st' := [.int x2, .int x1, .ref a0, .int (nI 0), .ref a3]) [.aload_n 3, .iconst 0, .aload_n 0, .iload_n 1, .iload_n 2] (by decide +kernel) rfl ?_
  obtain ⟨s3, h⟩ := h
  refine q_callVX (ci := 10) (Mc := M_X10_buyer) (z := 2) (b := a0) (As := [.int x1, .int x2]) (st := [.int (nI 0), .ref a3]) mo_X10_buyer mi_X10_buyer ml_L_27_X10_buyer rfl rfl (by decide) rfl (by decide) (by decide) rfl (Nat.le_of_ble_eq_true rfl) (by decide +kernel) s3 h (q_fI fun r2 A1 h => ?_) (fun E A1 h => ?_)
  · show q_Wp _ _ _ _ 2 12 8 [some (.ref a0), some (.int x1), some (.int x2), some (.ref a3), none] [.int r2, .int (nI 0), .ref a3] A1
    refine q_blk (pc' := 9) (lo' := [some (.ref a0), some (.int x1), some (.int x2), some (.ref a3), none]) (st' := [.long (r2.toInt64), .int (nI 0), .ref a3]) [.i2l] (by decide +kernel) rfl ?_
    obtain ⟨z5, s4, b6, h⟩ := h
    obtain ⟨l7, h⟩ := h
    refine q_last rfl (by decide +kernel) s4 l7 b6 ?_
    refine q_goto 21 (off := 11) (by decide +kernel) (by decide) ?_
    refine q_blk (pc' := 22) (lo' := [some (.ref a0), some (.int x1), some (.int x2), some (.ref a3), none]) (st' := [.int (nI 0)]) [.iconst 0] (by decide +kernel) rfl ?_
    exact q_retI rfl (by decide) (by decide) (by decide +kernel) ⟨_, rfl, h⟩
  · rcases h with ⟨q9, h⟩ | ⟨q9, h⟩
    · subst q9
      refine ⟨13, hn_L_buyer_5_0, fun q8 => ?_⟩
      show q_Wp _ _ _ _ 2 12 13 [some (.ref a0), some (.int x1), some (.int x2), some (.ref a3), none] [.ref q8] A1
      refine q_blk (pc' := 16) (lo' := [some (.ref a0), some (.int x1), some (.int x2), some (.ref a3), some (.ref q8)]) (st' := [.int (nI 1)]) [.astore 4, .iconst 1] (by decide +kernel) rfl ?_
      exact q_retI rfl (by decide) (by decide) (by decide +kernel) ⟨_, rfl, h⟩
    · subst q9
      refine ⟨17, hn_L_buyer_5_1, fun q8 => ?_⟩
      show q_Wp _ _ _ _ 2 12 17 [some (.ref a0), some (.int x1), some (.int x2), some (.ref a3), none] [.ref q8] A1
      refine q_blk (pc' := 20) (lo' := [some (.ref a0), some (.int x1), some (.int x2), some (.ref a3), some (.ref q8)]) (st' := [.int (nI 2)]) [.astore 4, .iconst 2] (by decide +kernel) rfl ?_
      exact q_retI rfl (by decide) (by decide) (by decide +kernel) ⟨_, rfl, h⟩
theorem f_L_purity {G : q_G} {X : String → q_H → Prop} {f : Int32 → q_H → Prop} {A : q_H} {a0 : Nat} {x1 : Int32} {a2 : Nat} (h : q_sh A a0 = (11, 0) ∧ q_Wc G M_X10_purity [.ref a0, .int x1] A (q_KD fun r2 A1 => ∃ z5 : Nat, q_sh A1 a2 = (53, z5) ∧ z5 < 2147483648 ∧ 0 < z5 ∧ f (nI 0) (q_setD A1 a2 0 r2)) (fun E A1 => (E = "java/lang/IndexOutOfBoundsException" ∧ f (nI 1) A1))) : q_Wc G M_L_purity [.ref a0, .int x1, .ref a2] A (q_KI f) X := by
  refine q_Wc.ofH [some (.ref a0), some (.int x1), some (.ref a2), none] mo_L_purity.2.2.2.2.2 ⟨_, _, rfl⟩ (Nat.le_of_ble_eq_true rfl) rfl ?_
  refine q_blk (pc' := 4) (lo' := [some (.ref a0), some (.int x1), some (.ref a2), none]) (st' := [.int x1, .ref a0, .int (nI 0), .ref a2]) [.aload_n 2, .iconst 0, .aload_n 0, .iload_n 1] (by decide +kernel) rfl ?_
  obtain ⟨s3, h⟩ := h
  refine q_callVX (ci := 10) (Mc := M_X10_purity) (z := 1) (b := a0) (As := [.int x1]) (st := [.int (nI 0), .ref a2]) mo_X10_purity mi_X10_purity ml_L_30_X10_purity rfl rfl (by decide) rfl (by decide) (by decide) rfl (Nat.le_of_ble_eq_true rfl) (by decide +kernel) s3 h (q_fD fun r2 A1 h => ?_) (fun E A1 h => ?_)
  · show q_Wp _ _ _ _ 1 6 7 [some (.ref a0), some (.int x1), some (.ref a2), none] [.double r2, .int (nI 0), .ref a2] A1
    obtain ⟨z5, s4, b6, h⟩ := h
    obtain ⟨l7, h⟩ := h
    refine q_dast rfl (by decide +kernel) s4 l7 b6 ?_
    refine q_goto 14 (off := 6) (by decide +kernel) (by decide) ?_
    refine q_blk (pc' := 15) (lo' := [some (.ref a0), some (.int x1), some (.ref a2), none]) (st' := [.int (nI 0)]) [.iconst 0] (by decide +kernel) rfl ?_
    exact q_retI rfl (by decide) (by decide) (by decide +kernel) ⟨_, rfl, h⟩
  · obtain ⟨q9, h⟩ := h
    subst q9
    refine ⟨11, hn_L_purity_4_0, fun q8 => ?_⟩
    show q_Wp _ _ _ _ 1 6 11 [some (.ref a0), some (.int x1), some (.ref a2), none] [.ref q8] A1
    refine q_blk (pc' := 13) (lo' := [some (.ref a0), some (.int x1), some (.ref a2), some (.ref q8)]) (st' := [.int (nI 1)]) [.astore_n 3, .iconst 1] (by decide +kernel) rfl ?_
    exact q_retI rfl (by decide) (by decide) (by decide +kernel) ⟨_, rfl, h⟩
theorem f_L_load {G : q_G} {X : String → q_H → Prop} {f : Int32 → q_H → Prop} {A : q_H} {a0 : Nat} {x1 : Int32} {x2 : Int32} {a3 : Nat} (h : q_sh A a0 = (11, 0) ∧ q_Wc G M_X10_load [.ref a0, .int x1, .int x2] A (q_KI fun r2 A1 => ∃ z5 : Nat, q_sh A1 a3 = (52, z5) ∧ z5 < 2147483648 ∧ 0 < z5 ∧ f (nI 0) (q_setL A1 a3 0 (r2.toInt64))) (fun E A1 => (E = "java/lang/IndexOutOfBoundsException" ∧ f (nI 1) A1) ∨ (E = "java/lang/IllegalArgumentException" ∧ f (nI 2) A1) ∨ (E = "java/lang/IllegalStateException" ∧ f (nI 3) A1))) : q_Wc G M_L_load [.ref a0, .int x1, .int x2, .ref a3] A (q_KI f) X := by
  refine q_Wc.ofH [some (.ref a0), some (.int x1), some (.int x2), some (.ref a3), none] mo_L_load.2.2.2.2.2 ⟨_, _, rfl⟩ (Nat.le_of_ble_eq_true rfl) rfl ?_
  refine q_blk (pc' := 5) (lo' := [some (.ref a0), some (.int x1), some (.int x2), some (.ref a3), none]) (st' := [.int x2, .int x1, .ref a0, .int (nI 0), .ref a3]) [.aload_n 3, .iconst 0, .aload_n 0, .iload_n 1, .iload_n 2] (by decide +kernel) rfl ?_
  obtain ⟨s3, h⟩ := h
  refine q_callVX (ci := 10) (Mc := M_X10_load) (z := 2) (b := a0) (As := [.int x1, .int x2]) (st := [.int (nI 0), .ref a3]) mo_X10_load mi_X10_load ml_L_34_X10_load rfl rfl (by decide) rfl (by decide) (by decide) rfl (Nat.le_of_ble_eq_true rfl) (by decide +kernel) s3 h (q_fI fun r2 A1 h => ?_) (fun E A1 h => ?_)
  · show q_Wp _ _ _ _ 280 1223 8 [some (.ref a0), some (.int x1), some (.int x2), some (.ref a3), none] [.int r2, .int (nI 0), .ref a3] A1
    refine q_blk (pc' := 9) (lo' := [some (.ref a0), some (.int x1), some (.int x2), some (.ref a3), none]) (st' := [.long (r2.toInt64), .int (nI 0), .ref a3]) [.i2l] (by decide +kernel) rfl ?_
    obtain ⟨z5, s4, b6, h⟩ := h
    obtain ⟨l7, h⟩ := h
    refine q_last rfl (by decide +kernel) s4 l7 b6 ?_
    refine q_goto 25 (off := 15) (by decide +kernel) (by decide) ?_
    refine q_blk (pc' := 26) (lo' := [some (.ref a0), some (.int x1), some (.int x2), some (.ref a3), none]) (st' := [.int (nI 0)]) [.iconst 0] (by decide +kernel) rfl ?_
    exact q_retI rfl (by decide) (by decide) (by decide +kernel) ⟨_, rfl, h⟩
  · rcases h with ⟨q9, h⟩ | ⟨q9, h⟩ | ⟨q9, h⟩
    · subst q9
      refine ⟨13, hn_L_load_5_0, fun q8 => ?_⟩
      show q_Wp _ _ _ _ 280 1223 13 [some (.ref a0), some (.int x1), some (.int x2), some (.ref a3), none] [.ref q8] A1
      refine q_blk (pc' := 16) (lo' := [some (.ref a0), some (.int x1), some (.int x2), some (.ref a3), some (.ref q8)]) (st' := [.int (nI 1)]) [.astore 4, .iconst 1] (by decide +kernel) rfl ?_
      exact q_retI rfl (by decide) (by decide) (by decide +kernel) ⟨_, rfl, h⟩
    · subst q9
      refine ⟨17, hn_L_load_5_1, fun q8 => ?_⟩
      show q_Wp _ _ _ _ 280 1223 17 [some (.ref a0), some (.int x1), some (.int x2), some (.ref a3), none] [.ref q8] A1
      refine q_blk (pc' := 20) (lo' := [some (.ref a0), some (.int x1), some (.int x2), some (.ref a3), some (.ref q8)]) (st' := [.int (nI 2)]) [.astore 4, .iconst 2] (by decide +kernel) rfl ?_
      exact q_retI rfl (by decide) (by decide) (by decide +kernel) ⟨_, rfl, h⟩
    · subst q9
      refine ⟨21, hn_L_load_5_2, fun q8 => ?_⟩
      show q_Wp _ _ _ _ 280 1223 21 [some (.ref a0), some (.int x1), some (.int x2), some (.ref a3), none] [.ref q8] A1
      refine q_blk (pc' := 24) (lo' := [some (.ref a0), some (.int x1), some (.int x2), some (.ref a3), some (.ref q8)]) (st' := [.int (nI 3)]) [.astore 4, .iconst 3] (by decide +kernel) rfl ?_
      exact q_retI rfl (by decide) (by decide) (by decide +kernel) ⟨_, rfl, h⟩
theorem f_L_set {G : q_G} {X : String → q_H → Prop} {f : Int32 → q_H → Prop} {A : q_H} {a0 : Nat} {x1 : Int32} {x2 : Int32} {a3 : Nat} (h : q_sh A a0 = (11, 0) ∧ q_Wc G M_X10_set [.ref a0, .int x1, .int x2] A (q_KI fun r2 A1 => ∃ z5 : Nat, q_sh A1 a3 = (52, z5) ∧ z5 < 2147483648 ∧ 0 < z5 ∧ f (nI 0) (q_setL A1 a3 0 (r2.toInt64))) (fun E A1 => (E = "java/lang/IndexOutOfBoundsException" ∧ f (nI 1) A1) ∨ (E = "java/lang/IllegalArgumentException" ∧ f (nI 2) A1))) : q_Wc G M_L_set [.ref a0, .int x1, .int x2, .ref a3] A (q_KI f) X := by
  refine q_Wc.ofH [some (.ref a0), some (.int x1), some (.int x2), some (.ref a3), none] mo_L_set.2.2.2.2.2 ⟨_, _, rfl⟩ (Nat.le_of_ble_eq_true rfl) rfl ?_
  refine q_blk (pc' := 5) (lo' := [some (.ref a0), some (.int x1), some (.int x2), some (.ref a3), none]) (st' := [.int x2, .int x1, .ref a0, .int (nI 0), .ref a3]) [.aload_n 3, .iconst 0, .aload_n 0, .iload_n 1, .iload_n 2] (by decide +kernel) rfl ?_
  obtain ⟨s3, h⟩ := h
  refine q_callVX (ci := 10) (Mc := M_X10_set) (z := 2) (b := a0) (As := [.int x1, .int x2]) (st := [.int (nI 0), .ref a3]) mo_X10_set mi_X10_set ml_L_39_X10_set rfl rfl (by decide) rfl (by decide) (by decide) rfl (Nat.le_of_ble_eq_true rfl) (by decide +kernel) s3 h (q_fI fun r2 A1 h => ?_) (fun E A1 h => ?_)
  · show q_Wp _ _ _ _ 279 1217 8 [some (.ref a0), some (.int x1), some (.int x2), some (.ref a3), none] [.int r2, .int (nI 0), .ref a3] A1
    refine q_blk (pc' := 9) (lo' := [some (.ref a0), some (.int x1), some (.int x2), some (.ref a3), none]) (st' := [.long (r2.toInt64), .int (nI 0), .ref a3]) [.i2l] (by decide +kernel) rfl ?_
    obtain ⟨z5, s4, b6, h⟩ := h
    obtain ⟨l7, h⟩ := h
    refine q_last rfl (by decide +kernel) s4 l7 b6 ?_
    refine q_goto 21 (off := 11) (by decide +kernel) (by decide) ?_
    refine q_blk (pc' := 22) (lo' := [some (.ref a0), some (.int x1), some (.int x2), some (.ref a3), none]) (st' := [.int (nI 0)]) [.iconst 0] (by decide +kernel) rfl ?_
    exact q_retI rfl (by decide) (by decide) (by decide +kernel) ⟨_, rfl, h⟩
  · rcases h with ⟨q9, h⟩ | ⟨q9, h⟩
    · subst q9
      refine ⟨13, hn_L_set_5_0, fun q8 => ?_⟩
      show q_Wp _ _ _ _ 279 1217 13 [some (.ref a0), some (.int x1), some (.int x2), some (.ref a3), none] [.ref q8] A1
      refine q_blk (pc' := 16) (lo' := [some (.ref a0), some (.int x1), some (.int x2), some (.ref a3), some (.ref q8)]) (st' := [.int (nI 1)]) [.astore 4, .iconst 1] (by decide +kernel) rfl ?_
      exact q_retI rfl (by decide) (by decide) (by decide +kernel) ⟨_, rfl, h⟩
    · subst q9
      refine ⟨17, hn_L_set_5_1, fun q8 => ?_⟩
      show q_Wp _ _ _ _ 279 1217 17 [some (.ref a0), some (.int x1), some (.int x2), some (.ref a3), none] [.ref q8] A1
      refine q_blk (pc' := 20) (lo' := [some (.ref a0), some (.int x1), some (.int x2), some (.ref a3), some (.ref q8)]) (st' := [.int (nI 2)]) [.astore 4, .iconst 2] (by decide +kernel) rfl ?_
      exact q_retI rfl (by decide) (by decide) (by decide +kernel) ⟨_, rfl, h⟩
theorem f_L_staff {G : q_G} {X : String → q_H → Prop} {f : Int32 → q_H → Prop} {A : q_H} {a0 : Nat} {x1 : Int32} {x2 : Int32} {a3 : Nat} (h : q_sh A a0 = (11, 0) ∧ q_Wc G M_X10_staff [.ref a0, .int x1, .int x2] A (q_KI fun r2 A1 => ∃ z5 : Nat, q_sh A1 a3 = (52, z5) ∧ z5 < 2147483648 ∧ 0 < z5 ∧ f (nI 0) (q_setL A1 a3 0 (r2.toInt64))) (fun E A1 => (E = "java/lang/IndexOutOfBoundsException" ∧ f (nI 1) A1) ∨ (E = "java/lang/IllegalArgumentException" ∧ f (nI 2) A1))) : q_Wc G M_L_staff [.ref a0, .int x1, .int x2, .ref a3] A (q_KI f) X := by
  refine q_Wc.ofH [some (.ref a0), some (.int x1), some (.int x2), some (.ref a3), none] mo_L_staff.2.2.2.2.2 ⟨_, _, rfl⟩ (Nat.le_of_ble_eq_true rfl) rfl ?_
  refine q_blk (pc' := 5) (lo' := [some (.ref a0), some (.int x1), some (.int x2), some (.ref a3), none]) (st' := [.int x2, .int x1, .ref a0, .int (nI 0), .ref a3]) [.aload_n 3, .iconst 0, .aload_n 0, .iload_n 1, .iload_n 2] (by decide +kernel) rfl ?_
  obtain ⟨s3, h⟩ := h
  refine q_callVX (ci := 10) (Mc := M_X10_staff) (z := 2) (b := a0) (As := [.int x1, .int x2]) (st := [.int (nI 0), .ref a3]) mo_X10_staff mi_X10_staff ml_L_42_X10_staff rfl rfl (by decide) rfl (by decide) (by decide) rfl (Nat.le_of_ble_eq_true rfl) (by decide +kernel) s3 h (q_fI fun r2 A1 h => ?_) (fun E A1 h => ?_)
  · show q_Wp _ _ _ _ 279 1217 8 [some (.ref a0), some (.int x1), some (.int x2), some (.ref a3), none] [.int r2, .int (nI 0), .ref a3] A1
    refine q_blk (pc' := 9) (lo' := [some (.ref a0), some (.int x1), some (.int x2), some (.ref a3), none]) (st' := [.long (r2.toInt64), .int (nI 0), .ref a3]) [.i2l] (by decide +kernel) rfl ?_
    obtain ⟨z5, s4, b6, h⟩ := h
    obtain ⟨l7, h⟩ := h
    refine q_last rfl (by decide +kernel) s4 l7 b6 ?_
    refine q_goto 21 (off := 11) (by decide +kernel) (by decide) ?_
    refine q_blk (pc' := 22) (lo' := [some (.ref a0), some (.int x1), some (.int x2), some (.ref a3), none]) (st' := [.int (nI 0)]) [.iconst 0] (by decide +kernel) rfl ?_
    exact q_retI rfl (by decide) (by decide) (by decide +kernel) ⟨_, rfl, h⟩
  · rcases h with ⟨q9, h⟩ | ⟨q9, h⟩
    · subst q9
      refine ⟨13, hn_L_staff_5_0, fun q8 => ?_⟩
      show q_Wp _ _ _ _ 279 1217 13 [some (.ref a0), some (.int x1), some (.int x2), some (.ref a3), none] [.ref q8] A1
      refine q_blk (pc' := 16) (lo' := [some (.ref a0), some (.int x1), some (.int x2), some (.ref a3), some (.ref q8)]) (st' := [.int (nI 1)]) [.astore 4, .iconst 1] (by decide +kernel) rfl ?_
      exact q_retI rfl (by decide) (by decide) (by decide +kernel) ⟨_, rfl, h⟩
    · subst q9
      refine ⟨17, hn_L_staff_5_1, fun q8 => ?_⟩
      show q_Wp _ _ _ _ 279 1217 17 [some (.ref a0), some (.int x1), some (.int x2), some (.ref a3), none] [.ref q8] A1
      refine q_blk (pc' := 20) (lo' := [some (.ref a0), some (.int x1), some (.int x2), some (.ref a3), some (.ref q8)]) (st' := [.int (nI 2)]) [.astore 4, .iconst 2] (by decide +kernel) rfl ?_
      exact q_retI rfl (by decide) (by decide) (by decide +kernel) ⟨_, rfl, h⟩
theorem f_L_run {G : q_G} {X : String → q_H → Prop} {f : Int32 → q_H → Prop} {A : q_H} {a0 : Nat} {x1 : Int32} {a2 : Nat} (h : q_sh A a0 = (11, 0) ∧ q_Wc G M_X10_run [.ref a0, .int x1] A (q_KI fun r2 A1 => ∃ z5 : Nat, q_sh A1 a2 = (52, z5) ∧ z5 < 2147483648 ∧ 0 < z5 ∧ f (nI 0) (q_setL A1 a2 0 (r2.toInt64))) (fun E A1 => (E = "java/lang/IllegalArgumentException" ∧ f (nI 1) A1) ∨ (E = "java/lang/IllegalStateException" ∧ f (nI 2) A1))) : q_Wc G M_L_run [.ref a0, .int x1, .ref a2] A (q_KI f) X := by
  refine q_Wc.ofH [some (.ref a0), some (.int x1), some (.ref a2), none] mo_L_run.2.2.2.2.2 ⟨_, _, rfl⟩ (Nat.le_of_ble_eq_true rfl) rfl ?_
  refine q_blk (pc' := 4) (lo' := [some (.ref a0), some (.int x1), some (.ref a2), none]) (st' := [.int x1, .ref a0, .int (nI 0), .ref a2]) [.aload_n 2, .iconst 0, .aload_n 0, .iload_n 1] (by decide +kernel) rfl ?_
  obtain ⟨s3, h⟩ := h
  refine q_callVX (ci := 10) (Mc := M_X10_run) (z := 1) (b := a0) (As := [.int x1]) (st := [.int (nI 0), .ref a2]) mo_X10_run mi_X10_run ml_L_45_X10_run rfl rfl (by decide) rfl (by decide) (by decide) rfl (Nat.le_of_ble_eq_true rfl) (by decide +kernel) s3 h (q_fI fun r2 A1 h => ?_) (fun E A1 h => ?_)
  · show q_Wp _ _ _ _ 279 1217 7 [some (.ref a0), some (.int x1), some (.ref a2), none] [.int r2, .int (nI 0), .ref a2] A1
    refine q_blk (pc' := 8) (lo' := [some (.ref a0), some (.int x1), some (.ref a2), none]) (st' := [.long (r2.toInt64), .int (nI 0), .ref a2]) [.i2l] (by decide +kernel) rfl ?_
    obtain ⟨z5, s4, b6, h⟩ := h
    obtain ⟨l7, h⟩ := h
    refine q_last rfl (by decide +kernel) s4 l7 b6 ?_
    refine q_goto 18 (off := 9) (by decide +kernel) (by decide) ?_
    refine q_blk (pc' := 19) (lo' := [some (.ref a0), some (.int x1), some (.ref a2), none]) (st' := [.int (nI 0)]) [.iconst 0] (by decide +kernel) rfl ?_
    exact q_retI rfl (by decide) (by decide) (by decide +kernel) ⟨_, rfl, h⟩
  · rcases h with ⟨q9, h⟩ | ⟨q9, h⟩
    · subst q9
      refine ⟨12, hn_L_run_4_0, fun q8 => ?_⟩
      show q_Wp _ _ _ _ 279 1217 12 [some (.ref a0), some (.int x1), some (.ref a2), none] [.ref q8] A1
      refine q_blk (pc' := 14) (lo' := [some (.ref a0), some (.int x1), some (.ref a2), some (.ref q8)]) (st' := [.int (nI 1)]) [.astore_n 3, .iconst 1] (by decide +kernel) rfl ?_
      exact q_retI rfl (by decide) (by decide) (by decide +kernel) ⟨_, rfl, h⟩
    · subst q9
      refine ⟨15, hn_L_run_4_1, fun q8 => ?_⟩
      show q_Wp _ _ _ _ 279 1217 15 [some (.ref a0), some (.int x1), some (.ref a2), none] [.ref q8] A1
      refine q_blk (pc' := 17) (lo' := [some (.ref a0), some (.int x1), some (.ref a2), some (.ref q8)]) (st' := [.int (nI 2)]) [.astore_n 3, .iconst 2] (by decide +kernel) rfl ?_
      exact q_retI rfl (by decide) (by decide) (by decide +kernel) ⟨_, rfl, h⟩
theorem f_L_sell {G : q_G} {X : String → q_H → Prop} {f : Int32 → q_H → Prop} {A : q_H} {a0 : Nat} {x1 : Int32} {x2 : Int32} {a3 : Nat} (h : q_sh A a0 = (11, 0) ∧ q_Wc G M_X10_sell [.ref a0, .int x1, .int x2] A (q_KI fun r2 A1 => ∃ z5 : Nat, q_sh A1 a3 = (52, z5) ∧ z5 < 2147483648 ∧ 0 < z5 ∧ f (nI 0) (q_setL A1 a3 0 (r2.toInt64))) (fun E A1 => (E = "java/lang/IndexOutOfBoundsException" ∧ f (nI 1) A1) ∨ (E = "java/lang/IllegalArgumentException" ∧ f (nI 2) A1) ∨ (E = "java/lang/IllegalStateException" ∧ f (nI 3) A1))) : q_Wc G M_L_sell [.ref a0, .int x1, .int x2, .ref a3] A (q_KI f) X := by
  refine q_Wc.ofH [some (.ref a0), some (.int x1), some (.int x2), some (.ref a3), none] mo_L_sell.2.2.2.2.2 ⟨_, _, rfl⟩ (Nat.le_of_ble_eq_true rfl) rfl ?_
  refine q_blk (pc' := 5) (lo' := [some (.ref a0), some (.int x1), some (.int x2), some (.ref a3), none]) (st' := [.int x2, .int x1, .ref a0, .int (nI 0), .ref a3]) [.aload_n 3, .iconst 0, .aload_n 0, .iload_n 1, .iload_n 2] (by decide +kernel) rfl ?_
  obtain ⟨s3, h⟩ := h
  refine q_callVX (ci := 10) (Mc := M_X10_sell) (z := 2) (b := a0) (As := [.int x1, .int x2]) (st := [.int (nI 0), .ref a3]) mo_X10_sell mi_X10_sell ml_L_48_X10_sell rfl rfl (by decide) rfl (by decide) (by decide) rfl (Nat.le_of_ble_eq_true rfl) (by decide +kernel) s3 h (q_fI fun r2 A1 h => ?_) (fun E A1 h => ?_)
  · show q_Wp _ _ _ _ 280 1223 8 [some (.ref a0), some (.int x1), some (.int x2), some (.ref a3), none] [.int r2, .int (nI 0), .ref a3] A1
    refine q_blk (pc' := 9) (lo' := [some (.ref a0), some (.int x1), some (.int x2), some (.ref a3), none]) (st' := [.long (r2.toInt64), .int (nI 0), .ref a3]) [.i2l] (by decide +kernel) rfl ?_
    obtain ⟨z5, s4, b6, h⟩ := h
    obtain ⟨l7, h⟩ := h
    refine q_last rfl (by decide +kernel) s4 l7 b6 ?_
    refine q_goto 25 (off := 15) (by decide +kernel) (by decide) ?_
    refine q_blk (pc' := 26) (lo' := [some (.ref a0), some (.int x1), some (.int x2), some (.ref a3), none]) (st' := [.int (nI 0)]) [.iconst 0] (by decide +kernel) rfl ?_
    exact q_retI rfl (by decide) (by decide) (by decide +kernel) ⟨_, rfl, h⟩
  · rcases h with ⟨q9, h⟩ | ⟨q9, h⟩ | ⟨q9, h⟩
    · subst q9
      refine ⟨13, hn_L_sell_5_0, fun q8 => ?_⟩
      show q_Wp _ _ _ _ 280 1223 13 [some (.ref a0), some (.int x1), some (.int x2), some (.ref a3), none] [.ref q8] A1
      refine q_blk (pc' := 16) (lo' := [some (.ref a0), some (.int x1), some (.int x2), some (.ref a3), some (.ref q8)]) (st' := [.int (nI 1)]) [.astore 4, .iconst 1] (by decide +kernel) rfl ?_
      exact q_retI rfl (by decide) (by decide) (by decide +kernel) ⟨_, rfl, h⟩
    · subst q9
      refine ⟨17, hn_L_sell_5_1, fun q8 => ?_⟩
      show q_Wp _ _ _ _ 280 1223 17 [some (.ref a0), some (.int x1), some (.int x2), some (.ref a3), none] [.ref q8] A1
      refine q_blk (pc' := 20) (lo' := [some (.ref a0), some (.int x1), some (.int x2), some (.ref a3), some (.ref q8)]) (st' := [.int (nI 2)]) [.astore 4, .iconst 2] (by decide +kernel) rfl ?_
      exact q_retI rfl (by decide) (by decide) (by decide +kernel) ⟨_, rfl, h⟩
    · subst q9
      refine ⟨21, hn_L_sell_5_2, fun q8 => ?_⟩
      show q_Wp _ _ _ _ 280 1223 21 [some (.ref a0), some (.int x1), some (.int x2), some (.ref a3), none] [.ref q8] A1
      refine q_blk (pc' := 24) (lo' := [some (.ref a0), some (.int x1), some (.int x2), some (.ref a3), some (.ref q8)]) (st' := [.int (nI 3)]) [.astore 4, .iconst 3] (by decide +kernel) rfl ?_
      exact q_retI rfl (by decide) (by decide) (by decide +kernel) ⟨_, rfl, h⟩
theorem f_L_clean {G : q_G} {X : String → q_H → Prop} {f : Int32 → q_H → Prop} {A : q_H} {a0 : Nat} {x1 : Int32} {a2 : Nat} (h : q_sh A a0 = (11, 0) ∧ q_Wc G M_X10_clean [.ref a0, .int x1] A (q_KI fun r2 A1 => ∃ z5 : Nat, q_sh A1 a2 = (52, z5) ∧ z5 < 2147483648 ∧ 0 < z5 ∧ f (nI 0) (q_setL A1 a2 0 (r2.toInt64))) (fun E A1 => (E = "java/lang/IndexOutOfBoundsException" ∧ f (nI 1) A1))) : q_Wc G M_L_clean [.ref a0, .int x1, .ref a2] A (q_KI f) X := by
  refine q_Wc.ofH [some (.ref a0), some (.int x1), some (.ref a2), none] mo_L_clean.2.2.2.2.2 ⟨_, _, rfl⟩ (Nat.le_of_ble_eq_true rfl) rfl ?_
  refine q_blk (pc' := 4) (lo' := [some (.ref a0), some (.int x1), some (.ref a2), none]) (st' := [.int x1, .ref a0, .int (nI 0), .ref a2]) [.aload_n 2, .iconst 0, .aload_n 0, .iload_n 1] (by decide +kernel) rfl ?_
  obtain ⟨s3, h⟩ := h
  refine q_callVX (ci := 10) (Mc := M_X10_clean) (z := 1) (b := a0) (As := [.int x1]) (st := [.int (nI 0), .ref a2]) mo_X10_clean mi_X10_clean ml_L_51_X10_clean rfl rfl (by decide) rfl (by decide) (by decide) rfl (Nat.le_of_ble_eq_true rfl) (by decide +kernel) s3 h (q_fI fun r2 A1 h => ?_) (fun E A1 h => ?_)
  · show q_Wp _ _ _ _ 278 1211 7 [some (.ref a0), some (.int x1), some (.ref a2), none] [.int r2, .int (nI 0), .ref a2] A1
    refine q_blk (pc' := 8) (lo' := [some (.ref a0), some (.int x1), some (.ref a2), none]) (st' := [.long (r2.toInt64), .int (nI 0), .ref a2]) [.i2l] (by decide +kernel) rfl ?_
    obtain ⟨z5, s4, b6, h⟩ := h
    obtain ⟨l7, h⟩ := h
    refine q_last rfl (by decide +kernel) s4 l7 b6 ?_
    refine q_goto 15 (off := 6) (by decide +kernel) (by decide) ?_
    refine q_blk (pc' := 16) (lo' := [some (.ref a0), some (.int x1), some (.ref a2), none]) (st' := [.int (nI 0)]) [.iconst 0] (by decide +kernel) rfl ?_
    exact q_retI rfl (by decide) (by decide) (by decide +kernel) ⟨_, rfl, h⟩
  · obtain ⟨q9, h⟩ := h
    subst q9
    refine ⟨12, hn_L_clean_4_0, fun q8 => ?_⟩
    show q_Wp _ _ _ _ 278 1211 12 [some (.ref a0), some (.int x1), some (.ref a2), none] [.ref q8] A1
    refine q_blk (pc' := 14) (lo' := [some (.ref a0), some (.int x1), some (.ref a2), some (.ref q8)]) (st' := [.int (nI 1)]) [.astore_n 3, .iconst 1] (by decide +kernel) rfl ?_
    exact q_retI rfl (by decide) (by decide) (by decide +kernel) ⟨_, rfl, h⟩
theorem f_L_bestBuyer {G : q_G} {X : String → q_H → Prop} {f : Int32 → q_H → Prop} {A : q_H} {a0 : Nat} {x1 : Int32} {a2 : Nat} (h : q_sh A a0 = (11, 0) ∧ q_Wc G M_X10_bestBuyer [.ref a0, .int x1] A (q_KI fun r2 A1 => ∃ z5 : Nat, q_sh A1 a2 = (52, z5) ∧ z5 < 2147483648 ∧ 0 < z5 ∧ f (nI 0) (q_setL A1 a2 0 (r2.toInt64))) (fun E A1 => (E = "java/lang/IndexOutOfBoundsException" ∧ f (nI 1) A1))) : q_Wc G M_L_bestBuyer [.ref a0, .int x1, .ref a2] A (q_KI f) X := by
  refine q_Wc.ofH [some (.ref a0), some (.int x1), some (.ref a2), none] mo_L_bestBuyer.2.2.2.2.2 ⟨_, _, rfl⟩ (Nat.le_of_ble_eq_true rfl) rfl ?_
  refine q_blk (pc' := 4) (lo' := [some (.ref a0), some (.int x1), some (.ref a2), none]) (st' := [.int x1, .ref a0, .int (nI 0), .ref a2]) [.aload_n 2, .iconst 0, .aload_n 0, .iload_n 1] (by decide +kernel) rfl ?_
  obtain ⟨s3, h⟩ := h
  refine q_callVX (ci := 10) (Mc := M_X10_bestBuyer) (z := 1) (b := a0) (As := [.int x1]) (st := [.int (nI 0), .ref a2]) mo_X10_bestBuyer mi_X10_bestBuyer ml_L_54_X10_bestBuyer rfl rfl (by decide) rfl (by decide) (by decide) rfl (Nat.le_of_ble_eq_true rfl) (by decide +kernel) s3 h (q_fI fun r2 A1 h => ?_) (fun E A1 h => ?_)
  · show q_Wp _ _ _ _ 1 6 7 [some (.ref a0), some (.int x1), some (.ref a2), none] [.int r2, .int (nI 0), .ref a2] A1
    refine q_blk (pc' := 8) (lo' := [some (.ref a0), some (.int x1), some (.ref a2), none]) (st' := [.long (r2.toInt64), .int (nI 0), .ref a2]) [.i2l] (by decide +kernel) rfl ?_
    obtain ⟨z5, s4, b6, h⟩ := h
    obtain ⟨l7, h⟩ := h
    refine q_last rfl (by decide +kernel) s4 l7 b6 ?_
    refine q_goto 15 (off := 6) (by decide +kernel) (by decide) ?_
    refine q_blk (pc' := 16) (lo' := [some (.ref a0), some (.int x1), some (.ref a2), none]) (st' := [.int (nI 0)]) [.iconst 0] (by decide +kernel) rfl ?_
    exact q_retI rfl (by decide) (by decide) (by decide +kernel) ⟨_, rfl, h⟩
  · obtain ⟨q9, h⟩ := h
    subst q9
    refine ⟨12, hn_L_bestBuyer_4_0, fun q8 => ?_⟩
    show q_Wp _ _ _ _ 1 6 12 [some (.ref a0), some (.int x1), some (.ref a2), none] [.ref q8] A1
    refine q_blk (pc' := 14) (lo' := [some (.ref a0), some (.int x1), some (.ref a2), some (.ref q8)]) (st' := [.int (nI 1)]) [.astore_n 3, .iconst 1] (by decide +kernel) rfl ?_
    exact q_retI rfl (by decide) (by decide) (by decide +kernel) ⟨_, rfl, h⟩
theorem f_L_outlook {G : q_G} {X : String → q_H → Prop} {f : Int32 → q_H → Prop} {A : q_H} {a0 : Nat} {x1 : Int32} {x2 : Int32} {a3 : Nat} (h : q_sh A a0 = (11, 0) ∧ q_Wc G M_X10_outlook [.ref a0, .int x1, .int x2] A (q_KI fun r2 A1 => ∃ z5 : Nat, q_sh A1 a3 = (52, z5) ∧ z5 < 2147483648 ∧ 0 < z5 ∧ f (nI 0) (q_setL A1 a3 0 (r2.toInt64))) (fun E A1 => (E = "java/lang/IllegalArgumentException" ∧ f (nI 1) A1))) : q_Wc G M_L_outlook [.ref a0, .int x1, .int x2, .ref a3] A (q_KI f) X := by
  refine q_Wc.ofH [some (.ref a0), some (.int x1), some (.int x2), some (.ref a3), none] mo_L_outlook.2.2.2.2.2 ⟨_, _, rfl⟩ (Nat.le_of_ble_eq_true rfl) rfl ?_
  refine q_blk (pc' := 5) (lo' := [some (.ref a0), some (.int x1), some (.int x2), some (.ref a3), none]) (st' := [.int x2, .int x1, .ref a0, .int (nI 0), .ref a3]) [.aload_n 3, .iconst 0, .aload_n 0, .iload_n 1, .iload_n 2] (by decide +kernel) rfl ?_
  obtain ⟨s3, h⟩ := h
  refine q_callVX (ci := 10) (Mc := M_X10_outlook) (z := 2) (b := a0) (As := [.int x1, .int x2]) (st := [.int (nI 0), .ref a3]) mo_X10_outlook mi_X10_outlook ml_L_57_X10_outlook rfl rfl (by decide) rfl (by decide) (by decide) rfl (Nat.le_of_ble_eq_true rfl) (by decide +kernel) s3 h (q_fI fun r2 A1 h => ?_) (fun E A1 h => ?_)
  · show q_Wp _ _ _ _ 278 1211 8 [some (.ref a0), some (.int x1), some (.int x2), some (.ref a3), none] [.int r2, .int (nI 0), .ref a3] A1
    refine q_blk (pc' := 9) (lo' := [some (.ref a0), some (.int x1), some (.int x2), some (.ref a3), none]) (st' := [.long (r2.toInt64), .int (nI 0), .ref a3]) [.i2l] (by decide +kernel) rfl ?_
    obtain ⟨z5, s4, b6, h⟩ := h
    obtain ⟨l7, h⟩ := h
    refine q_last rfl (by decide +kernel) s4 l7 b6 ?_
    refine q_goto 17 (off := 7) (by decide +kernel) (by decide) ?_
    refine q_blk (pc' := 18) (lo' := [some (.ref a0), some (.int x1), some (.int x2), some (.ref a3), none]) (st' := [.int (nI 0)]) [.iconst 0] (by decide +kernel) rfl ?_
    exact q_retI rfl (by decide) (by decide) (by decide +kernel) ⟨_, rfl, h⟩
  · obtain ⟨q9, h⟩ := h
    subst q9
    refine ⟨13, hn_L_outlook_5_0, fun q8 => ?_⟩
    show q_Wp _ _ _ _ 278 1211 13 [some (.ref a0), some (.int x1), some (.int x2), some (.ref a3), none] [.ref q8] A1
    refine q_blk (pc' := 16) (lo' := [some (.ref a0), some (.int x1), some (.int x2), some (.ref a3), some (.ref q8)]) (st' := [.int (nI 1)]) [.astore 4, .iconst 1] (by decide +kernel) rfl ?_
    exact q_retI rfl (by decide) (by decide) (by decide +kernel) ⟨_, rfl, h⟩
theorem f_L_bestStaff {G : q_G} {X : String → q_H → Prop} {f : Int32 → q_H → Prop} {A : q_H} {a0 : Nat} {x1 : Int32} {x2 : Int32} {a3 : Nat} (h : q_sh A a0 = (11, 0) ∧ q_Wc G M_X10_bestStaff [.ref a0, .int x1, .int x2] A (q_KI fun r2 A1 => ∃ z5 : Nat, q_sh A1 a3 = (52, z5) ∧ z5 < 2147483648 ∧ 0 < z5 ∧ f (nI 0) (q_setL A1 a3 0 (r2.toInt64))) (fun E A1 => (E = "java/lang/IndexOutOfBoundsException" ∧ f (nI 1) A1) ∨ (E = "java/lang/IllegalArgumentException" ∧ f (nI 2) A1))) : q_Wc G M_L_bestStaff [.ref a0, .int x1, .int x2, .ref a3] A (q_KI f) X := by
  refine q_Wc.ofH [some (.ref a0), some (.int x1), some (.int x2), some (.ref a3), none] mo_L_bestStaff.2.2.2.2.2 ⟨_, _, rfl⟩ (Nat.le_of_ble_eq_true rfl) rfl ?_
  refine q_blk (pc' := 5) (lo' := [some (.ref a0), some (.int x1), some (.int x2), some (.ref a3), none]) (st' := [.int x2, .int x1, .ref a0, .int (nI 0), .ref a3]) [.aload_n 3, .iconst 0, .aload_n 0, .iload_n 1, .iload_n 2] (by decide +kernel) rfl ?_
  obtain ⟨s3, h⟩ := h
  refine q_callVX (ci := 10) (Mc := M_X10_bestStaff) (z := 2) (b := a0) (As := [.int x1, .int x2]) (st := [.int (nI 0), .ref a3]) mo_X10_bestStaff mi_X10_bestStaff ml_L_60_X10_bestStaff rfl rfl (by decide) rfl (by decide) (by decide) rfl (Nat.le_of_ble_eq_true rfl) (by decide +kernel) s3 h (q_fI fun r2 A1 h => ?_) (fun E A1 h => ?_)
  · show q_Wp _ _ _ _ 279 1217 8 [some (.ref a0), some (.int x1), some (.int x2), some (.ref a3), none] [.int r2, .int (nI 0), .ref a3] A1
    refine q_blk (pc' := 9) (lo' := [some (.ref a0), some (.int x1), some (.int x2), some (.ref a3), none]) (st' := [.long (r2.toInt64), .int (nI 0), .ref a3]) [.i2l] (by decide +kernel) rfl ?_
    obtain ⟨z5, s4, b6, h⟩ := h
    obtain ⟨l7, h⟩ := h
    refine q_last rfl (by decide +kernel) s4 l7 b6 ?_
    refine q_goto 21 (off := 11) (by decide +kernel) (by decide) ?_
    refine q_blk (pc' := 22) (lo' := [some (.ref a0), some (.int x1), some (.int x2), some (.ref a3), none]) (st' := [.int (nI 0)]) [.iconst 0] (by decide +kernel) rfl ?_
    exact q_retI rfl (by decide) (by decide) (by decide +kernel) ⟨_, rfl, h⟩
  · rcases h with ⟨q9, h⟩ | ⟨q9, h⟩
    · subst q9
      refine ⟨13, hn_L_bestStaff_5_0, fun q8 => ?_⟩
      show q_Wp _ _ _ _ 279 1217 13 [some (.ref a0), some (.int x1), some (.int x2), some (.ref a3), none] [.ref q8] A1
      refine q_blk (pc' := 16) (lo' := [some (.ref a0), some (.int x1), some (.int x2), some (.ref a3), some (.ref q8)]) (st' := [.int (nI 1)]) [.astore 4, .iconst 1] (by decide +kernel) rfl ?_
      exact q_retI rfl (by decide) (by decide) (by decide +kernel) ⟨_, rfl, h⟩
    · subst q9
      refine ⟨17, hn_L_bestStaff_5_1, fun q8 => ?_⟩
      show q_Wp _ _ _ _ 279 1217 17 [some (.ref a0), some (.int x1), some (.int x2), some (.ref a3), none] [.ref q8] A1
      refine q_blk (pc' := 20) (lo' := [some (.ref a0), some (.int x1), some (.int x2), some (.ref a3), some (.ref q8)]) (st' := [.int (nI 2)]) [.astore 4, .iconst 2] (by decide +kernel) rfl ?_
      exact q_retI rfl (by decide) (by decide) (by decide +kernel) ⟨_, rfl, h⟩
theorem f_L_law {G : q_G} {X : String → q_H → Prop} {f : Bool → q_H → Prop} {A : q_H} (hL : q_sL G < 2147483648) (h : q_Wc G M_X10_init [.ref (q_sz A)] (q_new A 11 0) (q_KV fun A2 => q_Wc G M_X11_init [.ref (q_sz A2)] (q_new A2 12 0) (q_KV fun A5 => q_Wp G M_L_law (q_KB f) X 295 9868 28 [some (.ref (q_sb G)), some (.ref (q_sz A)), some (.ref (q_sz A2)), some (.ref (q_sz A5)), some (.ref (q_sz (q_new A5 52 1))), some (.int (nI 0)), none, none, none, none] [] (q_new (q_new A5 52 1) 53 1)) q_nX) q_nX) : q_Wp G M_L_law (q_KB f) X 0 0 0 [some (.ref (q_sb G)), none, none, none, none, none, none, none, none, none] [] A := by
  refine q_newO (idx := 8) ck10 (by decide) kl_L_8 nw_10.1 nw_10.2 (by decide) (by decide) (by decide +kernel) ?_
  have s1 : q_sh (q_new A 11 0) (q_sz A) = (11, 0) := q_shn _ _ _
  refine q_blk (pc' := 4) (lo' := [some (.ref (q_sb G)), none, none, none, none, none, none, none, none, none]) (st' := [.ref (q_sz A), .ref (q_sz A)]) [.dup] (by decide +kernel) rfl ?_
  refine q_callI (Mc := M_X10_init) (z := 0) (b := (q_sz A)) (As := []) (st := [.ref (q_sz A)]) mo_X10_init mi0_X10_init mI_L_63_X10_init rfl rfl rfl rfl (by decide) (by decide) rfl (Nat.le_of_ble_eq_true rfl) (by decide +kernel) h (q_fV fun A2 h => ?_)
  show q_Wp _ _ _ _ 280 1918 7 [some (.ref (q_sb G)), none, none, none, none, none, none, none, none, none] [.ref (q_sz A)] A2
  refine q_blk (pc' := 8) (lo' := [some (.ref (q_sb G)), some (.ref (q_sz A)), none, none, none, none, none, none, none, none]) (st' := []) [.astore_n 1] (by decide +kernel) rfl ?_
  refine q_newO (idx := 64) ck11 (by decide) kl_L_64 nw_11.1 nw_11.2 (by decide) (by decide) (by decide +kernel) ?_
  have s4 : q_sh (q_new A2 12 0) (q_sz A2) = (12, 0) := q_shn _ _ _
  refine q_blk (pc' := 12) (lo' := [some (.ref (q_sb G)), some (.ref (q_sz A)), none, none, none, none, none, none, none, none]) (st' := [.ref (q_sz A2), .ref (q_sz A2)]) [.dup] (by decide +kernel) rfl ?_
  refine q_callI (Mc := M_X11_init) (z := 0) (b := (q_sz A2)) (As := []) (st := [.ref (q_sz A2)]) mo_X11_init mi0_X11_init mI_L_66_X11_init rfl rfl rfl rfl (by decide) (by decide) rfl (Nat.le_of_ble_eq_true rfl) (by decide +kernel) h (q_fV fun A5 h => ?_)
  show q_Wp _ _ _ _ 293 9866 15 [some (.ref (q_sb G)), some (.ref (q_sz A)), none, none, none, none, none, none, none, none] [.ref (q_sz A2)] A5
  refine q_blk (pc' := 17) (lo' := [some (.ref (q_sb G)), some (.ref (q_sz A)), some (.ref (q_sz A2)), none, none, none, none, none, none, none]) (st' := [.int (nI 1)]) [.astore_n 2, .iconst 1] (by decide +kernel) rfl ?_
  refine q_newL (z := 1) ac_long rfl (by decide) (by decide) (by decide) (by decide +kernel) ?_
  have s7 : q_sh (q_new A5 52 1) (q_sz A5) = (52, 1) := q_shn _ _ _
  refine q_blk (pc' := 21) (lo' := [some (.ref (q_sb G)), some (.ref (q_sz A)), some (.ref (q_sz A2)), some (.ref (q_sz A5)), none, none, none, none, none, none]) (st' := [.int (nI 1)]) [.astore_n 3, .iconst 1] (by decide +kernel) rfl ?_
  refine q_newD (z := 1) ac_double rfl (by decide) (by decide) (by decide) (by decide +kernel) ?_
  have s8 : q_sh (q_new (q_new A5 52 1) 53 1) (q_sz (q_new A5 52 1)) = (53, 1) := q_shn _ _ _
  refine q_blk (pc' := 28) (lo' := [some (.ref (q_sb G)), some (.ref (q_sz A)), some (.ref (q_sz A2)), some (.ref (q_sz A5)), some (.ref (q_sz (q_new A5 52 1))), some (.int (nI 0)), none, none, none, none]) (st' := []) [.astore 4, .iconst 0, .istore 5] (by decide +kernel) rfl ?_
  exact h
theorem f_L_law_28 {G : q_G} {X : String → q_H → Prop} {f : Bool → q_H → Prop} {A : q_H} {a1 : Nat} {a2 : Nat} {a3 : Nat} {a4 : Nat} {x5 : Int32} {k n : Nat} (hL : q_sL G < 2147483648) (h : ((((nI (q_sL G)) - (nI 6)) < x5 → (k ≤ 735865 ∧ n ≤ 6888508) ∧ f true A) ∧ (¬ ((nI (q_sL G)) - (nI 6)) < x5 → ∃ j3 : Nat, x5 = nI j3 ∧ j3 < (q_sL G) ∧ ((((q_xs G j3) &&& (nI 31)) = nI 0 → q_Wp G M_L_law (q_KB f) X k n 160 [some (.ref (q_sb G)), some (.ref a1), some (.ref a2), some (.ref a3), some (.ref a4), some (.int x5), none, none, none, none] [] A) ∧ (((q_xs G j3) &&& (nI 31)) = nI 1 → q_Wp G M_L_law (q_KB f) X k n 233 [some (.ref (q_sb G)), some (.ref a1), some (.ref a2), some (.ref a3), some (.ref a4), some (.int x5), none, none, none, none] [] A) ∧ (((q_xs G j3) &&& (nI 31)) = nI 2 → q_Wp G M_L_law (q_KB f) X k n 258 [some (.ref (q_sb G)), some (.ref a1), some (.ref a2), some (.ref a3), some (.ref a4), some (.int x5), none, none, none, none] [] A) ∧ (((q_xs G j3) &&& (nI 31)) = nI 3 → q_Wp G M_L_law (q_KB f) X k n 271 [some (.ref (q_sb G)), some (.ref a1), some (.ref a2), some (.ref a3), some (.ref a4), some (.int x5), none, none, none, none] [] A) ∧ (((q_xs G j3) &&& (nI 31)) = nI 4 → q_Wp G M_L_law (q_KB f) X k n 284 [some (.ref (q_sb G)), some (.ref a1), some (.ref a2), some (.ref a3), some (.ref a4), some (.int x5), none, none, none, none] [] A) ∧ (((q_xs G j3) &&& (nI 31)) = nI 5 → q_Wp G M_L_law (q_KB f) X k n 297 [some (.ref (q_sb G)), some (.ref a1), some (.ref a2), some (.ref a3), some (.ref a4), some (.int x5), none, none, none, none] [] A) ∧ (((q_xs G j3) &&& (nI 31)) = nI 6 → q_Wp G M_L_law (q_KB f) X k n 322 [some (.ref (q_sb G)), some (.ref a1), some (.ref a2), some (.ref a3), some (.ref a4), some (.int x5), none, none, none, none] [] A) ∧ (((q_xs G j3) &&& (nI 31)) = nI 7 → q_Wp G M_L_law (q_KB f) X k n 378 [some (.ref (q_sb G)), some (.ref a1), some (.ref a2), some (.ref a3), some (.ref a4), some (.int x5), none, none, none, none] [] A) ∧ (((q_xs G j3) &&& (nI 31)) = nI 8 → q_Wp G M_L_law (q_KB f) X k n 446 [some (.ref (q_sb G)), some (.ref a1), some (.ref a2), some (.ref a3), some (.ref a4), some (.int x5), none, none, none, none] [] A) ∧ (((q_xs G j3) &&& (nI 31)) = nI 9 → q_Wp G M_L_law (q_KB f) X k n 514 [some (.ref (q_sb G)), some (.ref a1), some (.ref a2), some (.ref a3), some (.ref a4), some (.int x5), none, none, none, none] [] A) ∧ (((q_xs G j3) &&& (nI 31)) = nI 10 → q_Wp G M_L_law (q_KB f) X k n 582 [some (.ref (q_sb G)), some (.ref a1), some (.ref a2), some (.ref a3), some (.ref a4), some (.int x5), none, none, none, none] [] A) ∧ (((q_xs G j3) &&& (nI 31)) = nI 11 → q_Wp G M_L_law (q_KB f) X k n 650 [some (.ref (q_sb G)), some (.ref a1), some (.ref a2), some (.ref a3), some (.ref a4), some (.int x5), none, none, none, none] [] A) ∧ (((q_xs G j3) &&& (nI 31)) = nI 12 → q_Wp G M_L_law (q_KB f) X k n 676 [some (.ref (q_sb G)), some (.ref a1), some (.ref a2), some (.ref a3), some (.ref a4), some (.int x5), none, none, none, none] [] A) ∧ (((q_xs G j3) &&& (nI 31)) = nI 13 → q_Wp G M_L_law (q_KB f) X k n 753 [some (.ref (q_sb G)), some (.ref a1), some (.ref a2), some (.ref a3), some (.ref a4), some (.int x5), none, none, none, none] [] A) ∧ (((q_xs G j3) &&& (nI 31)) = nI 14 → q_Wp G M_L_law (q_KB f) X k n 796 [some (.ref (q_sb G)), some (.ref a1), some (.ref a2), some (.ref a3), some (.ref a4), some (.int x5), none, none, none, none] [] A) ∧ (((q_xs G j3) &&& (nI 31)) = nI 15 → q_Wp G M_L_law (q_KB f) X k n 864 [some (.ref (q_sb G)), some (.ref a1), some (.ref a2), some (.ref a3), some (.ref a4), some (.int x5), none, none, none, none] [] A) ∧ (((q_xs G j3) &&& (nI 31)) = nI 16 → q_Wp G M_L_law (q_KB f) X k n 932 [some (.ref (q_sb G)), some (.ref a1), some (.ref a2), some (.ref a3), some (.ref a4), some (.int x5), none, none, none, none] [] A) ∧ (((q_xs G j3) &&& (nI 31)) = nI 17 → q_Wp G M_L_law (q_KB f) X k n 1000 [some (.ref (q_sb G)), some (.ref a1), some (.ref a2), some (.ref a3), some (.ref a4), some (.int x5), none, none, none, none] [] A) ∧ (((q_xs G j3) &&& (nI 31)) = nI 18 → q_Wp G M_L_law (q_KB f) X k n 1056 [some (.ref (q_sb G)), some (.ref a1), some (.ref a2), some (.ref a3), some (.ref a4), some (.int x5), none, none, none, none] [] A) ∧ (((q_xs G j3) &&& (nI 31)) = nI 19 → q_Wp G M_L_law (q_KB f) X k n 1124 [some (.ref (q_sb G)), some (.ref a1), some (.ref a2), some (.ref a3), some (.ref a4), some (.int x5), none, none, none, none] [] A) ∧ (((q_xs G j3) &&& (nI 31)) = nI 20 → q_Wp G M_L_law (q_KB f) X k n 1180 [some (.ref (q_sb G)), some (.ref a1), some (.ref a2), some (.ref a3), some (.ref a4), some (.int x5), none, none, none, none] [] A) ∧ (((q_xs G j3) &&& (nI 31)) = nI 21 → q_Wp G M_L_law (q_KB f) X k n 1193 [some (.ref (q_sb G)), some (.ref a1), some (.ref a2), some (.ref a3), some (.ref a4), some (.int x5), none, none, none, none] [] A) ∧ (((q_xs G j3) &&& (nI 31)) = nI 22 → q_Wp G M_L_law (q_KB f) X k n 1249 [some (.ref (q_sb G)), some (.ref a1), some (.ref a2), some (.ref a3), some (.ref a4), some (.int x5), none, none, none, none] [] A) ∧ (((q_xs G j3) &&& (nI 31)) = nI 23 → q_Wp G M_L_law (q_KB f) X k n 1317 [some (.ref (q_sb G)), some (.ref a1), some (.ref a2), some (.ref a3), some (.ref a4), some (.int x5), none, none, none, none] [] A) ∧ (((q_xs G j3) &&& (nI 31)) = nI 24 → q_Wp G M_L_law (q_KB f) X k n 1385 [some (.ref (q_sb G)), some (.ref a1), some (.ref a2), some (.ref a3), some (.ref a4), some (.int x5), none, none, none, none] [] A) ∧ ((∀ j, j < 25 → ¬ ((q_xs G j3) &&& (nI 31)) = nI j) → q_Wp G M_L_law (q_KB f) X k n 1398 [some (.ref (q_sb G)), some (.ref a1), some (.ref a2), some (.ref a3), some (.ref a4), some (.int x5), none, none, none, none] [] A))))) : q_Wp G M_L_law (q_KB f) X k n 28 [some (.ref (q_sb G)), some (.ref a1), some (.ref a2), some (.ref a3), some (.ref a4), some (.int x5), none, none, none, none] [] A := by
  refine q_blk (pc' := 31) (lo' := [some (.ref (q_sb G)), some (.ref a1), some (.ref a2), some (.ref a3), some (.ref a4), some (.int x5), none, none, none, none]) (st' := [.ref (q_sb G), .int x5]) [.iload 5, .aload_n 0] (by decide +kernel) rfl ?_
  refine q_slen (by decide +kernel) ?_
  refine q_blk (pc' := 35) (lo' := [some (.ref (q_sb G)), some (.ref a1), some (.ref a2), some (.ref a3), some (.ref a4), some (.int x5), none, none, none, none]) (st' := [.int ((nI (q_sL G)) - (nI 6)), .int x5]) [.bipush 6, .isub] (by decide +kernel) rfl ?_
  refine q_icmp_gt 1404 (off := 1369) (by decide +kernel) (by decide) (fun c1 => ?_) (fun c1 => ?_)
  · have h := h.1 c1
    refine q_blk (pc' := 1405) (lo' := [some (.ref (q_sb G)), some (.ref a1), some (.ref a2), some (.ref a3), some (.ref a4), some (.int x5), none, none, none, none]) (st' := [.int (nI 1)]) [.iconst 1] (by decide +kernel) rfl ?_
    obtain ⟨g2, h⟩ := h
    exact q_retZ (r := q_i true) rfl (q_nz _) g2.1 g2.2 (by decide +kernel) ⟨true, rfl, h⟩
  · have h := h.2 c1
    refine q_blk (pc' := 41) (lo' := [some (.ref (q_sb G)), some (.ref a1), some (.ref a2), some (.ref a3), some (.ref a4), some (.int x5), none, none, none, none]) (st' := [.int x5, .ref (q_sb G)]) [.aload_n 0, .iload 5] (by decide +kernel) rfl ?_
    obtain ⟨j3, e4, h⟩ := h
    obtain ⟨l5, h⟩ := h
    refine q_sld e4 l5 hL (by decide +kernel) ?_
    refine q_blk (pc' := 45) (lo' := [some (.ref (q_sb G)), some (.ref a1), some (.ref a2), some (.ref a3), some (.ref a4), some (.int x5), none, none, none, none]) (st' := [.int ((q_xs G j3) &&& (nI 31))]) [.bipush 31, .iand] (by decide +kernel) rfl ?_
    have hd45 := sw_L_law_45
    refine q_tsw [160, 233, 258, 271, 284, 297, 322, 378, 446, 514, 582, 650, 676, 753, 796, 864, 932, 1000, 1056, 1124, 1180, 1193, 1249, 1317, 1385] 1398 (hd45) (by rfl) (by decide) (by rfl) (by decide) (And.intro (fun c6 => ?_) (And.intro (fun c6 => ?_) (And.intro (fun c6 => ?_) (And.intro (fun c6 => ?_) (And.intro (fun c6 => ?_) (And.intro (fun c6 => ?_) (And.intro (fun c6 => ?_) (And.intro (fun c6 => ?_) (And.intro (fun c6 => ?_) (And.intro (fun c6 => ?_) (And.intro (fun c6 => ?_) (And.intro (fun c6 => ?_) (And.intro (fun c6 => ?_) (And.intro (fun c6 => ?_) (And.intro (fun c6 => ?_) (And.intro (fun c6 => ?_) (And.intro (fun c6 => ?_) (And.intro (fun c6 => ?_) (And.intro (fun c6 => ?_) (And.intro (fun c6 => ?_) (And.intro (fun c6 => ?_) (And.intro (fun c6 => ?_) (And.intro (fun c6 => ?_) (And.intro (fun c6 => ?_) (And.intro (fun c6 => ?_) trivial))))))))))))))))))))))))) (fun c6 => ?_)
    · have h := h.1 c6
      exact h
    · have h := h.2.1 c6
      exact h
    · have h := h.2.2.1 c6
      exact h
    · have h := h.2.2.2.1 c6
      exact h
    · have h := h.2.2.2.2.1 c6
      exact h
    · have h := h.2.2.2.2.2.1 c6
      exact h
    · have h := h.2.2.2.2.2.2.1 c6
      exact h
    · have h := h.2.2.2.2.2.2.2.1 c6
      exact h
    · have h := h.2.2.2.2.2.2.2.2.1 c6
      exact h
    · have h := h.2.2.2.2.2.2.2.2.2.1 c6
      exact h
    · have h := h.2.2.2.2.2.2.2.2.2.2.1 c6
      exact h
    · have h := h.2.2.2.2.2.2.2.2.2.2.2.1 c6
      exact h
    · have h := h.2.2.2.2.2.2.2.2.2.2.2.2.1 c6
      exact h
    · have h := h.2.2.2.2.2.2.2.2.2.2.2.2.2.1 c6
      exact h
    · have h := h.2.2.2.2.2.2.2.2.2.2.2.2.2.2.1 c6
      exact h
    · have h := h.2.2.2.2.2.2.2.2.2.2.2.2.2.2.2.1 c6
      exact h
    · have h := h.2.2.2.2.2.2.2.2.2.2.2.2.2.2.2.2.1 c6
      exact h
    · have h := h.2.2.2.2.2.2.2.2.2.2.2.2.2.2.2.2.2.1 c6
      exact h
    · have h := h.2.2.2.2.2.2.2.2.2.2.2.2.2.2.2.2.2.2.1 c6
      exact h
    · have h := h.2.2.2.2.2.2.2.2.2.2.2.2.2.2.2.2.2.2.2.1 c6
      exact h
    · have h := h.2.2.2.2.2.2.2.2.2.2.2.2.2.2.2.2.2.2.2.2.1 c6
      exact h
    · have h := h.2.2.2.2.2.2.2.2.2.2.2.2.2.2.2.2.2.2.2.2.2.1 c6
      exact h
    · have h := h.2.2.2.2.2.2.2.2.2.2.2.2.2.2.2.2.2.2.2.2.2.2.1 c6
      exact h
    · have h := h.2.2.2.2.2.2.2.2.2.2.2.2.2.2.2.2.2.2.2.2.2.2.2.1 c6
      exact h
    · have h := h.2.2.2.2.2.2.2.2.2.2.2.2.2.2.2.2.2.2.2.2.2.2.2.2.1 c6
      exact h
    · have h := h.2.2.2.2.2.2.2.2.2.2.2.2.2.2.2.2.2.2.2.2.2.2.2.2.2 c6
      exact h
theorem f_L_law_160 {G : q_G} {X : String → q_H → Prop} {f : Bool → q_H → Prop} {A : q_H} {a1 : Nat} {a2 : Nat} {a3 : Nat} {a4 : Nat} {x5 : Int32} {k n : Nat} (hL : q_sL G < 2147483648) (h : ∃ j1 : Nat, (x5 + (nI 1)) = nI j1 ∧ j1 < (q_sL G) ∧ ∃ j4 : Nat, (x5 + (nI 2)) = nI j4 ∧ j4 < (q_sL G) ∧ ∃ j7 : Nat, (x5 + (nI 3)) = nI j7 ∧ j7 < (q_sL G) ∧ ∃ j10 : Nat, (x5 + (nI 4)) = nI j10 ∧ j10 < (q_sL G) ∧ ∃ j13 : Nat, (x5 + (nI 5)) = nI j13 ∧ j13 < (q_sL G) ∧ (k ≤ 735865 ∧ n ≤ 6888508) ∧ q_sh A a1 = (11, 0) ∧ q_Wc G M_X10_append [.ref a1, .int (q_xs G j1), .int (q_xs G j4), .int (q_xs G j7), .int (q_xs G j10), .int (q_xs G j13)] A (q_KI fun r18 A17 => (k ≤ 735865 ∧ n ≤ 6888508) ∧ q_sh A17 a2 = (12, 0) ∧ q_Wc G M_X11_append [.ref a2, .int (q_xs G j1), .int (q_xs G j4), .int (q_xs G j7), .int (q_xs G j10), .int (q_xs G j13)] A17 (q_KI fun r22 A21 => ((r18 = r22 → q_Wp G M_L_law (q_KB f) X k n 1398 [some (.ref (q_sb G)), some (.ref a1), some (.ref a2), some (.ref a3), some (.ref a4), some (.int x5), none, none, none, none] [] A21) ∧ (¬ r18 = r22 → (k ≤ 735865 ∧ n ≤ 6888508) ∧ f false A21))) q_nX) q_nX) : q_Wp G M_L_law (q_KB f) X k n 160 [some (.ref (q_sb G)), some (.ref a1), some (.ref a2), some (.ref a3), some (.ref a4), some (.int x5), none, none, none, none] [] A := by
  refine q_blk (pc' := 166) (lo' := [some (.ref (q_sb G)), some (.ref a1), some (.ref a2), some (.ref a3), some (.ref a4), some (.int x5), none, none, none, none]) (st' := [.int (x5 + (nI 1)), .ref (q_sb G), .ref a1]) [.aload_n 1, .aload_n 0, .iload 5, .iconst 1, .iadd] (by decide +kernel) rfl ?_
  obtain ⟨j1, e2, h⟩ := h
  obtain ⟨l3, h⟩ := h
  refine q_sld e2 l3 hL (by decide +kernel) ?_
  refine q_blk (pc' := 172) (lo' := [some (.ref (q_sb G)), some (.ref a1), some (.ref a2), some (.ref a3), some (.ref a4), some (.int x5), none, none, none, none]) (st' := [.int (x5 + (nI 2)), .ref (q_sb G), .int (q_xs G j1), .ref a1]) [.aload_n 0, .iload 5, .iconst 2, .iadd] (by decide +kernel) rfl ?_
  obtain ⟨j4, e5, h⟩ := h
  obtain ⟨l6, h⟩ := h
  refine q_sld e5 l6 hL (by decide +kernel) ?_
  refine q_blk (pc' := 178) (lo' := [some (.ref (q_sb G)), some (.ref a1), some (.ref a2), some (.ref a3), some (.ref a4), some (.int x5), none, none, none, none]) (st' := [.int (x5 + (nI 3)), .ref (q_sb G), .int (q_xs G j4), .int (q_xs G j1), .ref a1]) [.aload_n 0, .iload 5, .iconst 3, .iadd] (by decide +kernel) rfl ?_
  obtain ⟨j7, e8, h⟩ := h
  obtain ⟨l9, h⟩ := h
  refine q_sld e8 l9 hL (by decide +kernel) ?_
  refine q_blk (pc' := 184) (lo' := [some (.ref (q_sb G)), some (.ref a1), some (.ref a2), some (.ref a3), some (.ref a4), some (.int x5), none, none, none, none]) (st' := [.int (x5 + (nI 4)), .ref (q_sb G), .int (q_xs G j7), .int (q_xs G j4), .int (q_xs G j1), .ref a1]) [.aload_n 0, .iload 5, .iconst 4, .iadd] (by decide +kernel) rfl ?_
  obtain ⟨j10, e11, h⟩ := h
  obtain ⟨l12, h⟩ := h
  refine q_sld e11 l12 hL (by decide +kernel) ?_
  refine q_blk (pc' := 190) (lo' := [some (.ref (q_sb G)), some (.ref a1), some (.ref a2), some (.ref a3), some (.ref a4), some (.int x5), none, none, none, none]) (st' := [.int (x5 + (nI 5)), .ref (q_sb G), .int (q_xs G j10), .int (q_xs G j7), .int (q_xs G j4), .int (q_xs G j1), .ref a1]) [.aload_n 0, .iload 5, .iconst 5, .iadd] (by decide +kernel) rfl ?_
  obtain ⟨j13, e14, h⟩ := h
  obtain ⟨l15, h⟩ := h
  refine q_sld e14 l15 hL (by decide +kernel) ?_
  obtain ⟨g16, h⟩ := h
  obtain ⟨s19, h⟩ := h
  refine q_callV (ci := 10) (Mc := M_X10_append) (z := 5) (b := a1) (As := [.int (q_xs G j1), .int (q_xs G j4), .int (q_xs G j7), .int (q_xs G j10), .int (q_xs G j13)]) (st := []) mo_X10_append mi_X10_append ml_L_67_X10_append rfl rfl (by decide) rfl (by decide) g16 rfl (Nat.le_of_ble_eq_true rfl) (by decide +kernel) s19 h (q_fI fun r18 A17 h => ?_)
  show q_Wp _ _ _ _ k n 194 [some (.ref (q_sb G)), some (.ref a1), some (.ref a2), some (.ref a3), some (.ref a4), some (.int x5), none, none, none, none] [.int r18] A17
  refine q_blk (pc' := 200) (lo' := [some (.ref (q_sb G)), some (.ref a1), some (.ref a2), some (.ref a3), some (.ref a4), some (.int x5), none, none, none, none]) (st' := [.int (x5 + (nI 1)), .ref (q_sb G), .ref a2, .int r18]) [.aload_n 2, .aload_n 0, .iload 5, .iconst 1, .iadd] (by decide +kernel) rfl ?_
  refine q_sld e2 l3 hL (by decide +kernel) ?_
  refine q_blk (pc' := 206) (lo' := [some (.ref (q_sb G)), some (.ref a1), some (.ref a2), some (.ref a3), some (.ref a4), some (.int x5), none, none, none, none]) (st' := [.int (x5 + (nI 2)), .ref (q_sb G), .int (q_xs G j1), .ref a2, .int r18]) [.aload_n 0, .iload 5, .iconst 2, .iadd] (by decide +kernel) rfl ?_
  refine q_sld e5 l6 hL (by decide +kernel) ?_
  refine q_blk (pc' := 212) (lo' := [some (.ref (q_sb G)), some (.ref a1), some (.ref a2), some (.ref a3), some (.ref a4), some (.int x5), none, none, none, none]) (st' := [.int (x5 + (nI 3)), .ref (q_sb G), .int (q_xs G j4), .int (q_xs G j1), .ref a2, .int r18]) [.aload_n 0, .iload 5, .iconst 3, .iadd] (by decide +kernel) rfl ?_
  refine q_sld e8 l9 hL (by decide +kernel) ?_
  refine q_blk (pc' := 218) (lo' := [some (.ref (q_sb G)), some (.ref a1), some (.ref a2), some (.ref a3), some (.ref a4), some (.int x5), none, none, none, none]) (st' := [.int (x5 + (nI 4)), .ref (q_sb G), .int (q_xs G j7), .int (q_xs G j4), .int (q_xs G j1), .ref a2, .int r18]) [.aload_n 0, .iload 5, .iconst 4, .iadd] (by decide +kernel) rfl ?_
  refine q_sld e11 l12 hL (by decide +kernel) ?_
  refine q_blk (pc' := 224) (lo' := [some (.ref (q_sb G)), some (.ref a1), some (.ref a2), some (.ref a3), some (.ref a4), some (.int x5), none, none, none, none]) (st' := [.int (x5 + (nI 5)), .ref (q_sb G), .int (q_xs G j10), .int (q_xs G j7), .int (q_xs G j4), .int (q_xs G j1), .ref a2, .int r18]) [.aload_n 0, .iload 5, .iconst 5, .iadd] (by decide +kernel) rfl ?_
  refine q_sld e14 l15 hL (by decide +kernel) ?_
  obtain ⟨g20, h⟩ := h
  obtain ⟨s23, h⟩ := h
  refine q_callV (ci := 11) (Mc := M_X11_append) (z := 5) (b := a2) (As := [.int (q_xs G j1), .int (q_xs G j4), .int (q_xs G j7), .int (q_xs G j10), .int (q_xs G j13)]) (st := [.int r18]) mo_X11_append mi_X11_append ml_L_71_X11_append rfl rfl (by decide) rfl (by decide) g20 rfl (Nat.le_of_ble_eq_true rfl) (by decide +kernel) s23 h (q_fI fun r22 A21 h => ?_)
  show q_Wp _ _ _ _ k n 228 [some (.ref (q_sb G)), some (.ref a1), some (.ref a2), some (.ref a3), some (.ref a4), some (.int x5), none, none, none, none] [.int r22, .int r18] A21
  refine q_icmp_eq 1398 (off := 1170) (by decide +kernel) (by decide) (fun c24 => ?_) (fun c24 => ?_)
  · have h := h.1 c24
    exact h
  · have h := h.2 c24
    refine q_blk (pc' := 232) (lo' := [some (.ref (q_sb G)), some (.ref a1), some (.ref a2), some (.ref a3), some (.ref a4), some (.int x5), none, none, none, none]) (st' := [.int (nI 0)]) [.iconst 0] (by decide +kernel) rfl ?_
    obtain ⟨g25, h⟩ := h
    exact q_retZ (r := q_i false) rfl (q_nz _) g25.1 g25.2 (by decide +kernel) ⟨false, rfl, h⟩
theorem f_L_law_233 {G : q_G} {X : String → q_H → Prop} {f : Bool → q_H → Prop} {A : q_H} {a1 : Nat} {a2 : Nat} {a3 : Nat} {a4 : Nat} {x5 : Int32} {k n : Nat} (hL : q_sL G < 2147483648) (h : ∃ j1 : Nat, (x5 + (nI 1)) = nI j1 ∧ j1 < (q_sL G) ∧ (k ≤ 735865 ∧ n ≤ 6888508) ∧ q_sh A a1 = (11, 0) ∧ q_Wc G M_X10_truncate [.ref a1, .int (q_xs G j1)] A (q_KB fun b6 A5 => (k ≤ 735865 ∧ n ≤ 6888508) ∧ q_sh A5 a2 = (12, 0) ∧ q_Wc G M_X11_truncate [.ref a2, .int (q_xs G j1)] A5 (q_KB fun b10 A9 => (((q_i b6) = (q_i b10) → q_Wp G M_L_law (q_KB f) X k n 1398 [some (.ref (q_sb G)), some (.ref a1), some (.ref a2), some (.ref a3), some (.ref a4), some (.int x5), none, none, none, none] [] A9) ∧ (¬ (q_i b6) = (q_i b10) → (k ≤ 735865 ∧ n ≤ 6888508) ∧ f false A9))) q_nX) q_nX) : q_Wp G M_L_law (q_KB f) X k n 233 [some (.ref (q_sb G)), some (.ref a1), some (.ref a2), some (.ref a3), some (.ref a4), some (.int x5), none, none, none, none] [] A := by
  refine q_blk (pc' := 239) (lo' := [some (.ref (q_sb G)), some (.ref a1), some (.ref a2), some (.ref a3), some (.ref a4), some (.int x5), none, none, none, none]) (st' := [.int (x5 + (nI 1)), .ref (q_sb G), .ref a1]) [.aload_n 1, .aload_n 0, .iload 5, .iconst 1, .iadd] (by decide +kernel) rfl ?_
  obtain ⟨j1, e2, h⟩ := h
  obtain ⟨l3, h⟩ := h
  refine q_sld e2 l3 hL (by decide +kernel) ?_
  obtain ⟨g4, h⟩ := h
  obtain ⟨s7, h⟩ := h
  refine q_callV (ci := 10) (Mc := M_X10_truncate) (z := 1) (b := a1) (As := [.int (q_xs G j1)]) (st := []) mo_X10_truncate mi_X10_truncate ml_L_72_X10_truncate rfl rfl (by decide) rfl (by decide) g4 rfl (Nat.le_of_ble_eq_true rfl) (by decide +kernel) s7 h (q_fB fun b6 A5 h => ?_)
  show q_Wp _ _ _ _ k n 243 [some (.ref (q_sb G)), some (.ref a1), some (.ref a2), some (.ref a3), some (.ref a4), some (.int x5), none, none, none, none] [.int (q_i b6)] A5
  refine q_blk (pc' := 249) (lo' := [some (.ref (q_sb G)), some (.ref a1), some (.ref a2), some (.ref a3), some (.ref a4), some (.int x5), none, none, none, none]) (st' := [.int (x5 + (nI 1)), .ref (q_sb G), .ref a2, .int (q_i b6)]) [.aload_n 2, .aload_n 0, .iload 5, .iconst 1, .iadd] (by decide +kernel) rfl ?_
  refine q_sld e2 l3 hL (by decide +kernel) ?_
  obtain ⟨g8, h⟩ := h
  obtain ⟨s11, h⟩ := h
  refine q_callV (ci := 11) (Mc := M_X11_truncate) (z := 1) (b := a2) (As := [.int (q_xs G j1)]) (st := [.int (q_i b6)]) mo_X11_truncate mi_X11_truncate ml_L_76_X11_truncate rfl rfl (by decide) rfl (by decide) g8 rfl (Nat.le_of_ble_eq_true rfl) (by decide +kernel) s11 h (q_fB fun b10 A9 h => ?_)
  show q_Wp _ _ _ _ k n 253 [some (.ref (q_sb G)), some (.ref a1), some (.ref a2), some (.ref a3), some (.ref a4), some (.int x5), none, none, none, none] [.int (q_i b10), .int (q_i b6)] A9
  refine q_icmp_eq 1398 (off := 1145) (by decide +kernel) (by decide) (fun c12 => ?_) (fun c12 => ?_)
  · have h := h.1 c12
    exact h
  · have h := h.2 c12
    refine q_blk (pc' := 257) (lo' := [some (.ref (q_sb G)), some (.ref a1), some (.ref a2), some (.ref a3), some (.ref a4), some (.int x5), none, none, none, none]) (st' := [.int (nI 0)]) [.iconst 0] (by decide +kernel) rfl ?_
    obtain ⟨g13, h⟩ := h
    exact q_retZ (r := q_i false) rfl (q_nz _) g13.1 g13.2 (by decide +kernel) ⟨false, rfl, h⟩
theorem f_L_law_258 {G : q_G} {X : String → q_H → Prop} {f : Bool → q_H → Prop} {A : q_H} {a1 : Nat} {a2 : Nat} {a3 : Nat} {a4 : Nat} {x5 : Int32} {k n : Nat} (hL : q_sL G < 2147483648) (h : (k ≤ 735865 ∧ n ≤ 6888508) ∧ q_sh A a1 = (11, 0) ∧ q_Wc G M_X10_bufferLength [.ref a1] A (q_KI fun r3 A2 => (k ≤ 735865 ∧ n ≤ 6888508) ∧ q_sh A2 a2 = (12, 0) ∧ q_Wc G M_X11_bufferLength [.ref a2] A2 (q_KI fun r7 A6 => ((r3 = r7 → q_Wp G M_L_law (q_KB f) X k n 1398 [some (.ref (q_sb G)), some (.ref a1), some (.ref a2), some (.ref a3), some (.ref a4), some (.int x5), none, none, none, none] [] A6) ∧ (¬ r3 = r7 → (k ≤ 735865 ∧ n ≤ 6888508) ∧ f false A6))) q_nX) q_nX) : q_Wp G M_L_law (q_KB f) X k n 258 [some (.ref (q_sb G)), some (.ref a1), some (.ref a2), some (.ref a3), some (.ref a4), some (.int x5), none, none, none, none] [] A := by
  refine q_blk (pc' := 259) (lo' := [some (.ref (q_sb G)), some (.ref a1), some (.ref a2), some (.ref a3), some (.ref a4), some (.int x5), none, none, none, none]) (st' := [.ref a1]) [.aload_n 1] (by decide +kernel) rfl ?_
  obtain ⟨g1, h⟩ := h
  obtain ⟨s4, h⟩ := h
  refine q_callV (ci := 10) (Mc := M_X10_bufferLength) (z := 0) (b := a1) (As := []) (st := []) mo_X10_bufferLength mi_X10_bufferLength ml_L_77_X10_bufferLength rfl rfl (by decide) rfl (by decide) g1 rfl (Nat.le_of_ble_eq_true rfl) (by decide +kernel) s4 h (q_fI fun r3 A2 h => ?_)
  show q_Wp _ _ _ _ k n 262 [some (.ref (q_sb G)), some (.ref a1), some (.ref a2), some (.ref a3), some (.ref a4), some (.int x5), none, none, none, none] [.int r3] A2
  refine q_blk (pc' := 263) (lo' := [some (.ref (q_sb G)), some (.ref a1), some (.ref a2), some (.ref a3), some (.ref a4), some (.int x5), none, none, none, none]) (st' := [.ref a2, .int r3]) [.aload_n 2] (by decide +kernel) rfl ?_
  obtain ⟨g5, h⟩ := h
  obtain ⟨s8, h⟩ := h
  refine q_callV (ci := 11) (Mc := M_X11_bufferLength) (z := 0) (b := a2) (As := []) (st := [.int r3]) mo_X11_bufferLength mi_X11_bufferLength ml_L_81_X11_bufferLength rfl rfl (by decide) rfl (by decide) g5 rfl (Nat.le_of_ble_eq_true rfl) (by decide +kernel) s8 h (q_fI fun r7 A6 h => ?_)
  show q_Wp _ _ _ _ k n 266 [some (.ref (q_sb G)), some (.ref a1), some (.ref a2), some (.ref a3), some (.ref a4), some (.int x5), none, none, none, none] [.int r7, .int r3] A6
  refine q_icmp_eq 1398 (off := 1132) (by decide +kernel) (by decide) (fun c9 => ?_) (fun c9 => ?_)
  · have h := h.1 c9
    exact h
  · have h := h.2 c9
    refine q_blk (pc' := 270) (lo' := [some (.ref (q_sb G)), some (.ref a1), some (.ref a2), some (.ref a3), some (.ref a4), some (.int x5), none, none, none, none]) (st' := [.int (nI 0)]) [.iconst 0] (by decide +kernel) rfl ?_
    obtain ⟨g10, h⟩ := h
    exact q_retZ (r := q_i false) rfl (q_nz _) g10.1 g10.2 (by decide +kernel) ⟨false, rfl, h⟩
theorem f_L_law_271 {G : q_G} {X : String → q_H → Prop} {f : Bool → q_H → Prop} {A : q_H} {a1 : Nat} {a2 : Nat} {a3 : Nat} {a4 : Nat} {x5 : Int32} {k n : Nat} (hL : q_sL G < 2147483648) (h : (k + 279 ≤ 735865 ∧ n + 1223 ≤ 6888508) ∧ q_sh A a1 = (11, 0) ∧ q_Wc G M_X10_read [.ref a1] A (q_KI fun r3 A2 => (k + 279 ≤ 735865 ∧ n + 1223 ≤ 6888508) ∧ q_sh A2 a2 = (12, 0) ∧ q_Wc G M_X11_read [.ref a2] A2 (q_KI fun r7 A6 => ((r3 = r7 → q_Wp G M_L_law (q_KB f) X (k + 279) (n + 1223) 1398 [some (.ref (q_sb G)), some (.ref a1), some (.ref a2), some (.ref a3), some (.ref a4), some (.int x5), none, none, none, none] [] A6) ∧ (¬ r3 = r7 → (k + 279 ≤ 735865 ∧ n + 1223 ≤ 6888508) ∧ f false A6))) q_nX) q_nX) : q_Wp G M_L_law (q_KB f) X k n 271 [some (.ref (q_sb G)), some (.ref a1), some (.ref a2), some (.ref a3), some (.ref a4), some (.int x5), none, none, none, none] [] A := by
  refine q_blk (pc' := 272) (lo' := [some (.ref (q_sb G)), some (.ref a1), some (.ref a2), some (.ref a3), some (.ref a4), some (.int x5), none, none, none, none]) (st' := [.ref a1]) [.aload_n 1] (by decide +kernel) rfl ?_
  obtain ⟨g1, h⟩ := h
  obtain ⟨s4, h⟩ := h
  refine q_callV (ci := 10) (Mc := M_X10_read) (z := 0) (b := a1) (As := []) (st := []) mo_X10_read mi_X10_read ml_L_82_X10_read rfl rfl (by decide) rfl (by decide) g1 rfl (Nat.le_of_ble_eq_true rfl) (by decide +kernel) s4 h (q_fI fun r3 A2 h => ?_)
  show q_Wp _ _ _ _ (k + 279) (n + 1223) 275 [some (.ref (q_sb G)), some (.ref a1), some (.ref a2), some (.ref a3), some (.ref a4), some (.int x5), none, none, none, none] [.int r3] A2
  refine q_blk (pc' := 276) (lo' := [some (.ref (q_sb G)), some (.ref a1), some (.ref a2), some (.ref a3), some (.ref a4), some (.int x5), none, none, none, none]) (st' := [.ref a2, .int r3]) [.aload_n 2] (by decide +kernel) rfl ?_
  obtain ⟨g5, h⟩ := h
  obtain ⟨s8, h⟩ := h
  refine q_callV (ci := 11) (Mc := M_X11_read) (z := 0) (b := a2) (As := []) (st := [.int r3]) mo_X11_read mi_X11_read ml_L_85_X11_read rfl rfl (by decide) rfl (by decide) g5 rfl (Nat.le_of_ble_eq_true rfl) (by decide +kernel) s8 h (q_fI fun r7 A6 h => ?_)
  show q_Wp _ _ _ _ (k + 279) (n + 1223) 279 [some (.ref (q_sb G)), some (.ref a1), some (.ref a2), some (.ref a3), some (.ref a4), some (.int x5), none, none, none, none] [.int r7, .int r3] A6
  refine q_icmp_eq 1398 (off := 1119) (by decide +kernel) (by decide) (fun c9 => ?_) (fun c9 => ?_)
  · have h := h.1 c9
    exact h
  · have h := h.2 c9
    refine q_blk (pc' := 283) (lo' := [some (.ref (q_sb G)), some (.ref a1), some (.ref a2), some (.ref a3), some (.ref a4), some (.int x5), none, none, none, none]) (st' := [.int (nI 0)]) [.iconst 0] (by decide +kernel) rfl ?_
    obtain ⟨g10, h⟩ := h
    exact q_retZ (r := q_i false) rfl (q_nz _) g10.1 g10.2 (by decide +kernel) ⟨false, rfl, h⟩
theorem f_L_law_284 {G : q_G} {X : String → q_H → Prop} {f : Bool → q_H → Prop} {A : q_H} {a1 : Nat} {a2 : Nat} {a3 : Nat} {a4 : Nat} {x5 : Int32} {k n : Nat} (hL : q_sL G < 2147483648) (h : (k ≤ 735865 ∧ n ≤ 6888508) ∧ q_sh A a1 = (11, 0) ∧ q_Wc G M_X10_find [.ref a1] A (q_KI fun r3 A2 => (k ≤ 735865 ∧ n ≤ 6888508) ∧ q_sh A2 a2 = (12, 0) ∧ q_Wc G M_X11_find [.ref a2] A2 (q_KI fun r7 A6 => ((r3 = r7 → q_Wp G M_L_law (q_KB f) X k n 1398 [some (.ref (q_sb G)), some (.ref a1), some (.ref a2), some (.ref a3), some (.ref a4), some (.int x5), none, none, none, none] [] A6) ∧ (¬ r3 = r7 → (k ≤ 735865 ∧ n ≤ 6888508) ∧ f false A6))) q_nX) q_nX) : q_Wp G M_L_law (q_KB f) X k n 284 [some (.ref (q_sb G)), some (.ref a1), some (.ref a2), some (.ref a3), some (.ref a4), some (.int x5), none, none, none, none] [] A := by
  refine q_blk (pc' := 285) (lo' := [some (.ref (q_sb G)), some (.ref a1), some (.ref a2), some (.ref a3), some (.ref a4), some (.int x5), none, none, none, none]) (st' := [.ref a1]) [.aload_n 1] (by decide +kernel) rfl ?_
  obtain ⟨g1, h⟩ := h
  obtain ⟨s4, h⟩ := h
  refine q_callV (ci := 10) (Mc := M_X10_find) (z := 0) (b := a1) (As := []) (st := []) mo_X10_find mi_X10_find ml_L_86_X10_find rfl rfl (by decide) rfl (by decide) g1 rfl (Nat.le_of_ble_eq_true rfl) (by decide +kernel) s4 h (q_fI fun r3 A2 h => ?_)
  show q_Wp _ _ _ _ k n 288 [some (.ref (q_sb G)), some (.ref a1), some (.ref a2), some (.ref a3), some (.ref a4), some (.int x5), none, none, none, none] [.int r3] A2
  refine q_blk (pc' := 289) (lo' := [some (.ref (q_sb G)), some (.ref a1), some (.ref a2), some (.ref a3), some (.ref a4), some (.int x5), none, none, none, none]) (st' := [.ref a2, .int r3]) [.aload_n 2] (by decide +kernel) rfl ?_
  obtain ⟨g5, h⟩ := h
  obtain ⟨s8, h⟩ := h
  refine q_callV (ci := 11) (Mc := M_X11_find) (z := 0) (b := a2) (As := []) (st := [.int r3]) mo_X11_find mi_X11_find ml_L_89_X11_find rfl rfl (by decide) rfl (by decide) g5 rfl (Nat.le_of_ble_eq_true rfl) (by decide +kernel) s8 h (q_fI fun r7 A6 h => ?_)
  show q_Wp _ _ _ _ k n 292 [some (.ref (q_sb G)), some (.ref a1), some (.ref a2), some (.ref a3), some (.ref a4), some (.int x5), none, none, none, none] [.int r7, .int r3] A6
  refine q_icmp_eq 1398 (off := 1106) (by decide +kernel) (by decide) (fun c9 => ?_) (fun c9 => ?_)
  · have h := h.1 c9
    exact h
  · have h := h.2 c9
    refine q_blk (pc' := 296) (lo' := [some (.ref (q_sb G)), some (.ref a1), some (.ref a2), some (.ref a3), some (.ref a4), some (.int x5), none, none, none, none]) (st' := [.int (nI 0)]) [.iconst 0] (by decide +kernel) rfl ?_
    obtain ⟨g10, h⟩ := h
    exact q_retZ (r := q_i false) rfl (q_nz _) g10.1 g10.2 (by decide +kernel) ⟨false, rfl, h⟩
theorem f_L_law_297 {G : q_G} {X : String → q_H → Prop} {f : Bool → q_H → Prop} {A : q_H} {a1 : Nat} {a2 : Nat} {a3 : Nat} {a4 : Nat} {x5 : Int32} {k n : Nat} (hL : q_sL G < 2147483648) (h : ∃ j1 : Nat, (x5 + (nI 1)) = nI j1 ∧ j1 < (q_sL G) ∧ (k ≤ 735865 ∧ n ≤ 6888508) ∧ q_sh A a1 = (11, 0) ∧ q_Wc G M_X10_line [.ref a1, .int (q_xs G j1)] A (q_KI fun r6 A5 => (k ≤ 735865 ∧ n ≤ 6888508) ∧ q_sh A5 a2 = (12, 0) ∧ q_Wc G M_X11_line [.ref a2, .int (q_xs G j1)] A5 (q_KI fun r10 A9 => ((r6 = r10 → q_Wp G M_L_law (q_KB f) X k n 1398 [some (.ref (q_sb G)), some (.ref a1), some (.ref a2), some (.ref a3), some (.ref a4), some (.int x5), none, none, none, none] [] A9) ∧ (¬ r6 = r10 → (k ≤ 735865 ∧ n ≤ 6888508) ∧ f false A9))) q_nX) q_nX) : q_Wp G M_L_law (q_KB f) X k n 297 [some (.ref (q_sb G)), some (.ref a1), some (.ref a2), some (.ref a3), some (.ref a4), some (.int x5), none, none, none, none] [] A := by
  refine q_blk (pc' := 303) (lo' := [some (.ref (q_sb G)), some (.ref a1), some (.ref a2), some (.ref a3), some (.ref a4), some (.int x5), none, none, none, none]) (st' := [.int (x5 + (nI 1)), .ref (q_sb G), .ref a1]) [.aload_n 1, .aload_n 0, .iload 5, .iconst 1, .iadd] (by decide +kernel) rfl ?_
  obtain ⟨j1, e2, h⟩ := h
  obtain ⟨l3, h⟩ := h
  refine q_sld e2 l3 hL (by decide +kernel) ?_
  obtain ⟨g4, h⟩ := h
  obtain ⟨s7, h⟩ := h
  refine q_callV (ci := 10) (Mc := M_X10_line) (z := 1) (b := a1) (As := [.int (q_xs G j1)]) (st := []) mo_X10_line mi_X10_line ml_L_90_X10_line rfl rfl (by decide) rfl (by decide) g4 rfl (Nat.le_of_ble_eq_true rfl) (by decide +kernel) s7 h (q_fI fun r6 A5 h => ?_)
  show q_Wp _ _ _ _ k n 307 [some (.ref (q_sb G)), some (.ref a1), some (.ref a2), some (.ref a3), some (.ref a4), some (.int x5), none, none, none, none] [.int r6] A5
  refine q_blk (pc' := 313) (lo' := [some (.ref (q_sb G)), some (.ref a1), some (.ref a2), some (.ref a3), some (.ref a4), some (.int x5), none, none, none, none]) (st' := [.int (x5 + (nI 1)), .ref (q_sb G), .ref a2, .int r6]) [.aload_n 2, .aload_n 0, .iload 5, .iconst 1, .iadd] (by decide +kernel) rfl ?_
  refine q_sld e2 l3 hL (by decide +kernel) ?_
  obtain ⟨g8, h⟩ := h
  obtain ⟨s11, h⟩ := h
  refine q_callV (ci := 11) (Mc := M_X11_line) (z := 1) (b := a2) (As := [.int (q_xs G j1)]) (st := [.int r6]) mo_X11_line mi_X11_line ml_L_93_X11_line rfl rfl (by decide) rfl (by decide) g8 rfl (Nat.le_of_ble_eq_true rfl) (by decide +kernel) s11 h (q_fI fun r10 A9 h => ?_)
  show q_Wp _ _ _ _ k n 317 [some (.ref (q_sb G)), some (.ref a1), some (.ref a2), some (.ref a3), some (.ref a4), some (.int x5), none, none, none, none] [.int r10, .int r6] A9
  refine q_icmp_eq 1398 (off := 1081) (by decide +kernel) (by decide) (fun c12 => ?_) (fun c12 => ?_)
  · have h := h.1 c12
    exact h
  · have h := h.2 c12
    refine q_blk (pc' := 321) (lo' := [some (.ref (q_sb G)), some (.ref a1), some (.ref a2), some (.ref a3), some (.ref a4), some (.int x5), none, none, none, none]) (st' := [.int (nI 0)]) [.iconst 0] (by decide +kernel) rfl ?_
    obtain ⟨g13, h⟩ := h
    exact q_retZ (r := q_i false) rfl (q_nz _) g13.1 g13.2 (by decide +kernel) ⟨false, rfl, h⟩
theorem f_L_law_322 {G : q_G} {X : String → q_H → Prop} {f : Bool → q_H → Prop} {A : q_H} {a1 : Nat} {a2 : Nat} {a3 : Nat} {a4 : Nat} {x5 : Int32} {k n : Nat} (hL : q_sL G < 2147483648) (h : ∃ j1 : Nat, (x5 + (nI 1)) = nI j1 ∧ j1 < (q_sL G) ∧ (k + 1 ≤ 735865 ∧ n + 6 ≤ 6888508) ∧ q_Wc G M_L_setting [.ref a1, .int (q_xs G j1), .ref a3] A (q_KI fun r6 A5 => (k + 1 ≤ 735865 ∧ n + 6 ≤ 6888508) ∧ q_sh A5 a2 = (12, 0) ∧ q_Wc G M_X11_setting [.ref a2, .int (q_xs G j1)] A5 (q_KI fun r9 A8 => (k + 1 ≤ 735865 ∧ n + 6 ≤ 6888508) ∧ q_sh A8 a2 = (12, 0) ∧ q_Wc G M_X11_thrown [.ref a2] A8 (q_KI fun r13 A12 => ((r13 = r6 → ((r6 = nI 0 → ∃ z18 : Nat, q_sh A12 a3 = (52, z18) ∧ z18 < 2147483648 ∧ 0 < z18 ∧ (((q_L A12 a3 0) = (r9.toInt64) → q_Wp G M_L_law (q_KB f) X (k + 1) (n + 6) 1398 [some (.ref (q_sb G)), some (.ref a1), some (.ref a2), some (.ref a3), some (.ref a4), some (.int x5), none, none, none, none] [] A12) ∧ (¬ (q_L A12 a3 0) = (r9.toInt64) → (k + 1 ≤ 735865 ∧ n + 6 ≤ 6888508) ∧ f false A12))) ∧ (¬ r6 = nI 0 → q_Wp G M_L_law (q_KB f) X (k + 1) (n + 6) 1398 [some (.ref (q_sb G)), some (.ref a1), some (.ref a2), some (.ref a3), some (.ref a4), some (.int x5), none, none, none, none] [] A12))) ∧ (¬ r13 = r6 → (k + 1 ≤ 735865 ∧ n + 6 ≤ 6888508) ∧ f false A12))) q_nX) q_nX) q_nX) : q_Wp G M_L_law (q_KB f) X k n 322 [some (.ref (q_sb G)), some (.ref a1), some (.ref a2), some (.ref a3), some (.ref a4), some (.int x5), none, none, none, none] [] A := by
  refine q_blk (pc' := 328) (lo' := [some (.ref (q_sb G)), some (.ref a1), some (.ref a2), some (.ref a3), some (.ref a4), some (.int x5), none, none, none, none]) (st' := [.int (x5 + (nI 1)), .ref (q_sb G), .ref a1]) [.aload_n 1, .aload_n 0, .iload 5, .iconst 1, .iadd] (by decide +kernel) rfl ?_
  obtain ⟨j1, e2, h⟩ := h
  obtain ⟨l3, h⟩ := h
  refine q_sld e2 l3 hL (by decide +kernel) ?_
  refine q_blk (pc' := 330) (lo' := [some (.ref (q_sb G)), some (.ref a1), some (.ref a2), some (.ref a3), some (.ref a4), some (.int x5), none, none, none, none]) (st' := [.ref a3, .int (q_xs G j1), .ref a1]) [.aload_n 3] (by decide +kernel) rfl ?_
  obtain ⟨g4, h⟩ := h
  refine q_callSH (Mc := M_L_setting) (z := 3) (As := [.ref a1, .int (q_xs G j1), .ref a3]) (st := []) mo_L_setting ms_L_setting ml_L_94_L_setting ⟨_, _, rfl⟩ rfl (by decide) g4 rfl (Nat.le_of_ble_eq_true rfl) (by decide +kernel) h (q_fI fun r6 A5 h => ?_)
  show q_Wp _ _ _ _ (k + 1) (n + 6) 333 [some (.ref (q_sb G)), some (.ref a1), some (.ref a2), some (.ref a3), some (.ref a4), some (.int x5), none, none, none, none] [.int r6] A5
  refine q_blk (pc' := 341) (lo' := [some (.ref (q_sb G)), some (.ref a1), some (.ref a2), some (.ref a3), some (.ref a4), some (.int x5), some (.int r6), none, none, none]) (st' := [.int (x5 + (nI 1)), .ref (q_sb G), .ref a2]) [.istore 6, .aload_n 2, .aload_n 0, .iload 5, .iconst 1, .iadd] (by decide +kernel) rfl ?_
  refine q_sld e2 l3 hL (by decide +kernel) ?_
  obtain ⟨g7, h⟩ := h
  obtain ⟨s10, h⟩ := h
  refine q_callV (ci := 11) (Mc := M_X11_setting) (z := 1) (b := a2) (As := [.int (q_xs G j1)]) (st := []) mo_X11_setting mi_X11_setting ml_L_99_X11_setting rfl rfl (by decide) rfl (by decide) g7 rfl (Nat.le_of_ble_eq_true rfl) (by decide +kernel) s10 h (q_fI fun r9 A8 h => ?_)
  show q_Wp _ _ _ _ (k + 1) (n + 6) 345 [some (.ref (q_sb G)), some (.ref a1), some (.ref a2), some (.ref a3), some (.ref a4), some (.int x5), some (.int r6), none, none, none] [.int r9] A8
  refine q_blk (pc' := 348) (lo' := [some (.ref (q_sb G)), some (.ref a1), some (.ref a2), some (.ref a3), some (.ref a4), some (.int x5), some (.int r6), some (.int r9), none, none]) (st' := [.ref a2]) [.istore 7, .aload_n 2] (by decide +kernel) rfl ?_
  obtain ⟨g11, h⟩ := h
  obtain ⟨s14, h⟩ := h
  refine q_callV (ci := 11) (Mc := M_X11_thrown) (z := 0) (b := a2) (As := []) (st := []) mo_X11_thrown mi_X11_thrown ml_L_100_X11_thrown rfl rfl (by decide) rfl (by decide) g11 rfl (Nat.le_of_ble_eq_true rfl) (by decide +kernel) s14 h (q_fI fun r13 A12 h => ?_)
  show q_Wp _ _ _ _ (k + 1) (n + 6) 351 [some (.ref (q_sb G)), some (.ref a1), some (.ref a2), some (.ref a3), some (.ref a4), some (.int x5), some (.int r6), some (.int r9), none, none] [.int r13] A12
  refine q_blk (pc' := 353) (lo' := [some (.ref (q_sb G)), some (.ref a1), some (.ref a2), some (.ref a3), some (.ref a4), some (.int x5), some (.int r6), some (.int r9), none, none]) (st' := [.int r6, .int r13]) [.iload 6] (by decide +kernel) rfl ?_
  refine q_icmp_eq 358 (off := 5) (by decide +kernel) (by decide) (fun c15 => ?_) (fun c15 => ?_)
  · have h := h.1 c15
    refine q_blk (pc' := 360) (lo' := [some (.ref (q_sb G)), some (.ref a1), some (.ref a2), some (.ref a3), some (.ref a4), some (.int x5), some (.int r6), some (.int r9), none, none]) (st' := [.int r6]) [.iload 6] (by decide +kernel) rfl ?_
    refine q_if_ne 375 (off := 15) (by decide +kernel) (by decide) (fun c16 => ?_) (fun c16 => ?_)
    · have h := h.2 c16
      refine q_goto 1398 (off := 1023) (by decide +kernel) (by decide) ?_
      exact q_wk [some (.ref (q_sb G)), some (.ref a1), some (.ref a2), some (.ref a3), some (.ref a4), some (.int x5), none, none, none, none] (And.intro rfl (And.intro rfl (And.intro rfl (And.intro rfl (And.intro rfl (And.intro rfl trivial)))))) h
    · have h := h.1 c16
      refine q_blk (pc' := 365) (lo' := [some (.ref (q_sb G)), some (.ref a1), some (.ref a2), some (.ref a3), some (.ref a4), some (.int x5), some (.int r6), some (.int r9), none, none]) (st' := [.int (nI 0), .ref a3]) [.aload_n 3, .iconst 0] (by decide +kernel) rfl ?_
      obtain ⟨z18, s17, b19, h⟩ := h
      obtain ⟨l20, h⟩ := h
      refine q_lald rfl (by decide +kernel) s17 l20 b19 ?_
      refine q_blk (pc' := 370) (lo' := [some (.ref (q_sb G)), some (.ref a1), some (.ref a2), some (.ref a3), some (.ref a4), some (.int x5), some (.int r6), some (.int r9), none, none]) (st' := [.int (lg_cmp (q_L A12 a3 0) (r9.toInt64))]) [.iload 7, .i2l, .lcmp] (by decide +kernel) rfl ?_
      refine q_if_eq 375 (off := 5) (by decide +kernel) (by decide) (fun c21 => ?_) (fun c21 => ?_)
      · have h := h.1 ((lg_cmp_eq (q_L A12 a3 0) (r9.toInt64)).mp c21)
        refine q_goto 1398 (off := 1023) (by decide +kernel) (by decide) ?_
        exact q_wk [some (.ref (q_sb G)), some (.ref a1), some (.ref a2), some (.ref a3), some (.ref a4), some (.int x5), none, none, none, none] (And.intro rfl (And.intro rfl (And.intro rfl (And.intro rfl (And.intro rfl (And.intro rfl trivial)))))) h
      · have h := h.2 (fun q9 => c21 ((lg_cmp_eq (q_L A12 a3 0) (r9.toInt64)).mpr q9))
        refine q_blk (pc' := 374) (lo' := [some (.ref (q_sb G)), some (.ref a1), some (.ref a2), some (.ref a3), some (.ref a4), some (.int x5), some (.int r6), some (.int r9), none, none]) (st' := [.int (nI 0)]) [.iconst 0] (by decide +kernel) rfl ?_
        obtain ⟨g22, h⟩ := h
        exact q_retZ (r := q_i false) rfl (q_nz _) g22.1 g22.2 (by decide +kernel) ⟨false, rfl, h⟩
  · have h := h.2 c15
    refine q_blk (pc' := 357) (lo' := [some (.ref (q_sb G)), some (.ref a1), some (.ref a2), some (.ref a3), some (.ref a4), some (.int x5), some (.int r6), some (.int r9), none, none]) (st' := [.int (nI 0)]) [.iconst 0] (by decide +kernel) rfl ?_
    obtain ⟨g23, h⟩ := h
    exact q_retZ (r := q_i false) rfl (q_nz _) g23.1 g23.2 (by decide +kernel) ⟨false, rfl, h⟩
theorem f_L_law_378 {G : q_G} {X : String → q_H → Prop} {f : Bool → q_H → Prop} {A : q_H} {a1 : Nat} {a2 : Nat} {a3 : Nat} {a4 : Nat} {x5 : Int32} {k n : Nat} (hL : q_sL G < 2147483648) (h : ∃ j1 : Nat, (x5 + (nI 1)) = nI j1 ∧ j1 < (q_sL G) ∧ ∃ j4 : Nat, (x5 + (nI 2)) = nI j4 ∧ j4 < (q_sL G) ∧ (k + 2 ≤ 735865 ∧ n + 12 ≤ 6888508) ∧ q_Wc G M_L_station [.ref a1, .int (q_xs G j1), .int (q_xs G j4), .ref a3] A (q_KI fun r9 A8 => (k + 2 ≤ 735865 ∧ n + 12 ≤ 6888508) ∧ q_sh A8 a2 = (12, 0) ∧ q_Wc G M_X11_station [.ref a2, .int (q_xs G j1), .int (q_xs G j4)] A8 (q_KI fun r12 A11 => (k + 2 ≤ 735865 ∧ n + 12 ≤ 6888508) ∧ q_sh A11 a2 = (12, 0) ∧ q_Wc G M_X11_thrown [.ref a2] A11 (q_KI fun r16 A15 => ((r16 = r9 → ((r9 = nI 0 → ∃ z21 : Nat, q_sh A15 a3 = (52, z21) ∧ z21 < 2147483648 ∧ 0 < z21 ∧ (((q_L A15 a3 0) = (r12.toInt64) → q_Wp G M_L_law (q_KB f) X (k + 2) (n + 12) 1398 [some (.ref (q_sb G)), some (.ref a1), some (.ref a2), some (.ref a3), some (.ref a4), some (.int x5), none, none, none, none] [] A15) ∧ (¬ (q_L A15 a3 0) = (r12.toInt64) → (k + 2 ≤ 735865 ∧ n + 12 ≤ 6888508) ∧ f false A15))) ∧ (¬ r9 = nI 0 → q_Wp G M_L_law (q_KB f) X (k + 2) (n + 12) 1398 [some (.ref (q_sb G)), some (.ref a1), some (.ref a2), some (.ref a3), some (.ref a4), some (.int x5), none, none, none, none] [] A15))) ∧ (¬ r16 = r9 → (k + 2 ≤ 735865 ∧ n + 12 ≤ 6888508) ∧ f false A15))) q_nX) q_nX) q_nX) : q_Wp G M_L_law (q_KB f) X k n 378 [some (.ref (q_sb G)), some (.ref a1), some (.ref a2), some (.ref a3), some (.ref a4), some (.int x5), none, none, none, none] [] A := by
  refine q_blk (pc' := 384) (lo' := [some (.ref (q_sb G)), some (.ref a1), some (.ref a2), some (.ref a3), some (.ref a4), some (.int x5), none, none, none, none]) (st' := [.int (x5 + (nI 1)), .ref (q_sb G), .ref a1]) [.aload_n 1, .aload_n 0, .iload 5, .iconst 1, .iadd] (by decide +kernel) rfl ?_
  obtain ⟨j1, e2, h⟩ := h
  obtain ⟨l3, h⟩ := h
  refine q_sld e2 l3 hL (by decide +kernel) ?_
  refine q_blk (pc' := 390) (lo' := [some (.ref (q_sb G)), some (.ref a1), some (.ref a2), some (.ref a3), some (.ref a4), some (.int x5), none, none, none, none]) (st' := [.int (x5 + (nI 2)), .ref (q_sb G), .int (q_xs G j1), .ref a1]) [.aload_n 0, .iload 5, .iconst 2, .iadd] (by decide +kernel) rfl ?_
  obtain ⟨j4, e5, h⟩ := h
  obtain ⟨l6, h⟩ := h
  refine q_sld e5 l6 hL (by decide +kernel) ?_
  refine q_blk (pc' := 392) (lo' := [some (.ref (q_sb G)), some (.ref a1), some (.ref a2), some (.ref a3), some (.ref a4), some (.int x5), none, none, none, none]) (st' := [.ref a3, .int (q_xs G j4), .int (q_xs G j1), .ref a1]) [.aload_n 3] (by decide +kernel) rfl ?_
  obtain ⟨g7, h⟩ := h
  refine q_callSH (Mc := M_L_station) (z := 4) (As := [.ref a1, .int (q_xs G j1), .int (q_xs G j4), .ref a3]) (st := []) mo_L_station ms_L_station ml_L_103_L_station ⟨_, _, rfl⟩ rfl (by decide) g7 rfl (Nat.le_of_ble_eq_true rfl) (by decide +kernel) h (q_fI fun r9 A8 h => ?_)
  show q_Wp _ _ _ _ (k + 2) (n + 12) 395 [some (.ref (q_sb G)), some (.ref a1), some (.ref a2), some (.ref a3), some (.ref a4), some (.int x5), none, none, none, none] [.int r9] A8
  refine q_blk (pc' := 403) (lo' := [some (.ref (q_sb G)), some (.ref a1), some (.ref a2), some (.ref a3), some (.ref a4), some (.int x5), some (.int r9), none, none, none]) (st' := [.int (x5 + (nI 1)), .ref (q_sb G), .ref a2]) [.istore 6, .aload_n 2, .aload_n 0, .iload 5, .iconst 1, .iadd] (by decide +kernel) rfl ?_
  refine q_sld e2 l3 hL (by decide +kernel) ?_
  refine q_blk (pc' := 409) (lo' := [some (.ref (q_sb G)), some (.ref a1), some (.ref a2), some (.ref a3), some (.ref a4), some (.int x5), some (.int r9), none, none, none]) (st' := [.int (x5 + (nI 2)), .ref (q_sb G), .int (q_xs G j1), .ref a2]) [.aload_n 0, .iload 5, .iconst 2, .iadd] (by decide +kernel) rfl ?_
  refine q_sld e5 l6 hL (by decide +kernel) ?_
  obtain ⟨g10, h⟩ := h
  obtain ⟨s13, h⟩ := h
  refine q_callV (ci := 11) (Mc := M_X11_station) (z := 2) (b := a2) (As := [.int (q_xs G j1), .int (q_xs G j4)]) (st := []) mo_X11_station mi_X11_station ml_L_106_X11_station rfl rfl (by decide) rfl (by decide) g10 rfl (Nat.le_of_ble_eq_true rfl) (by decide +kernel) s13 h (q_fI fun r12 A11 h => ?_)
  show q_Wp _ _ _ _ (k + 2) (n + 12) 413 [some (.ref (q_sb G)), some (.ref a1), some (.ref a2), some (.ref a3), some (.ref a4), some (.int x5), some (.int r9), none, none, none] [.int r12] A11
  refine q_blk (pc' := 416) (lo' := [some (.ref (q_sb G)), some (.ref a1), some (.ref a2), some (.ref a3), some (.ref a4), some (.int x5), some (.int r9), some (.int r12), none, none]) (st' := [.ref a2]) [.istore 7, .aload_n 2] (by decide +kernel) rfl ?_
  obtain ⟨g14, h⟩ := h
  obtain ⟨s17, h⟩ := h
  refine q_callV (ci := 11) (Mc := M_X11_thrown) (z := 0) (b := a2) (As := []) (st := []) mo_X11_thrown mi_X11_thrown ml_L_100_X11_thrown rfl rfl (by decide) rfl (by decide) g14 rfl (Nat.le_of_ble_eq_true rfl) (by decide +kernel) s17 h (q_fI fun r16 A15 h => ?_)
  show q_Wp _ _ _ _ (k + 2) (n + 12) 419 [some (.ref (q_sb G)), some (.ref a1), some (.ref a2), some (.ref a3), some (.ref a4), some (.int x5), some (.int r9), some (.int r12), none, none] [.int r16] A15
  refine q_blk (pc' := 421) (lo' := [some (.ref (q_sb G)), some (.ref a1), some (.ref a2), some (.ref a3), some (.ref a4), some (.int x5), some (.int r9), some (.int r12), none, none]) (st' := [.int r9, .int r16]) [.iload 6] (by decide +kernel) rfl ?_
  refine q_icmp_eq 426 (off := 5) (by decide +kernel) (by decide) (fun c18 => ?_) (fun c18 => ?_)
  · have h := h.1 c18
    refine q_blk (pc' := 428) (lo' := [some (.ref (q_sb G)), some (.ref a1), some (.ref a2), some (.ref a3), some (.ref a4), some (.int x5), some (.int r9), some (.int r12), none, none]) (st' := [.int r9]) [.iload 6] (by decide +kernel) rfl ?_
    refine q_if_ne 443 (off := 15) (by decide +kernel) (by decide) (fun c19 => ?_) (fun c19 => ?_)
    · have h := h.2 c19
      refine q_goto 1398 (off := 955) (by decide +kernel) (by decide) ?_
      exact q_wk [some (.ref (q_sb G)), some (.ref a1), some (.ref a2), some (.ref a3), some (.ref a4), some (.int x5), none, none, none, none] (And.intro rfl (And.intro rfl (And.intro rfl (And.intro rfl (And.intro rfl (And.intro rfl trivial)))))) h
    · have h := h.1 c19
      refine q_blk (pc' := 433) (lo' := [some (.ref (q_sb G)), some (.ref a1), some (.ref a2), some (.ref a3), some (.ref a4), some (.int x5), some (.int r9), some (.int r12), none, none]) (st' := [.int (nI 0), .ref a3]) [.aload_n 3, .iconst 0] (by decide +kernel) rfl ?_
      obtain ⟨z21, s20, b22, h⟩ := h
      obtain ⟨l23, h⟩ := h
      refine q_lald rfl (by decide +kernel) s20 l23 b22 ?_
      refine q_blk (pc' := 438) (lo' := [some (.ref (q_sb G)), some (.ref a1), some (.ref a2), some (.ref a3), some (.ref a4), some (.int x5), some (.int r9), some (.int r12), none, none]) (st' := [.int (lg_cmp (q_L A15 a3 0) (r12.toInt64))]) [.iload 7, .i2l, .lcmp] (by decide +kernel) rfl ?_
      refine q_if_eq 443 (off := 5) (by decide +kernel) (by decide) (fun c24 => ?_) (fun c24 => ?_)
      · have h := h.1 ((lg_cmp_eq (q_L A15 a3 0) (r12.toInt64)).mp c24)
        refine q_goto 1398 (off := 955) (by decide +kernel) (by decide) ?_
        exact q_wk [some (.ref (q_sb G)), some (.ref a1), some (.ref a2), some (.ref a3), some (.ref a4), some (.int x5), none, none, none, none] (And.intro rfl (And.intro rfl (And.intro rfl (And.intro rfl (And.intro rfl (And.intro rfl trivial)))))) h
      · have h := h.2 (fun q9 => c24 ((lg_cmp_eq (q_L A15 a3 0) (r12.toInt64)).mpr q9))
        refine q_blk (pc' := 442) (lo' := [some (.ref (q_sb G)), some (.ref a1), some (.ref a2), some (.ref a3), some (.ref a4), some (.int x5), some (.int r9), some (.int r12), none, none]) (st' := [.int (nI 0)]) [.iconst 0] (by decide +kernel) rfl ?_
        obtain ⟨g25, h⟩ := h
        exact q_retZ (r := q_i false) rfl (q_nz _) g25.1 g25.2 (by decide +kernel) ⟨false, rfl, h⟩
  · have h := h.2 c18
    refine q_blk (pc' := 425) (lo' := [some (.ref (q_sb G)), some (.ref a1), some (.ref a2), some (.ref a3), some (.ref a4), some (.int x5), some (.int r9), some (.int r12), none, none]) (st' := [.int (nI 0)]) [.iconst 0] (by decide +kernel) rfl ?_
    obtain ⟨g26, h⟩ := h
    exact q_retZ (r := q_i false) rfl (q_nz _) g26.1 g26.2 (by decide +kernel) ⟨false, rfl, h⟩
theorem f_L_law_446 {G : q_G} {X : String → q_H → Prop} {f : Bool → q_H → Prop} {A : q_H} {a1 : Nat} {a2 : Nat} {a3 : Nat} {a4 : Nat} {x5 : Int32} {k n : Nat} (hL : q_sL G < 2147483648) (h : ∃ j1 : Nat, (x5 + (nI 1)) = nI j1 ∧ j1 < (q_sL G) ∧ ∃ j4 : Nat, (x5 + (nI 2)) = nI j4 ∧ j4 < (q_sL G) ∧ (k + 2 ≤ 735865 ∧ n + 12 ≤ 6888508) ∧ q_Wc G M_L_mass [.ref a1, .int (q_xs G j1), .int (q_xs G j4), .ref a3] A (q_KI fun r9 A8 => (k + 2 ≤ 735865 ∧ n + 12 ≤ 6888508) ∧ q_sh A8 a2 = (12, 0) ∧ q_Wc G M_X11_mass [.ref a2, .int (q_xs G j1), .int (q_xs G j4)] A8 (q_KI fun r12 A11 => (k + 2 ≤ 735865 ∧ n + 12 ≤ 6888508) ∧ q_sh A11 a2 = (12, 0) ∧ q_Wc G M_X11_thrown [.ref a2] A11 (q_KI fun r16 A15 => ((r16 = r9 → ((r9 = nI 0 → ∃ z21 : Nat, q_sh A15 a3 = (52, z21) ∧ z21 < 2147483648 ∧ 0 < z21 ∧ (((q_L A15 a3 0) = (r12.toInt64) → q_Wp G M_L_law (q_KB f) X (k + 2) (n + 12) 1398 [some (.ref (q_sb G)), some (.ref a1), some (.ref a2), some (.ref a3), some (.ref a4), some (.int x5), none, none, none, none] [] A15) ∧ (¬ (q_L A15 a3 0) = (r12.toInt64) → (k + 2 ≤ 735865 ∧ n + 12 ≤ 6888508) ∧ f false A15))) ∧ (¬ r9 = nI 0 → q_Wp G M_L_law (q_KB f) X (k + 2) (n + 12) 1398 [some (.ref (q_sb G)), some (.ref a1), some (.ref a2), some (.ref a3), some (.ref a4), some (.int x5), none, none, none, none] [] A15))) ∧ (¬ r16 = r9 → (k + 2 ≤ 735865 ∧ n + 12 ≤ 6888508) ∧ f false A15))) q_nX) q_nX) q_nX) : q_Wp G M_L_law (q_KB f) X k n 446 [some (.ref (q_sb G)), some (.ref a1), some (.ref a2), some (.ref a3), some (.ref a4), some (.int x5), none, none, none, none] [] A := by
  refine q_blk (pc' := 452) (lo' := [some (.ref (q_sb G)), some (.ref a1), some (.ref a2), some (.ref a3), some (.ref a4), some (.int x5), none, none, none, none]) (st' := [.int (x5 + (nI 1)), .ref (q_sb G), .ref a1]) [.aload_n 1, .aload_n 0, .iload 5, .iconst 1, .iadd] (by decide +kernel) rfl ?_
  obtain ⟨j1, e2, h⟩ := h
  obtain ⟨l3, h⟩ := h
  refine q_sld e2 l3 hL (by decide +kernel) ?_
  refine q_blk (pc' := 458) (lo' := [some (.ref (q_sb G)), some (.ref a1), some (.ref a2), some (.ref a3), some (.ref a4), some (.int x5), none, none, none, none]) (st' := [.int (x5 + (nI 2)), .ref (q_sb G), .int (q_xs G j1), .ref a1]) [.aload_n 0, .iload 5, .iconst 2, .iadd] (by decide +kernel) rfl ?_
  obtain ⟨j4, e5, h⟩ := h
  obtain ⟨l6, h⟩ := h
  refine q_sld e5 l6 hL (by decide +kernel) ?_
  refine q_blk (pc' := 460) (lo' := [some (.ref (q_sb G)), some (.ref a1), some (.ref a2), some (.ref a3), some (.ref a4), some (.int x5), none, none, none, none]) (st' := [.ref a3, .int (q_xs G j4), .int (q_xs G j1), .ref a1]) [.aload_n 3] (by decide +kernel) rfl ?_
  obtain ⟨g7, h⟩ := h
  refine q_callSH (Mc := M_L_mass) (z := 4) (As := [.ref a1, .int (q_xs G j1), .int (q_xs G j4), .ref a3]) (st := []) mo_L_mass ms_L_mass ml_L_107_L_mass ⟨_, _, rfl⟩ rfl (by decide) g7 rfl (Nat.le_of_ble_eq_true rfl) (by decide +kernel) h (q_fI fun r9 A8 h => ?_)
  show q_Wp _ _ _ _ (k + 2) (n + 12) 463 [some (.ref (q_sb G)), some (.ref a1), some (.ref a2), some (.ref a3), some (.ref a4), some (.int x5), none, none, none, none] [.int r9] A8
  refine q_blk (pc' := 471) (lo' := [some (.ref (q_sb G)), some (.ref a1), some (.ref a2), some (.ref a3), some (.ref a4), some (.int x5), some (.int r9), none, none, none]) (st' := [.int (x5 + (nI 1)), .ref (q_sb G), .ref a2]) [.istore 6, .aload_n 2, .aload_n 0, .iload 5, .iconst 1, .iadd] (by decide +kernel) rfl ?_
  refine q_sld e2 l3 hL (by decide +kernel) ?_
  refine q_blk (pc' := 477) (lo' := [some (.ref (q_sb G)), some (.ref a1), some (.ref a2), some (.ref a3), some (.ref a4), some (.int x5), some (.int r9), none, none, none]) (st' := [.int (x5 + (nI 2)), .ref (q_sb G), .int (q_xs G j1), .ref a2]) [.aload_n 0, .iload 5, .iconst 2, .iadd] (by decide +kernel) rfl ?_
  refine q_sld e5 l6 hL (by decide +kernel) ?_
  obtain ⟨g10, h⟩ := h
  obtain ⟨s13, h⟩ := h
  refine q_callV (ci := 11) (Mc := M_X11_mass) (z := 2) (b := a2) (As := [.int (q_xs G j1), .int (q_xs G j4)]) (st := []) mo_X11_mass mi_X11_mass ml_L_109_X11_mass rfl rfl (by decide) rfl (by decide) g10 rfl (Nat.le_of_ble_eq_true rfl) (by decide +kernel) s13 h (q_fI fun r12 A11 h => ?_)
  show q_Wp _ _ _ _ (k + 2) (n + 12) 481 [some (.ref (q_sb G)), some (.ref a1), some (.ref a2), some (.ref a3), some (.ref a4), some (.int x5), some (.int r9), none, none, none] [.int r12] A11
  refine q_blk (pc' := 484) (lo' := [some (.ref (q_sb G)), some (.ref a1), some (.ref a2), some (.ref a3), some (.ref a4), some (.int x5), some (.int r9), some (.int r12), none, none]) (st' := [.ref a2]) [.istore 7, .aload_n 2] (by decide +kernel) rfl ?_
  obtain ⟨g14, h⟩ := h
  obtain ⟨s17, h⟩ := h
  refine q_callV (ci := 11) (Mc := M_X11_thrown) (z := 0) (b := a2) (As := []) (st := []) mo_X11_thrown mi_X11_thrown ml_L_100_X11_thrown rfl rfl (by decide) rfl (by decide) g14 rfl (Nat.le_of_ble_eq_true rfl) (by decide +kernel) s17 h (q_fI fun r16 A15 h => ?_)
  show q_Wp _ _ _ _ (k + 2) (n + 12) 487 [some (.ref (q_sb G)), some (.ref a1), some (.ref a2), some (.ref a3), some (.ref a4), some (.int x5), some (.int r9), some (.int r12), none, none] [.int r16] A15
  refine q_blk (pc' := 489) (lo' := [some (.ref (q_sb G)), some (.ref a1), some (.ref a2), some (.ref a3), some (.ref a4), some (.int x5), some (.int r9), some (.int r12), none, none]) (st' := [.int r9, .int r16]) [.iload 6] (by decide +kernel) rfl ?_
  refine q_icmp_eq 494 (off := 5) (by decide +kernel) (by decide) (fun c18 => ?_) (fun c18 => ?_)
  · have h := h.1 c18
    refine q_blk (pc' := 496) (lo' := [some (.ref (q_sb G)), some (.ref a1), some (.ref a2), some (.ref a3), some (.ref a4), some (.int x5), some (.int r9), some (.int r12), none, none]) (st' := [.int r9]) [.iload 6] (by decide +kernel) rfl ?_
    refine q_if_ne 511 (off := 15) (by decide +kernel) (by decide) (fun c19 => ?_) (fun c19 => ?_)
    · have h := h.2 c19
      refine q_goto 1398 (off := 887) (by decide +kernel) (by decide) ?_
      exact q_wk [some (.ref (q_sb G)), some (.ref a1), some (.ref a2), some (.ref a3), some (.ref a4), some (.int x5), none, none, none, none] (And.intro rfl (And.intro rfl (And.intro rfl (And.intro rfl (And.intro rfl (And.intro rfl trivial)))))) h
    · have h := h.1 c19
      refine q_blk (pc' := 501) (lo' := [some (.ref (q_sb G)), some (.ref a1), some (.ref a2), some (.ref a3), some (.ref a4), some (.int x5), some (.int r9), some (.int r12), none, none]) (st' := [.int (nI 0), .ref a3]) [.aload_n 3, .iconst 0] (by decide +kernel) rfl ?_
      obtain ⟨z21, s20, b22, h⟩ := h
      obtain ⟨l23, h⟩ := h
      refine q_lald rfl (by decide +kernel) s20 l23 b22 ?_
      refine q_blk (pc' := 506) (lo' := [some (.ref (q_sb G)), some (.ref a1), some (.ref a2), some (.ref a3), some (.ref a4), some (.int x5), some (.int r9), some (.int r12), none, none]) (st' := [.int (lg_cmp (q_L A15 a3 0) (r12.toInt64))]) [.iload 7, .i2l, .lcmp] (by decide +kernel) rfl ?_
      refine q_if_eq 511 (off := 5) (by decide +kernel) (by decide) (fun c24 => ?_) (fun c24 => ?_)
      · have h := h.1 ((lg_cmp_eq (q_L A15 a3 0) (r12.toInt64)).mp c24)
        refine q_goto 1398 (off := 887) (by decide +kernel) (by decide) ?_
        exact q_wk [some (.ref (q_sb G)), some (.ref a1), some (.ref a2), some (.ref a3), some (.ref a4), some (.int x5), none, none, none, none] (And.intro rfl (And.intro rfl (And.intro rfl (And.intro rfl (And.intro rfl (And.intro rfl trivial)))))) h
      · have h := h.2 (fun q9 => c24 ((lg_cmp_eq (q_L A15 a3 0) (r12.toInt64)).mpr q9))
        refine q_blk (pc' := 510) (lo' := [some (.ref (q_sb G)), some (.ref a1), some (.ref a2), some (.ref a3), some (.ref a4), some (.int x5), some (.int r9), some (.int r12), none, none]) (st' := [.int (nI 0)]) [.iconst 0] (by decide +kernel) rfl ?_
        obtain ⟨g25, h⟩ := h
        exact q_retZ (r := q_i false) rfl (q_nz _) g25.1 g25.2 (by decide +kernel) ⟨false, rfl, h⟩
  · have h := h.2 c18
    refine q_blk (pc' := 493) (lo' := [some (.ref (q_sb G)), some (.ref a1), some (.ref a2), some (.ref a3), some (.ref a4), some (.int x5), some (.int r9), some (.int r12), none, none]) (st' := [.int (nI 0)]) [.iconst 0] (by decide +kernel) rfl ?_
    obtain ⟨g26, h⟩ := h
    exact q_retZ (r := q_i false) rfl (q_nz _) g26.1 g26.2 (by decide +kernel) ⟨false, rfl, h⟩
theorem f_L_law_514 {G : q_G} {X : String → q_H → Prop} {f : Bool → q_H → Prop} {A : q_H} {a1 : Nat} {a2 : Nat} {a3 : Nat} {a4 : Nat} {x5 : Int32} {k n : Nat} (hL : q_sL G < 2147483648) (h : ∃ j1 : Nat, (x5 + (nI 1)) = nI j1 ∧ j1 < (q_sL G) ∧ ∃ j4 : Nat, (x5 + (nI 2)) = nI j4 ∧ j4 < (q_sL G) ∧ (k + 2 ≤ 735865 ∧ n + 12 ≤ 6888508) ∧ q_Wc G M_L_bale [.ref a1, .int (q_xs G j1), .int (q_xs G j4), .ref a3] A (q_KI fun r9 A8 => (k + 2 ≤ 735865 ∧ n + 12 ≤ 6888508) ∧ q_sh A8 a2 = (12, 0) ∧ q_Wc G M_X11_bale [.ref a2, .int (q_xs G j1), .int (q_xs G j4)] A8 (q_KI fun r12 A11 => (k + 2 ≤ 735865 ∧ n + 12 ≤ 6888508) ∧ q_sh A11 a2 = (12, 0) ∧ q_Wc G M_X11_thrown [.ref a2] A11 (q_KI fun r16 A15 => ((r16 = r9 → ((r9 = nI 0 → ∃ z21 : Nat, q_sh A15 a3 = (52, z21) ∧ z21 < 2147483648 ∧ 0 < z21 ∧ (((q_L A15 a3 0) = (r12.toInt64) → q_Wp G M_L_law (q_KB f) X (k + 2) (n + 12) 1398 [some (.ref (q_sb G)), some (.ref a1), some (.ref a2), some (.ref a3), some (.ref a4), some (.int x5), none, none, none, none] [] A15) ∧ (¬ (q_L A15 a3 0) = (r12.toInt64) → (k + 2 ≤ 735865 ∧ n + 12 ≤ 6888508) ∧ f false A15))) ∧ (¬ r9 = nI 0 → q_Wp G M_L_law (q_KB f) X (k + 2) (n + 12) 1398 [some (.ref (q_sb G)), some (.ref a1), some (.ref a2), some (.ref a3), some (.ref a4), some (.int x5), none, none, none, none] [] A15))) ∧ (¬ r16 = r9 → (k + 2 ≤ 735865 ∧ n + 12 ≤ 6888508) ∧ f false A15))) q_nX) q_nX) q_nX) : q_Wp G M_L_law (q_KB f) X k n 514 [some (.ref (q_sb G)), some (.ref a1), some (.ref a2), some (.ref a3), some (.ref a4), some (.int x5), none, none, none, none] [] A := by
  refine q_blk (pc' := 520) (lo' := [some (.ref (q_sb G)), some (.ref a1), some (.ref a2), some (.ref a3), some (.ref a4), some (.int x5), none, none, none, none]) (st' := [.int (x5 + (nI 1)), .ref (q_sb G), .ref a1]) [.aload_n 1, .aload_n 0, .iload 5, .iconst 1, .iadd] (by decide +kernel) rfl ?_
  obtain ⟨j1, e2, h⟩ := h
  obtain ⟨l3, h⟩ := h
  refine q_sld e2 l3 hL (by decide +kernel) ?_
  refine q_blk (pc' := 526) (lo' := [some (.ref (q_sb G)), some (.ref a1), some (.ref a2), some (.ref a3), some (.ref a4), some (.int x5), none, none, none, none]) (st' := [.int (x5 + (nI 2)), .ref (q_sb G), .int (q_xs G j1), .ref a1]) [.aload_n 0, .iload 5, .iconst 2, .iadd] (by decide +kernel) rfl ?_
  obtain ⟨j4, e5, h⟩ := h
  obtain ⟨l6, h⟩ := h
  refine q_sld e5 l6 hL (by decide +kernel) ?_
  refine q_blk (pc' := 528) (lo' := [some (.ref (q_sb G)), some (.ref a1), some (.ref a2), some (.ref a3), some (.ref a4), some (.int x5), none, none, none, none]) (st' := [.ref a3, .int (q_xs G j4), .int (q_xs G j1), .ref a1]) [.aload_n 3] (by decide +kernel) rfl ?_
  obtain ⟨g7, h⟩ := h
  refine q_callSH (Mc := M_L_bale) (z := 4) (As := [.ref a1, .int (q_xs G j1), .int (q_xs G j4), .ref a3]) (st := []) mo_L_bale ms_L_bale ml_L_110_L_bale ⟨_, _, rfl⟩ rfl (by decide) g7 rfl (Nat.le_of_ble_eq_true rfl) (by decide +kernel) h (q_fI fun r9 A8 h => ?_)
  show q_Wp _ _ _ _ (k + 2) (n + 12) 531 [some (.ref (q_sb G)), some (.ref a1), some (.ref a2), some (.ref a3), some (.ref a4), some (.int x5), none, none, none, none] [.int r9] A8
  refine q_blk (pc' := 539) (lo' := [some (.ref (q_sb G)), some (.ref a1), some (.ref a2), some (.ref a3), some (.ref a4), some (.int x5), some (.int r9), none, none, none]) (st' := [.int (x5 + (nI 1)), .ref (q_sb G), .ref a2]) [.istore 6, .aload_n 2, .aload_n 0, .iload 5, .iconst 1, .iadd] (by decide +kernel) rfl ?_
  refine q_sld e2 l3 hL (by decide +kernel) ?_
  refine q_blk (pc' := 545) (lo' := [some (.ref (q_sb G)), some (.ref a1), some (.ref a2), some (.ref a3), some (.ref a4), some (.int x5), some (.int r9), none, none, none]) (st' := [.int (x5 + (nI 2)), .ref (q_sb G), .int (q_xs G j1), .ref a2]) [.aload_n 0, .iload 5, .iconst 2, .iadd] (by decide +kernel) rfl ?_
  refine q_sld e5 l6 hL (by decide +kernel) ?_
  obtain ⟨g10, h⟩ := h
  obtain ⟨s13, h⟩ := h
  refine q_callV (ci := 11) (Mc := M_X11_bale) (z := 2) (b := a2) (As := [.int (q_xs G j1), .int (q_xs G j4)]) (st := []) mo_X11_bale mi_X11_bale ml_L_112_X11_bale rfl rfl (by decide) rfl (by decide) g10 rfl (Nat.le_of_ble_eq_true rfl) (by decide +kernel) s13 h (q_fI fun r12 A11 h => ?_)
  show q_Wp _ _ _ _ (k + 2) (n + 12) 549 [some (.ref (q_sb G)), some (.ref a1), some (.ref a2), some (.ref a3), some (.ref a4), some (.int x5), some (.int r9), none, none, none] [.int r12] A11
  refine q_blk (pc' := 552) (lo' := [some (.ref (q_sb G)), some (.ref a1), some (.ref a2), some (.ref a3), some (.ref a4), some (.int x5), some (.int r9), some (.int r12), none, none]) (st' := [.ref a2]) [.istore 7, .aload_n 2] (by decide +kernel) rfl ?_
  obtain ⟨g14, h⟩ := h
  obtain ⟨s17, h⟩ := h
  refine q_callV (ci := 11) (Mc := M_X11_thrown) (z := 0) (b := a2) (As := []) (st := []) mo_X11_thrown mi_X11_thrown ml_L_100_X11_thrown rfl rfl (by decide) rfl (by decide) g14 rfl (Nat.le_of_ble_eq_true rfl) (by decide +kernel) s17 h (q_fI fun r16 A15 h => ?_)
  show q_Wp _ _ _ _ (k + 2) (n + 12) 555 [some (.ref (q_sb G)), some (.ref a1), some (.ref a2), some (.ref a3), some (.ref a4), some (.int x5), some (.int r9), some (.int r12), none, none] [.int r16] A15
  refine q_blk (pc' := 557) (lo' := [some (.ref (q_sb G)), some (.ref a1), some (.ref a2), some (.ref a3), some (.ref a4), some (.int x5), some (.int r9), some (.int r12), none, none]) (st' := [.int r9, .int r16]) [.iload 6] (by decide +kernel) rfl ?_
  refine q_icmp_eq 562 (off := 5) (by decide +kernel) (by decide) (fun c18 => ?_) (fun c18 => ?_)
  · have h := h.1 c18
    refine q_blk (pc' := 564) (lo' := [some (.ref (q_sb G)), some (.ref a1), some (.ref a2), some (.ref a3), some (.ref a4), some (.int x5), some (.int r9), some (.int r12), none, none]) (st' := [.int r9]) [.iload 6] (by decide +kernel) rfl ?_
    refine q_if_ne 579 (off := 15) (by decide +kernel) (by decide) (fun c19 => ?_) (fun c19 => ?_)
    · have h := h.2 c19
      refine q_goto 1398 (off := 819) (by decide +kernel) (by decide) ?_
      exact q_wk [some (.ref (q_sb G)), some (.ref a1), some (.ref a2), some (.ref a3), some (.ref a4), some (.int x5), none, none, none, none] (And.intro rfl (And.intro rfl (And.intro rfl (And.intro rfl (And.intro rfl (And.intro rfl trivial)))))) h
    · have h := h.1 c19
      refine q_blk (pc' := 569) (lo' := [some (.ref (q_sb G)), some (.ref a1), some (.ref a2), some (.ref a3), some (.ref a4), some (.int x5), some (.int r9), some (.int r12), none, none]) (st' := [.int (nI 0), .ref a3]) [.aload_n 3, .iconst 0] (by decide +kernel) rfl ?_
      obtain ⟨z21, s20, b22, h⟩ := h
      obtain ⟨l23, h⟩ := h
      refine q_lald rfl (by decide +kernel) s20 l23 b22 ?_
      refine q_blk (pc' := 574) (lo' := [some (.ref (q_sb G)), some (.ref a1), some (.ref a2), some (.ref a3), some (.ref a4), some (.int x5), some (.int r9), some (.int r12), none, none]) (st' := [.int (lg_cmp (q_L A15 a3 0) (r12.toInt64))]) [.iload 7, .i2l, .lcmp] (by decide +kernel) rfl ?_
      refine q_if_eq 579 (off := 5) (by decide +kernel) (by decide) (fun c24 => ?_) (fun c24 => ?_)
      · have h := h.1 ((lg_cmp_eq (q_L A15 a3 0) (r12.toInt64)).mp c24)
        refine q_goto 1398 (off := 819) (by decide +kernel) (by decide) ?_
        exact q_wk [some (.ref (q_sb G)), some (.ref a1), some (.ref a2), some (.ref a3), some (.ref a4), some (.int x5), none, none, none, none] (And.intro rfl (And.intro rfl (And.intro rfl (And.intro rfl (And.intro rfl (And.intro rfl trivial)))))) h
      · have h := h.2 (fun q9 => c24 ((lg_cmp_eq (q_L A15 a3 0) (r12.toInt64)).mpr q9))
        refine q_blk (pc' := 578) (lo' := [some (.ref (q_sb G)), some (.ref a1), some (.ref a2), some (.ref a3), some (.ref a4), some (.int x5), some (.int r9), some (.int r12), none, none]) (st' := [.int (nI 0)]) [.iconst 0] (by decide +kernel) rfl ?_
        obtain ⟨g25, h⟩ := h
        exact q_retZ (r := q_i false) rfl (q_nz _) g25.1 g25.2 (by decide +kernel) ⟨false, rfl, h⟩
  · have h := h.2 c18
    refine q_blk (pc' := 561) (lo' := [some (.ref (q_sb G)), some (.ref a1), some (.ref a2), some (.ref a3), some (.ref a4), some (.int x5), some (.int r9), some (.int r12), none, none]) (st' := [.int (nI 0)]) [.iconst 0] (by decide +kernel) rfl ?_
    obtain ⟨g26, h⟩ := h
    exact q_retZ (r := q_i false) rfl (q_nz _) g26.1 g26.2 (by decide +kernel) ⟨false, rfl, h⟩
theorem f_L_law_582 {G : q_G} {X : String → q_H → Prop} {f : Bool → q_H → Prop} {A : q_H} {a1 : Nat} {a2 : Nat} {a3 : Nat} {a4 : Nat} {x5 : Int32} {k n : Nat} (hL : q_sL G < 2147483648) (h : ∃ j1 : Nat, (x5 + (nI 1)) = nI j1 ∧ j1 < (q_sL G) ∧ ∃ j4 : Nat, (x5 + (nI 2)) = nI j4 ∧ j4 < (q_sL G) ∧ (k + 2 ≤ 735865 ∧ n + 12 ≤ 6888508) ∧ q_Wc G M_L_buyer [.ref a1, .int (q_xs G j1), .int (q_xs G j4), .ref a3] A (q_KI fun r9 A8 => (k + 2 ≤ 735865 ∧ n + 12 ≤ 6888508) ∧ q_sh A8 a2 = (12, 0) ∧ q_Wc G M_X11_buyer [.ref a2, .int (q_xs G j1), .int (q_xs G j4)] A8 (q_KI fun r12 A11 => (k + 2 ≤ 735865 ∧ n + 12 ≤ 6888508) ∧ q_sh A11 a2 = (12, 0) ∧ q_Wc G M_X11_thrown [.ref a2] A11 (q_KI fun r16 A15 => ((r16 = r9 → ((r9 = nI 0 → ∃ z21 : Nat, q_sh A15 a3 = (52, z21) ∧ z21 < 2147483648 ∧ 0 < z21 ∧ (((q_L A15 a3 0) = (r12.toInt64) → q_Wp G M_L_law (q_KB f) X (k + 2) (n + 12) 1398 [some (.ref (q_sb G)), some (.ref a1), some (.ref a2), some (.ref a3), some (.ref a4), some (.int x5), none, none, none, none] [] A15) ∧ (¬ (q_L A15 a3 0) = (r12.toInt64) → (k + 2 ≤ 735865 ∧ n + 12 ≤ 6888508) ∧ f false A15))) ∧ (¬ r9 = nI 0 → q_Wp G M_L_law (q_KB f) X (k + 2) (n + 12) 1398 [some (.ref (q_sb G)), some (.ref a1), some (.ref a2), some (.ref a3), some (.ref a4), some (.int x5), none, none, none, none] [] A15))) ∧ (¬ r16 = r9 → (k + 2 ≤ 735865 ∧ n + 12 ≤ 6888508) ∧ f false A15))) q_nX) q_nX) q_nX) : q_Wp G M_L_law (q_KB f) X k n 582 [some (.ref (q_sb G)), some (.ref a1), some (.ref a2), some (.ref a3), some (.ref a4), some (.int x5), none, none, none, none] [] A := by
  refine q_blk (pc' := 588) (lo' := [some (.ref (q_sb G)), some (.ref a1), some (.ref a2), some (.ref a3), some (.ref a4), some (.int x5), none, none, none, none]) (st' := [.int (x5 + (nI 1)), .ref (q_sb G), .ref a1]) [.aload_n 1, .aload_n 0, .iload 5, .iconst 1, .iadd] (by decide +kernel) rfl ?_
  obtain ⟨j1, e2, h⟩ := h
  obtain ⟨l3, h⟩ := h
  refine q_sld e2 l3 hL (by decide +kernel) ?_
  refine q_blk (pc' := 594) (lo' := [some (.ref (q_sb G)), some (.ref a1), some (.ref a2), some (.ref a3), some (.ref a4), some (.int x5), none, none, none, none]) (st' := [.int (x5 + (nI 2)), .ref (q_sb G), .int (q_xs G j1), .ref a1]) [.aload_n 0, .iload 5, .iconst 2, .iadd] (by decide +kernel) rfl ?_
  obtain ⟨j4, e5, h⟩ := h
  obtain ⟨l6, h⟩ := h
  refine q_sld e5 l6 hL (by decide +kernel) ?_
  refine q_blk (pc' := 596) (lo' := [some (.ref (q_sb G)), some (.ref a1), some (.ref a2), some (.ref a3), some (.ref a4), some (.int x5), none, none, none, none]) (st' := [.ref a3, .int (q_xs G j4), .int (q_xs G j1), .ref a1]) [.aload_n 3] (by decide +kernel) rfl ?_
  obtain ⟨g7, h⟩ := h
  refine q_callSH (Mc := M_L_buyer) (z := 4) (As := [.ref a1, .int (q_xs G j1), .int (q_xs G j4), .ref a3]) (st := []) mo_L_buyer ms_L_buyer ml_L_113_L_buyer ⟨_, _, rfl⟩ rfl (by decide) g7 rfl (Nat.le_of_ble_eq_true rfl) (by decide +kernel) h (q_fI fun r9 A8 h => ?_)
  show q_Wp _ _ _ _ (k + 2) (n + 12) 599 [some (.ref (q_sb G)), some (.ref a1), some (.ref a2), some (.ref a3), some (.ref a4), some (.int x5), none, none, none, none] [.int r9] A8
  refine q_blk (pc' := 607) (lo' := [some (.ref (q_sb G)), some (.ref a1), some (.ref a2), some (.ref a3), some (.ref a4), some (.int x5), some (.int r9), none, none, none]) (st' := [.int (x5 + (nI 1)), .ref (q_sb G), .ref a2]) [.istore 6, .aload_n 2, .aload_n 0, .iload 5, .iconst 1, .iadd] (by decide +kernel) rfl ?_
  refine q_sld e2 l3 hL (by decide +kernel) ?_
  refine q_blk (pc' := 613) (lo' := [some (.ref (q_sb G)), some (.ref a1), some (.ref a2), some (.ref a3), some (.ref a4), some (.int x5), some (.int r9), none, none, none]) (st' := [.int (x5 + (nI 2)), .ref (q_sb G), .int (q_xs G j1), .ref a2]) [.aload_n 0, .iload 5, .iconst 2, .iadd] (by decide +kernel) rfl ?_
  refine q_sld e5 l6 hL (by decide +kernel) ?_
  obtain ⟨g10, h⟩ := h
  obtain ⟨s13, h⟩ := h
  refine q_callV (ci := 11) (Mc := M_X11_buyer) (z := 2) (b := a2) (As := [.int (q_xs G j1), .int (q_xs G j4)]) (st := []) mo_X11_buyer mi_X11_buyer ml_L_115_X11_buyer rfl rfl (by decide) rfl (by decide) g10 rfl (Nat.le_of_ble_eq_true rfl) (by decide +kernel) s13 h (q_fI fun r12 A11 h => ?_)
  show q_Wp _ _ _ _ (k + 2) (n + 12) 617 [some (.ref (q_sb G)), some (.ref a1), some (.ref a2), some (.ref a3), some (.ref a4), some (.int x5), some (.int r9), none, none, none] [.int r12] A11
  refine q_blk (pc' := 620) (lo' := [some (.ref (q_sb G)), some (.ref a1), some (.ref a2), some (.ref a3), some (.ref a4), some (.int x5), some (.int r9), some (.int r12), none, none]) (st' := [.ref a2]) [.istore 7, .aload_n 2] (by decide +kernel) rfl ?_
  obtain ⟨g14, h⟩ := h
  obtain ⟨s17, h⟩ := h
  refine q_callV (ci := 11) (Mc := M_X11_thrown) (z := 0) (b := a2) (As := []) (st := []) mo_X11_thrown mi_X11_thrown ml_L_100_X11_thrown rfl rfl (by decide) rfl (by decide) g14 rfl (Nat.le_of_ble_eq_true rfl) (by decide +kernel) s17 h (q_fI fun r16 A15 h => ?_)
  show q_Wp _ _ _ _ (k + 2) (n + 12) 623 [some (.ref (q_sb G)), some (.ref a1), some (.ref a2), some (.ref a3), some (.ref a4), some (.int x5), some (.int r9), some (.int r12), none, none] [.int r16] A15
  refine q_blk (pc' := 625) (lo' := [some (.ref (q_sb G)), some (.ref a1), some (.ref a2), some (.ref a3), some (.ref a4), some (.int x5), some (.int r9), some (.int r12), none, none]) (st' := [.int r9, .int r16]) [.iload 6] (by decide +kernel) rfl ?_
  refine q_icmp_eq 630 (off := 5) (by decide +kernel) (by decide) (fun c18 => ?_) (fun c18 => ?_)
  · have h := h.1 c18
    refine q_blk (pc' := 632) (lo' := [some (.ref (q_sb G)), some (.ref a1), some (.ref a2), some (.ref a3), some (.ref a4), some (.int x5), some (.int r9), some (.int r12), none, none]) (st' := [.int r9]) [.iload 6] (by decide +kernel) rfl ?_
    refine q_if_ne 647 (off := 15) (by decide +kernel) (by decide) (fun c19 => ?_) (fun c19 => ?_)
    · have h := h.2 c19
      refine q_goto 1398 (off := 751) (by decide +kernel) (by decide) ?_
      exact q_wk [some (.ref (q_sb G)), some (.ref a1), some (.ref a2), some (.ref a3), some (.ref a4), some (.int x5), none, none, none, none] (And.intro rfl (And.intro rfl (And.intro rfl (And.intro rfl (And.intro rfl (And.intro rfl trivial)))))) h
    · have h := h.1 c19
      refine q_blk (pc' := 637) (lo' := [some (.ref (q_sb G)), some (.ref a1), some (.ref a2), some (.ref a3), some (.ref a4), some (.int x5), some (.int r9), some (.int r12), none, none]) (st' := [.int (nI 0), .ref a3]) [.aload_n 3, .iconst 0] (by decide +kernel) rfl ?_
      obtain ⟨z21, s20, b22, h⟩ := h
      obtain ⟨l23, h⟩ := h
      refine q_lald rfl (by decide +kernel) s20 l23 b22 ?_
      refine q_blk (pc' := 642) (lo' := [some (.ref (q_sb G)), some (.ref a1), some (.ref a2), some (.ref a3), some (.ref a4), some (.int x5), some (.int r9), some (.int r12), none, none]) (st' := [.int (lg_cmp (q_L A15 a3 0) (r12.toInt64))]) [.iload 7, .i2l, .lcmp] (by decide +kernel) rfl ?_
      refine q_if_eq 647 (off := 5) (by decide +kernel) (by decide) (fun c24 => ?_) (fun c24 => ?_)
      · have h := h.1 ((lg_cmp_eq (q_L A15 a3 0) (r12.toInt64)).mp c24)
        refine q_goto 1398 (off := 751) (by decide +kernel) (by decide) ?_
        exact q_wk [some (.ref (q_sb G)), some (.ref a1), some (.ref a2), some (.ref a3), some (.ref a4), some (.int x5), none, none, none, none] (And.intro rfl (And.intro rfl (And.intro rfl (And.intro rfl (And.intro rfl (And.intro rfl trivial)))))) h
      · have h := h.2 (fun q9 => c24 ((lg_cmp_eq (q_L A15 a3 0) (r12.toInt64)).mpr q9))
        refine q_blk (pc' := 646) (lo' := [some (.ref (q_sb G)), some (.ref a1), some (.ref a2), some (.ref a3), some (.ref a4), some (.int x5), some (.int r9), some (.int r12), none, none]) (st' := [.int (nI 0)]) [.iconst 0] (by decide +kernel) rfl ?_
        obtain ⟨g25, h⟩ := h
        exact q_retZ (r := q_i false) rfl (q_nz _) g25.1 g25.2 (by decide +kernel) ⟨false, rfl, h⟩
  · have h := h.2 c18
    refine q_blk (pc' := 629) (lo' := [some (.ref (q_sb G)), some (.ref a1), some (.ref a2), some (.ref a3), some (.ref a4), some (.int x5), some (.int r9), some (.int r12), none, none]) (st' := [.int (nI 0)]) [.iconst 0] (by decide +kernel) rfl ?_
    obtain ⟨g26, h⟩ := h
    exact q_retZ (r := q_i false) rfl (q_nz _) g26.1 g26.2 (by decide +kernel) ⟨false, rfl, h⟩
theorem f_L_law_650 {G : q_G} {X : String → q_H → Prop} {f : Bool → q_H → Prop} {A : q_H} {a1 : Nat} {a2 : Nat} {a3 : Nat} {a4 : Nat} {x5 : Int32} {k n : Nat} (hL : q_sL G < 2147483648) (h : ∃ j1 : Nat, (x5 + (nI 1)) = nI j1 ∧ j1 < (q_sL G) ∧ (k ≤ 735865 ∧ n ≤ 6888508) ∧ q_sh A a1 = (11, 0) ∧ q_Wc G M_X10_balance [.ref a1, .int (q_xs G j1)] A (q_KL fun r6 A5 => (k ≤ 735865 ∧ n ≤ 6888508) ∧ q_sh A5 a2 = (12, 0) ∧ q_Wc G M_X11_balance [.ref a2, .int (q_xs G j1)] A5 (q_KL fun r10 A9 => ((r6 = r10 → q_Wp G M_L_law (q_KB f) X k n 1398 [some (.ref (q_sb G)), some (.ref a1), some (.ref a2), some (.ref a3), some (.ref a4), some (.int x5), none, none, none, none] [] A9) ∧ (¬ r6 = r10 → (k ≤ 735865 ∧ n ≤ 6888508) ∧ f false A9))) q_nX) q_nX) : q_Wp G M_L_law (q_KB f) X k n 650 [some (.ref (q_sb G)), some (.ref a1), some (.ref a2), some (.ref a3), some (.ref a4), some (.int x5), none, none, none, none] [] A := by
  refine q_blk (pc' := 656) (lo' := [some (.ref (q_sb G)), some (.ref a1), some (.ref a2), some (.ref a3), some (.ref a4), some (.int x5), none, none, none, none]) (st' := [.int (x5 + (nI 1)), .ref (q_sb G), .ref a1]) [.aload_n 1, .aload_n 0, .iload 5, .iconst 1, .iadd] (by decide +kernel) rfl ?_
  obtain ⟨j1, e2, h⟩ := h
  obtain ⟨l3, h⟩ := h
  refine q_sld e2 l3 hL (by decide +kernel) ?_
  obtain ⟨g4, h⟩ := h
  obtain ⟨s7, h⟩ := h
  refine q_callV (ci := 10) (Mc := M_X10_balance) (z := 1) (b := a1) (As := [.int (q_xs G j1)]) (st := []) mo_X10_balance mi_X10_balance ml_L_116_X10_balance rfl rfl (by decide) rfl (by decide) g4 rfl (Nat.le_of_ble_eq_true rfl) (by decide +kernel) s7 h (q_fL fun r6 A5 h => ?_)
  show q_Wp _ _ _ _ k n 660 [some (.ref (q_sb G)), some (.ref a1), some (.ref a2), some (.ref a3), some (.ref a4), some (.int x5), none, none, none, none] [.long r6] A5
  refine q_blk (pc' := 666) (lo' := [some (.ref (q_sb G)), some (.ref a1), some (.ref a2), some (.ref a3), some (.ref a4), some (.int x5), none, none, none, none]) (st' := [.int (x5 + (nI 1)), .ref (q_sb G), .ref a2, .long r6]) [.aload_n 2, .aload_n 0, .iload 5, .iconst 1, .iadd] (by decide +kernel) rfl ?_
  refine q_sld e2 l3 hL (by decide +kernel) ?_
  obtain ⟨g8, h⟩ := h
  obtain ⟨s11, h⟩ := h
  refine q_callV (ci := 11) (Mc := M_X11_balance) (z := 1) (b := a2) (As := [.int (q_xs G j1)]) (st := [.long r6]) mo_X11_balance mi_X11_balance ml_L_120_X11_balance rfl rfl (by decide) rfl (by decide) g8 rfl (Nat.le_of_ble_eq_true rfl) (by decide +kernel) s11 h (q_fL fun r10 A9 h => ?_)
  show q_Wp _ _ _ _ k n 670 [some (.ref (q_sb G)), some (.ref a1), some (.ref a2), some (.ref a3), some (.ref a4), some (.int x5), none, none, none, none] [.long r10, .long r6] A9
  refine q_blk (pc' := 671) (lo' := [some (.ref (q_sb G)), some (.ref a1), some (.ref a2), some (.ref a3), some (.ref a4), some (.int x5), none, none, none, none]) (st' := [.int (lg_cmp r6 r10)]) [.lcmp] (by decide +kernel) rfl ?_
  refine q_if_eq 1398 (off := 727) (by decide +kernel) (by decide) (fun c12 => ?_) (fun c12 => ?_)
  · have h := h.1 ((lg_cmp_eq r6 r10).mp c12)
    exact h
  · have h := h.2 (fun q9 => c12 ((lg_cmp_eq r6 r10).mpr q9))
    refine q_blk (pc' := 675) (lo' := [some (.ref (q_sb G)), some (.ref a1), some (.ref a2), some (.ref a3), some (.ref a4), some (.int x5), none, none, none, none]) (st' := [.int (nI 0)]) [.iconst 0] (by decide +kernel) rfl ?_
    obtain ⟨g13, h⟩ := h
    exact q_retZ (r := q_i false) rfl (q_nz _) g13.1 g13.2 (by decide +kernel) ⟨false, rfl, h⟩
theorem f_L_law_676 {G : q_G} {X : String → q_H → Prop} {f : Bool → q_H → Prop} {A : q_H} {a1 : Nat} {a2 : Nat} {a3 : Nat} {a4 : Nat} {x5 : Int32} {k n : Nat} (hL : q_sL G < 2147483648) (h : ∃ j1 : Nat, (x5 + (nI 1)) = nI j1 ∧ j1 < (q_sL G) ∧ (k + 1 ≤ 735865 ∧ n + 6 ≤ 6888508) ∧ q_Wc G M_L_purity [.ref a1, .int (q_xs G j1), .ref a4] A (q_KI fun r6 A5 => (k + 1 ≤ 735865 ∧ n + 6 ≤ 6888508) ∧ q_sh A5 a2 = (12, 0) ∧ q_Wc G M_X11_purity [.ref a2, .int (q_xs G j1)] A5 (q_KD fun r9 A8 => (k + 1 ≤ 735865 ∧ n + 6 ≤ 6888508) ∧ q_sh A8 a2 = (12, 0) ∧ q_Wc G M_X11_thrown [.ref a2] A8 (q_KI fun r13 A12 => ((r13 = r6 → ((r6 = nI 0 → ∃ z18 : Nat, q_sh A12 a4 = (53, z18) ∧ z18 < 2147483648 ∧ 0 < z18 ∧ (((Op.cmpValue (FP.dcmp (q_D A12 a4 0) r9) .l) = nI 0 → q_Wp G M_L_law (q_KB f) X (k + 1) (n + 6) 1398 [some (.ref (q_sb G)), some (.ref a1), some (.ref a2), some (.ref a3), some (.ref a4), some (.int x5), none, none, none, none] [] A12) ∧ (¬ (Op.cmpValue (FP.dcmp (q_D A12 a4 0) r9) .l) = nI 0 → (((Op.cmpValue (FP.dcmp (q_D A12 a4 0) (q_D A12 a4 0)) .l) = nI 0 → (k + 1 ≤ 735865 ∧ n + 6 ≤ 6888508) ∧ f false A12) ∧ (¬ (Op.cmpValue (FP.dcmp (q_D A12 a4 0) (q_D A12 a4 0)) .l) = nI 0 → (((Op.cmpValue (FP.dcmp r9 r9) .l) = nI 0 → (k + 1 ≤ 735865 ∧ n + 6 ≤ 6888508) ∧ f false A12) ∧ (¬ (Op.cmpValue (FP.dcmp r9 r9) .l) = nI 0 → q_Wp G M_L_law (q_KB f) X (k + 1) (n + 6) 1398 [some (.ref (q_sb G)), some (.ref a1), some (.ref a2), some (.ref a3), some (.ref a4), some (.int x5), none, none, none, none] [] A12))))))) ∧ (¬ r6 = nI 0 → q_Wp G M_L_law (q_KB f) X (k + 1) (n + 6) 1398 [some (.ref (q_sb G)), some (.ref a1), some (.ref a2), some (.ref a3), some (.ref a4), some (.int x5), none, none, none, none] [] A12))) ∧ (¬ r13 = r6 → (k + 1 ≤ 735865 ∧ n + 6 ≤ 6888508) ∧ f false A12))) q_nX) q_nX) q_nX) : q_Wp G M_L_law (q_KB f) X k n 676 [some (.ref (q_sb G)), some (.ref a1), some (.ref a2), some (.ref a3), some (.ref a4), some (.int x5), none, none, none, none] [] A := by
  refine q_blk (pc' := 682) (lo' := [some (.ref (q_sb G)), some (.ref a1), some (.ref a2), some (.ref a3), some (.ref a4), some (.int x5), none, none, none, none]) (st' := [.int (x5 + (nI 1)), .ref (q_sb G), .ref a1]) [.aload_n 1, .aload_n 0, .iload 5, .iconst 1, .iadd] (by decide +kernel) rfl ?_
  obtain ⟨j1, e2, h⟩ := h
  obtain ⟨l3, h⟩ := h
  refine q_sld e2 l3 hL (by decide +kernel) ?_
  refine q_blk (pc' := 685) (lo' := [some (.ref (q_sb G)), some (.ref a1), some (.ref a2), some (.ref a3), some (.ref a4), some (.int x5), none, none, none, none]) (st' := [.ref a4, .int (q_xs G j1), .ref a1]) [.aload 4] (by decide +kernel) rfl ?_
  obtain ⟨g4, h⟩ := h
  refine q_callSH (Mc := M_L_purity) (z := 3) (As := [.ref a1, .int (q_xs G j1), .ref a4]) (st := []) mo_L_purity ms_L_purity ml_L_121_L_purity ⟨_, _, rfl⟩ rfl (by decide) g4 rfl (Nat.le_of_ble_eq_true rfl) (by decide +kernel) h (q_fI fun r6 A5 h => ?_)
  show q_Wp _ _ _ _ (k + 1) (n + 6) 688 [some (.ref (q_sb G)), some (.ref a1), some (.ref a2), some (.ref a3), some (.ref a4), some (.int x5), none, none, none, none] [.int r6] A5
  refine q_blk (pc' := 696) (lo' := [some (.ref (q_sb G)), some (.ref a1), some (.ref a2), some (.ref a3), some (.ref a4), some (.int x5), some (.int r6), none, none, none]) (st' := [.int (x5 + (nI 1)), .ref (q_sb G), .ref a2]) [.istore 6, .aload_n 2, .aload_n 0, .iload 5, .iconst 1, .iadd] (by decide +kernel) rfl ?_
  refine q_sld e2 l3 hL (by decide +kernel) ?_
  obtain ⟨g7, h⟩ := h
  obtain ⟨s10, h⟩ := h
  refine q_callV (ci := 11) (Mc := M_X11_purity) (z := 1) (b := a2) (As := [.int (q_xs G j1)]) (st := []) mo_X11_purity mi_X11_purity ml_L_124_X11_purity rfl rfl (by decide) rfl (by decide) g7 rfl (Nat.le_of_ble_eq_true rfl) (by decide +kernel) s10 h (q_fD fun r9 A8 h => ?_)
  show q_Wp _ _ _ _ (k + 1) (n + 6) 700 [some (.ref (q_sb G)), some (.ref a1), some (.ref a2), some (.ref a3), some (.ref a4), some (.int x5), some (.int r6), none, none, none] [.double r9] A8
  refine q_blk (pc' := 703) (lo' := [some (.ref (q_sb G)), some (.ref a1), some (.ref a2), some (.ref a3), some (.ref a4), some (.int x5), some (.int r6), some (.double r9), none, none]) (st' := [.ref a2]) [.dstore 7, .aload_n 2] (by decide +kernel) rfl ?_
  obtain ⟨g11, h⟩ := h
  obtain ⟨s14, h⟩ := h
  refine q_callV (ci := 11) (Mc := M_X11_thrown) (z := 0) (b := a2) (As := []) (st := []) mo_X11_thrown mi_X11_thrown ml_L_100_X11_thrown rfl rfl (by decide) rfl (by decide) g11 rfl (Nat.le_of_ble_eq_true rfl) (by decide +kernel) s14 h (q_fI fun r13 A12 h => ?_)
  show q_Wp _ _ _ _ (k + 1) (n + 6) 706 [some (.ref (q_sb G)), some (.ref a1), some (.ref a2), some (.ref a3), some (.ref a4), some (.int x5), some (.int r6), some (.double r9), none, none] [.int r13] A12
  refine q_blk (pc' := 708) (lo' := [some (.ref (q_sb G)), some (.ref a1), some (.ref a2), some (.ref a3), some (.ref a4), some (.int x5), some (.int r6), some (.double r9), none, none]) (st' := [.int r6, .int r13]) [.iload 6] (by decide +kernel) rfl ?_
  refine q_icmp_eq 713 (off := 5) (by decide +kernel) (by decide) (fun c15 => ?_) (fun c15 => ?_)
  · have h := h.1 c15
    refine q_blk (pc' := 715) (lo' := [some (.ref (q_sb G)), some (.ref a1), some (.ref a2), some (.ref a3), some (.ref a4), some (.int x5), some (.int r6), some (.double r9), none, none]) (st' := [.int r6]) [.iload 6] (by decide +kernel) rfl ?_
    refine q_if_ne 750 (off := 35) (by decide +kernel) (by decide) (fun c16 => ?_) (fun c16 => ?_)
    · have h := h.2 c16
      refine q_goto 1398 (off := 648) (by decide +kernel) (by decide) ?_
      exact q_wk [some (.ref (q_sb G)), some (.ref a1), some (.ref a2), some (.ref a3), some (.ref a4), some (.int x5), none, none, none, none] (And.intro rfl (And.intro rfl (And.intro rfl (And.intro rfl (And.intro rfl (And.intro rfl trivial)))))) h
    · have h := h.1 c16
      refine q_blk (pc' := 721) (lo' := [some (.ref (q_sb G)), some (.ref a1), some (.ref a2), some (.ref a3), some (.ref a4), some (.int x5), some (.int r6), some (.double r9), none, none]) (st' := [.int (nI 0), .ref a4]) [.aload 4, .iconst 0] (by decide +kernel) rfl ?_
      obtain ⟨z18, s17, b19, h⟩ := h
      obtain ⟨l20, h⟩ := h
      refine q_dald rfl (by decide +kernel) s17 l20 b19 ?_
      refine q_blk (pc' := 725) (lo' := [some (.ref (q_sb G)), some (.ref a1), some (.ref a2), some (.ref a3), some (.ref a4), some (.int x5), some (.int r6), some (.double r9), none, none]) (st' := [.int (Op.cmpValue (FP.dcmp (q_D A12 a4 0) r9) .l)]) [.dload 7, .dcmp .l] (by decide +kernel) rfl ?_
      refine q_if_eq 750 (off := 25) (by decide +kernel) (by decide) (fun c21 => ?_) (fun c21 => ?_)
      · have h := h.1 c21
        refine q_goto 1398 (off := 648) (by decide +kernel) (by decide) ?_
        exact q_wk [some (.ref (q_sb G)), some (.ref a1), some (.ref a2), some (.ref a3), some (.ref a4), some (.int x5), none, none, none, none] (And.intro rfl (And.intro rfl (And.intro rfl (And.intro rfl (And.intro rfl (And.intro rfl trivial)))))) h
      · have h := h.2 c21
        refine q_blk (pc' := 731) (lo' := [some (.ref (q_sb G)), some (.ref a1), some (.ref a2), some (.ref a3), some (.ref a4), some (.int x5), some (.int r6), some (.double r9), none, none]) (st' := [.int (nI 0), .ref a4]) [.aload 4, .iconst 0] (by decide +kernel) rfl ?_
        refine q_dald rfl (by decide +kernel) s17 l20 b19 ?_
        refine q_blk (pc' := 735) (lo' := [some (.ref (q_sb G)), some (.ref a1), some (.ref a2), some (.ref a3), some (.ref a4), some (.int x5), some (.int r6), some (.double r9), none, none]) (st' := [.int (nI 0), .ref a4, .double (q_D A12 a4 0)]) [.aload 4, .iconst 0] (by decide +kernel) rfl ?_
        refine q_dald rfl (by decide +kernel) s17 l20 b19 ?_
        refine q_blk (pc' := 737) (lo' := [some (.ref (q_sb G)), some (.ref a1), some (.ref a2), some (.ref a3), some (.ref a4), some (.int x5), some (.int r6), some (.double r9), none, none]) (st' := [.int (Op.cmpValue (FP.dcmp (q_D A12 a4 0) (q_D A12 a4 0)) .l)]) [.dcmp .l] (by decide +kernel) rfl ?_
        refine q_if_eq 748 (off := 11) (by decide +kernel) (by decide) (fun c22 => ?_) (fun c22 => ?_)
        · have h := h.1 c22
          refine q_blk (pc' := 749) (lo' := [some (.ref (q_sb G)), some (.ref a1), some (.ref a2), some (.ref a3), some (.ref a4), some (.int x5), some (.int r6), some (.double r9), none, none]) (st' := [.int (nI 0)]) [.iconst 0] (by decide +kernel) rfl ?_
          obtain ⟨g23, h⟩ := h
          exact q_retZ (r := q_i false) rfl (q_nz _) g23.1 g23.2 (by decide +kernel) ⟨false, rfl, h⟩
        · have h := h.2 c22
          refine q_blk (pc' := 745) (lo' := [some (.ref (q_sb G)), some (.ref a1), some (.ref a2), some (.ref a3), some (.ref a4), some (.int x5), some (.int r6), some (.double r9), none, none]) (st' := [.int (Op.cmpValue (FP.dcmp r9 r9) .l)]) [.dload 7, .dload 7, .dcmp .l] (by decide +kernel) rfl ?_
          refine q_if_ne 750 (off := 5) (by decide +kernel) (by decide) (fun c24 => ?_) (fun c24 => ?_)
          · have h := h.2 c24
            refine q_goto 1398 (off := 648) (by decide +kernel) (by decide) ?_
            exact q_wk [some (.ref (q_sb G)), some (.ref a1), some (.ref a2), some (.ref a3), some (.ref a4), some (.int x5), none, none, none, none] (And.intro rfl (And.intro rfl (And.intro rfl (And.intro rfl (And.intro rfl (And.intro rfl trivial)))))) h
          · have h := h.1 c24
            refine q_blk (pc' := 749) (lo' := [some (.ref (q_sb G)), some (.ref a1), some (.ref a2), some (.ref a3), some (.ref a4), some (.int x5), some (.int r6), some (.double r9), none, none]) (st' := [.int (nI 0)]) [.iconst 0] (by decide +kernel) rfl ?_
            obtain ⟨g25, h⟩ := h
            exact q_retZ (r := q_i false) rfl (q_nz _) g25.1 g25.2 (by decide +kernel) ⟨false, rfl, h⟩
  · have h := h.2 c15
    refine q_blk (pc' := 712) (lo' := [some (.ref (q_sb G)), some (.ref a1), some (.ref a2), some (.ref a3), some (.ref a4), some (.int x5), some (.int r6), some (.double r9), none, none]) (st' := [.int (nI 0)]) [.iconst 0] (by decide +kernel) rfl ?_
    obtain ⟨g26, h⟩ := h
    exact q_retZ (r := q_i false) rfl (q_nz _) g26.1 g26.2 (by decide +kernel) ⟨false, rfl, h⟩
theorem f_L_law_753 {G : q_G} {X : String → q_H → Prop} {f : Bool → q_H → Prop} {A : q_H} {a1 : Nat} {a2 : Nat} {a3 : Nat} {a4 : Nat} {x5 : Int32} {k n : Nat} (hL : q_sL G < 2147483648) (h : (k ≤ 735865 ∧ n ≤ 6888508) ∧ q_sh A a1 = (11, 0) ∧ q_Wc G M_X10_loss [.ref a1] A (q_KF fun r3 A2 => vf_n64 (FP.f2d r3) ∧ (k ≤ 735865 ∧ n ≤ 6888508) ∧ q_sh A2 a2 = (12, 0) ∧ q_Wc G M_X11_loss [.ref a2] A2 (q_KF fun r8 A7 => vf_n64 (FP.f2d r8) ∧ (((Op.cmpValue (FP.dcmp (FP.f2d r3) (FP.f2d r8)) .l) = nI 0 → q_Wp G M_L_law (q_KB f) X k n 1398 [some (.ref (q_sb G)), some (.ref a1), some (.ref a2), some (.ref a3), some (.ref a4), some (.int x5), none, none, none, none] [] A7) ∧ (¬ (Op.cmpValue (FP.dcmp (FP.f2d r3) (FP.f2d r8)) .l) = nI 0 → (((Op.cmpValue (FP.dcmp (FP.f2d r3) (FP.f2d r3)) .l) = nI 0 → (k ≤ 735865 ∧ n ≤ 6888508) ∧ f false A7) ∧ (¬ (Op.cmpValue (FP.dcmp (FP.f2d r3) (FP.f2d r3)) .l) = nI 0 → (((Op.cmpValue (FP.dcmp (FP.f2d r8) (FP.f2d r8)) .l) = nI 0 → (k ≤ 735865 ∧ n ≤ 6888508) ∧ f false A7) ∧ (¬ (Op.cmpValue (FP.dcmp (FP.f2d r8) (FP.f2d r8)) .l) = nI 0 → q_Wp G M_L_law (q_KB f) X k n 1398 [some (.ref (q_sb G)), some (.ref a1), some (.ref a2), some (.ref a3), some (.ref a4), some (.int x5), none, none, none, none] [] A7))))))) q_nX) q_nX) : q_Wp G M_L_law (q_KB f) X k n 753 [some (.ref (q_sb G)), some (.ref a1), some (.ref a2), some (.ref a3), some (.ref a4), some (.int x5), none, none, none, none] [] A := by
  refine q_blk (pc' := 754) (lo' := [some (.ref (q_sb G)), some (.ref a1), some (.ref a2), some (.ref a3), some (.ref a4), some (.int x5), none, none, none, none]) (st' := [.ref a1]) [.aload_n 1] (by decide +kernel) rfl ?_
  obtain ⟨g1, h⟩ := h
  obtain ⟨s4, h⟩ := h
  refine q_callV (ci := 10) (Mc := M_X10_loss) (z := 0) (b := a1) (As := []) (st := []) mo_X10_loss mi_X10_loss ml_L_125_X10_loss rfl rfl (by decide) rfl (by decide) g1 rfl (Nat.le_of_ble_eq_true rfl) (by decide +kernel) s4 h (q_fF fun r3 A2 h => ?_)
  show q_Wp _ _ _ _ k n 757 [some (.ref (q_sb G)), some (.ref a1), some (.ref a2), some (.ref a3), some (.ref a4), some (.int x5), none, none, none, none] [.float r3] A2
  obtain ⟨d5, h⟩ := h
  refine q_f2d (by decide +kernel) d5 ?_
  refine q_blk (pc' := 761) (lo' := [some (.ref (q_sb G)), some (.ref a1), some (.ref a2), some (.ref a3), some (.ref a4), some (.int x5), some (.double (FP.f2d r3)), none, none, none]) (st' := [.ref a2]) [.dstore 6, .aload_n 2] (by decide +kernel) rfl ?_
  obtain ⟨g6, h⟩ := h
  obtain ⟨s9, h⟩ := h
  refine q_callV (ci := 11) (Mc := M_X11_loss) (z := 0) (b := a2) (As := []) (st := []) mo_X11_loss mi_X11_loss ml_L_129_X11_loss rfl rfl (by decide) rfl (by decide) g6 rfl (Nat.le_of_ble_eq_true rfl) (by decide +kernel) s9 h (q_fF fun r8 A7 h => ?_)
  show q_Wp _ _ _ _ k n 764 [some (.ref (q_sb G)), some (.ref a1), some (.ref a2), some (.ref a3), some (.ref a4), some (.int x5), some (.double (FP.f2d r3)), none, none, none] [.float r8] A7
  obtain ⟨d10, h⟩ := h
  refine q_f2d (by decide +kernel) d10 ?_
  refine q_blk (pc' := 772) (lo' := [some (.ref (q_sb G)), some (.ref a1), some (.ref a2), some (.ref a3), some (.ref a4), some (.int x5), some (.double (FP.f2d r3)), none, some (.double (FP.f2d r8)), none]) (st' := [.int (Op.cmpValue (FP.dcmp (FP.f2d r3) (FP.f2d r8)) .l)]) [.dstore 8, .dload 6, .dload 8, .dcmp .l] (by decide +kernel) rfl ?_
  refine q_if_eq 793 (off := 21) (by decide +kernel) (by decide) (fun c11 => ?_) (fun c11 => ?_)
  · have h := h.1 c11
    refine q_goto 1398 (off := 605) (by decide +kernel) (by decide) ?_
    exact q_wk [some (.ref (q_sb G)), some (.ref a1), some (.ref a2), some (.ref a3), some (.ref a4), some (.int x5), none, none, none, none] (And.intro rfl (And.intro rfl (And.intro rfl (And.intro rfl (And.intro rfl (And.intro rfl trivial)))))) h
  · have h := h.2 c11
    refine q_blk (pc' := 780) (lo' := [some (.ref (q_sb G)), some (.ref a1), some (.ref a2), some (.ref a3), some (.ref a4), some (.int x5), some (.double (FP.f2d r3)), none, some (.double (FP.f2d r8)), none]) (st' := [.int (Op.cmpValue (FP.dcmp (FP.f2d r3) (FP.f2d r3)) .l)]) [.dload 6, .dload 6, .dcmp .l] (by decide +kernel) rfl ?_
    refine q_if_eq 791 (off := 11) (by decide +kernel) (by decide) (fun c12 => ?_) (fun c12 => ?_)
    · have h := h.1 c12
      refine q_blk (pc' := 792) (lo' := [some (.ref (q_sb G)), some (.ref a1), some (.ref a2), some (.ref a3), some (.ref a4), some (.int x5), some (.double (FP.f2d r3)), none, some (.double (FP.f2d r8)), none]) (st' := [.int (nI 0)]) [.iconst 0] (by decide +kernel) rfl ?_
      obtain ⟨g13, h⟩ := h
      exact q_retZ (r := q_i false) rfl (q_nz _) g13.1 g13.2 (by decide +kernel) ⟨false, rfl, h⟩
    · have h := h.2 c12
      refine q_blk (pc' := 788) (lo' := [some (.ref (q_sb G)), some (.ref a1), some (.ref a2), some (.ref a3), some (.ref a4), some (.int x5), some (.double (FP.f2d r3)), none, some (.double (FP.f2d r8)), none]) (st' := [.int (Op.cmpValue (FP.dcmp (FP.f2d r8) (FP.f2d r8)) .l)]) [.dload 8, .dload 8, .dcmp .l] (by decide +kernel) rfl ?_
      refine q_if_ne 793 (off := 5) (by decide +kernel) (by decide) (fun c14 => ?_) (fun c14 => ?_)
      · have h := h.2 c14
        refine q_goto 1398 (off := 605) (by decide +kernel) (by decide) ?_
        exact q_wk [some (.ref (q_sb G)), some (.ref a1), some (.ref a2), some (.ref a3), some (.ref a4), some (.int x5), none, none, none, none] (And.intro rfl (And.intro rfl (And.intro rfl (And.intro rfl (And.intro rfl (And.intro rfl trivial)))))) h
      · have h := h.1 c14
        refine q_blk (pc' := 792) (lo' := [some (.ref (q_sb G)), some (.ref a1), some (.ref a2), some (.ref a3), some (.ref a4), some (.int x5), some (.double (FP.f2d r3)), none, some (.double (FP.f2d r8)), none]) (st' := [.int (nI 0)]) [.iconst 0] (by decide +kernel) rfl ?_
        obtain ⟨g15, h⟩ := h
        exact q_retZ (r := q_i false) rfl (q_nz _) g15.1 g15.2 (by decide +kernel) ⟨false, rfl, h⟩
theorem f_L_law_796 {G : q_G} {X : String → q_H → Prop} {f : Bool → q_H → Prop} {A : q_H} {a1 : Nat} {a2 : Nat} {a3 : Nat} {a4 : Nat} {x5 : Int32} {k n : Nat} (hL : q_sL G < 2147483648) (h : ∃ j1 : Nat, (x5 + (nI 1)) = nI j1 ∧ j1 < (q_sL G) ∧ ∃ j4 : Nat, (x5 + (nI 2)) = nI j4 ∧ j4 < (q_sL G) ∧ (k + 280 ≤ 735865 ∧ n + 1223 ≤ 6888508) ∧ q_Wc G M_L_load [.ref a1, .int (q_xs G j1), .int (q_xs G j4), .ref a3] A (q_KI fun r9 A8 => (k + 280 ≤ 735865 ∧ n + 1223 ≤ 6888508) ∧ q_sh A8 a2 = (12, 0) ∧ q_Wc G M_X11_load [.ref a2, .int (q_xs G j1), .int (q_xs G j4)] A8 (q_KI fun r12 A11 => (k + 280 ≤ 735865 ∧ n + 1223 ≤ 6888508) ∧ q_sh A11 a2 = (12, 0) ∧ q_Wc G M_X11_thrown [.ref a2] A11 (q_KI fun r16 A15 => ((r16 = r9 → ((r9 = nI 0 → ∃ z21 : Nat, q_sh A15 a3 = (52, z21) ∧ z21 < 2147483648 ∧ 0 < z21 ∧ (((q_L A15 a3 0) = (r12.toInt64) → q_Wp G M_L_law (q_KB f) X (k + 280) (n + 1223) 1398 [some (.ref (q_sb G)), some (.ref a1), some (.ref a2), some (.ref a3), some (.ref a4), some (.int x5), none, none, none, none] [] A15) ∧ (¬ (q_L A15 a3 0) = (r12.toInt64) → (k + 280 ≤ 735865 ∧ n + 1223 ≤ 6888508) ∧ f false A15))) ∧ (¬ r9 = nI 0 → q_Wp G M_L_law (q_KB f) X (k + 280) (n + 1223) 1398 [some (.ref (q_sb G)), some (.ref a1), some (.ref a2), some (.ref a3), some (.ref a4), some (.int x5), none, none, none, none] [] A15))) ∧ (¬ r16 = r9 → (k + 280 ≤ 735865 ∧ n + 1223 ≤ 6888508) ∧ f false A15))) q_nX) q_nX) q_nX) : q_Wp G M_L_law (q_KB f) X k n 796 [some (.ref (q_sb G)), some (.ref a1), some (.ref a2), some (.ref a3), some (.ref a4), some (.int x5), none, none, none, none] [] A := by
  refine q_blk (pc' := 802) (lo' := [some (.ref (q_sb G)), some (.ref a1), some (.ref a2), some (.ref a3), some (.ref a4), some (.int x5), none, none, none, none]) (st' := [.int (x5 + (nI 1)), .ref (q_sb G), .ref a1]) [.aload_n 1, .aload_n 0, .iload 5, .iconst 1, .iadd] (by decide +kernel) rfl ?_
  obtain ⟨j1, e2, h⟩ := h
  obtain ⟨l3, h⟩ := h
  refine q_sld e2 l3 hL (by decide +kernel) ?_
  refine q_blk (pc' := 808) (lo' := [some (.ref (q_sb G)), some (.ref a1), some (.ref a2), some (.ref a3), some (.ref a4), some (.int x5), none, none, none, none]) (st' := [.int (x5 + (nI 2)), .ref (q_sb G), .int (q_xs G j1), .ref a1]) [.aload_n 0, .iload 5, .iconst 2, .iadd] (by decide +kernel) rfl ?_
  obtain ⟨j4, e5, h⟩ := h
  obtain ⟨l6, h⟩ := h
  refine q_sld e5 l6 hL (by decide +kernel) ?_
  refine q_blk (pc' := 810) (lo' := [some (.ref (q_sb G)), some (.ref a1), some (.ref a2), some (.ref a3), some (.ref a4), some (.int x5), none, none, none, none]) (st' := [.ref a3, .int (q_xs G j4), .int (q_xs G j1), .ref a1]) [.aload_n 3] (by decide +kernel) rfl ?_
  obtain ⟨g7, h⟩ := h
  refine q_callSH (Mc := M_L_load) (z := 4) (As := [.ref a1, .int (q_xs G j1), .int (q_xs G j4), .ref a3]) (st := []) mo_L_load ms_L_load ml_L_130_L_load ⟨_, _, rfl⟩ rfl (by decide) g7 rfl (Nat.le_of_ble_eq_true rfl) (by decide +kernel) h (q_fI fun r9 A8 h => ?_)
  show q_Wp _ _ _ _ (k + 280) (n + 1223) 813 [some (.ref (q_sb G)), some (.ref a1), some (.ref a2), some (.ref a3), some (.ref a4), some (.int x5), none, none, none, none] [.int r9] A8
  refine q_blk (pc' := 821) (lo' := [some (.ref (q_sb G)), some (.ref a1), some (.ref a2), some (.ref a3), some (.ref a4), some (.int x5), some (.int r9), none, none, none]) (st' := [.int (x5 + (nI 1)), .ref (q_sb G), .ref a2]) [.istore 6, .aload_n 2, .aload_n 0, .iload 5, .iconst 1, .iadd] (by decide +kernel) rfl ?_
  refine q_sld e2 l3 hL (by decide +kernel) ?_
  refine q_blk (pc' := 827) (lo' := [some (.ref (q_sb G)), some (.ref a1), some (.ref a2), some (.ref a3), some (.ref a4), some (.int x5), some (.int r9), none, none, none]) (st' := [.int (x5 + (nI 2)), .ref (q_sb G), .int (q_xs G j1), .ref a2]) [.aload_n 0, .iload 5, .iconst 2, .iadd] (by decide +kernel) rfl ?_
  refine q_sld e5 l6 hL (by decide +kernel) ?_
  obtain ⟨g10, h⟩ := h
  obtain ⟨s13, h⟩ := h
  refine q_callV (ci := 11) (Mc := M_X11_load) (z := 2) (b := a2) (As := [.int (q_xs G j1), .int (q_xs G j4)]) (st := []) mo_X11_load mi_X11_load ml_L_132_X11_load rfl rfl (by decide) rfl (by decide) g10 rfl (Nat.le_of_ble_eq_true rfl) (by decide +kernel) s13 h (q_fI fun r12 A11 h => ?_)
  show q_Wp _ _ _ _ (k + 280) (n + 1223) 831 [some (.ref (q_sb G)), some (.ref a1), some (.ref a2), some (.ref a3), some (.ref a4), some (.int x5), some (.int r9), none, none, none] [.int r12] A11
  refine q_blk (pc' := 834) (lo' := [some (.ref (q_sb G)), some (.ref a1), some (.ref a2), some (.ref a3), some (.ref a4), some (.int x5), some (.int r9), some (.int r12), none, none]) (st' := [.ref a2]) [.istore 7, .aload_n 2] (by decide +kernel) rfl ?_
  obtain ⟨g14, h⟩ := h
  obtain ⟨s17, h⟩ := h
  refine q_callV (ci := 11) (Mc := M_X11_thrown) (z := 0) (b := a2) (As := []) (st := []) mo_X11_thrown mi_X11_thrown ml_L_100_X11_thrown rfl rfl (by decide) rfl (by decide) g14 rfl (Nat.le_of_ble_eq_true rfl) (by decide +kernel) s17 h (q_fI fun r16 A15 h => ?_)
  show q_Wp _ _ _ _ (k + 280) (n + 1223) 837 [some (.ref (q_sb G)), some (.ref a1), some (.ref a2), some (.ref a3), some (.ref a4), some (.int x5), some (.int r9), some (.int r12), none, none] [.int r16] A15
  refine q_blk (pc' := 839) (lo' := [some (.ref (q_sb G)), some (.ref a1), some (.ref a2), some (.ref a3), some (.ref a4), some (.int x5), some (.int r9), some (.int r12), none, none]) (st' := [.int r9, .int r16]) [.iload 6] (by decide +kernel) rfl ?_
  refine q_icmp_eq 844 (off := 5) (by decide +kernel) (by decide) (fun c18 => ?_) (fun c18 => ?_)
  · have h := h.1 c18
    refine q_blk (pc' := 846) (lo' := [some (.ref (q_sb G)), some (.ref a1), some (.ref a2), some (.ref a3), some (.ref a4), some (.int x5), some (.int r9), some (.int r12), none, none]) (st' := [.int r9]) [.iload 6] (by decide +kernel) rfl ?_
    refine q_if_ne 861 (off := 15) (by decide +kernel) (by decide) (fun c19 => ?_) (fun c19 => ?_)
    · have h := h.2 c19
      refine q_goto 1398 (off := 537) (by decide +kernel) (by decide) ?_
      exact q_wk [some (.ref (q_sb G)), some (.ref a1), some (.ref a2), some (.ref a3), some (.ref a4), some (.int x5), none, none, none, none] (And.intro rfl (And.intro rfl (And.intro rfl (And.intro rfl (And.intro rfl (And.intro rfl trivial)))))) h
    · have h := h.1 c19
      refine q_blk (pc' := 851) (lo' := [some (.ref (q_sb G)), some (.ref a1), some (.ref a2), some (.ref a3), some (.ref a4), some (.int x5), some (.int r9), some (.int r12), none, none]) (st' := [.int (nI 0), .ref a3]) [.aload_n 3, .iconst 0] (by decide +kernel) rfl ?_
      obtain ⟨z21, s20, b22, h⟩ := h
      obtain ⟨l23, h⟩ := h
      refine q_lald rfl (by decide +kernel) s20 l23 b22 ?_
      refine q_blk (pc' := 856) (lo' := [some (.ref (q_sb G)), some (.ref a1), some (.ref a2), some (.ref a3), some (.ref a4), some (.int x5), some (.int r9), some (.int r12), none, none]) (st' := [.int (lg_cmp (q_L A15 a3 0) (r12.toInt64))]) [.iload 7, .i2l, .lcmp] (by decide +kernel) rfl ?_
      refine q_if_eq 861 (off := 5) (by decide +kernel) (by decide) (fun c24 => ?_) (fun c24 => ?_)
      · have h := h.1 ((lg_cmp_eq (q_L A15 a3 0) (r12.toInt64)).mp c24)
        refine q_goto 1398 (off := 537) (by decide +kernel) (by decide) ?_
        exact q_wk [some (.ref (q_sb G)), some (.ref a1), some (.ref a2), some (.ref a3), some (.ref a4), some (.int x5), none, none, none, none] (And.intro rfl (And.intro rfl (And.intro rfl (And.intro rfl (And.intro rfl (And.intro rfl trivial)))))) h
      · have h := h.2 (fun q9 => c24 ((lg_cmp_eq (q_L A15 a3 0) (r12.toInt64)).mpr q9))
        refine q_blk (pc' := 860) (lo' := [some (.ref (q_sb G)), some (.ref a1), some (.ref a2), some (.ref a3), some (.ref a4), some (.int x5), some (.int r9), some (.int r12), none, none]) (st' := [.int (nI 0)]) [.iconst 0] (by decide +kernel) rfl ?_
        obtain ⟨g25, h⟩ := h
        exact q_retZ (r := q_i false) rfl (q_nz _) g25.1 g25.2 (by decide +kernel) ⟨false, rfl, h⟩
  · have h := h.2 c18
    refine q_blk (pc' := 843) (lo' := [some (.ref (q_sb G)), some (.ref a1), some (.ref a2), some (.ref a3), some (.ref a4), some (.int x5), some (.int r9), some (.int r12), none, none]) (st' := [.int (nI 0)]) [.iconst 0] (by decide +kernel) rfl ?_
    obtain ⟨g26, h⟩ := h
    exact q_retZ (r := q_i false) rfl (q_nz _) g26.1 g26.2 (by decide +kernel) ⟨false, rfl, h⟩
theorem f_L_law_864 {G : q_G} {X : String → q_H → Prop} {f : Bool → q_H → Prop} {A : q_H} {a1 : Nat} {a2 : Nat} {a3 : Nat} {a4 : Nat} {x5 : Int32} {k n : Nat} (hL : q_sL G < 2147483648) (h : ∃ j1 : Nat, (x5 + (nI 1)) = nI j1 ∧ j1 < (q_sL G) ∧ ∃ j4 : Nat, (x5 + (nI 2)) = nI j4 ∧ j4 < (q_sL G) ∧ (k + 279 ≤ 735865 ∧ n + 1217 ≤ 6888508) ∧ q_Wc G M_L_set [.ref a1, .int (q_xs G j1), .int (q_xs G j4), .ref a3] A (q_KI fun r9 A8 => (k + 279 ≤ 735865 ∧ n + 1217 ≤ 6888508) ∧ q_sh A8 a2 = (12, 0) ∧ q_Wc G M_X11_set [.ref a2, .int (q_xs G j1), .int (q_xs G j4)] A8 (q_KI fun r12 A11 => (k + 279 ≤ 735865 ∧ n + 1217 ≤ 6888508) ∧ q_sh A11 a2 = (12, 0) ∧ q_Wc G M_X11_thrown [.ref a2] A11 (q_KI fun r16 A15 => ((r16 = r9 → ((r9 = nI 0 → ∃ z21 : Nat, q_sh A15 a3 = (52, z21) ∧ z21 < 2147483648 ∧ 0 < z21 ∧ (((q_L A15 a3 0) = (r12.toInt64) → q_Wp G M_L_law (q_KB f) X (k + 279) (n + 1217) 1398 [some (.ref (q_sb G)), some (.ref a1), some (.ref a2), some (.ref a3), some (.ref a4), some (.int x5), none, none, none, none] [] A15) ∧ (¬ (q_L A15 a3 0) = (r12.toInt64) → (k + 279 ≤ 735865 ∧ n + 1217 ≤ 6888508) ∧ f false A15))) ∧ (¬ r9 = nI 0 → q_Wp G M_L_law (q_KB f) X (k + 279) (n + 1217) 1398 [some (.ref (q_sb G)), some (.ref a1), some (.ref a2), some (.ref a3), some (.ref a4), some (.int x5), none, none, none, none] [] A15))) ∧ (¬ r16 = r9 → (k + 279 ≤ 735865 ∧ n + 1217 ≤ 6888508) ∧ f false A15))) q_nX) q_nX) q_nX) : q_Wp G M_L_law (q_KB f) X k n 864 [some (.ref (q_sb G)), some (.ref a1), some (.ref a2), some (.ref a3), some (.ref a4), some (.int x5), none, none, none, none] [] A := by
  refine q_blk (pc' := 870) (lo' := [some (.ref (q_sb G)), some (.ref a1), some (.ref a2), some (.ref a3), some (.ref a4), some (.int x5), none, none, none, none]) (st' := [.int (x5 + (nI 1)), .ref (q_sb G), .ref a1]) [.aload_n 1, .aload_n 0, .iload 5, .iconst 1, .iadd] (by decide +kernel) rfl ?_
  obtain ⟨j1, e2, h⟩ := h
  obtain ⟨l3, h⟩ := h
  refine q_sld e2 l3 hL (by decide +kernel) ?_
  refine q_blk (pc' := 876) (lo' := [some (.ref (q_sb G)), some (.ref a1), some (.ref a2), some (.ref a3), some (.ref a4), some (.int x5), none, none, none, none]) (st' := [.int (x5 + (nI 2)), .ref (q_sb G), .int (q_xs G j1), .ref a1]) [.aload_n 0, .iload 5, .iconst 2, .iadd] (by decide +kernel) rfl ?_
  obtain ⟨j4, e5, h⟩ := h
  obtain ⟨l6, h⟩ := h
  refine q_sld e5 l6 hL (by decide +kernel) ?_
  refine q_blk (pc' := 878) (lo' := [some (.ref (q_sb G)), some (.ref a1), some (.ref a2), some (.ref a3), some (.ref a4), some (.int x5), none, none, none, none]) (st' := [.ref a3, .int (q_xs G j4), .int (q_xs G j1), .ref a1]) [.aload_n 3] (by decide +kernel) rfl ?_
  obtain ⟨g7, h⟩ := h
  refine q_callSH (Mc := M_L_set) (z := 4) (As := [.ref a1, .int (q_xs G j1), .int (q_xs G j4), .ref a3]) (st := []) mo_L_set ms_L_set ml_L_133_L_set ⟨_, _, rfl⟩ rfl (by decide) g7 rfl (Nat.le_of_ble_eq_true rfl) (by decide +kernel) h (q_fI fun r9 A8 h => ?_)
  show q_Wp _ _ _ _ (k + 279) (n + 1217) 881 [some (.ref (q_sb G)), some (.ref a1), some (.ref a2), some (.ref a3), some (.ref a4), some (.int x5), none, none, none, none] [.int r9] A8
  refine q_blk (pc' := 889) (lo' := [some (.ref (q_sb G)), some (.ref a1), some (.ref a2), some (.ref a3), some (.ref a4), some (.int x5), some (.int r9), none, none, none]) (st' := [.int (x5 + (nI 1)), .ref (q_sb G), .ref a2]) [.istore 6, .aload_n 2, .aload_n 0, .iload 5, .iconst 1, .iadd] (by decide +kernel) rfl ?_
  refine q_sld e2 l3 hL (by decide +kernel) ?_
  refine q_blk (pc' := 895) (lo' := [some (.ref (q_sb G)), some (.ref a1), some (.ref a2), some (.ref a3), some (.ref a4), some (.int x5), some (.int r9), none, none, none]) (st' := [.int (x5 + (nI 2)), .ref (q_sb G), .int (q_xs G j1), .ref a2]) [.aload_n 0, .iload 5, .iconst 2, .iadd] (by decide +kernel) rfl ?_
  refine q_sld e5 l6 hL (by decide +kernel) ?_
  obtain ⟨g10, h⟩ := h
  obtain ⟨s13, h⟩ := h
  refine q_callV (ci := 11) (Mc := M_X11_set) (z := 2) (b := a2) (As := [.int (q_xs G j1), .int (q_xs G j4)]) (st := []) mo_X11_set mi_X11_set ml_L_135_X11_set rfl rfl (by decide) rfl (by decide) g10 rfl (Nat.le_of_ble_eq_true rfl) (by decide +kernel) s13 h (q_fI fun r12 A11 h => ?_)
  show q_Wp _ _ _ _ (k + 279) (n + 1217) 899 [some (.ref (q_sb G)), some (.ref a1), some (.ref a2), some (.ref a3), some (.ref a4), some (.int x5), some (.int r9), none, none, none] [.int r12] A11
  refine q_blk (pc' := 902) (lo' := [some (.ref (q_sb G)), some (.ref a1), some (.ref a2), some (.ref a3), some (.ref a4), some (.int x5), some (.int r9), some (.int r12), none, none]) (st' := [.ref a2]) [.istore 7, .aload_n 2] (by decide +kernel) rfl ?_
  obtain ⟨g14, h⟩ := h
  obtain ⟨s17, h⟩ := h
  refine q_callV (ci := 11) (Mc := M_X11_thrown) (z := 0) (b := a2) (As := []) (st := []) mo_X11_thrown mi_X11_thrown ml_L_100_X11_thrown rfl rfl (by decide) rfl (by decide) g14 rfl (Nat.le_of_ble_eq_true rfl) (by decide +kernel) s17 h (q_fI fun r16 A15 h => ?_)
  show q_Wp _ _ _ _ (k + 279) (n + 1217) 905 [some (.ref (q_sb G)), some (.ref a1), some (.ref a2), some (.ref a3), some (.ref a4), some (.int x5), some (.int r9), some (.int r12), none, none] [.int r16] A15
  refine q_blk (pc' := 907) (lo' := [some (.ref (q_sb G)), some (.ref a1), some (.ref a2), some (.ref a3), some (.ref a4), some (.int x5), some (.int r9), some (.int r12), none, none]) (st' := [.int r9, .int r16]) [.iload 6] (by decide +kernel) rfl ?_
  refine q_icmp_eq 912 (off := 5) (by decide +kernel) (by decide) (fun c18 => ?_) (fun c18 => ?_)
  · have h := h.1 c18
    refine q_blk (pc' := 914) (lo' := [some (.ref (q_sb G)), some (.ref a1), some (.ref a2), some (.ref a3), some (.ref a4), some (.int x5), some (.int r9), some (.int r12), none, none]) (st' := [.int r9]) [.iload 6] (by decide +kernel) rfl ?_
    refine q_if_ne 929 (off := 15) (by decide +kernel) (by decide) (fun c19 => ?_) (fun c19 => ?_)
    · have h := h.2 c19
      refine q_goto 1398 (off := 469) (by decide +kernel) (by decide) ?_
      exact q_wk [some (.ref (q_sb G)), some (.ref a1), some (.ref a2), some (.ref a3), some (.ref a4), some (.int x5), none, none, none, none] (And.intro rfl (And.intro rfl (And.intro rfl (And.intro rfl (And.intro rfl (And.intro rfl trivial)))))) h
    · have h := h.1 c19
      refine q_blk (pc' := 919) (lo' := [some (.ref (q_sb G)), some (.ref a1), some (.ref a2), some (.ref a3), some (.ref a4), some (.int x5), some (.int r9), some (.int r12), none, none]) (st' := [.int (nI 0), .ref a3]) [.aload_n 3, .iconst 0] (by decide +kernel) rfl ?_
      obtain ⟨z21, s20, b22, h⟩ := h
      obtain ⟨l23, h⟩ := h
      refine q_lald rfl (by decide +kernel) s20 l23 b22 ?_
      refine q_blk (pc' := 924) (lo' := [some (.ref (q_sb G)), some (.ref a1), some (.ref a2), some (.ref a3), some (.ref a4), some (.int x5), some (.int r9), some (.int r12), none, none]) (st' := [.int (lg_cmp (q_L A15 a3 0) (r12.toInt64))]) [.iload 7, .i2l, .lcmp] (by decide +kernel) rfl ?_
      refine q_if_eq 929 (off := 5) (by decide +kernel) (by decide) (fun c24 => ?_) (fun c24 => ?_)
      · have h := h.1 ((lg_cmp_eq (q_L A15 a3 0) (r12.toInt64)).mp c24)
        refine q_goto 1398 (off := 469) (by decide +kernel) (by decide) ?_
        exact q_wk [some (.ref (q_sb G)), some (.ref a1), some (.ref a2), some (.ref a3), some (.ref a4), some (.int x5), none, none, none, none] (And.intro rfl (And.intro rfl (And.intro rfl (And.intro rfl (And.intro rfl (And.intro rfl trivial)))))) h
      · have h := h.2 (fun q9 => c24 ((lg_cmp_eq (q_L A15 a3 0) (r12.toInt64)).mpr q9))
        refine q_blk (pc' := 928) (lo' := [some (.ref (q_sb G)), some (.ref a1), some (.ref a2), some (.ref a3), some (.ref a4), some (.int x5), some (.int r9), some (.int r12), none, none]) (st' := [.int (nI 0)]) [.iconst 0] (by decide +kernel) rfl ?_
        obtain ⟨g25, h⟩ := h
        exact q_retZ (r := q_i false) rfl (q_nz _) g25.1 g25.2 (by decide +kernel) ⟨false, rfl, h⟩
  · have h := h.2 c18
    refine q_blk (pc' := 911) (lo' := [some (.ref (q_sb G)), some (.ref a1), some (.ref a2), some (.ref a3), some (.ref a4), some (.int x5), some (.int r9), some (.int r12), none, none]) (st' := [.int (nI 0)]) [.iconst 0] (by decide +kernel) rfl ?_
    obtain ⟨g26, h⟩ := h
    exact q_retZ (r := q_i false) rfl (q_nz _) g26.1 g26.2 (by decide +kernel) ⟨false, rfl, h⟩
theorem f_L_law_932 {G : q_G} {X : String → q_H → Prop} {f : Bool → q_H → Prop} {A : q_H} {a1 : Nat} {a2 : Nat} {a3 : Nat} {a4 : Nat} {x5 : Int32} {k n : Nat} (hL : q_sL G < 2147483648) (h : ∃ j1 : Nat, (x5 + (nI 1)) = nI j1 ∧ j1 < (q_sL G) ∧ ∃ j4 : Nat, (x5 + (nI 2)) = nI j4 ∧ j4 < (q_sL G) ∧ (k + 279 ≤ 735865 ∧ n + 1217 ≤ 6888508) ∧ q_Wc G M_L_staff [.ref a1, .int (q_xs G j1), .int (q_xs G j4), .ref a3] A (q_KI fun r9 A8 => (k + 279 ≤ 735865 ∧ n + 1217 ≤ 6888508) ∧ q_sh A8 a2 = (12, 0) ∧ q_Wc G M_X11_staff [.ref a2, .int (q_xs G j1), .int (q_xs G j4)] A8 (q_KI fun r12 A11 => (k + 279 ≤ 735865 ∧ n + 1217 ≤ 6888508) ∧ q_sh A11 a2 = (12, 0) ∧ q_Wc G M_X11_thrown [.ref a2] A11 (q_KI fun r16 A15 => ((r16 = r9 → ((r9 = nI 0 → ∃ z21 : Nat, q_sh A15 a3 = (52, z21) ∧ z21 < 2147483648 ∧ 0 < z21 ∧ (((q_L A15 a3 0) = (r12.toInt64) → q_Wp G M_L_law (q_KB f) X (k + 279) (n + 1217) 1398 [some (.ref (q_sb G)), some (.ref a1), some (.ref a2), some (.ref a3), some (.ref a4), some (.int x5), none, none, none, none] [] A15) ∧ (¬ (q_L A15 a3 0) = (r12.toInt64) → (k + 279 ≤ 735865 ∧ n + 1217 ≤ 6888508) ∧ f false A15))) ∧ (¬ r9 = nI 0 → q_Wp G M_L_law (q_KB f) X (k + 279) (n + 1217) 1398 [some (.ref (q_sb G)), some (.ref a1), some (.ref a2), some (.ref a3), some (.ref a4), some (.int x5), none, none, none, none] [] A15))) ∧ (¬ r16 = r9 → (k + 279 ≤ 735865 ∧ n + 1217 ≤ 6888508) ∧ f false A15))) q_nX) q_nX) q_nX) : q_Wp G M_L_law (q_KB f) X k n 932 [some (.ref (q_sb G)), some (.ref a1), some (.ref a2), some (.ref a3), some (.ref a4), some (.int x5), none, none, none, none] [] A := by
  refine q_blk (pc' := 938) (lo' := [some (.ref (q_sb G)), some (.ref a1), some (.ref a2), some (.ref a3), some (.ref a4), some (.int x5), none, none, none, none]) (st' := [.int (x5 + (nI 1)), .ref (q_sb G), .ref a1]) [.aload_n 1, .aload_n 0, .iload 5, .iconst 1, .iadd] (by decide +kernel) rfl ?_
  obtain ⟨j1, e2, h⟩ := h
  obtain ⟨l3, h⟩ := h
  refine q_sld e2 l3 hL (by decide +kernel) ?_
  refine q_blk (pc' := 944) (lo' := [some (.ref (q_sb G)), some (.ref a1), some (.ref a2), some (.ref a3), some (.ref a4), some (.int x5), none, none, none, none]) (st' := [.int (x5 + (nI 2)), .ref (q_sb G), .int (q_xs G j1), .ref a1]) [.aload_n 0, .iload 5, .iconst 2, .iadd] (by decide +kernel) rfl ?_
  obtain ⟨j4, e5, h⟩ := h
  obtain ⟨l6, h⟩ := h
  refine q_sld e5 l6 hL (by decide +kernel) ?_
  refine q_blk (pc' := 946) (lo' := [some (.ref (q_sb G)), some (.ref a1), some (.ref a2), some (.ref a3), some (.ref a4), some (.int x5), none, none, none, none]) (st' := [.ref a3, .int (q_xs G j4), .int (q_xs G j1), .ref a1]) [.aload_n 3] (by decide +kernel) rfl ?_
  obtain ⟨g7, h⟩ := h
  refine q_callSH (Mc := M_L_staff) (z := 4) (As := [.ref a1, .int (q_xs G j1), .int (q_xs G j4), .ref a3]) (st := []) mo_L_staff ms_L_staff ml_L_136_L_staff ⟨_, _, rfl⟩ rfl (by decide) g7 rfl (Nat.le_of_ble_eq_true rfl) (by decide +kernel) h (q_fI fun r9 A8 h => ?_)
  show q_Wp _ _ _ _ (k + 279) (n + 1217) 949 [some (.ref (q_sb G)), some (.ref a1), some (.ref a2), some (.ref a3), some (.ref a4), some (.int x5), none, none, none, none] [.int r9] A8
  refine q_blk (pc' := 957) (lo' := [some (.ref (q_sb G)), some (.ref a1), some (.ref a2), some (.ref a3), some (.ref a4), some (.int x5), some (.int r9), none, none, none]) (st' := [.int (x5 + (nI 1)), .ref (q_sb G), .ref a2]) [.istore 6, .aload_n 2, .aload_n 0, .iload 5, .iconst 1, .iadd] (by decide +kernel) rfl ?_
  refine q_sld e2 l3 hL (by decide +kernel) ?_
  refine q_blk (pc' := 963) (lo' := [some (.ref (q_sb G)), some (.ref a1), some (.ref a2), some (.ref a3), some (.ref a4), some (.int x5), some (.int r9), none, none, none]) (st' := [.int (x5 + (nI 2)), .ref (q_sb G), .int (q_xs G j1), .ref a2]) [.aload_n 0, .iload 5, .iconst 2, .iadd] (by decide +kernel) rfl ?_
  refine q_sld e5 l6 hL (by decide +kernel) ?_
  obtain ⟨g10, h⟩ := h
  obtain ⟨s13, h⟩ := h
  refine q_callV (ci := 11) (Mc := M_X11_staff) (z := 2) (b := a2) (As := [.int (q_xs G j1), .int (q_xs G j4)]) (st := []) mo_X11_staff mi_X11_staff ml_L_138_X11_staff rfl rfl (by decide) rfl (by decide) g10 rfl (Nat.le_of_ble_eq_true rfl) (by decide +kernel) s13 h (q_fI fun r12 A11 h => ?_)
  show q_Wp _ _ _ _ (k + 279) (n + 1217) 967 [some (.ref (q_sb G)), some (.ref a1), some (.ref a2), some (.ref a3), some (.ref a4), some (.int x5), some (.int r9), none, none, none] [.int r12] A11
  refine q_blk (pc' := 970) (lo' := [some (.ref (q_sb G)), some (.ref a1), some (.ref a2), some (.ref a3), some (.ref a4), some (.int x5), some (.int r9), some (.int r12), none, none]) (st' := [.ref a2]) [.istore 7, .aload_n 2] (by decide +kernel) rfl ?_
  obtain ⟨g14, h⟩ := h
  obtain ⟨s17, h⟩ := h
  refine q_callV (ci := 11) (Mc := M_X11_thrown) (z := 0) (b := a2) (As := []) (st := []) mo_X11_thrown mi_X11_thrown ml_L_100_X11_thrown rfl rfl (by decide) rfl (by decide) g14 rfl (Nat.le_of_ble_eq_true rfl) (by decide +kernel) s17 h (q_fI fun r16 A15 h => ?_)
  show q_Wp _ _ _ _ (k + 279) (n + 1217) 973 [some (.ref (q_sb G)), some (.ref a1), some (.ref a2), some (.ref a3), some (.ref a4), some (.int x5), some (.int r9), some (.int r12), none, none] [.int r16] A15
  refine q_blk (pc' := 975) (lo' := [some (.ref (q_sb G)), some (.ref a1), some (.ref a2), some (.ref a3), some (.ref a4), some (.int x5), some (.int r9), some (.int r12), none, none]) (st' := [.int r9, .int r16]) [.iload 6] (by decide +kernel) rfl ?_
  refine q_icmp_eq 980 (off := 5) (by decide +kernel) (by decide) (fun c18 => ?_) (fun c18 => ?_)
  · have h := h.1 c18
    refine q_blk (pc' := 982) (lo' := [some (.ref (q_sb G)), some (.ref a1), some (.ref a2), some (.ref a3), some (.ref a4), some (.int x5), some (.int r9), some (.int r12), none, none]) (st' := [.int r9]) [.iload 6] (by decide +kernel) rfl ?_
    refine q_if_ne 997 (off := 15) (by decide +kernel) (by decide) (fun c19 => ?_) (fun c19 => ?_)
    · have h := h.2 c19
      refine q_goto 1398 (off := 401) (by decide +kernel) (by decide) ?_
      exact q_wk [some (.ref (q_sb G)), some (.ref a1), some (.ref a2), some (.ref a3), some (.ref a4), some (.int x5), none, none, none, none] (And.intro rfl (And.intro rfl (And.intro rfl (And.intro rfl (And.intro rfl (And.intro rfl trivial)))))) h
    · have h := h.1 c19
      refine q_blk (pc' := 987) (lo' := [some (.ref (q_sb G)), some (.ref a1), some (.ref a2), some (.ref a3), some (.ref a4), some (.int x5), some (.int r9), some (.int r12), none, none]) (st' := [.int (nI 0), .ref a3]) [.aload_n 3, .iconst 0] (by decide +kernel) rfl ?_
      obtain ⟨z21, s20, b22, h⟩ := h
      obtain ⟨l23, h⟩ := h
      refine q_lald rfl (by decide +kernel) s20 l23 b22 ?_
      refine q_blk (pc' := 992) (lo' := [some (.ref (q_sb G)), some (.ref a1), some (.ref a2), some (.ref a3), some (.ref a4), some (.int x5), some (.int r9), some (.int r12), none, none]) (st' := [.int (lg_cmp (q_L A15 a3 0) (r12.toInt64))]) [.iload 7, .i2l, .lcmp] (by decide +kernel) rfl ?_
      refine q_if_eq 997 (off := 5) (by decide +kernel) (by decide) (fun c24 => ?_) (fun c24 => ?_)
      · have h := h.1 ((lg_cmp_eq (q_L A15 a3 0) (r12.toInt64)).mp c24)
        refine q_goto 1398 (off := 401) (by decide +kernel) (by decide) ?_
        exact q_wk [some (.ref (q_sb G)), some (.ref a1), some (.ref a2), some (.ref a3), some (.ref a4), some (.int x5), none, none, none, none] (And.intro rfl (And.intro rfl (And.intro rfl (And.intro rfl (And.intro rfl (And.intro rfl trivial)))))) h
      · have h := h.2 (fun q9 => c24 ((lg_cmp_eq (q_L A15 a3 0) (r12.toInt64)).mpr q9))
        refine q_blk (pc' := 996) (lo' := [some (.ref (q_sb G)), some (.ref a1), some (.ref a2), some (.ref a3), some (.ref a4), some (.int x5), some (.int r9), some (.int r12), none, none]) (st' := [.int (nI 0)]) [.iconst 0] (by decide +kernel) rfl ?_
        obtain ⟨g25, h⟩ := h
        exact q_retZ (r := q_i false) rfl (q_nz _) g25.1 g25.2 (by decide +kernel) ⟨false, rfl, h⟩
  · have h := h.2 c18
    refine q_blk (pc' := 979) (lo' := [some (.ref (q_sb G)), some (.ref a1), some (.ref a2), some (.ref a3), some (.ref a4), some (.int x5), some (.int r9), some (.int r12), none, none]) (st' := [.int (nI 0)]) [.iconst 0] (by decide +kernel) rfl ?_
    obtain ⟨g26, h⟩ := h
    exact q_retZ (r := q_i false) rfl (q_nz _) g26.1 g26.2 (by decide +kernel) ⟨false, rfl, h⟩
theorem f_L_law_1000 {G : q_G} {X : String → q_H → Prop} {f : Bool → q_H → Prop} {A : q_H} {a1 : Nat} {a2 : Nat} {a3 : Nat} {a4 : Nat} {x5 : Int32} {k n : Nat} (hL : q_sL G < 2147483648) (h : ∃ j1 : Nat, (x5 + (nI 1)) = nI j1 ∧ j1 < (q_sL G) ∧ (k + 279 ≤ 735865 ∧ n + 1217 ≤ 6888508) ∧ q_Wc G M_L_run [.ref a1, .int (q_xs G j1), .ref a3] A (q_KI fun r6 A5 => (k + 279 ≤ 735865 ∧ n + 1217 ≤ 6888508) ∧ q_sh A5 a2 = (12, 0) ∧ q_Wc G M_X11_run [.ref a2, .int (q_xs G j1)] A5 (q_KI fun r9 A8 => (k + 279 ≤ 735865 ∧ n + 1217 ≤ 6888508) ∧ q_sh A8 a2 = (12, 0) ∧ q_Wc G M_X11_thrown [.ref a2] A8 (q_KI fun r13 A12 => ((r13 = r6 → ((r6 = nI 0 → ∃ z18 : Nat, q_sh A12 a3 = (52, z18) ∧ z18 < 2147483648 ∧ 0 < z18 ∧ (((q_L A12 a3 0) = (r9.toInt64) → q_Wp G M_L_law (q_KB f) X (k + 279) (n + 1217) 1398 [some (.ref (q_sb G)), some (.ref a1), some (.ref a2), some (.ref a3), some (.ref a4), some (.int x5), none, none, none, none] [] A12) ∧ (¬ (q_L A12 a3 0) = (r9.toInt64) → (k + 279 ≤ 735865 ∧ n + 1217 ≤ 6888508) ∧ f false A12))) ∧ (¬ r6 = nI 0 → q_Wp G M_L_law (q_KB f) X (k + 279) (n + 1217) 1398 [some (.ref (q_sb G)), some (.ref a1), some (.ref a2), some (.ref a3), some (.ref a4), some (.int x5), none, none, none, none] [] A12))) ∧ (¬ r13 = r6 → (k + 279 ≤ 735865 ∧ n + 1217 ≤ 6888508) ∧ f false A12))) q_nX) q_nX) q_nX) : q_Wp G M_L_law (q_KB f) X k n 1000 [some (.ref (q_sb G)), some (.ref a1), some (.ref a2), some (.ref a3), some (.ref a4), some (.int x5), none, none, none, none] [] A := by
  refine q_blk (pc' := 1006) (lo' := [some (.ref (q_sb G)), some (.ref a1), some (.ref a2), some (.ref a3), some (.ref a4), some (.int x5), none, none, none, none]) (st' := [.int (x5 + (nI 1)), .ref (q_sb G), .ref a1]) [.aload_n 1, .aload_n 0, .iload 5, .iconst 1, .iadd] (by decide +kernel) rfl ?_
  obtain ⟨j1, e2, h⟩ := h
  obtain ⟨l3, h⟩ := h
  refine q_sld e2 l3 hL (by decide +kernel) ?_
  refine q_blk (pc' := 1008) (lo' := [some (.ref (q_sb G)), some (.ref a1), some (.ref a2), some (.ref a3), some (.ref a4), some (.int x5), none, none, none, none]) (st' := [.ref a3, .int (q_xs G j1), .ref a1]) [.aload_n 3] (by decide +kernel) rfl ?_
  obtain ⟨g4, h⟩ := h
  refine q_callSH (Mc := M_L_run) (z := 3) (As := [.ref a1, .int (q_xs G j1), .ref a3]) (st := []) mo_L_run ms_L_run ml_L_139_L_run ⟨_, _, rfl⟩ rfl (by decide) g4 rfl (Nat.le_of_ble_eq_true rfl) (by decide +kernel) h (q_fI fun r6 A5 h => ?_)
  show q_Wp _ _ _ _ (k + 279) (n + 1217) 1011 [some (.ref (q_sb G)), some (.ref a1), some (.ref a2), some (.ref a3), some (.ref a4), some (.int x5), none, none, none, none] [.int r6] A5
  refine q_blk (pc' := 1019) (lo' := [some (.ref (q_sb G)), some (.ref a1), some (.ref a2), some (.ref a3), some (.ref a4), some (.int x5), some (.int r6), none, none, none]) (st' := [.int (x5 + (nI 1)), .ref (q_sb G), .ref a2]) [.istore 6, .aload_n 2, .aload_n 0, .iload 5, .iconst 1, .iadd] (by decide +kernel) rfl ?_
  refine q_sld e2 l3 hL (by decide +kernel) ?_
  obtain ⟨g7, h⟩ := h
  obtain ⟨s10, h⟩ := h
  refine q_callV (ci := 11) (Mc := M_X11_run) (z := 1) (b := a2) (As := [.int (q_xs G j1)]) (st := []) mo_X11_run mi_X11_run ml_L_141_X11_run rfl rfl (by decide) rfl (by decide) g7 rfl (Nat.le_of_ble_eq_true rfl) (by decide +kernel) s10 h (q_fI fun r9 A8 h => ?_)
  show q_Wp _ _ _ _ (k + 279) (n + 1217) 1023 [some (.ref (q_sb G)), some (.ref a1), some (.ref a2), some (.ref a3), some (.ref a4), some (.int x5), some (.int r6), none, none, none] [.int r9] A8
  refine q_blk (pc' := 1026) (lo' := [some (.ref (q_sb G)), some (.ref a1), some (.ref a2), some (.ref a3), some (.ref a4), some (.int x5), some (.int r6), some (.int r9), none, none]) (st' := [.ref a2]) [.istore 7, .aload_n 2] (by decide +kernel) rfl ?_
  obtain ⟨g11, h⟩ := h
  obtain ⟨s14, h⟩ := h
  refine q_callV (ci := 11) (Mc := M_X11_thrown) (z := 0) (b := a2) (As := []) (st := []) mo_X11_thrown mi_X11_thrown ml_L_100_X11_thrown rfl rfl (by decide) rfl (by decide) g11 rfl (Nat.le_of_ble_eq_true rfl) (by decide +kernel) s14 h (q_fI fun r13 A12 h => ?_)
  show q_Wp _ _ _ _ (k + 279) (n + 1217) 1029 [some (.ref (q_sb G)), some (.ref a1), some (.ref a2), some (.ref a3), some (.ref a4), some (.int x5), some (.int r6), some (.int r9), none, none] [.int r13] A12
  refine q_blk (pc' := 1031) (lo' := [some (.ref (q_sb G)), some (.ref a1), some (.ref a2), some (.ref a3), some (.ref a4), some (.int x5), some (.int r6), some (.int r9), none, none]) (st' := [.int r6, .int r13]) [.iload 6] (by decide +kernel) rfl ?_
  refine q_icmp_eq 1036 (off := 5) (by decide +kernel) (by decide) (fun c15 => ?_) (fun c15 => ?_)
  · have h := h.1 c15
    refine q_blk (pc' := 1038) (lo' := [some (.ref (q_sb G)), some (.ref a1), some (.ref a2), some (.ref a3), some (.ref a4), some (.int x5), some (.int r6), some (.int r9), none, none]) (st' := [.int r6]) [.iload 6] (by decide +kernel) rfl ?_
    refine q_if_ne 1053 (off := 15) (by decide +kernel) (by decide) (fun c16 => ?_) (fun c16 => ?_)
    · have h := h.2 c16
      refine q_goto 1398 (off := 345) (by decide +kernel) (by decide) ?_
      exact q_wk [some (.ref (q_sb G)), some (.ref a1), some (.ref a2), some (.ref a3), some (.ref a4), some (.int x5), none, none, none, none] (And.intro rfl (And.intro rfl (And.intro rfl (And.intro rfl (And.intro rfl (And.intro rfl trivial)))))) h
    · have h := h.1 c16
      refine q_blk (pc' := 1043) (lo' := [some (.ref (q_sb G)), some (.ref a1), some (.ref a2), some (.ref a3), some (.ref a4), some (.int x5), some (.int r6), some (.int r9), none, none]) (st' := [.int (nI 0), .ref a3]) [.aload_n 3, .iconst 0] (by decide +kernel) rfl ?_
      obtain ⟨z18, s17, b19, h⟩ := h
      obtain ⟨l20, h⟩ := h
      refine q_lald rfl (by decide +kernel) s17 l20 b19 ?_
      refine q_blk (pc' := 1048) (lo' := [some (.ref (q_sb G)), some (.ref a1), some (.ref a2), some (.ref a3), some (.ref a4), some (.int x5), some (.int r6), some (.int r9), none, none]) (st' := [.int (lg_cmp (q_L A12 a3 0) (r9.toInt64))]) [.iload 7, .i2l, .lcmp] (by decide +kernel) rfl ?_
      refine q_if_eq 1053 (off := 5) (by decide +kernel) (by decide) (fun c21 => ?_) (fun c21 => ?_)
      · have h := h.1 ((lg_cmp_eq (q_L A12 a3 0) (r9.toInt64)).mp c21)
        refine q_goto 1398 (off := 345) (by decide +kernel) (by decide) ?_
        exact q_wk [some (.ref (q_sb G)), some (.ref a1), some (.ref a2), some (.ref a3), some (.ref a4), some (.int x5), none, none, none, none] (And.intro rfl (And.intro rfl (And.intro rfl (And.intro rfl (And.intro rfl (And.intro rfl trivial)))))) h
      · have h := h.2 (fun q9 => c21 ((lg_cmp_eq (q_L A12 a3 0) (r9.toInt64)).mpr q9))
        refine q_blk (pc' := 1052) (lo' := [some (.ref (q_sb G)), some (.ref a1), some (.ref a2), some (.ref a3), some (.ref a4), some (.int x5), some (.int r6), some (.int r9), none, none]) (st' := [.int (nI 0)]) [.iconst 0] (by decide +kernel) rfl ?_
        obtain ⟨g22, h⟩ := h
        exact q_retZ (r := q_i false) rfl (q_nz _) g22.1 g22.2 (by decide +kernel) ⟨false, rfl, h⟩
  · have h := h.2 c15
    refine q_blk (pc' := 1035) (lo' := [some (.ref (q_sb G)), some (.ref a1), some (.ref a2), some (.ref a3), some (.ref a4), some (.int x5), some (.int r6), some (.int r9), none, none]) (st' := [.int (nI 0)]) [.iconst 0] (by decide +kernel) rfl ?_
    obtain ⟨g23, h⟩ := h
    exact q_retZ (r := q_i false) rfl (q_nz _) g23.1 g23.2 (by decide +kernel) ⟨false, rfl, h⟩
theorem f_L_law_1056 {G : q_G} {X : String → q_H → Prop} {f : Bool → q_H → Prop} {A : q_H} {a1 : Nat} {a2 : Nat} {a3 : Nat} {a4 : Nat} {x5 : Int32} {k n : Nat} (hL : q_sL G < 2147483648) (h : ∃ j1 : Nat, (x5 + (nI 1)) = nI j1 ∧ j1 < (q_sL G) ∧ ∃ j4 : Nat, (x5 + (nI 2)) = nI j4 ∧ j4 < (q_sL G) ∧ (k + 280 ≤ 735865 ∧ n + 1223 ≤ 6888508) ∧ q_Wc G M_L_sell [.ref a1, .int (q_xs G j1), .int (q_xs G j4), .ref a3] A (q_KI fun r9 A8 => (k + 280 ≤ 735865 ∧ n + 1223 ≤ 6888508) ∧ q_sh A8 a2 = (12, 0) ∧ q_Wc G M_X11_sell [.ref a2, .int (q_xs G j1), .int (q_xs G j4)] A8 (q_KI fun r12 A11 => (k + 280 ≤ 735865 ∧ n + 1223 ≤ 6888508) ∧ q_sh A11 a2 = (12, 0) ∧ q_Wc G M_X11_thrown [.ref a2] A11 (q_KI fun r16 A15 => ((r16 = r9 → ((r9 = nI 0 → ∃ z21 : Nat, q_sh A15 a3 = (52, z21) ∧ z21 < 2147483648 ∧ 0 < z21 ∧ (((q_L A15 a3 0) = (r12.toInt64) → q_Wp G M_L_law (q_KB f) X (k + 280) (n + 1223) 1398 [some (.ref (q_sb G)), some (.ref a1), some (.ref a2), some (.ref a3), some (.ref a4), some (.int x5), none, none, none, none] [] A15) ∧ (¬ (q_L A15 a3 0) = (r12.toInt64) → (k + 280 ≤ 735865 ∧ n + 1223 ≤ 6888508) ∧ f false A15))) ∧ (¬ r9 = nI 0 → q_Wp G M_L_law (q_KB f) X (k + 280) (n + 1223) 1398 [some (.ref (q_sb G)), some (.ref a1), some (.ref a2), some (.ref a3), some (.ref a4), some (.int x5), none, none, none, none] [] A15))) ∧ (¬ r16 = r9 → (k + 280 ≤ 735865 ∧ n + 1223 ≤ 6888508) ∧ f false A15))) q_nX) q_nX) q_nX) : q_Wp G M_L_law (q_KB f) X k n 1056 [some (.ref (q_sb G)), some (.ref a1), some (.ref a2), some (.ref a3), some (.ref a4), some (.int x5), none, none, none, none] [] A := by
  refine q_blk (pc' := 1062) (lo' := [some (.ref (q_sb G)), some (.ref a1), some (.ref a2), some (.ref a3), some (.ref a4), some (.int x5), none, none, none, none]) (st' := [.int (x5 + (nI 1)), .ref (q_sb G), .ref a1]) [.aload_n 1, .aload_n 0, .iload 5, .iconst 1, .iadd] (by decide +kernel) rfl ?_
  obtain ⟨j1, e2, h⟩ := h
  obtain ⟨l3, h⟩ := h
  refine q_sld e2 l3 hL (by decide +kernel) ?_
  refine q_blk (pc' := 1068) (lo' := [some (.ref (q_sb G)), some (.ref a1), some (.ref a2), some (.ref a3), some (.ref a4), some (.int x5), none, none, none, none]) (st' := [.int (x5 + (nI 2)), .ref (q_sb G), .int (q_xs G j1), .ref a1]) [.aload_n 0, .iload 5, .iconst 2, .iadd] (by decide +kernel) rfl ?_
  obtain ⟨j4, e5, h⟩ := h
  obtain ⟨l6, h⟩ := h
  refine q_sld e5 l6 hL (by decide +kernel) ?_
  refine q_blk (pc' := 1070) (lo' := [some (.ref (q_sb G)), some (.ref a1), some (.ref a2), some (.ref a3), some (.ref a4), some (.int x5), none, none, none, none]) (st' := [.ref a3, .int (q_xs G j4), .int (q_xs G j1), .ref a1]) [.aload_n 3] (by decide +kernel) rfl ?_
  obtain ⟨g7, h⟩ := h
  refine q_callSH (Mc := M_L_sell) (z := 4) (As := [.ref a1, .int (q_xs G j1), .int (q_xs G j4), .ref a3]) (st := []) mo_L_sell ms_L_sell ml_L_142_L_sell ⟨_, _, rfl⟩ rfl (by decide) g7 rfl (Nat.le_of_ble_eq_true rfl) (by decide +kernel) h (q_fI fun r9 A8 h => ?_)
  show q_Wp _ _ _ _ (k + 280) (n + 1223) 1073 [some (.ref (q_sb G)), some (.ref a1), some (.ref a2), some (.ref a3), some (.ref a4), some (.int x5), none, none, none, none] [.int r9] A8
  refine q_blk (pc' := 1081) (lo' := [some (.ref (q_sb G)), some (.ref a1), some (.ref a2), some (.ref a3), some (.ref a4), some (.int x5), some (.int r9), none, none, none]) (st' := [.int (x5 + (nI 1)), .ref (q_sb G), .ref a2]) [.istore 6, .aload_n 2, .aload_n 0, .iload 5, .iconst 1, .iadd] (by decide +kernel) rfl ?_
  refine q_sld e2 l3 hL (by decide +kernel) ?_
  refine q_blk (pc' := 1087) (lo' := [some (.ref (q_sb G)), some (.ref a1), some (.ref a2), some (.ref a3), some (.ref a4), some (.int x5), some (.int r9), none, none, none]) (st' := [.int (x5 + (nI 2)), .ref (q_sb G), .int (q_xs G j1), .ref a2]) [.aload_n 0, .iload 5, .iconst 2, .iadd] (by decide +kernel) rfl ?_
  refine q_sld e5 l6 hL (by decide +kernel) ?_
  obtain ⟨g10, h⟩ := h
  obtain ⟨s13, h⟩ := h
  refine q_callV (ci := 11) (Mc := M_X11_sell) (z := 2) (b := a2) (As := [.int (q_xs G j1), .int (q_xs G j4)]) (st := []) mo_X11_sell mi_X11_sell ml_L_144_X11_sell rfl rfl (by decide) rfl (by decide) g10 rfl (Nat.le_of_ble_eq_true rfl) (by decide +kernel) s13 h (q_fI fun r12 A11 h => ?_)
  show q_Wp _ _ _ _ (k + 280) (n + 1223) 1091 [some (.ref (q_sb G)), some (.ref a1), some (.ref a2), some (.ref a3), some (.ref a4), some (.int x5), some (.int r9), none, none, none] [.int r12] A11
  refine q_blk (pc' := 1094) (lo' := [some (.ref (q_sb G)), some (.ref a1), some (.ref a2), some (.ref a3), some (.ref a4), some (.int x5), some (.int r9), some (.int r12), none, none]) (st' := [.ref a2]) [.istore 7, .aload_n 2] (by decide +kernel) rfl ?_
  obtain ⟨g14, h⟩ := h
  obtain ⟨s17, h⟩ := h
  refine q_callV (ci := 11) (Mc := M_X11_thrown) (z := 0) (b := a2) (As := []) (st := []) mo_X11_thrown mi_X11_thrown ml_L_100_X11_thrown rfl rfl (by decide) rfl (by decide) g14 rfl (Nat.le_of_ble_eq_true rfl) (by decide +kernel) s17 h (q_fI fun r16 A15 h => ?_)
  show q_Wp _ _ _ _ (k + 280) (n + 1223) 1097 [some (.ref (q_sb G)), some (.ref a1), some (.ref a2), some (.ref a3), some (.ref a4), some (.int x5), some (.int r9), some (.int r12), none, none] [.int r16] A15
  refine q_blk (pc' := 1099) (lo' := [some (.ref (q_sb G)), some (.ref a1), some (.ref a2), some (.ref a3), some (.ref a4), some (.int x5), some (.int r9), some (.int r12), none, none]) (st' := [.int r9, .int r16]) [.iload 6] (by decide +kernel) rfl ?_
  refine q_icmp_eq 1104 (off := 5) (by decide +kernel) (by decide) (fun c18 => ?_) (fun c18 => ?_)
  · have h := h.1 c18
    refine q_blk (pc' := 1106) (lo' := [some (.ref (q_sb G)), some (.ref a1), some (.ref a2), some (.ref a3), some (.ref a4), some (.int x5), some (.int r9), some (.int r12), none, none]) (st' := [.int r9]) [.iload 6] (by decide +kernel) rfl ?_
    refine q_if_ne 1121 (off := 15) (by decide +kernel) (by decide) (fun c19 => ?_) (fun c19 => ?_)
    · have h := h.2 c19
      refine q_goto 1398 (off := 277) (by decide +kernel) (by decide) ?_
      exact q_wk [some (.ref (q_sb G)), some (.ref a1), some (.ref a2), some (.ref a3), some (.ref a4), some (.int x5), none, none, none, none] (And.intro rfl (And.intro rfl (And.intro rfl (And.intro rfl (And.intro rfl (And.intro rfl trivial)))))) h
    · have h := h.1 c19
      refine q_blk (pc' := 1111) (lo' := [some (.ref (q_sb G)), some (.ref a1), some (.ref a2), some (.ref a3), some (.ref a4), some (.int x5), some (.int r9), some (.int r12), none, none]) (st' := [.int (nI 0), .ref a3]) [.aload_n 3, .iconst 0] (by decide +kernel) rfl ?_
      obtain ⟨z21, s20, b22, h⟩ := h
      obtain ⟨l23, h⟩ := h
      refine q_lald rfl (by decide +kernel) s20 l23 b22 ?_
      refine q_blk (pc' := 1116) (lo' := [some (.ref (q_sb G)), some (.ref a1), some (.ref a2), some (.ref a3), some (.ref a4), some (.int x5), some (.int r9), some (.int r12), none, none]) (st' := [.int (lg_cmp (q_L A15 a3 0) (r12.toInt64))]) [.iload 7, .i2l, .lcmp] (by decide +kernel) rfl ?_
      refine q_if_eq 1121 (off := 5) (by decide +kernel) (by decide) (fun c24 => ?_) (fun c24 => ?_)
      · have h := h.1 ((lg_cmp_eq (q_L A15 a3 0) (r12.toInt64)).mp c24)
        refine q_goto 1398 (off := 277) (by decide +kernel) (by decide) ?_
        exact q_wk [some (.ref (q_sb G)), some (.ref a1), some (.ref a2), some (.ref a3), some (.ref a4), some (.int x5), none, none, none, none] (And.intro rfl (And.intro rfl (And.intro rfl (And.intro rfl (And.intro rfl (And.intro rfl trivial)))))) h
      · have h := h.2 (fun q9 => c24 ((lg_cmp_eq (q_L A15 a3 0) (r12.toInt64)).mpr q9))
        refine q_blk (pc' := 1120) (lo' := [some (.ref (q_sb G)), some (.ref a1), some (.ref a2), some (.ref a3), some (.ref a4), some (.int x5), some (.int r9), some (.int r12), none, none]) (st' := [.int (nI 0)]) [.iconst 0] (by decide +kernel) rfl ?_
        obtain ⟨g25, h⟩ := h
        exact q_retZ (r := q_i false) rfl (q_nz _) g25.1 g25.2 (by decide +kernel) ⟨false, rfl, h⟩
  · have h := h.2 c18
    refine q_blk (pc' := 1103) (lo' := [some (.ref (q_sb G)), some (.ref a1), some (.ref a2), some (.ref a3), some (.ref a4), some (.int x5), some (.int r9), some (.int r12), none, none]) (st' := [.int (nI 0)]) [.iconst 0] (by decide +kernel) rfl ?_
    obtain ⟨g26, h⟩ := h
    exact q_retZ (r := q_i false) rfl (q_nz _) g26.1 g26.2 (by decide +kernel) ⟨false, rfl, h⟩
theorem f_L_law_1124 {G : q_G} {X : String → q_H → Prop} {f : Bool → q_H → Prop} {A : q_H} {a1 : Nat} {a2 : Nat} {a3 : Nat} {a4 : Nat} {x5 : Int32} {k n : Nat} (hL : q_sL G < 2147483648) (h : ∃ j1 : Nat, (x5 + (nI 1)) = nI j1 ∧ j1 < (q_sL G) ∧ (k + 278 ≤ 735865 ∧ n + 1211 ≤ 6888508) ∧ q_Wc G M_L_clean [.ref a1, .int (q_xs G j1), .ref a3] A (q_KI fun r6 A5 => (k + 278 ≤ 735865 ∧ n + 1211 ≤ 6888508) ∧ q_sh A5 a2 = (12, 0) ∧ q_Wc G M_X11_clean [.ref a2, .int (q_xs G j1)] A5 (q_KI fun r9 A8 => (k + 278 ≤ 735865 ∧ n + 1211 ≤ 6888508) ∧ q_sh A8 a2 = (12, 0) ∧ q_Wc G M_X11_thrown [.ref a2] A8 (q_KI fun r13 A12 => ((r13 = r6 → ((r6 = nI 0 → ∃ z18 : Nat, q_sh A12 a3 = (52, z18) ∧ z18 < 2147483648 ∧ 0 < z18 ∧ (((q_L A12 a3 0) = (r9.toInt64) → q_Wp G M_L_law (q_KB f) X (k + 278) (n + 1211) 1398 [some (.ref (q_sb G)), some (.ref a1), some (.ref a2), some (.ref a3), some (.ref a4), some (.int x5), none, none, none, none] [] A12) ∧ (¬ (q_L A12 a3 0) = (r9.toInt64) → (k + 278 ≤ 735865 ∧ n + 1211 ≤ 6888508) ∧ f false A12))) ∧ (¬ r6 = nI 0 → q_Wp G M_L_law (q_KB f) X (k + 278) (n + 1211) 1398 [some (.ref (q_sb G)), some (.ref a1), some (.ref a2), some (.ref a3), some (.ref a4), some (.int x5), none, none, none, none] [] A12))) ∧ (¬ r13 = r6 → (k + 278 ≤ 735865 ∧ n + 1211 ≤ 6888508) ∧ f false A12))) q_nX) q_nX) q_nX) : q_Wp G M_L_law (q_KB f) X k n 1124 [some (.ref (q_sb G)), some (.ref a1), some (.ref a2), some (.ref a3), some (.ref a4), some (.int x5), none, none, none, none] [] A := by
  refine q_blk (pc' := 1130) (lo' := [some (.ref (q_sb G)), some (.ref a1), some (.ref a2), some (.ref a3), some (.ref a4), some (.int x5), none, none, none, none]) (st' := [.int (x5 + (nI 1)), .ref (q_sb G), .ref a1]) [.aload_n 1, .aload_n 0, .iload 5, .iconst 1, .iadd] (by decide +kernel) rfl ?_
  obtain ⟨j1, e2, h⟩ := h
  obtain ⟨l3, h⟩ := h
  refine q_sld e2 l3 hL (by decide +kernel) ?_
  refine q_blk (pc' := 1132) (lo' := [some (.ref (q_sb G)), some (.ref a1), some (.ref a2), some (.ref a3), some (.ref a4), some (.int x5), none, none, none, none]) (st' := [.ref a3, .int (q_xs G j1), .ref a1]) [.aload_n 3] (by decide +kernel) rfl ?_
  obtain ⟨g4, h⟩ := h
  refine q_callSH (Mc := M_L_clean) (z := 3) (As := [.ref a1, .int (q_xs G j1), .ref a3]) (st := []) mo_L_clean ms_L_clean ml_L_145_L_clean ⟨_, _, rfl⟩ rfl (by decide) g4 rfl (Nat.le_of_ble_eq_true rfl) (by decide +kernel) h (q_fI fun r6 A5 h => ?_)
  show q_Wp _ _ _ _ (k + 278) (n + 1211) 1135 [some (.ref (q_sb G)), some (.ref a1), some (.ref a2), some (.ref a3), some (.ref a4), some (.int x5), none, none, none, none] [.int r6] A5
  refine q_blk (pc' := 1143) (lo' := [some (.ref (q_sb G)), some (.ref a1), some (.ref a2), some (.ref a3), some (.ref a4), some (.int x5), some (.int r6), none, none, none]) (st' := [.int (x5 + (nI 1)), .ref (q_sb G), .ref a2]) [.istore 6, .aload_n 2, .aload_n 0, .iload 5, .iconst 1, .iadd] (by decide +kernel) rfl ?_
  refine q_sld e2 l3 hL (by decide +kernel) ?_
  obtain ⟨g7, h⟩ := h
  obtain ⟨s10, h⟩ := h
  refine q_callV (ci := 11) (Mc := M_X11_clean) (z := 1) (b := a2) (As := [.int (q_xs G j1)]) (st := []) mo_X11_clean mi_X11_clean ml_L_147_X11_clean rfl rfl (by decide) rfl (by decide) g7 rfl (Nat.le_of_ble_eq_true rfl) (by decide +kernel) s10 h (q_fI fun r9 A8 h => ?_)
  show q_Wp _ _ _ _ (k + 278) (n + 1211) 1147 [some (.ref (q_sb G)), some (.ref a1), some (.ref a2), some (.ref a3), some (.ref a4), some (.int x5), some (.int r6), none, none, none] [.int r9] A8
  refine q_blk (pc' := 1150) (lo' := [some (.ref (q_sb G)), some (.ref a1), some (.ref a2), some (.ref a3), some (.ref a4), some (.int x5), some (.int r6), some (.int r9), none, none]) (st' := [.ref a2]) [.istore 7, .aload_n 2] (by decide +kernel) rfl ?_
  obtain ⟨g11, h⟩ := h
  obtain ⟨s14, h⟩ := h
  refine q_callV (ci := 11) (Mc := M_X11_thrown) (z := 0) (b := a2) (As := []) (st := []) mo_X11_thrown mi_X11_thrown ml_L_100_X11_thrown rfl rfl (by decide) rfl (by decide) g11 rfl (Nat.le_of_ble_eq_true rfl) (by decide +kernel) s14 h (q_fI fun r13 A12 h => ?_)
  show q_Wp _ _ _ _ (k + 278) (n + 1211) 1153 [some (.ref (q_sb G)), some (.ref a1), some (.ref a2), some (.ref a3), some (.ref a4), some (.int x5), some (.int r6), some (.int r9), none, none] [.int r13] A12
  refine q_blk (pc' := 1155) (lo' := [some (.ref (q_sb G)), some (.ref a1), some (.ref a2), some (.ref a3), some (.ref a4), some (.int x5), some (.int r6), some (.int r9), none, none]) (st' := [.int r6, .int r13]) [.iload 6] (by decide +kernel) rfl ?_
  refine q_icmp_eq 1160 (off := 5) (by decide +kernel) (by decide) (fun c15 => ?_) (fun c15 => ?_)
  · have h := h.1 c15
    refine q_blk (pc' := 1162) (lo' := [some (.ref (q_sb G)), some (.ref a1), some (.ref a2), some (.ref a3), some (.ref a4), some (.int x5), some (.int r6), some (.int r9), none, none]) (st' := [.int r6]) [.iload 6] (by decide +kernel) rfl ?_
    refine q_if_ne 1177 (off := 15) (by decide +kernel) (by decide) (fun c16 => ?_) (fun c16 => ?_)
    · have h := h.2 c16
      refine q_goto 1398 (off := 221) (by decide +kernel) (by decide) ?_
      exact q_wk [some (.ref (q_sb G)), some (.ref a1), some (.ref a2), some (.ref a3), some (.ref a4), some (.int x5), none, none, none, none] (And.intro rfl (And.intro rfl (And.intro rfl (And.intro rfl (And.intro rfl (And.intro rfl trivial)))))) h
    · have h := h.1 c16
      refine q_blk (pc' := 1167) (lo' := [some (.ref (q_sb G)), some (.ref a1), some (.ref a2), some (.ref a3), some (.ref a4), some (.int x5), some (.int r6), some (.int r9), none, none]) (st' := [.int (nI 0), .ref a3]) [.aload_n 3, .iconst 0] (by decide +kernel) rfl ?_
      obtain ⟨z18, s17, b19, h⟩ := h
      obtain ⟨l20, h⟩ := h
      refine q_lald rfl (by decide +kernel) s17 l20 b19 ?_
      refine q_blk (pc' := 1172) (lo' := [some (.ref (q_sb G)), some (.ref a1), some (.ref a2), some (.ref a3), some (.ref a4), some (.int x5), some (.int r6), some (.int r9), none, none]) (st' := [.int (lg_cmp (q_L A12 a3 0) (r9.toInt64))]) [.iload 7, .i2l, .lcmp] (by decide +kernel) rfl ?_
      refine q_if_eq 1177 (off := 5) (by decide +kernel) (by decide) (fun c21 => ?_) (fun c21 => ?_)
      · have h := h.1 ((lg_cmp_eq (q_L A12 a3 0) (r9.toInt64)).mp c21)
        refine q_goto 1398 (off := 221) (by decide +kernel) (by decide) ?_
        exact q_wk [some (.ref (q_sb G)), some (.ref a1), some (.ref a2), some (.ref a3), some (.ref a4), some (.int x5), none, none, none, none] (And.intro rfl (And.intro rfl (And.intro rfl (And.intro rfl (And.intro rfl (And.intro rfl trivial)))))) h
      · have h := h.2 (fun q9 => c21 ((lg_cmp_eq (q_L A12 a3 0) (r9.toInt64)).mpr q9))
        refine q_blk (pc' := 1176) (lo' := [some (.ref (q_sb G)), some (.ref a1), some (.ref a2), some (.ref a3), some (.ref a4), some (.int x5), some (.int r6), some (.int r9), none, none]) (st' := [.int (nI 0)]) [.iconst 0] (by decide +kernel) rfl ?_
        obtain ⟨g22, h⟩ := h
        exact q_retZ (r := q_i false) rfl (q_nz _) g22.1 g22.2 (by decide +kernel) ⟨false, rfl, h⟩
  · have h := h.2 c15
    refine q_blk (pc' := 1159) (lo' := [some (.ref (q_sb G)), some (.ref a1), some (.ref a2), some (.ref a3), some (.ref a4), some (.int x5), some (.int r6), some (.int r9), none, none]) (st' := [.int (nI 0)]) [.iconst 0] (by decide +kernel) rfl ?_
    obtain ⟨g23, h⟩ := h
    exact q_retZ (r := q_i false) rfl (q_nz _) g23.1 g23.2 (by decide +kernel) ⟨false, rfl, h⟩
theorem f_L_law_1180 {G : q_G} {X : String → q_H → Prop} {f : Bool → q_H → Prop} {A : q_H} {a1 : Nat} {a2 : Nat} {a3 : Nat} {a4 : Nat} {x5 : Int32} {k n : Nat} (hL : q_sL G < 2147483648) (h : (k ≤ 735865 ∧ n ≤ 6888508) ∧ q_sh A a1 = (11, 0) ∧ q_Wc G M_X10_undo [.ref a1] A (q_KI fun r3 A2 => (k ≤ 735865 ∧ n ≤ 6888508) ∧ q_sh A2 a2 = (12, 0) ∧ q_Wc G M_X11_undo [.ref a2] A2 (q_KI fun r7 A6 => ((r3 = r7 → q_Wp G M_L_law (q_KB f) X k n 1398 [some (.ref (q_sb G)), some (.ref a1), some (.ref a2), some (.ref a3), some (.ref a4), some (.int x5), none, none, none, none] [] A6) ∧ (¬ r3 = r7 → (k ≤ 735865 ∧ n ≤ 6888508) ∧ f false A6))) q_nX) q_nX) : q_Wp G M_L_law (q_KB f) X k n 1180 [some (.ref (q_sb G)), some (.ref a1), some (.ref a2), some (.ref a3), some (.ref a4), some (.int x5), none, none, none, none] [] A := by
  refine q_blk (pc' := 1181) (lo' := [some (.ref (q_sb G)), some (.ref a1), some (.ref a2), some (.ref a3), some (.ref a4), some (.int x5), none, none, none, none]) (st' := [.ref a1]) [.aload_n 1] (by decide +kernel) rfl ?_
  obtain ⟨g1, h⟩ := h
  obtain ⟨s4, h⟩ := h
  refine q_callV (ci := 10) (Mc := M_X10_undo) (z := 0) (b := a1) (As := []) (st := []) mo_X10_undo mi_X10_undo ml_L_148_X10_undo rfl rfl (by decide) rfl (by decide) g1 rfl (Nat.le_of_ble_eq_true rfl) (by decide +kernel) s4 h (q_fI fun r3 A2 h => ?_)
  show q_Wp _ _ _ _ k n 1184 [some (.ref (q_sb G)), some (.ref a1), some (.ref a2), some (.ref a3), some (.ref a4), some (.int x5), none, none, none, none] [.int r3] A2
  refine q_blk (pc' := 1185) (lo' := [some (.ref (q_sb G)), some (.ref a1), some (.ref a2), some (.ref a3), some (.ref a4), some (.int x5), none, none, none, none]) (st' := [.ref a2, .int r3]) [.aload_n 2] (by decide +kernel) rfl ?_
  obtain ⟨g5, h⟩ := h
  obtain ⟨s8, h⟩ := h
  refine q_callV (ci := 11) (Mc := M_X11_undo) (z := 0) (b := a2) (As := []) (st := [.int r3]) mo_X11_undo mi_X11_undo ml_L_151_X11_undo rfl rfl (by decide) rfl (by decide) g5 rfl (Nat.le_of_ble_eq_true rfl) (by decide +kernel) s8 h (q_fI fun r7 A6 h => ?_)
  show q_Wp _ _ _ _ k n 1188 [some (.ref (q_sb G)), some (.ref a1), some (.ref a2), some (.ref a3), some (.ref a4), some (.int x5), none, none, none, none] [.int r7, .int r3] A6
  refine q_icmp_eq 1398 (off := 210) (by decide +kernel) (by decide) (fun c9 => ?_) (fun c9 => ?_)
  · have h := h.1 c9
    exact h
  · have h := h.2 c9
    refine q_blk (pc' := 1192) (lo' := [some (.ref (q_sb G)), some (.ref a1), some (.ref a2), some (.ref a3), some (.ref a4), some (.int x5), none, none, none, none]) (st' := [.int (nI 0)]) [.iconst 0] (by decide +kernel) rfl ?_
    obtain ⟨g10, h⟩ := h
    exact q_retZ (r := q_i false) rfl (q_nz _) g10.1 g10.2 (by decide +kernel) ⟨false, rfl, h⟩
theorem f_L_law_1193 {G : q_G} {X : String → q_H → Prop} {f : Bool → q_H → Prop} {A : q_H} {a1 : Nat} {a2 : Nat} {a3 : Nat} {a4 : Nat} {x5 : Int32} {k n : Nat} (hL : q_sL G < 2147483648) (h : ∃ j1 : Nat, (x5 + (nI 1)) = nI j1 ∧ j1 < (q_sL G) ∧ (k + 1 ≤ 735865 ∧ n + 6 ≤ 6888508) ∧ q_Wc G M_L_bestBuyer [.ref a1, .int (q_xs G j1), .ref a3] A (q_KI fun r6 A5 => (k + 1 ≤ 735865 ∧ n + 6 ≤ 6888508) ∧ q_sh A5 a2 = (12, 0) ∧ q_Wc G M_X11_bestBuyer [.ref a2, .int (q_xs G j1)] A5 (q_KI fun r9 A8 => (k + 1 ≤ 735865 ∧ n + 6 ≤ 6888508) ∧ q_sh A8 a2 = (12, 0) ∧ q_Wc G M_X11_thrown [.ref a2] A8 (q_KI fun r13 A12 => ((r13 = r6 → ((r6 = nI 0 → ∃ z18 : Nat, q_sh A12 a3 = (52, z18) ∧ z18 < 2147483648 ∧ 0 < z18 ∧ (((q_L A12 a3 0) = (r9.toInt64) → q_Wp G M_L_law (q_KB f) X (k + 1) (n + 6) 1398 [some (.ref (q_sb G)), some (.ref a1), some (.ref a2), some (.ref a3), some (.ref a4), some (.int x5), none, none, none, none] [] A12) ∧ (¬ (q_L A12 a3 0) = (r9.toInt64) → (k + 1 ≤ 735865 ∧ n + 6 ≤ 6888508) ∧ f false A12))) ∧ (¬ r6 = nI 0 → q_Wp G M_L_law (q_KB f) X (k + 1) (n + 6) 1398 [some (.ref (q_sb G)), some (.ref a1), some (.ref a2), some (.ref a3), some (.ref a4), some (.int x5), none, none, none, none] [] A12))) ∧ (¬ r13 = r6 → (k + 1 ≤ 735865 ∧ n + 6 ≤ 6888508) ∧ f false A12))) q_nX) q_nX) q_nX) : q_Wp G M_L_law (q_KB f) X k n 1193 [some (.ref (q_sb G)), some (.ref a1), some (.ref a2), some (.ref a3), some (.ref a4), some (.int x5), none, none, none, none] [] A := by
  refine q_blk (pc' := 1199) (lo' := [some (.ref (q_sb G)), some (.ref a1), some (.ref a2), some (.ref a3), some (.ref a4), some (.int x5), none, none, none, none]) (st' := [.int (x5 + (nI 1)), .ref (q_sb G), .ref a1]) [.aload_n 1, .aload_n 0, .iload 5, .iconst 1, .iadd] (by decide +kernel) rfl ?_
  obtain ⟨j1, e2, h⟩ := h
  obtain ⟨l3, h⟩ := h
  refine q_sld e2 l3 hL (by decide +kernel) ?_
  refine q_blk (pc' := 1201) (lo' := [some (.ref (q_sb G)), some (.ref a1), some (.ref a2), some (.ref a3), some (.ref a4), some (.int x5), none, none, none, none]) (st' := [.ref a3, .int (q_xs G j1), .ref a1]) [.aload_n 3] (by decide +kernel) rfl ?_
  obtain ⟨g4, h⟩ := h
  refine q_callSH (Mc := M_L_bestBuyer) (z := 3) (As := [.ref a1, .int (q_xs G j1), .ref a3]) (st := []) mo_L_bestBuyer ms_L_bestBuyer ml_L_152_L_bestBuyer ⟨_, _, rfl⟩ rfl (by decide) g4 rfl (Nat.le_of_ble_eq_true rfl) (by decide +kernel) h (q_fI fun r6 A5 h => ?_)
  show q_Wp _ _ _ _ (k + 1) (n + 6) 1204 [some (.ref (q_sb G)), some (.ref a1), some (.ref a2), some (.ref a3), some (.ref a4), some (.int x5), none, none, none, none] [.int r6] A5
  refine q_blk (pc' := 1212) (lo' := [some (.ref (q_sb G)), some (.ref a1), some (.ref a2), some (.ref a3), some (.ref a4), some (.int x5), some (.int r6), none, none, none]) (st' := [.int (x5 + (nI 1)), .ref (q_sb G), .ref a2]) [.istore 6, .aload_n 2, .aload_n 0, .iload 5, .iconst 1, .iadd] (by decide +kernel) rfl ?_
  refine q_sld e2 l3 hL (by decide +kernel) ?_
  obtain ⟨g7, h⟩ := h
  obtain ⟨s10, h⟩ := h
  refine q_callV (ci := 11) (Mc := M_X11_bestBuyer) (z := 1) (b := a2) (As := [.int (q_xs G j1)]) (st := []) mo_X11_bestBuyer mi_X11_bestBuyer ml_L_154_X11_bestBuyer rfl rfl (by decide) rfl (by decide) g7 rfl (Nat.le_of_ble_eq_true rfl) (by decide +kernel) s10 h (q_fI fun r9 A8 h => ?_)
  show q_Wp _ _ _ _ (k + 1) (n + 6) 1216 [some (.ref (q_sb G)), some (.ref a1), some (.ref a2), some (.ref a3), some (.ref a4), some (.int x5), some (.int r6), none, none, none] [.int r9] A8
  refine q_blk (pc' := 1219) (lo' := [some (.ref (q_sb G)), some (.ref a1), some (.ref a2), some (.ref a3), some (.ref a4), some (.int x5), some (.int r6), some (.int r9), none, none]) (st' := [.ref a2]) [.istore 7, .aload_n 2] (by decide +kernel) rfl ?_
  obtain ⟨g11, h⟩ := h
  obtain ⟨s14, h⟩ := h
  refine q_callV (ci := 11) (Mc := M_X11_thrown) (z := 0) (b := a2) (As := []) (st := []) mo_X11_thrown mi_X11_thrown ml_L_100_X11_thrown rfl rfl (by decide) rfl (by decide) g11 rfl (Nat.le_of_ble_eq_true rfl) (by decide +kernel) s14 h (q_fI fun r13 A12 h => ?_)
  show q_Wp _ _ _ _ (k + 1) (n + 6) 1222 [some (.ref (q_sb G)), some (.ref a1), some (.ref a2), some (.ref a3), some (.ref a4), some (.int x5), some (.int r6), some (.int r9), none, none] [.int r13] A12
  refine q_blk (pc' := 1224) (lo' := [some (.ref (q_sb G)), some (.ref a1), some (.ref a2), some (.ref a3), some (.ref a4), some (.int x5), some (.int r6), some (.int r9), none, none]) (st' := [.int r6, .int r13]) [.iload 6] (by decide +kernel) rfl ?_
  refine q_icmp_eq 1229 (off := 5) (by decide +kernel) (by decide) (fun c15 => ?_) (fun c15 => ?_)
  · have h := h.1 c15
    refine q_blk (pc' := 1231) (lo' := [some (.ref (q_sb G)), some (.ref a1), some (.ref a2), some (.ref a3), some (.ref a4), some (.int x5), some (.int r6), some (.int r9), none, none]) (st' := [.int r6]) [.iload 6] (by decide +kernel) rfl ?_
    refine q_if_ne 1246 (off := 15) (by decide +kernel) (by decide) (fun c16 => ?_) (fun c16 => ?_)
    · have h := h.2 c16
      refine q_goto 1398 (off := 152) (by decide +kernel) (by decide) ?_
      exact q_wk [some (.ref (q_sb G)), some (.ref a1), some (.ref a2), some (.ref a3), some (.ref a4), some (.int x5), none, none, none, none] (And.intro rfl (And.intro rfl (And.intro rfl (And.intro rfl (And.intro rfl (And.intro rfl trivial)))))) h
    · have h := h.1 c16
      refine q_blk (pc' := 1236) (lo' := [some (.ref (q_sb G)), some (.ref a1), some (.ref a2), some (.ref a3), some (.ref a4), some (.int x5), some (.int r6), some (.int r9), none, none]) (st' := [.int (nI 0), .ref a3]) [.aload_n 3, .iconst 0] (by decide +kernel) rfl ?_
      obtain ⟨z18, s17, b19, h⟩ := h
      obtain ⟨l20, h⟩ := h
      refine q_lald rfl (by decide +kernel) s17 l20 b19 ?_
      refine q_blk (pc' := 1241) (lo' := [some (.ref (q_sb G)), some (.ref a1), some (.ref a2), some (.ref a3), some (.ref a4), some (.int x5), some (.int r6), some (.int r9), none, none]) (st' := [.int (lg_cmp (q_L A12 a3 0) (r9.toInt64))]) [.iload 7, .i2l, .lcmp] (by decide +kernel) rfl ?_
      refine q_if_eq 1246 (off := 5) (by decide +kernel) (by decide) (fun c21 => ?_) (fun c21 => ?_)
      · have h := h.1 ((lg_cmp_eq (q_L A12 a3 0) (r9.toInt64)).mp c21)
        refine q_goto 1398 (off := 152) (by decide +kernel) (by decide) ?_
        exact q_wk [some (.ref (q_sb G)), some (.ref a1), some (.ref a2), some (.ref a3), some (.ref a4), some (.int x5), none, none, none, none] (And.intro rfl (And.intro rfl (And.intro rfl (And.intro rfl (And.intro rfl (And.intro rfl trivial)))))) h
      · have h := h.2 (fun q9 => c21 ((lg_cmp_eq (q_L A12 a3 0) (r9.toInt64)).mpr q9))
        refine q_blk (pc' := 1245) (lo' := [some (.ref (q_sb G)), some (.ref a1), some (.ref a2), some (.ref a3), some (.ref a4), some (.int x5), some (.int r6), some (.int r9), none, none]) (st' := [.int (nI 0)]) [.iconst 0] (by decide +kernel) rfl ?_
        obtain ⟨g22, h⟩ := h
        exact q_retZ (r := q_i false) rfl (q_nz _) g22.1 g22.2 (by decide +kernel) ⟨false, rfl, h⟩
  · have h := h.2 c15
    refine q_blk (pc' := 1228) (lo' := [some (.ref (q_sb G)), some (.ref a1), some (.ref a2), some (.ref a3), some (.ref a4), some (.int x5), some (.int r6), some (.int r9), none, none]) (st' := [.int (nI 0)]) [.iconst 0] (by decide +kernel) rfl ?_
    obtain ⟨g23, h⟩ := h
    exact q_retZ (r := q_i false) rfl (q_nz _) g23.1 g23.2 (by decide +kernel) ⟨false, rfl, h⟩
theorem f_L_law_1249 {G : q_G} {X : String → q_H → Prop} {f : Bool → q_H → Prop} {A : q_H} {a1 : Nat} {a2 : Nat} {a3 : Nat} {a4 : Nat} {x5 : Int32} {k n : Nat} (hL : q_sL G < 2147483648) (h : ∃ j1 : Nat, (x5 + (nI 1)) = nI j1 ∧ j1 < (q_sL G) ∧ ∃ j4 : Nat, (x5 + (nI 2)) = nI j4 ∧ j4 < (q_sL G) ∧ (k + 278 ≤ 735865 ∧ n + 1211 ≤ 6888508) ∧ q_Wc G M_L_outlook [.ref a1, .int (q_xs G j1), .int (q_xs G j4), .ref a3] A (q_KI fun r9 A8 => (k + 278 ≤ 735865 ∧ n + 1211 ≤ 6888508) ∧ q_sh A8 a2 = (12, 0) ∧ q_Wc G M_X11_outlook [.ref a2, .int (q_xs G j1), .int (q_xs G j4)] A8 (q_KI fun r12 A11 => (k + 278 ≤ 735865 ∧ n + 1211 ≤ 6888508) ∧ q_sh A11 a2 = (12, 0) ∧ q_Wc G M_X11_thrown [.ref a2] A11 (q_KI fun r16 A15 => ((r16 = r9 → ((r9 = nI 0 → ∃ z21 : Nat, q_sh A15 a3 = (52, z21) ∧ z21 < 2147483648 ∧ 0 < z21 ∧ (((q_L A15 a3 0) = (r12.toInt64) → q_Wp G M_L_law (q_KB f) X (k + 278) (n + 1211) 1398 [some (.ref (q_sb G)), some (.ref a1), some (.ref a2), some (.ref a3), some (.ref a4), some (.int x5), none, none, none, none] [] A15) ∧ (¬ (q_L A15 a3 0) = (r12.toInt64) → (k + 278 ≤ 735865 ∧ n + 1211 ≤ 6888508) ∧ f false A15))) ∧ (¬ r9 = nI 0 → q_Wp G M_L_law (q_KB f) X (k + 278) (n + 1211) 1398 [some (.ref (q_sb G)), some (.ref a1), some (.ref a2), some (.ref a3), some (.ref a4), some (.int x5), none, none, none, none] [] A15))) ∧ (¬ r16 = r9 → (k + 278 ≤ 735865 ∧ n + 1211 ≤ 6888508) ∧ f false A15))) q_nX) q_nX) q_nX) : q_Wp G M_L_law (q_KB f) X k n 1249 [some (.ref (q_sb G)), some (.ref a1), some (.ref a2), some (.ref a3), some (.ref a4), some (.int x5), none, none, none, none] [] A := by
  refine q_blk (pc' := 1255) (lo' := [some (.ref (q_sb G)), some (.ref a1), some (.ref a2), some (.ref a3), some (.ref a4), some (.int x5), none, none, none, none]) (st' := [.int (x5 + (nI 1)), .ref (q_sb G), .ref a1]) [.aload_n 1, .aload_n 0, .iload 5, .iconst 1, .iadd] (by decide +kernel) rfl ?_
  obtain ⟨j1, e2, h⟩ := h
  obtain ⟨l3, h⟩ := h
  refine q_sld e2 l3 hL (by decide +kernel) ?_
  refine q_blk (pc' := 1261) (lo' := [some (.ref (q_sb G)), some (.ref a1), some (.ref a2), some (.ref a3), some (.ref a4), some (.int x5), none, none, none, none]) (st' := [.int (x5 + (nI 2)), .ref (q_sb G), .int (q_xs G j1), .ref a1]) [.aload_n 0, .iload 5, .iconst 2, .iadd] (by decide +kernel) rfl ?_
  obtain ⟨j4, e5, h⟩ := h
  obtain ⟨l6, h⟩ := h
  refine q_sld e5 l6 hL (by decide +kernel) ?_
  refine q_blk (pc' := 1263) (lo' := [some (.ref (q_sb G)), some (.ref a1), some (.ref a2), some (.ref a3), some (.ref a4), some (.int x5), none, none, none, none]) (st' := [.ref a3, .int (q_xs G j4), .int (q_xs G j1), .ref a1]) [.aload_n 3] (by decide +kernel) rfl ?_
  obtain ⟨g7, h⟩ := h
  refine q_callSH (Mc := M_L_outlook) (z := 4) (As := [.ref a1, .int (q_xs G j1), .int (q_xs G j4), .ref a3]) (st := []) mo_L_outlook ms_L_outlook ml_L_155_L_outlook ⟨_, _, rfl⟩ rfl (by decide) g7 rfl (Nat.le_of_ble_eq_true rfl) (by decide +kernel) h (q_fI fun r9 A8 h => ?_)
  show q_Wp _ _ _ _ (k + 278) (n + 1211) 1266 [some (.ref (q_sb G)), some (.ref a1), some (.ref a2), some (.ref a3), some (.ref a4), some (.int x5), none, none, none, none] [.int r9] A8
  refine q_blk (pc' := 1274) (lo' := [some (.ref (q_sb G)), some (.ref a1), some (.ref a2), some (.ref a3), some (.ref a4), some (.int x5), some (.int r9), none, none, none]) (st' := [.int (x5 + (nI 1)), .ref (q_sb G), .ref a2]) [.istore 6, .aload_n 2, .aload_n 0, .iload 5, .iconst 1, .iadd] (by decide +kernel) rfl ?_
  refine q_sld e2 l3 hL (by decide +kernel) ?_
  refine q_blk (pc' := 1280) (lo' := [some (.ref (q_sb G)), some (.ref a1), some (.ref a2), some (.ref a3), some (.ref a4), some (.int x5), some (.int r9), none, none, none]) (st' := [.int (x5 + (nI 2)), .ref (q_sb G), .int (q_xs G j1), .ref a2]) [.aload_n 0, .iload 5, .iconst 2, .iadd] (by decide +kernel) rfl ?_
  refine q_sld e5 l6 hL (by decide +kernel) ?_
  obtain ⟨g10, h⟩ := h
  obtain ⟨s13, h⟩ := h
  refine q_callV (ci := 11) (Mc := M_X11_outlook) (z := 2) (b := a2) (As := [.int (q_xs G j1), .int (q_xs G j4)]) (st := []) mo_X11_outlook mi_X11_outlook ml_L_157_X11_outlook rfl rfl (by decide) rfl (by decide) g10 rfl (Nat.le_of_ble_eq_true rfl) (by decide +kernel) s13 h (q_fI fun r12 A11 h => ?_)
  show q_Wp _ _ _ _ (k + 278) (n + 1211) 1284 [some (.ref (q_sb G)), some (.ref a1), some (.ref a2), some (.ref a3), some (.ref a4), some (.int x5), some (.int r9), none, none, none] [.int r12] A11
  refine q_blk (pc' := 1287) (lo' := [some (.ref (q_sb G)), some (.ref a1), some (.ref a2), some (.ref a3), some (.ref a4), some (.int x5), some (.int r9), some (.int r12), none, none]) (st' := [.ref a2]) [.istore 7, .aload_n 2] (by decide +kernel) rfl ?_
  obtain ⟨g14, h⟩ := h
  obtain ⟨s17, h⟩ := h
  refine q_callV (ci := 11) (Mc := M_X11_thrown) (z := 0) (b := a2) (As := []) (st := []) mo_X11_thrown mi_X11_thrown ml_L_100_X11_thrown rfl rfl (by decide) rfl (by decide) g14 rfl (Nat.le_of_ble_eq_true rfl) (by decide +kernel) s17 h (q_fI fun r16 A15 h => ?_)
  show q_Wp _ _ _ _ (k + 278) (n + 1211) 1290 [some (.ref (q_sb G)), some (.ref a1), some (.ref a2), some (.ref a3), some (.ref a4), some (.int x5), some (.int r9), some (.int r12), none, none] [.int r16] A15
  refine q_blk (pc' := 1292) (lo' := [some (.ref (q_sb G)), some (.ref a1), some (.ref a2), some (.ref a3), some (.ref a4), some (.int x5), some (.int r9), some (.int r12), none, none]) (st' := [.int r9, .int r16]) [.iload 6] (by decide +kernel) rfl ?_
  refine q_icmp_eq 1297 (off := 5) (by decide +kernel) (by decide) (fun c18 => ?_) (fun c18 => ?_)
  · have h := h.1 c18
    refine q_blk (pc' := 1299) (lo' := [some (.ref (q_sb G)), some (.ref a1), some (.ref a2), some (.ref a3), some (.ref a4), some (.int x5), some (.int r9), some (.int r12), none, none]) (st' := [.int r9]) [.iload 6] (by decide +kernel) rfl ?_
    refine q_if_ne 1314 (off := 15) (by decide +kernel) (by decide) (fun c19 => ?_) (fun c19 => ?_)
    · have h := h.2 c19
      refine q_goto 1398 (off := 84) (by decide +kernel) (by decide) ?_
      exact q_wk [some (.ref (q_sb G)), some (.ref a1), some (.ref a2), some (.ref a3), some (.ref a4), some (.int x5), none, none, none, none] (And.intro rfl (And.intro rfl (And.intro rfl (And.intro rfl (And.intro rfl (And.intro rfl trivial)))))) h
    · have h := h.1 c19
      refine q_blk (pc' := 1304) (lo' := [some (.ref (q_sb G)), some (.ref a1), some (.ref a2), some (.ref a3), some (.ref a4), some (.int x5), some (.int r9), some (.int r12), none, none]) (st' := [.int (nI 0), .ref a3]) [.aload_n 3, .iconst 0] (by decide +kernel) rfl ?_
      obtain ⟨z21, s20, b22, h⟩ := h
      obtain ⟨l23, h⟩ := h
      refine q_lald rfl (by decide +kernel) s20 l23 b22 ?_
      refine q_blk (pc' := 1309) (lo' := [some (.ref (q_sb G)), some (.ref a1), some (.ref a2), some (.ref a3), some (.ref a4), some (.int x5), some (.int r9), some (.int r12), none, none]) (st' := [.int (lg_cmp (q_L A15 a3 0) (r12.toInt64))]) [.iload 7, .i2l, .lcmp] (by decide +kernel) rfl ?_
      refine q_if_eq 1314 (off := 5) (by decide +kernel) (by decide) (fun c24 => ?_) (fun c24 => ?_)
      · have h := h.1 ((lg_cmp_eq (q_L A15 a3 0) (r12.toInt64)).mp c24)
        refine q_goto 1398 (off := 84) (by decide +kernel) (by decide) ?_
        exact q_wk [some (.ref (q_sb G)), some (.ref a1), some (.ref a2), some (.ref a3), some (.ref a4), some (.int x5), none, none, none, none] (And.intro rfl (And.intro rfl (And.intro rfl (And.intro rfl (And.intro rfl (And.intro rfl trivial)))))) h
      · have h := h.2 (fun q9 => c24 ((lg_cmp_eq (q_L A15 a3 0) (r12.toInt64)).mpr q9))
        refine q_blk (pc' := 1313) (lo' := [some (.ref (q_sb G)), some (.ref a1), some (.ref a2), some (.ref a3), some (.ref a4), some (.int x5), some (.int r9), some (.int r12), none, none]) (st' := [.int (nI 0)]) [.iconst 0] (by decide +kernel) rfl ?_
        obtain ⟨g25, h⟩ := h
        exact q_retZ (r := q_i false) rfl (q_nz _) g25.1 g25.2 (by decide +kernel) ⟨false, rfl, h⟩
  · have h := h.2 c18
    refine q_blk (pc' := 1296) (lo' := [some (.ref (q_sb G)), some (.ref a1), some (.ref a2), some (.ref a3), some (.ref a4), some (.int x5), some (.int r9), some (.int r12), none, none]) (st' := [.int (nI 0)]) [.iconst 0] (by decide +kernel) rfl ?_
    obtain ⟨g26, h⟩ := h
    exact q_retZ (r := q_i false) rfl (q_nz _) g26.1 g26.2 (by decide +kernel) ⟨false, rfl, h⟩
theorem f_L_law_1317 {G : q_G} {X : String → q_H → Prop} {f : Bool → q_H → Prop} {A : q_H} {a1 : Nat} {a2 : Nat} {a3 : Nat} {a4 : Nat} {x5 : Int32} {k n : Nat} (hL : q_sL G < 2147483648) (h : ∃ j1 : Nat, (x5 + (nI 1)) = nI j1 ∧ j1 < (q_sL G) ∧ ∃ j4 : Nat, (x5 + (nI 2)) = nI j4 ∧ j4 < (q_sL G) ∧ (k + 279 ≤ 735865 ∧ n + 1217 ≤ 6888508) ∧ q_Wc G M_L_bestStaff [.ref a1, .int (q_xs G j1), .int (q_xs G j4), .ref a3] A (q_KI fun r9 A8 => (k + 279 ≤ 735865 ∧ n + 1217 ≤ 6888508) ∧ q_sh A8 a2 = (12, 0) ∧ q_Wc G M_X11_bestStaff [.ref a2, .int (q_xs G j1), .int (q_xs G j4)] A8 (q_KI fun r12 A11 => (k + 279 ≤ 735865 ∧ n + 1217 ≤ 6888508) ∧ q_sh A11 a2 = (12, 0) ∧ q_Wc G M_X11_thrown [.ref a2] A11 (q_KI fun r16 A15 => ((r16 = r9 → ((r9 = nI 0 → ∃ z21 : Nat, q_sh A15 a3 = (52, z21) ∧ z21 < 2147483648 ∧ 0 < z21 ∧ (((q_L A15 a3 0) = (r12.toInt64) → q_Wp G M_L_law (q_KB f) X (k + 279) (n + 1217) 1398 [some (.ref (q_sb G)), some (.ref a1), some (.ref a2), some (.ref a3), some (.ref a4), some (.int x5), none, none, none, none] [] A15) ∧ (¬ (q_L A15 a3 0) = (r12.toInt64) → (k + 279 ≤ 735865 ∧ n + 1217 ≤ 6888508) ∧ f false A15))) ∧ (¬ r9 = nI 0 → q_Wp G M_L_law (q_KB f) X (k + 279) (n + 1217) 1398 [some (.ref (q_sb G)), some (.ref a1), some (.ref a2), some (.ref a3), some (.ref a4), some (.int x5), none, none, none, none] [] A15))) ∧ (¬ r16 = r9 → (k + 279 ≤ 735865 ∧ n + 1217 ≤ 6888508) ∧ f false A15))) q_nX) q_nX) q_nX) : q_Wp G M_L_law (q_KB f) X k n 1317 [some (.ref (q_sb G)), some (.ref a1), some (.ref a2), some (.ref a3), some (.ref a4), some (.int x5), none, none, none, none] [] A := by
  refine q_blk (pc' := 1323) (lo' := [some (.ref (q_sb G)), some (.ref a1), some (.ref a2), some (.ref a3), some (.ref a4), some (.int x5), none, none, none, none]) (st' := [.int (x5 + (nI 1)), .ref (q_sb G), .ref a1]) [.aload_n 1, .aload_n 0, .iload 5, .iconst 1, .iadd] (by decide +kernel) rfl ?_
  obtain ⟨j1, e2, h⟩ := h
  obtain ⟨l3, h⟩ := h
  refine q_sld e2 l3 hL (by decide +kernel) ?_
  refine q_blk (pc' := 1329) (lo' := [some (.ref (q_sb G)), some (.ref a1), some (.ref a2), some (.ref a3), some (.ref a4), some (.int x5), none, none, none, none]) (st' := [.int (x5 + (nI 2)), .ref (q_sb G), .int (q_xs G j1), .ref a1]) [.aload_n 0, .iload 5, .iconst 2, .iadd] (by decide +kernel) rfl ?_
  obtain ⟨j4, e5, h⟩ := h
  obtain ⟨l6, h⟩ := h
  refine q_sld e5 l6 hL (by decide +kernel) ?_
  refine q_blk (pc' := 1331) (lo' := [some (.ref (q_sb G)), some (.ref a1), some (.ref a2), some (.ref a3), some (.ref a4), some (.int x5), none, none, none, none]) (st' := [.ref a3, .int (q_xs G j4), .int (q_xs G j1), .ref a1]) [.aload_n 3] (by decide +kernel) rfl ?_
  obtain ⟨g7, h⟩ := h
  refine q_callSH (Mc := M_L_bestStaff) (z := 4) (As := [.ref a1, .int (q_xs G j1), .int (q_xs G j4), .ref a3]) (st := []) mo_L_bestStaff ms_L_bestStaff ml_L_158_L_bestStaff ⟨_, _, rfl⟩ rfl (by decide) g7 rfl (Nat.le_of_ble_eq_true rfl) (by decide +kernel) h (q_fI fun r9 A8 h => ?_)
  show q_Wp _ _ _ _ (k + 279) (n + 1217) 1334 [some (.ref (q_sb G)), some (.ref a1), some (.ref a2), some (.ref a3), some (.ref a4), some (.int x5), none, none, none, none] [.int r9] A8
  refine q_blk (pc' := 1342) (lo' := [some (.ref (q_sb G)), some (.ref a1), some (.ref a2), some (.ref a3), some (.ref a4), some (.int x5), some (.int r9), none, none, none]) (st' := [.int (x5 + (nI 1)), .ref (q_sb G), .ref a2]) [.istore 6, .aload_n 2, .aload_n 0, .iload 5, .iconst 1, .iadd] (by decide +kernel) rfl ?_
  refine q_sld e2 l3 hL (by decide +kernel) ?_
  refine q_blk (pc' := 1348) (lo' := [some (.ref (q_sb G)), some (.ref a1), some (.ref a2), some (.ref a3), some (.ref a4), some (.int x5), some (.int r9), none, none, none]) (st' := [.int (x5 + (nI 2)), .ref (q_sb G), .int (q_xs G j1), .ref a2]) [.aload_n 0, .iload 5, .iconst 2, .iadd] (by decide +kernel) rfl ?_
  refine q_sld e5 l6 hL (by decide +kernel) ?_
  obtain ⟨g10, h⟩ := h
  obtain ⟨s13, h⟩ := h
  refine q_callV (ci := 11) (Mc := M_X11_bestStaff) (z := 2) (b := a2) (As := [.int (q_xs G j1), .int (q_xs G j4)]) (st := []) mo_X11_bestStaff mi_X11_bestStaff ml_L_160_X11_bestStaff rfl rfl (by decide) rfl (by decide) g10 rfl (Nat.le_of_ble_eq_true rfl) (by decide +kernel) s13 h (q_fI fun r12 A11 h => ?_)
  show q_Wp _ _ _ _ (k + 279) (n + 1217) 1352 [some (.ref (q_sb G)), some (.ref a1), some (.ref a2), some (.ref a3), some (.ref a4), some (.int x5), some (.int r9), none, none, none] [.int r12] A11
  refine q_blk (pc' := 1355) (lo' := [some (.ref (q_sb G)), some (.ref a1), some (.ref a2), some (.ref a3), some (.ref a4), some (.int x5), some (.int r9), some (.int r12), none, none]) (st' := [.ref a2]) [.istore 7, .aload_n 2] (by decide +kernel) rfl ?_
  obtain ⟨g14, h⟩ := h
  obtain ⟨s17, h⟩ := h
  refine q_callV (ci := 11) (Mc := M_X11_thrown) (z := 0) (b := a2) (As := []) (st := []) mo_X11_thrown mi_X11_thrown ml_L_100_X11_thrown rfl rfl (by decide) rfl (by decide) g14 rfl (Nat.le_of_ble_eq_true rfl) (by decide +kernel) s17 h (q_fI fun r16 A15 h => ?_)
  show q_Wp _ _ _ _ (k + 279) (n + 1217) 1358 [some (.ref (q_sb G)), some (.ref a1), some (.ref a2), some (.ref a3), some (.ref a4), some (.int x5), some (.int r9), some (.int r12), none, none] [.int r16] A15
  refine q_blk (pc' := 1360) (lo' := [some (.ref (q_sb G)), some (.ref a1), some (.ref a2), some (.ref a3), some (.ref a4), some (.int x5), some (.int r9), some (.int r12), none, none]) (st' := [.int r9, .int r16]) [.iload 6] (by decide +kernel) rfl ?_
  refine q_icmp_eq 1365 (off := 5) (by decide +kernel) (by decide) (fun c18 => ?_) (fun c18 => ?_)
  · have h := h.1 c18
    refine q_blk (pc' := 1367) (lo' := [some (.ref (q_sb G)), some (.ref a1), some (.ref a2), some (.ref a3), some (.ref a4), some (.int x5), some (.int r9), some (.int r12), none, none]) (st' := [.int r9]) [.iload 6] (by decide +kernel) rfl ?_
    refine q_if_ne 1382 (off := 15) (by decide +kernel) (by decide) (fun c19 => ?_) (fun c19 => ?_)
    · have h := h.2 c19
      refine q_goto 1398 (off := 16) (by decide +kernel) (by decide) ?_
      exact q_wk [some (.ref (q_sb G)), some (.ref a1), some (.ref a2), some (.ref a3), some (.ref a4), some (.int x5), none, none, none, none] (And.intro rfl (And.intro rfl (And.intro rfl (And.intro rfl (And.intro rfl (And.intro rfl trivial)))))) h
    · have h := h.1 c19
      refine q_blk (pc' := 1372) (lo' := [some (.ref (q_sb G)), some (.ref a1), some (.ref a2), some (.ref a3), some (.ref a4), some (.int x5), some (.int r9), some (.int r12), none, none]) (st' := [.int (nI 0), .ref a3]) [.aload_n 3, .iconst 0] (by decide +kernel) rfl ?_
      obtain ⟨z21, s20, b22, h⟩ := h
      obtain ⟨l23, h⟩ := h
      refine q_lald rfl (by decide +kernel) s20 l23 b22 ?_
      refine q_blk (pc' := 1377) (lo' := [some (.ref (q_sb G)), some (.ref a1), some (.ref a2), some (.ref a3), some (.ref a4), some (.int x5), some (.int r9), some (.int r12), none, none]) (st' := [.int (lg_cmp (q_L A15 a3 0) (r12.toInt64))]) [.iload 7, .i2l, .lcmp] (by decide +kernel) rfl ?_
      refine q_if_eq 1382 (off := 5) (by decide +kernel) (by decide) (fun c24 => ?_) (fun c24 => ?_)
      · have h := h.1 ((lg_cmp_eq (q_L A15 a3 0) (r12.toInt64)).mp c24)
        refine q_goto 1398 (off := 16) (by decide +kernel) (by decide) ?_
        exact q_wk [some (.ref (q_sb G)), some (.ref a1), some (.ref a2), some (.ref a3), some (.ref a4), some (.int x5), none, none, none, none] (And.intro rfl (And.intro rfl (And.intro rfl (And.intro rfl (And.intro rfl (And.intro rfl trivial)))))) h
      · have h := h.2 (fun q9 => c24 ((lg_cmp_eq (q_L A15 a3 0) (r12.toInt64)).mpr q9))
        refine q_blk (pc' := 1381) (lo' := [some (.ref (q_sb G)), some (.ref a1), some (.ref a2), some (.ref a3), some (.ref a4), some (.int x5), some (.int r9), some (.int r12), none, none]) (st' := [.int (nI 0)]) [.iconst 0] (by decide +kernel) rfl ?_
        obtain ⟨g25, h⟩ := h
        exact q_retZ (r := q_i false) rfl (q_nz _) g25.1 g25.2 (by decide +kernel) ⟨false, rfl, h⟩
  · have h := h.2 c18
    refine q_blk (pc' := 1364) (lo' := [some (.ref (q_sb G)), some (.ref a1), some (.ref a2), some (.ref a3), some (.ref a4), some (.int x5), some (.int r9), some (.int r12), none, none]) (st' := [.int (nI 0)]) [.iconst 0] (by decide +kernel) rfl ?_
    obtain ⟨g26, h⟩ := h
    exact q_retZ (r := q_i false) rfl (q_nz _) g26.1 g26.2 (by decide +kernel) ⟨false, rfl, h⟩
theorem f_L_law_1385 {G : q_G} {X : String → q_H → Prop} {f : Bool → q_H → Prop} {A : q_H} {a1 : Nat} {a2 : Nat} {a3 : Nat} {a4 : Nat} {x5 : Int32} {k n : Nat} (hL : q_sL G < 2147483648) (h : (k + 277 ≤ 735865 ∧ n + 1205 ≤ 6888508) ∧ q_sh A a1 = (11, 0) ∧ q_Wc G M_X10_emptied [.ref a1] A (q_KI fun r3 A2 => (k + 277 ≤ 735865 ∧ n + 1205 ≤ 6888508) ∧ q_sh A2 a2 = (12, 0) ∧ q_Wc G M_X11_emptied [.ref a2] A2 (q_KI fun r7 A6 => ((r3 = r7 → q_Wp G M_L_law (q_KB f) X (k + 277) (n + 1205) 1398 [some (.ref (q_sb G)), some (.ref a1), some (.ref a2), some (.ref a3), some (.ref a4), some (.int x5), none, none, none, none] [] A6) ∧ (¬ r3 = r7 → (k + 277 ≤ 735865 ∧ n + 1205 ≤ 6888508) ∧ f false A6))) q_nX) q_nX) : q_Wp G M_L_law (q_KB f) X k n 1385 [some (.ref (q_sb G)), some (.ref a1), some (.ref a2), some (.ref a3), some (.ref a4), some (.int x5), none, none, none, none] [] A := by
  refine q_blk (pc' := 1386) (lo' := [some (.ref (q_sb G)), some (.ref a1), some (.ref a2), some (.ref a3), some (.ref a4), some (.int x5), none, none, none, none]) (st' := [.ref a1]) [.aload_n 1] (by decide +kernel) rfl ?_
  obtain ⟨g1, h⟩ := h
  obtain ⟨s4, h⟩ := h
  refine q_callV (ci := 10) (Mc := M_X10_emptied) (z := 0) (b := a1) (As := []) (st := []) mo_X10_emptied mi_X10_emptied ml_L_161_X10_emptied rfl rfl (by decide) rfl (by decide) g1 rfl (Nat.le_of_ble_eq_true rfl) (by decide +kernel) s4 h (q_fI fun r3 A2 h => ?_)
  show q_Wp _ _ _ _ (k + 277) (n + 1205) 1389 [some (.ref (q_sb G)), some (.ref a1), some (.ref a2), some (.ref a3), some (.ref a4), some (.int x5), none, none, none, none] [.int r3] A2
  refine q_blk (pc' := 1390) (lo' := [some (.ref (q_sb G)), some (.ref a1), some (.ref a2), some (.ref a3), some (.ref a4), some (.int x5), none, none, none, none]) (st' := [.ref a2, .int r3]) [.aload_n 2] (by decide +kernel) rfl ?_
  obtain ⟨g5, h⟩ := h
  obtain ⟨s8, h⟩ := h
  refine q_callV (ci := 11) (Mc := M_X11_emptied) (z := 0) (b := a2) (As := []) (st := [.int r3]) mo_X11_emptied mi_X11_emptied ml_L_164_X11_emptied rfl rfl (by decide) rfl (by decide) g5 rfl (Nat.le_of_ble_eq_true rfl) (by decide +kernel) s8 h (q_fI fun r7 A6 h => ?_)
  show q_Wp _ _ _ _ (k + 277) (n + 1205) 1393 [some (.ref (q_sb G)), some (.ref a1), some (.ref a2), some (.ref a3), some (.ref a4), some (.int x5), none, none, none, none] [.int r7, .int r3] A6
  refine q_icmp_eq 1398 (off := 5) (by decide +kernel) (by decide) (fun c9 => ?_) (fun c9 => ?_)
  · have h := h.1 c9
    exact h
  · have h := h.2 c9
    refine q_blk (pc' := 1397) (lo' := [some (.ref (q_sb G)), some (.ref a1), some (.ref a2), some (.ref a3), some (.ref a4), some (.int x5), none, none, none, none]) (st' := [.int (nI 0)]) [.iconst 0] (by decide +kernel) rfl ?_
    obtain ⟨g10, h⟩ := h
    exact q_retZ (r := q_i false) rfl (q_nz _) g10.1 g10.2 (by decide +kernel) ⟨false, rfl, h⟩
theorem f_L_law_1398 {G : q_G} {X : String → q_H → Prop} {f : Bool → q_H → Prop} {A : q_H} {a1 : Nat} {a2 : Nat} {a3 : Nat} {a4 : Nat} {x5 : Int32} {k n : Nat} (hL : q_sL G < 2147483648) (h : q_Wp G M_L_law (q_KB f) X k n 28 [some (.ref (q_sb G)), some (.ref a1), some (.ref a2), some (.ref a3), some (.ref a4), some (.int (x5 + (nI 6))), none, none, none, none] [] A) : q_Wp G M_L_law (q_KB f) X k n 1398 [some (.ref (q_sb G)), some (.ref a1), some (.ref a2), some (.ref a3), some (.ref a4), some (.int x5), none, none, none, none] [] A := by
  refine q_blk (pc' := 1401) (lo' := [some (.ref (q_sb G)), some (.ref a1), some (.ref a2), some (.ref a3), some (.ref a4), some (.int (x5 + (nI 6))), none, none, none, none]) (st' := []) [.iinc 5 6] (by decide +kernel) rfl ?_
  refine q_goto 28 (off := -1373) (by decide +kernel) (by decide) ?_
  exact h

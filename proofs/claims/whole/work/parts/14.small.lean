/-! CONDITIONS: Parcel, Hopper, Station, Bale, Stock, Buyer, Tally -/
theorem f_X5_init {G : q_G} {X : String → q_H → Prop} {f : q_H → Prop} {A : q_H} {a0 : Nat} (h : q_Wc G M_X2_init [.ref (q_sz A)] (q_new A 3 0) (q_KV fun A2 => q_sh A2 a0 = (6, 0) ∧ f (q_setR A2 a0 0 (some (q_sz A)))) q_nX) : q_Wc G M_X5_init [.ref a0] A (q_KV f) X := by
  refine q_Wc.of [some (.ref a0)] mo_X5_init.2.2.2.2.2 rfl (Nat.le_of_ble_eq_true rfl) rfl ?_
  refine q_blk (pc' := 1) (lo' := [some (.ref a0)]) (st' := [.ref a0]) [.aload_n 0] (by decide +kernel) rfl ?_
  refine q_obj ob_X5_1.1 ob_X5_1.2.1 ob_X5_1.2.2 (by decide) (Nat.le_of_ble_eq_true rfl) (by decide +kernel) ?_
  refine q_blk (pc' := 5) (lo' := [some (.ref a0)]) (st' := [.ref a0]) [.aload_n 0] (by decide +kernel) rfl ?_
  refine q_newO (idx := 7) ck2 (by decide) kl_X5_7 nw_2.1 nw_2.2 (by decide) (by decide) (by decide +kernel) ?_
  have s1 : q_sh (q_new A 3 0) (q_sz A) = (3, 0) := q_shn _ _ _
  refine q_blk (pc' := 9) (lo' := [some (.ref a0)]) (st' := [.ref (q_sz A), .ref (q_sz A), .ref a0]) [.dup] (by decide +kernel) rfl ?_
  refine q_callI (Mc := M_X2_init) (z := 0) (b := (q_sz A)) (As := []) (st := [.ref (q_sz A), .ref a0]) mo_X2_init mi0_X2_init mI_X5_9_X2_init rfl rfl rfl rfl (by decide) (by decide) rfl (Nat.le_of_ble_eq_true rfl) (by decide +kernel) h (q_fV fun A2 h => ?_)
  show q_Wp _ _ _ _ 2 8 12 [some (.ref a0)] [.ref (q_sz A), .ref a0] A2
  obtain ⟨s4, h⟩ := h
  refine q_putP (v := (some (q_sz A))) fp_X5_10 rfl rfl (by decide) (by decide +kernel) s4 ?_
  exact q_ret0 rfl (by decide) (by decide) (by decide +kernel) ⟨rfl, h⟩
theorem f_X5_copyFrom {G : q_G} {X : String → q_H → Prop} {f : q_H → Prop} {A : q_H} {a0 : Nat} {a1 : Nat} (h : q_sh A a0 = (6, 0) ∧ ∃ r2 : Nat, q_R A a0 0 = some r2 ∧ q_sh A a1 = (6, 0) ∧ ∃ r5 : Nat, q_R A a1 0 = some r5 ∧ q_sh A r2 = (3, 0) ∧ q_Wc G M_X2_copyFrom [.ref r2, .ref r5] A (q_KV fun A7 => q_sh A7 a1 = (6, 0) ∧ q_sh A7 a0 = (6, 0) ∧ f (q_setI A7 a0 1 (q_I A7 a1 1))) q_nX) : q_Wc G M_X5_copyFrom [.ref a0, .ref a1] A (q_KV f) X := by
  refine q_Wc.of [some (.ref a0), some (.ref a1)] mo_X5_copyFrom.2.2.2.2.2 rfl (Nat.le_of_ble_eq_true rfl) rfl ?_
  refine q_blk (pc' := 1) (lo' := [some (.ref a0), some (.ref a1)]) (st' := [.ref a0]) [.aload_n 0] (by decide +kernel) rfl ?_
  obtain ⟨s1, h⟩ := h
  obtain ⟨r2, e3, h⟩ := h
  refine q_getR fl_X5_10 rfl (by decide) (by decide +kernel) s1 e3 ?_
  refine q_blk (pc' := 5) (lo' := [some (.ref a0), some (.ref a1)]) (st' := [.ref a1, .ref r2]) [.aload_n 1] (by decide +kernel) rfl ?_
  obtain ⟨s4, h⟩ := h
  obtain ⟨r5, e6, h⟩ := h
  refine q_getR fl_X5_10 rfl (by decide) (by decide +kernel) s4 e6 ?_
  obtain ⟨s9, h⟩ := h
  refine q_callV (ci := 2) (Mc := M_X2_copyFrom) (z := 1) (b := r2) (As := [.ref r5]) (st := []) mo_X2_copyFrom mi_X2_copyFrom ml_X5_16_X2_copyFrom rfl rfl (by decide) rfl (by decide) (by decide) rfl (Nat.le_of_ble_eq_true rfl) (by decide +kernel) s9 h (q_fV fun A7 h => ?_)
  show q_Wp _ _ _ _ 0 0 11 [some (.ref a0), some (.ref a1)] [] A7
  refine q_blk (pc' := 13) (lo' := [some (.ref a0), some (.ref a1)]) (st' := [.ref a1, .ref a0]) [.aload_n 0, .aload_n 1] (by decide +kernel) rfl ?_
  obtain ⟨s10, h⟩ := h
  refine q_getI fl_X5_20 rfl (by decide) (by decide +kernel) s10 ?_
  obtain ⟨s11, h⟩ := h
  refine q_putI fw_X5_20 rfl (by decide) (by decide +kernel) s11 ?_
  exact q_ret0 rfl (by decide) (by decide) (by decide +kernel) ⟨rfl, h⟩
theorem f_X3_init {G : q_G} {X : String → q_H → Prop} {f : q_H → Prop} {A : q_H} {a0 : Nat} (h : q_sh (q_new A 65 30) a0 = (4, 0) ∧ q_Wp G M_X3_init (q_KV f) X 1 30 15 [some (.ref a0), some (.int (nI 0))] [] (q_setR (q_new A 65 30) a0 0 (some (q_sz A)))) : q_Wc G M_X3_init [.ref a0] A (q_KV f) X := by
  refine q_Wc.of [some (.ref a0), none] mo_X3_init.2.2.2.2.2 rfl (Nat.le_of_ble_eq_true rfl) rfl ?_
  refine q_blk (pc' := 1) (lo' := [some (.ref a0), none]) (st' := [.ref a0]) [.aload_n 0] (by decide +kernel) rfl ?_
  refine q_obj ob_X3_3.1 ob_X3_3.2.1 ob_X3_3.2.2 (by decide) (Nat.le_of_ble_eq_true rfl) (by decide +kernel) ?_
  refine q_blk (pc' := 7) (lo' := [some (.ref a0), none]) (st' := [.int (nI 30), .ref a0]) [.aload_n 0, .bipush 30] (by decide +kernel) rfl ?_
  refine q_newR (z := 30) (cc := 5) rfl (q_rk5 G) kl_X3_9 rfl (by decide) (by decide) (by decide) (by decide +kernel) ?_
  have s1 : q_sh (q_new A 65 30) (q_sz A) = (65, 30) := q_shn _ _ _
  obtain ⟨s2, h⟩ := h
  refine q_putP (v := (some (q_sz A))) fp_X3_11 rfl rfl (by decide) (by decide +kernel) s2 ?_
  refine q_blk (pc' := 15) (lo' := [some (.ref a0), some (.int (nI 0))]) (st' := []) [.iconst 0, .istore_n 1] (by decide +kernel) rfl ?_
  exact h
theorem f_X3_init_15 {G : q_G} {X : String → q_H → Prop} {f : q_H → Prop} {A : q_H} {a0 : Nat} {x1 : Int32} {k n : Nat} (h : q_sh A a0 = (4, 0) ∧ ∃ r2 : Nat, q_R A a0 0 = some r2 ∧ ∃ z5 : Nat, q_sh A r2 = (65, z5) ∧ z5 < 2147483648 ∧ (((nI z5) ≤ x1 → (k ≤ 91 ∧ n ≤ 330) ∧ f A) ∧ (¬ (nI z5) ≤ x1 → (k + 1 ≤ 91 ∧ n + 2 ≤ 330) ∧ (k + 1 + 2 ≤ 91 ∧ n + 2 + 8 ≤ 330) ∧ q_Wc G M_X5_init [.ref (q_sz A)] (q_new A 6 0) (q_KV fun A12 => ∃ z15 : Nat, q_sh A12 r2 = (65, z15) ∧ z15 < 2147483648 ∧ ∃ j17 : Nat, x1 = nI j17 ∧ j17 < z15 ∧ q_sh A12 (q_sz A) = (6, 0) ∧ q_Wp G M_X3_init (q_KV f) X (k + 1 + 2) (n + 2 + 8) 15 [some (.ref a0), some (.int (x1 + (nI 1)))] [] (q_setR A12 r2 j17 (some (q_sz A)))) q_nX))) : q_Wp G M_X3_init (q_KV f) X k n 15 [some (.ref a0), some (.int x1)] [] A := by
  refine q_blk (pc' := 17) (lo' := [some (.ref a0), some (.int x1)]) (st' := [.ref a0, .int x1]) [.iload_n 1, .aload_n 0] (by decide +kernel) rfl ?_
  obtain ⟨s1, h⟩ := h
  obtain ⟨r2, e3, h⟩ := h
  refine q_getR fl_X3_11 rfl (by decide) (by decide +kernel) s1 e3 ?_
  obtain ⟨z5, s4, b6, h⟩ := h
  refine q_alenR (q_rk5 G) (by decide +kernel) s4 ?_
  refine q_icmp_ge 43 (off := 22) (by decide +kernel) (by decide) (fun c7 => ?_) (fun c7 => ?_)
  · have h := h.1 c7
    obtain ⟨g8, h⟩ := h
    exact q_ret0 rfl g8.1 g8.2 (by decide +kernel) ⟨rfl, h⟩
  · have h := h.2 c7
    refine q_blk (pc' := 25) (lo' := [some (.ref a0), some (.int x1)]) (st' := [.ref a0]) [.aload_n 0] (by decide +kernel) rfl ?_
    refine q_getR fl_X3_11 rfl (by decide) (by decide +kernel) s1 e3 ?_
    refine q_blk (pc' := 29) (lo' := [some (.ref a0), some (.int x1)]) (st' := [.int x1, .ref r2]) [.iload_n 1] (by decide +kernel) rfl ?_
    obtain ⟨g9, h⟩ := h
    refine q_newO (idx := 9) ck5 (by decide) kl_X3_9 nw_5.1 nw_5.2 g9.1 g9.2 (by decide +kernel) ?_
    have s10 : q_sh (q_new A 6 0) (q_sz A) = (6, 0) := q_shn _ _ _
    refine q_blk (pc' := 33) (lo' := [some (.ref a0), some (.int x1)]) (st' := [.ref (q_sz A), .ref (q_sz A), .int x1, .ref r2]) [.dup] (by decide +kernel) rfl ?_
    obtain ⟨g11, h⟩ := h
    refine q_callI (Mc := M_X5_init) (z := 0) (b := (q_sz A)) (As := []) (st := [.ref (q_sz A), .int x1, .ref r2]) mo_X5_init mi0_X5_init mI_X3_17_X5_init rfl rfl rfl rfl (by decide) g11 rfl (Nat.le_of_ble_eq_true rfl) (by decide +kernel) h (q_fV fun A12 h => ?_)
    show q_Wp _ _ _ _ (k + 1 + 2) (n + 2 + 8) 36 [some (.ref a0), some (.int x1)] [.ref (q_sz A), .int x1, .ref r2] A12
    obtain ⟨z15, s14, b16, h⟩ := h
    obtain ⟨j17, e18, h⟩ := h
    obtain ⟨l19, h⟩ := h
    obtain ⟨s20, h⟩ := h
    refine q_aast (r := some (q_sz A)) (q_rk5 G) (by decide) e18 (by decide +kernel) s14 l19 b16 (fun _ q9 => by cases q9; exact s20) ?_
    refine q_blk (pc' := 40) (lo' := [some (.ref a0), some (.int (x1 + (nI 1)))]) (st' := []) [.iinc 1 1] (by decide +kernel) rfl ?_
    refine q_goto 15 (off := -25) (by decide +kernel) (by decide) ?_
    exact h
theorem f_X3_isFull {G : q_G} {X : String → q_H → Prop} {f : Bool → q_H → Prop} {A : q_H} {a0 : Nat} (h : q_sh A a0 = (4, 0) ∧ (((q_I A a0 2) < (nI 30) → f false A) ∧ (¬ (q_I A a0 2) < (nI 30) → f true A))) : q_Wc G M_X3_isFull [.ref a0] A (q_KB f) X := by
  refine q_Wc.of [some (.ref a0)] mo_X3_isFull.2.2.2.2.2 rfl (Nat.le_of_ble_eq_true rfl) rfl ?_
  refine q_blk (pc' := 1) (lo' := [some (.ref a0)]) (st' := [.ref a0]) [.aload_n 0] (by decide +kernel) rfl ?_
  obtain ⟨s1, h⟩ := h
  refine q_getI fl_X3_18 rfl (by decide) (by decide +kernel) s1 ?_
  refine q_blk (pc' := 6) (lo' := [some (.ref a0)]) (st' := [.int (nI 30), .int (q_I A a0 2)]) [.bipush 30] (by decide +kernel) rfl ?_
  refine q_icmp_lt 13 (off := 7) (by decide +kernel) (by decide) (fun c2 => ?_) (fun c2 => ?_)
  · have h := h.1 c2
    refine q_blk (pc' := 14) (lo' := [some (.ref a0)]) (st' := [.int (nI 0)]) [.iconst 0] (by decide +kernel) rfl ?_
    exact q_retZ (r := q_i false) rfl (q_nz _) (by decide) (by decide) (by decide +kernel) ⟨false, rfl, h⟩
  · have h := h.2 c2
    refine q_blk (pc' := 10) (lo' := [some (.ref a0)]) (st' := [.int (nI 1)]) [.iconst 1] (by decide +kernel) rfl ?_
    refine q_goto 14 (off := 4) (by decide +kernel) (by decide) ?_
    exact q_retZ (r := q_i true) rfl (q_nz _) (by decide) (by decide) (by decide +kernel) ⟨true, rfl, h⟩
theorem f_X3_parcelAt {G : q_G} {X : String → q_H → Prop} {f : Option Nat → q_H → Prop} {A : q_H} {a0 : Nat} {x1 : Int32} (h : ((x1 < nI 0 → f none A) ∧ (¬ x1 < nI 0 → q_sh A a0 = (4, 0) ∧ ((x1 < (q_I A a0 2) → ∃ r4 : Nat, q_R A a0 0 = some r4 ∧ ∃ z7 : Nat, q_sh A r4 = (65, z7) ∧ z7 < 2147483648 ∧ ∃ j9 : Nat, (((q_I A a0 1) + x1) - ((q_I A a0 1) + x1) / (nI 30) * (nI 30)) = nI j9 ∧ j9 < z7 ∧ ∃ r12 : Nat, q_R A r4 j9 = some r12 ∧ f (some r12) A) ∧ (¬ x1 < (q_I A a0 2) → f none A))))) : q_Wc G M_X3_parcelAt [.ref a0, .int x1] A (q_KR f) X := by
  refine q_Wc.of [some (.ref a0), some (.int x1)] mo_X3_parcelAt.2.2.2.2.2 rfl (Nat.le_of_ble_eq_true rfl) rfl ?_
  refine q_blk (pc' := 1) (lo' := [some (.ref a0), some (.int x1)]) (st' := [.int x1]) [.iload_n 1] (by decide +kernel) rfl ?_
  refine q_if_lt 12 (off := 11) (by decide +kernel) (by decide) (fun c1 => ?_) (fun c1 => ?_)
  · have h := h.1 c1
    refine q_blk (pc' := 13) (lo' := [some (.ref a0), some (.int x1)]) (st' := [.null]) [.aconst_null] (by decide +kernel) rfl ?_
    exact q_retR (r := none) rfl (Or.inl ⟨_, rfl⟩) (by decide) (by decide) (by decide +kernel) ⟨_, rfl, h⟩
  · have h := h.2 c1
    refine q_blk (pc' := 6) (lo' := [some (.ref a0), some (.int x1)]) (st' := [.ref a0, .int x1]) [.iload_n 1, .aload_n 0] (by decide +kernel) rfl ?_
    obtain ⟨s2, h⟩ := h
    refine q_getI fl_X3_18 rfl (by decide) (by decide +kernel) s2 ?_
    refine q_icmp_lt 14 (off := 5) (by decide +kernel) (by decide) (fun c3 => ?_) (fun c3 => ?_)
    · have h := h.1 c3
      refine q_blk (pc' := 15) (lo' := [some (.ref a0), some (.int x1)]) (st' := [.ref a0]) [.aload_n 0] (by decide +kernel) rfl ?_
      obtain ⟨r4, e5, h⟩ := h
      refine q_getR fl_X3_11 rfl (by decide) (by decide +kernel) s2 e5 ?_
      refine q_blk (pc' := 19) (lo' := [some (.ref a0), some (.int x1)]) (st' := [.ref a0, .ref r4]) [.aload_n 0] (by decide +kernel) rfl ?_
      refine q_getI fl_X3_22 rfl (by decide) (by decide +kernel) s2 ?_
      refine q_blk (pc' := 26) (lo' := [some (.ref a0), some (.int x1)]) (st' := [.int (nI 30), .int ((q_I A a0 1) + x1), .ref r4]) [.iload_n 1, .iadd, .bipush 30] (by decide +kernel) rfl ?_
      refine q_irem (by decide +kernel) (by decide) ?_
      obtain ⟨z7, s6, b8, h⟩ := h
      obtain ⟨j9, e10, h⟩ := h
      obtain ⟨l11, h⟩ := h
      obtain ⟨r12, e13, h⟩ := h
      refine q_aaldS (q_rk5 G) e10 (by decide +kernel) s6 l11 b8 e13 ?_
      exact q_retR (r := (some r12)) rfl (Or.inl ⟨_, rfl⟩) (by decide) (by decide) (by decide +kernel) ⟨_, rfl, h⟩
    · have h := h.2 c3
      refine q_blk (pc' := 13) (lo' := [some (.ref a0), some (.int x1)]) (st' := [.null]) [.aconst_null] (by decide +kernel) rfl ?_
      exact q_retR (r := none) rfl (Or.inl ⟨_, rfl⟩) (by decide) (by decide) (by decide +kernel) ⟨_, rfl, h⟩
theorem f_X3_addLast {G : q_G} {X : String → q_H → Prop} {f : Option Nat → q_H → Prop} {A : q_H} {a0 : Nat} {x1 : Int32} (h : q_sh A a0 = (4, 0) ∧ q_Wc G M_X3_isFull [.ref a0] A (q_KB fun b2 A1 => ((b2 = true → f none A1) ∧ (b2 = false → q_sh A1 a0 = (4, 0) ∧ ∃ r7 : Nat, q_R A1 a0 0 = some r7 ∧ ∃ z10 : Nat, q_sh A1 r7 = (65, z10) ∧ z10 < 2147483648 ∧ ∃ j12 : Nat, (((q_I A1 a0 1) + (q_I A1 a0 2)) - ((q_I A1 a0 1) + (q_I A1 a0 2)) / (nI 30) * (nI 30)) = nI j12 ∧ j12 < z10 ∧ ∃ r15 : Nat, q_R A1 r7 j12 = some r15 ∧ q_sh A1 r15 = (6, 0) ∧ ∃ r18 : Nat, q_R A1 r15 0 = some r18 ∧ q_sh A1 r18 = (3, 0) ∧ q_Wc G M_X2_clear [.ref r18] A1 (q_KV fun A20 => q_sh A20 r15 = (6, 0) ∧ q_sh A20 a0 = (4, 0) ∧ f (some r15) (q_setI (q_setI A20 r15 1 x1) a0 2 ((q_I (q_setI A20 r15 1 x1) a0 2) + (nI 1)))) q_nX))) q_nX) : q_Wc G M_X3_addLast [.ref a0, .int x1] A (q_KR f) X := by
  refine q_Wc.of [some (.ref a0), some (.int x1), none] mo_X3_addLast.2.2.2.2.2 rfl (Nat.le_of_ble_eq_true rfl) rfl ?_
  refine q_blk (pc' := 1) (lo' := [some (.ref a0), some (.int x1), none]) (st' := [.ref a0]) [.aload_n 0] (by decide +kernel) rfl ?_
  obtain ⟨s3, h⟩ := h
  refine q_callV (ci := 3) (Mc := M_X3_isFull) (z := 0) (b := a0) (As := []) (st := []) mo_X3_isFull mi_X3_isFull ml_X3_25_X3_isFull rfl rfl (by decide) rfl (by decide) (by decide) rfl (Nat.le_of_ble_eq_true rfl) (by decide +kernel) s3 h (q_fB fun b2 A1 h => ?_)
  show q_Wp _ _ _ _ 0 0 4 [some (.ref a0), some (.int x1), none] [.int (q_i b2)] A1
  refine q_ifB_eq 9 (off := 5) (by decide +kernel) (by decide) (fun c4 => ?_) (fun c4 => ?_)
  · have h := h.2 c4
    refine q_blk (pc' := 10) (lo' := [some (.ref a0), some (.int x1), none]) (st' := [.ref a0]) [.aload_n 0] (by decide +kernel) rfl ?_
    obtain ⟨s6, h⟩ := h
    obtain ⟨r7, e8, h⟩ := h
    refine q_getR fl_X3_11 rfl (by decide) (by decide +kernel) s6 e8 ?_
    refine q_blk (pc' := 14) (lo' := [some (.ref a0), some (.int x1), none]) (st' := [.ref a0, .ref r7]) [.aload_n 0] (by decide +kernel) rfl ?_
    refine q_getI fl_X3_22 rfl (by decide) (by decide +kernel) s6 ?_
    refine q_blk (pc' := 18) (lo' := [some (.ref a0), some (.int x1), none]) (st' := [.ref a0, .int (q_I A1 a0 1), .ref r7]) [.aload_n 0] (by decide +kernel) rfl ?_
    refine q_getI fl_X3_18 rfl (by decide) (by decide +kernel) s6 ?_
    refine q_blk (pc' := 24) (lo' := [some (.ref a0), some (.int x1), none]) (st' := [.int (nI 30), .int ((q_I A1 a0 1) + (q_I A1 a0 2)), .ref r7]) [.iadd, .bipush 30] (by decide +kernel) rfl ?_
    refine q_irem (by decide +kernel) (by decide) ?_
    obtain ⟨z10, s9, b11, h⟩ := h
    obtain ⟨j12, e13, h⟩ := h
    obtain ⟨l14, h⟩ := h
    obtain ⟨r15, e16, h⟩ := h
    refine q_aaldS (q_rk5 G) e13 (by decide +kernel) s9 l14 b11 e16 ?_
    refine q_blk (pc' := 28) (lo' := [some (.ref a0), some (.int x1), some (.ref r15)]) (st' := [.ref r15]) [.astore_n 2, .aload_n 2] (by decide +kernel) rfl ?_
    obtain ⟨s17, h⟩ := h
    obtain ⟨r18, e19, h⟩ := h
    refine q_getR fl_X3_29 rfl (by decide) (by decide +kernel) s17 e19 ?_
    obtain ⟨s22, h⟩ := h
    refine q_callV (ci := 2) (Mc := M_X2_clear) (z := 0) (b := r18) (As := []) (st := []) mo_X2_clear mi_X2_clear ml_X3_33_X2_clear rfl rfl (by decide) rfl (by decide) (by decide) rfl (Nat.le_of_ble_eq_true rfl) (by decide +kernel) s22 h (q_fV fun A20 h => ?_)
    show q_Wp _ _ _ _ 0 0 34 [some (.ref a0), some (.int x1), some (.ref r15)] [] A20
    refine q_blk (pc' := 36) (lo' := [some (.ref a0), some (.int x1), some (.ref r15)]) (st' := [.int x1, .ref r15]) [.aload_n 2, .iload_n 1] (by decide +kernel) rfl ?_
    obtain ⟨s23, h⟩ := h
    refine q_putI fw_X3_38 rfl (by decide) (by decide +kernel) s23 ?_
    refine q_blk (pc' := 41) (lo' := [some (.ref a0), some (.int x1), some (.ref r15)]) (st' := [.ref a0, .ref a0]) [.aload_n 0, .dup] (by decide +kernel) rfl ?_
    obtain ⟨s24, h⟩ := h
    refine q_getI fl_X3_18 rfl (by decide) (by decide +kernel) s24 ?_
    refine q_blk (pc' := 46) (lo' := [some (.ref a0), some (.int x1), some (.ref r15)]) (st' := [.int ((q_I (q_setI A20 r15 1 x1) a0 2) + (nI 1)), .ref a0]) [.iconst 1, .iadd] (by decide +kernel) rfl ?_
    refine q_putI fw_X3_18 rfl (by decide) (by decide +kernel) s24 ?_
    refine q_blk (pc' := 50) (lo' := [some (.ref a0), some (.int x1), some (.ref r15)]) (st' := [.ref r15]) [.aload_n 2] (by decide +kernel) rfl ?_
    exact q_retR (r := (some r15)) rfl (Or.inl ⟨_, rfl⟩) (by decide) (by decide) (by decide +kernel) ⟨_, rfl, h⟩
  · have h := h.1 c4
    refine q_blk (pc' := 8) (lo' := [some (.ref a0), some (.int x1), none]) (st' := [.null]) [.aconst_null] (by decide +kernel) rfl ?_
    exact q_retR (r := none) rfl (Or.inl ⟨_, rfl⟩) (by decide) (by decide) (by decide +kernel) ⟨_, rfl, h⟩
theorem f_X3_dropFirst {G : q_G} {X : String → q_H → Prop} {f : q_H → Prop} {A : q_H} {a0 : Nat} (h : q_sh A a0 = (4, 0) ∧ (((q_I A a0 2) ≤ nI 0 → f A) ∧ (¬ (q_I A a0 2) ≤ nI 0 → (∀ A3 : q_H, A3 = (q_setI (q_setI A a0 1 (((q_I A a0 1) + (nI 1)) - ((q_I A a0 1) + (nI 1)) / (nI 30) * (nI 30))) a0 2 ((q_I (q_setI A a0 1 (((q_I A a0 1) + (nI 1)) - ((q_I A a0 1) + (nI 1)) / (nI 30) * (nI 30))) a0 2) - (nI 1))) → f A3)))) : q_Wc G M_X3_dropFirst [.ref a0] A (q_KV f) X := by
  refine q_Wc.of [some (.ref a0)] mo_X3_dropFirst.2.2.2.2.2 rfl (Nat.le_of_ble_eq_true rfl) rfl ?_
  refine q_blk (pc' := 1) (lo' := [some (.ref a0)]) (st' := [.ref a0]) [.aload_n 0] (by decide +kernel) rfl ?_
  obtain ⟨s1, h⟩ := h
  refine q_getI fl_X3_18 rfl (by decide) (by decide +kernel) s1 ?_
  refine q_if_le 30 (off := 26) (by decide +kernel) (by decide) (fun c2 => ?_) (fun c2 => ?_)
  · have h := h.1 c2
    exact q_ret0 rfl (by decide) (by decide) (by decide +kernel) ⟨rfl, h⟩
  · have h := h.2 c2
    refine q_blk (pc' := 9) (lo' := [some (.ref a0)]) (st' := [.ref a0, .ref a0]) [.aload_n 0, .aload_n 0] (by decide +kernel) rfl ?_
    refine q_getI fl_X3_22 rfl (by decide) (by decide +kernel) s1 ?_
    refine q_blk (pc' := 16) (lo' := [some (.ref a0)]) (st' := [.int (nI 30), .int ((q_I A a0 1) + (nI 1)), .ref a0]) [.iconst 1, .iadd, .bipush 30] (by decide +kernel) rfl ?_
    refine q_irem (by decide +kernel) (by decide) ?_
    refine q_putI fw_X3_22 rfl (by decide) (by decide +kernel) s1 ?_
    refine q_blk (pc' := 22) (lo' := [some (.ref a0)]) (st' := [.ref a0, .ref a0]) [.aload_n 0, .dup] (by decide +kernel) rfl ?_
    refine q_getI fl_X3_18 rfl (by decide) (by decide +kernel) s1 ?_
    refine q_blk (pc' := 27) (lo' := [some (.ref a0)]) (st' := [.int ((q_I (q_setI A a0 1 (((q_I A a0 1) + (nI 1)) - ((q_I A a0 1) + (nI 1)) / (nI 30) * (nI 30))) a0 2) - (nI 1)), .ref a0]) [.iconst 1, .isub] (by decide +kernel) rfl ?_
    refine q_putI fw_X3_18 rfl (by decide) (by decide +kernel) s1 ?_
    let A3 : q_H := (q_setI (q_setI A a0 1 (((q_I A a0 1) + (nI 1)) - ((q_I A a0 1) + (nI 1)) / (nI 30) * (nI 30))) a0 2 ((q_I (q_setI A a0 1 (((q_I A a0 1) + (nI 1)) - ((q_I A a0 1) + (nI 1)) / (nI 30) * (nI 30))) a0 2) - (nI 1)))
    have h := h A3 rfl
    show q_Wp _ _ _ _ 0 0 30 [some (.ref a0)] [] A3
    exact q_ret0 rfl (by decide) (by decide) (by decide +kernel) ⟨rfl, h⟩
theorem f_X3_dropLast {G : q_G} {X : String → q_H → Prop} {f : q_H → Prop} {A : q_H} {a0 : Nat} (h : q_sh A a0 = (4, 0) ∧ (((q_I A a0 2) ≤ nI 0 → f A) ∧ (¬ (q_I A a0 2) ≤ nI 0 → f (q_setI A a0 2 ((q_I A a0 2) - (nI 1)))))) : q_Wc G M_X3_dropLast [.ref a0] A (q_KV f) X := by
  refine q_Wc.of [some (.ref a0)] mo_X3_dropLast.2.2.2.2.2 rfl (Nat.le_of_ble_eq_true rfl) rfl ?_
  refine q_blk (pc' := 1) (lo' := [some (.ref a0)]) (st' := [.ref a0]) [.aload_n 0] (by decide +kernel) rfl ?_
  obtain ⟨s1, h⟩ := h
  refine q_getI fl_X3_18 rfl (by decide) (by decide +kernel) s1 ?_
  refine q_if_le 17 (off := 13) (by decide +kernel) (by decide) (fun c2 => ?_) (fun c2 => ?_)
  · have h := h.1 c2
    exact q_ret0 rfl (by decide) (by decide) (by decide +kernel) ⟨rfl, h⟩
  · have h := h.2 c2
    refine q_blk (pc' := 9) (lo' := [some (.ref a0)]) (st' := [.ref a0, .ref a0]) [.aload_n 0, .dup] (by decide +kernel) rfl ?_
    refine q_getI fl_X3_18 rfl (by decide) (by decide +kernel) s1 ?_
    refine q_blk (pc' := 14) (lo' := [some (.ref a0)]) (st' := [.int ((q_I A a0 2) - (nI 1)), .ref a0]) [.iconst 1, .isub] (by decide +kernel) rfl ?_
    refine q_putI fw_X3_18 rfl (by decide) (by decide +kernel) s1 ?_
    exact q_ret0 rfl (by decide) (by decide) (by decide +kernel) ⟨rfl, h⟩
theorem f_X3_totalMass {G : q_G} {X : String → q_H → Prop} {f : Int32 → q_H → Prop} {A : q_H} {a0 : Nat} (h : q_Wp G M_X3_totalMass (q_KI f) X 0 0 4 [some (.ref a0), some (.int (nI 0)), some (.int (nI 0))] [] A) : q_Wc G M_X3_totalMass [.ref a0] A (q_KI f) X := by
  refine q_Wc.of [some (.ref a0), none, none] mo_X3_totalMass.2.2.2.2.2 rfl (Nat.le_of_ble_eq_true rfl) rfl ?_
  refine q_blk (pc' := 4) (lo' := [some (.ref a0), some (.int (nI 0)), some (.int (nI 0))]) (st' := []) [.iconst 0, .istore_n 1, .iconst 0, .istore_n 2] (by decide +kernel) rfl ?_
  exact h
theorem f_X3_totalMass_4 {G : q_G} {X : String → q_H → Prop} {f : Int32 → q_H → Prop} {A : q_H} {a0 : Nat} {x1 : Int32} {x2 : Int32} (h : q_sh A a0 = (4, 0) ∧ (((q_I A a0 2) ≤ x2 → f x1 A) ∧ (¬ (q_I A a0 2) ≤ x2 → ∃ r3 : Nat, q_R A a0 0 = some r3 ∧ ∃ z6 : Nat, q_sh A r3 = (65, z6) ∧ z6 < 2147483648 ∧ ∃ j8 : Nat, (((q_I A a0 1) + x2) - ((q_I A a0 1) + x2) / (nI 30) * (nI 30)) = nI j8 ∧ j8 < z6 ∧ ∃ r11 : Nat, q_R A r3 j8 = some r11 ∧ q_sh A r11 = (6, 0) ∧ ∃ r14 : Nat, q_R A r11 0 = some r14 ∧ q_sh A r14 = (3, 0) ∧ q_Wp G M_X3_totalMass (q_KI f) X 0 0 4 [some (.ref a0), some (.int (x1 + (q_I A r14 1))), some (.int (x2 + (nI 1)))] [] A))) : q_Wp G M_X3_totalMass (q_KI f) X 0 0 4 [some (.ref a0), some (.int x1), some (.int x2)] [] A := by
  refine q_blk (pc' := 6) (lo' := [some (.ref a0), some (.int x1), some (.int x2)]) (st' := [.ref a0, .int x2]) [.iload_n 2, .aload_n 0] (by decide +kernel) rfl ?_
  obtain ⟨s1, h⟩ := h
  refine q_getI fl_X3_18 rfl (by decide) (by decide +kernel) s1 ?_
  refine q_icmp_ge 41 (off := 32) (by decide +kernel) (by decide) (fun c2 => ?_) (fun c2 => ?_)
  · have h := h.1 c2
    refine q_blk (pc' := 42) (lo' := [some (.ref a0), some (.int x1), some (.int x2)]) (st' := [.int x1]) [.iload_n 1] (by decide +kernel) rfl ?_
    exact q_retI rfl (by decide) (by decide) (by decide +kernel) ⟨_, rfl, h⟩
  · have h := h.2 c2
    refine q_blk (pc' := 14) (lo' := [some (.ref a0), some (.int x1), some (.int x2)]) (st' := [.ref a0, .int x1]) [.iload_n 1, .aload_n 0] (by decide +kernel) rfl ?_
    obtain ⟨r3, e4, h⟩ := h
    refine q_getR fl_X3_11 rfl (by decide) (by decide +kernel) s1 e4 ?_
    refine q_blk (pc' := 18) (lo' := [some (.ref a0), some (.int x1), some (.int x2)]) (st' := [.ref a0, .ref r3, .int x1]) [.aload_n 0] (by decide +kernel) rfl ?_
    refine q_getI fl_X3_22 rfl (by decide) (by decide +kernel) s1 ?_
    refine q_blk (pc' := 25) (lo' := [some (.ref a0), some (.int x1), some (.int x2)]) (st' := [.int (nI 30), .int ((q_I A a0 1) + x2), .ref r3, .int x1]) [.iload_n 2, .iadd, .bipush 30] (by decide +kernel) rfl ?_
    refine q_irem (by decide +kernel) (by decide) ?_
    obtain ⟨z6, s5, b7, h⟩ := h
    obtain ⟨j8, e9, h⟩ := h
    obtain ⟨l10, h⟩ := h
    obtain ⟨r11, e12, h⟩ := h
    refine q_aaldS (q_rk5 G) e9 (by decide +kernel) s5 l10 b7 e12 ?_
    obtain ⟨s13, h⟩ := h
    obtain ⟨r14, e15, h⟩ := h
    refine q_getR fl_X3_29 rfl (by decide) (by decide +kernel) s13 e15 ?_
    obtain ⟨s16, h⟩ := h
    refine q_getI fl_X3_41 rfl (by decide) (by decide +kernel) s16 ?_
    refine q_blk (pc' := 38) (lo' := [some (.ref a0), some (.int (x1 + (q_I A r14 1))), some (.int (x2 + (nI 1)))]) (st' := []) [.iadd, .istore_n 1, .iinc 2 1] (by decide +kernel) rfl ?_
    refine q_goto 4 (off := -34) (by decide +kernel) (by decide) ?_
    exact h
theorem f_X3_copyFrom {G : q_G} {X : String → q_H → Prop} {f : q_H → Prop} {A : q_H} {a0 : Nat} {a1 : Nat} (h : q_sh A a0 = (4, 0) ∧ q_sh A a1 = (4, 0) ∧ q_Wp G M_X3_copyFrom (q_KV f) X 0 0 15 [some (.ref a0), some (.ref a1), some (.int (nI 0))] [] (q_setI (q_setI A a0 1 (nI 0)) a0 2 (q_I (q_setI A a0 1 (nI 0)) a1 2))) : q_Wc G M_X3_copyFrom [.ref a0, .ref a1] A (q_KV f) X := by
  refine q_Wc.of [some (.ref a0), some (.ref a1), none] mo_X3_copyFrom.2.2.2.2.2 rfl (Nat.le_of_ble_eq_true rfl) rfl ?_
  refine q_blk (pc' := 2) (lo' := [some (.ref a0), some (.ref a1), none]) (st' := [.int (nI 0), .ref a0]) [.aload_n 0, .iconst 0] (by decide +kernel) rfl ?_
  obtain ⟨s1, h⟩ := h
  refine q_putI fw_X3_22 rfl (by decide) (by decide +kernel) s1 ?_
  refine q_blk (pc' := 7) (lo' := [some (.ref a0), some (.ref a1), none]) (st' := [.ref a1, .ref a0]) [.aload_n 0, .aload_n 1] (by decide +kernel) rfl ?_
  obtain ⟨s2, h⟩ := h
  refine q_getI fl_X3_18 rfl (by decide) (by decide +kernel) s2 ?_
  refine q_putI fw_X3_18 rfl (by decide) (by decide +kernel) s1 ?_
  refine q_blk (pc' := 15) (lo' := [some (.ref a0), some (.ref a1), some (.int (nI 0))]) (st' := []) [.iconst 0, .istore_n 2] (by decide +kernel) rfl ?_
  exact h
theorem f_X3_copyFrom_15 {G : q_G} {X : String → q_H → Prop} {f : q_H → Prop} {A : q_H} {a0 : Nat} {a1 : Nat} {x2 : Int32} (h : q_sh A a0 = (4, 0) ∧ (((q_I A a0 2) ≤ x2 → f A) ∧ (¬ (q_I A a0 2) ≤ x2 → ∃ r3 : Nat, q_R A a0 0 = some r3 ∧ ∃ z6 : Nat, q_sh A r3 = (65, z6) ∧ z6 < 2147483648 ∧ ∃ j8 : Nat, x2 = nI j8 ∧ j8 < z6 ∧ ∃ r11 : Nat, q_R A r3 j8 = some r11 ∧ q_sh A a1 = (4, 0) ∧ ∃ r14 : Nat, q_R A a1 0 = some r14 ∧ ∃ z17 : Nat, q_sh A r14 = (65, z17) ∧ z17 < 2147483648 ∧ ∃ j19 : Nat, (((q_I A a1 1) + x2) - ((q_I A a1 1) + x2) / (nI 30) * (nI 30)) = nI j19 ∧ j19 < z17 ∧ ∃ r22 : Nat, q_R A r14 j19 = some r22 ∧ q_sh A r11 = (6, 0) ∧ q_Wc G M_X5_copyFrom [.ref r11, .ref r22] A (q_KV fun A24 => q_Wp G M_X3_copyFrom (q_KV f) X 0 0 15 [some (.ref a0), some (.ref a1), some (.int (x2 + (nI 1)))] [] A24) q_nX))) : q_Wp G M_X3_copyFrom (q_KV f) X 0 0 15 [some (.ref a0), some (.ref a1), some (.int x2)] [] A := by
  refine q_blk (pc' := 17) (lo' := [some (.ref a0), some (.ref a1), some (.int x2)]) (st' := [.ref a0, .int x2]) [.iload_n 2, .aload_n 0] (by decide +kernel) rfl ?_
  obtain ⟨s1, h⟩ := h
  refine q_getI fl_X3_18 rfl (by decide) (by decide +kernel) s1 ?_
  refine q_icmp_ge 52 (off := 32) (by decide +kernel) (by decide) (fun c2 => ?_) (fun c2 => ?_)
  · have h := h.1 c2
    exact q_ret0 rfl (by decide) (by decide) (by decide +kernel) ⟨rfl, h⟩
  · have h := h.2 c2
    refine q_blk (pc' := 24) (lo' := [some (.ref a0), some (.ref a1), some (.int x2)]) (st' := [.ref a0]) [.aload_n 0] (by decide +kernel) rfl ?_
    obtain ⟨r3, e4, h⟩ := h
    refine q_getR fl_X3_11 rfl (by decide) (by decide +kernel) s1 e4 ?_
    refine q_blk (pc' := 28) (lo' := [some (.ref a0), some (.ref a1), some (.int x2)]) (st' := [.int x2, .ref r3]) [.iload_n 2] (by decide +kernel) rfl ?_
    obtain ⟨z6, s5, b7, h⟩ := h
    obtain ⟨j8, e9, h⟩ := h
    obtain ⟨l10, h⟩ := h
    obtain ⟨r11, e12, h⟩ := h
    refine q_aaldS (q_rk5 G) e9 (by decide +kernel) s5 l10 b7 e12 ?_
    refine q_blk (pc' := 30) (lo' := [some (.ref a0), some (.ref a1), some (.int x2)]) (st' := [.ref a1, .ref r11]) [.aload_n 1] (by decide +kernel) rfl ?_
    obtain ⟨s13, h⟩ := h
    obtain ⟨r14, e15, h⟩ := h
    refine q_getR fl_X3_11 rfl (by decide) (by decide +kernel) s13 e15 ?_
    refine q_blk (pc' := 34) (lo' := [some (.ref a0), some (.ref a1), some (.int x2)]) (st' := [.ref a1, .ref r14, .ref r11]) [.aload_n 1] (by decide +kernel) rfl ?_
    refine q_getI fl_X3_22 rfl (by decide) (by decide +kernel) s13 ?_
    refine q_blk (pc' := 41) (lo' := [some (.ref a0), some (.ref a1), some (.int x2)]) (st' := [.int (nI 30), .int ((q_I A a1 1) + x2), .ref r14, .ref r11]) [.iload_n 2, .iadd, .bipush 30] (by decide +kernel) rfl ?_
    refine q_irem (by decide +kernel) (by decide) ?_
    obtain ⟨z17, s16, b18, h⟩ := h
    obtain ⟨j19, e20, h⟩ := h
    obtain ⟨l21, h⟩ := h
    obtain ⟨r22, e23, h⟩ := h
    refine q_aaldS (q_rk5 G) e20 (by decide +kernel) s16 l21 b18 e23 ?_
    obtain ⟨s26, h⟩ := h
    refine q_callV (ci := 5) (Mc := M_X5_copyFrom) (z := 1) (b := r11) (As := [.ref r22]) (st := []) mo_X5_copyFrom mi_X5_copyFrom ml_X3_44_X5_copyFrom rfl rfl (by decide) rfl (by decide) (by decide) rfl (Nat.le_of_ble_eq_true rfl) (by decide +kernel) s26 h (q_fV fun A24 h => ?_)
    show q_Wp _ _ _ _ 0 0 46 [some (.ref a0), some (.ref a1), some (.int x2)] [] A24
    refine q_blk (pc' := 49) (lo' := [some (.ref a0), some (.ref a1), some (.int (x2 + (nI 1)))]) (st' := []) [.iinc 2 1] (by decide +kernel) rfl ?_
    refine q_goto 15 (off := -34) (by decide +kernel) (by decide) ?_
    exact h
theorem f_X6_init {G : q_G} {X : String → q_H → Prop} {f : q_H → Prop} {A : q_H} {a0 : Nat} (h : q_Wc G M_X5_init [.ref (q_sz A)] (q_new A 6 0) (q_KV fun A2 => q_sh A2 a0 = (7, 0) ∧ q_Wc G M_X2_init [.ref (q_sz (q_setR A2 a0 7 (some (q_sz A))))] (q_new (q_setR A2 a0 7 (some (q_sz A))) 3 0) (q_KV fun A6 => q_sh A6 a0 = (7, 0) ∧ f (q_setR A6 a0 8 (some (q_sz (q_setR A2 a0 7 (some (q_sz A))))))) q_nX) q_nX) : q_Wc G M_X6_init [.ref a0] A (q_KV f) X := by
  refine q_Wc.of [some (.ref a0)] mo_X6_init.2.2.2.2.2 rfl (Nat.le_of_ble_eq_true rfl) rfl ?_
  refine q_blk (pc' := 1) (lo' := [some (.ref a0)]) (st' := [.ref a0]) [.aload_n 0] (by decide +kernel) rfl ?_
  refine q_obj ob_X6_3.1 ob_X6_3.2.1 ob_X6_3.2.2 (by decide) (Nat.le_of_ble_eq_true rfl) (by decide +kernel) ?_
  refine q_blk (pc' := 5) (lo' := [some (.ref a0)]) (st' := [.ref a0]) [.aload_n 0] (by decide +kernel) rfl ?_
  refine q_newO (idx := 9) ck5 (by decide) kl_X6_9 nw_5.1 nw_5.2 (by decide) (by decide) (by decide +kernel) ?_
  have s1 : q_sh (q_new A 6 0) (q_sz A) = (6, 0) := q_shn _ _ _
  refine q_blk (pc' := 9) (lo' := [some (.ref a0)]) (st' := [.ref (q_sz A), .ref (q_sz A), .ref a0]) [.dup] (by decide +kernel) rfl ?_
  refine q_callI (Mc := M_X5_init) (z := 0) (b := (q_sz A)) (As := []) (st := [.ref (q_sz A), .ref a0]) mo_X5_init mi0_X5_init mI_X6_11_X5_init rfl rfl rfl rfl (by decide) (by decide) rfl (Nat.le_of_ble_eq_true rfl) (by decide +kernel) h (q_fV fun A2 h => ?_)
  show q_Wp _ _ _ _ 3 10 12 [some (.ref a0)] [.ref (q_sz A), .ref a0] A2
  obtain ⟨s4, h⟩ := h
  refine q_putR (v := (some (q_sz A))) fw_X6_12 rfl (by decide) (by decide +kernel) s4 ?_
  refine q_blk (pc' := 16) (lo' := [some (.ref a0)]) (st' := [.ref a0]) [.aload_n 0] (by decide +kernel) rfl ?_
  refine q_newO (idx := 18) ck2 (by decide) kl_X6_18 nw_2.1 nw_2.2 (by decide) (by decide) (by decide +kernel) ?_
  have s5 : q_sh (q_new (q_setR A2 a0 7 (some (q_sz A))) 3 0) (q_sz (q_setR A2 a0 7 (some (q_sz A)))) = (3, 0) := q_shn _ _ _
  refine q_blk (pc' := 20) (lo' := [some (.ref a0)]) (st' := [.ref (q_sz (q_setR A2 a0 7 (some (q_sz A)))), .ref (q_sz (q_setR A2 a0 7 (some (q_sz A)))), .ref a0]) [.dup] (by decide +kernel) rfl ?_
  refine q_callI (Mc := M_X2_init) (z := 0) (b := (q_sz (q_setR A2 a0 7 (some (q_sz A))))) (As := []) (st := [.ref (q_sz (q_setR A2 a0 7 (some (q_sz A)))), .ref a0]) mo_X2_init mi0_X2_init mI_X6_20_X2_init rfl rfl rfl rfl (by decide) (by decide) rfl (Nat.le_of_ble_eq_true rfl) (by decide +kernel) h (q_fV fun A6 h => ?_)
  show q_Wp _ _ _ _ 5 18 23 [some (.ref a0)] [.ref (q_sz (q_setR A2 a0 7 (some (q_sz A)))), .ref a0] A6
  obtain ⟨s8, h⟩ := h
  refine q_putP (v := (some (q_sz (q_setR A2 a0 7 (some (q_sz A)))))) fp_X6_21 rfl rfl (by decide) (by decide +kernel) s8 ?_
  exact q_ret0 rfl (by decide) (by decide) (by decide +kernel) ⟨rfl, h⟩
theorem f_X6_capacity {G : q_G} {X : String → q_H → Prop} {f : Int32 → q_H → Prop} {A : q_H} {a0 : Nat} (h : q_sh A a0 = (7, 0) ∧ f ((((q_I A a0 1) * (q_I A a0 2)) * ((nI 100) - (q_I A a0 4))) / (nI 100)) A) : q_Wc G M_X6_capacity [.ref a0] A (q_KI f) X := by
  refine q_Wc.of [some (.ref a0)] mo_X6_capacity.2.2.2.2.2 rfl (Nat.le_of_ble_eq_true rfl) rfl ?_
  refine q_blk (pc' := 1) (lo' := [some (.ref a0)]) (st' := [.ref a0]) [.aload_n 0] (by decide +kernel) rfl ?_
  obtain ⟨s1, h⟩ := h
  refine q_getI fl_X6_25 rfl (by decide) (by decide +kernel) s1 ?_
  refine q_blk (pc' := 5) (lo' := [some (.ref a0)]) (st' := [.ref a0, .int (q_I A a0 1)]) [.aload_n 0] (by decide +kernel) rfl ?_
  refine q_getI fl_X6_29 rfl (by decide) (by decide +kernel) s1 ?_
  refine q_blk (pc' := 12) (lo' := [some (.ref a0)]) (st' := [.ref a0, .int (nI 100), .int ((q_I A a0 1) * (q_I A a0 2))]) [.imul, .bipush 100, .aload_n 0] (by decide +kernel) rfl ?_
  refine q_getI fl_X6_32 rfl (by decide) (by decide +kernel) s1 ?_
  refine q_blk (pc' := 19) (lo' := [some (.ref a0)]) (st' := [.int (nI 100), .int (((q_I A a0 1) * (q_I A a0 2)) * ((nI 100) - (q_I A a0 4)))]) [.isub, .imul, .bipush 100] (by decide +kernel) rfl ?_
  refine q_idiv (by decide +kernel) (by decide) ?_
  exact q_retI rfl (by decide) (by decide) (by decide +kernel) ⟨_, rfl, h⟩
theorem f_X6_isSlotEmpty {G : q_G} {X : String → q_H → Prop} {f : Bool → q_H → Prop} {A : q_H} {a0 : Nat} (h : q_sh A a0 = (7, 0) ∧ ∃ r2 : Nat, q_R A a0 7 = some r2 ∧ q_sh A r2 = (6, 0) ∧ ∃ r5 : Nat, q_R A r2 0 = some r5 ∧ q_sh A r5 = (3, 0) ∧ (((q_I A r5 1) = nI 0 → f true A) ∧ (¬ (q_I A r5 1) = nI 0 → f false A))) : q_Wc G M_X6_isSlotEmpty [.ref a0] A (q_KB f) X := by
  refine q_Wc.of [some (.ref a0)] mo_X6_isSlotEmpty.2.2.2.2.2 rfl (Nat.le_of_ble_eq_true rfl) rfl ?_
  refine q_blk (pc' := 1) (lo' := [some (.ref a0)]) (st' := [.ref a0]) [.aload_n 0] (by decide +kernel) rfl ?_
  obtain ⟨s1, h⟩ := h
  obtain ⟨r2, e3, h⟩ := h
  refine q_getR fl_X6_12 rfl (by decide) (by decide +kernel) s1 e3 ?_
  obtain ⟨s4, h⟩ := h
  obtain ⟨r5, e6, h⟩ := h
  refine q_getR fl_X6_35 rfl (by decide) (by decide +kernel) s4 e6 ?_
  obtain ⟨s7, h⟩ := h
  refine q_getI fl_X6_38 rfl (by decide) (by decide +kernel) s7 ?_
  refine q_if_ne 17 (off := 7) (by decide +kernel) (by decide) (fun c8 => ?_) (fun c8 => ?_)
  · have h := h.2 c8
    refine q_blk (pc' := 18) (lo' := [some (.ref a0)]) (st' := [.int (nI 0)]) [.iconst 0] (by decide +kernel) rfl ?_
    exact q_retZ (r := q_i false) rfl (q_nz _) (by decide) (by decide) (by decide +kernel) ⟨false, rfl, h⟩
  · have h := h.1 c8
    refine q_blk (pc' := 14) (lo' := [some (.ref a0)]) (st' := [.int (nI 1)]) [.iconst 1] (by decide +kernel) rfl ?_
    refine q_goto 18 (off := 4) (by decide +kernel) (by decide) ?_
    exact q_retZ (r := q_i true) rfl (q_nz _) (by decide) (by decide) (by decide +kernel) ⟨true, rfl, h⟩
theorem f_X6_relieve {G : q_G} {X : String → q_H → Prop} {f : q_H → Prop} {A : q_H} {a0 : Nat} {x1 : Int32} (h : q_sh A a0 = (7, 0) ∧ f (q_setI (q_setI A a0 1 x1) a0 4 (nI 0))) : q_Wc G M_X6_relieve [.ref a0, .int x1] A (q_KV f) X := by
  refine q_Wc.of [some (.ref a0), some (.int x1)] mo_X6_relieve.2.2.2.2.2 rfl (Nat.le_of_ble_eq_true rfl) rfl ?_
  refine q_blk (pc' := 2) (lo' := [some (.ref a0), some (.int x1)]) (st' := [.int x1, .ref a0]) [.aload_n 0, .iload_n 1] (by decide +kernel) rfl ?_
  obtain ⟨s1, h⟩ := h
  refine q_putI fw_X6_25 rfl (by decide) (by decide +kernel) s1 ?_
  refine q_blk (pc' := 7) (lo' := [some (.ref a0), some (.int x1)]) (st' := [.int (nI 0), .ref a0]) [.aload_n 0, .iconst 0] (by decide +kernel) rfl ?_
  refine q_putI fw_X6_32 rfl (by decide) (by decide +kernel) s1 ?_
  exact q_ret0 rfl (by decide) (by decide) (by decide +kernel) ⟨rfl, h⟩
theorem f_X6_pick {G : q_G} {X : String → q_H → Prop} {f : q_H → Prop} {A : q_H} {a0 : Nat} {x1 : Int32} (h : q_sh A a0 = (7, 0) ∧ ∃ r2 : Nat, q_R A a0 7 = some r2 ∧ q_sh A r2 = (6, 0) ∧ ∃ r5 : Nat, q_R A r2 0 = some r5 ∧ q_sh A r5 = (3, 0) ∧ q_Wc G M_X2_of [.ref r5, .int (q_I A a0 0)] A (q_KI fun r8 A7 => q_sh A7 a0 = (7, 0) ∧ q_Wc G M_X6_capacity [.ref a0] A7 (q_KI fun r11 A10 => (((nI 1) ≤ (if r11 < r8 then r11 else r8) → q_sh A10 a0 = (7, 0) ∧ ∃ r15 : Nat, q_R A10 a0 8 = some r15 ∧ q_sh A10 r5 = (3, 0) ∧ q_Wc G M_X2_move [.ref r5, .int (q_I A10 a0 0), .int (if r11 < r8 then r11 else r8), .ref r15] A10 (q_KV fun A17 => q_sh A17 a0 = (7, 0) ∧ q_sh A17 r5 = (3, 0) ∧ q_Wc G M_X2_mostBut [.ref r5, .int (q_I A17 a0 0)] A17 (q_KI fun r22 A21 => q_sh A21 r5 = (3, 0) ∧ q_Wc G M_X2_of [.ref r5, .int r22] A21 (q_KI fun r25 A24 => q_sh A24 a0 = (7, 0) ∧ ∃ r28 : Nat, q_R A24 a0 8 = some r28 ∧ q_sh A24 r5 = (3, 0) ∧ q_Wc G M_X2_move [.ref r5, .int r22, .int (if (((if r11 < r8 then r11 else r8) * (q_I A24 a0 3)) / (nI 100)) < r25 then (((if r11 < r8 then r11 else r8) * (q_I A24 a0 3)) / (nI 100)) else r25), .ref r28] A24 (q_KV fun A30 => q_sh A30 a0 = (7, 0) ∧ (∀ A34 : q_H, A34 = (q_setI A30 a0 6 ((q_I A30 a0 6) + ((if r11 < r8 then r11 else r8) + (if (((if r11 < r8 then r11 else r8) * (q_I A24 a0 3)) / (nI 100)) < r25 then (((if r11 < r8 then r11 else r8) * (q_I A24 a0 3)) / (nI 100)) else r25)))) → f (q_setI A34 a0 4 (if (nI 60) < ((q_I A34 a0 4) + x1) then (nI 60) else ((q_I A34 a0 4) + x1))))) q_nX) q_nX) q_nX) q_nX) ∧ (¬ (nI 1) ≤ (if r11 < r8 then r11 else r8) → q_sh A10 a0 = (7, 0) ∧ f (q_setI A10 a0 4 (if ((q_I A10 a0 4) - (nI 2)) < (nI 0) then (nI 0) else ((q_I A10 a0 4) - (nI 2))))))) q_nX) q_nX) : q_Wc G M_X6_pick [.ref a0, .int x1] A (q_KV f) X := by
  refine q_Wc.of [some (.ref a0), some (.int x1), none, none, none, none] mo_X6_pick.2.2.2.2.2 rfl (Nat.le_of_ble_eq_true rfl) rfl ?_
  refine q_blk (pc' := 1) (lo' := [some (.ref a0), some (.int x1), none, none, none, none]) (st' := [.ref a0]) [.aload_n 0] (by decide +kernel) rfl ?_
  obtain ⟨s1, h⟩ := h
  obtain ⟨r2, e3, h⟩ := h
  refine q_getR fl_X6_12 rfl (by decide) (by decide +kernel) s1 e3 ?_
  obtain ⟨s4, h⟩ := h
  obtain ⟨r5, e6, h⟩ := h
  refine q_getR fl_X6_35 rfl (by decide) (by decide +kernel) s4 e6 ?_
  refine q_blk (pc' := 10) (lo' := [some (.ref a0), some (.int x1), some (.ref r5), none, none, none]) (st' := [.ref a0, .ref r5]) [.astore_n 2, .aload_n 2, .aload_n 0] (by decide +kernel) rfl ?_
  refine q_getI fl_X6_41 rfl (by decide) (by decide +kernel) s1 ?_
  obtain ⟨s9, h⟩ := h
  refine q_callV (ci := 2) (Mc := M_X2_of) (z := 1) (b := r5) (As := [.int (q_I A a0 0)]) (st := []) mo_X2_of mi_X2_of ml_X6_44_X2_of rfl rfl (by decide) rfl (by decide) (by decide) rfl (Nat.le_of_ble_eq_true rfl) (by decide +kernel) s9 h (q_fI fun r8 A7 h => ?_)
  show q_Wp _ _ _ _ 0 0 16 [some (.ref a0), some (.int x1), some (.ref r5), none, none, none] [.int r8] A7
  refine q_blk (pc' := 17) (lo' := [some (.ref a0), some (.int x1), some (.ref r5), none, none, none]) (st' := [.ref a0, .int r8]) [.aload_n 0] (by decide +kernel) rfl ?_
  obtain ⟨s12, h⟩ := h
  refine q_callV (ci := 6) (Mc := M_X6_capacity) (z := 0) (b := a0) (As := []) (st := [.int r8]) mo_X6_capacity mi_X6_capacity ml_X6_48_X6_capacity rfl rfl (by decide) rfl (by decide) (by decide) rfl (Nat.le_of_ble_eq_true rfl) (by decide +kernel) s12 h (q_fI fun r11 A10 h => ?_)
  show q_Wp _ _ _ _ 0 0 20 [some (.ref a0), some (.int x1), some (.ref r5), none, none, none] [.int r11, .int r8] A10
  refine q_mmin mm_X6_52_i.1 mm_X6_52_i.2.1 mm_X6_52_i.2.2.1 mm_X6_52_i.2.2.2 (by decide) (Nat.le_of_ble_eq_true rfl) (by decide) (by decide) (by decide +kernel) ?_
  refine q_blk (pc' := 26) (lo' := [some (.ref a0), some (.int x1), some (.ref r5), some (.int (if r11 < r8 then r11 else r8)), none, none]) (st' := [.int (nI 1), .int (if r11 < r8 then r11 else r8)]) [.istore_n 3, .iload_n 3, .iconst 1] (by decide +kernel) rfl ?_
  refine q_icmp_ge 44 (off := 18) (by decide +kernel) (by decide) (fun c13 => ?_) (fun c13 => ?_)
  · have h := h.1 c13
    refine q_blk (pc' := 46) (lo' := [some (.ref a0), some (.int x1), some (.ref r5), some (.int (if r11 < r8 then r11 else r8)), none, none]) (st' := [.ref a0, .ref r5]) [.aload_n 2, .aload_n 0] (by decide +kernel) rfl ?_
    obtain ⟨s14, h⟩ := h
    refine q_getI fl_X6_41 rfl (by decide) (by decide +kernel) s14 ?_
    refine q_blk (pc' := 51) (lo' := [some (.ref a0), some (.int x1), some (.ref r5), some (.int (if r11 < r8 then r11 else r8)), none, none]) (st' := [.ref a0, .int (if r11 < r8 then r11 else r8), .int (q_I A10 a0 0), .ref r5]) [.iload_n 3, .aload_n 0] (by decide +kernel) rfl ?_
    obtain ⟨r15, e16, h⟩ := h
    refine q_getR fl_X6_21 rfl (by decide) (by decide +kernel) s14 e16 ?_
    obtain ⟨s19, h⟩ := h
    refine q_callV (ci := 2) (Mc := M_X2_move) (z := 3) (b := r5) (As := [.int (q_I A10 a0 0), .int (if r11 < r8 then r11 else r8), .ref r15]) (st := []) mo_X2_move mi_X2_move ml_X6_61_X2_move rfl rfl (by decide) rfl (by decide) (by decide) rfl (Nat.le_of_ble_eq_true rfl) (by decide +kernel) s19 h (q_fV fun A17 h => ?_)
    show q_Wp _ _ _ _ 0 0 57 [some (.ref a0), some (.int x1), some (.ref r5), some (.int (if r11 < r8 then r11 else r8)), none, none] [] A17
    refine q_blk (pc' := 59) (lo' := [some (.ref a0), some (.int x1), some (.ref r5), some (.int (if r11 < r8 then r11 else r8)), none, none]) (st' := [.ref a0, .ref r5]) [.aload_n 2, .aload_n 0] (by decide +kernel) rfl ?_
    obtain ⟨s20, h⟩ := h
    refine q_getI fl_X6_41 rfl (by decide) (by decide +kernel) s20 ?_
    obtain ⟨s23, h⟩ := h
    refine q_callV (ci := 2) (Mc := M_X2_mostBut) (z := 1) (b := r5) (As := [.int (q_I A17 a0 0)]) (st := []) mo_X2_mostBut mi_X2_mostBut ml_X6_65_X2_mostBut rfl rfl (by decide) rfl (by decide) (by decide) rfl (Nat.le_of_ble_eq_true rfl) (by decide +kernel) s23 h (q_fI fun r22 A21 h => ?_)
    show q_Wp _ _ _ _ 0 0 65 [some (.ref a0), some (.int x1), some (.ref r5), some (.int (if r11 < r8 then r11 else r8)), none, none] [.int r22] A21
    refine q_blk (pc' := 70) (lo' := [some (.ref a0), some (.int x1), some (.ref r5), some (.int (if r11 < r8 then r11 else r8)), some (.int r22), none]) (st' := [.int r22, .ref r5]) [.istore 4, .aload_n 2, .iload 4] (by decide +kernel) rfl ?_
    obtain ⟨s26, h⟩ := h
    refine q_callV (ci := 2) (Mc := M_X2_of) (z := 1) (b := r5) (As := [.int r22]) (st := []) mo_X2_of mi_X2_of ml_X6_44_X2_of rfl rfl (by decide) rfl (by decide) (by decide) rfl (Nat.le_of_ble_eq_true rfl) (by decide +kernel) s26 h (q_fI fun r25 A24 h => ?_)
    show q_Wp _ _ _ _ 0 0 73 [some (.ref a0), some (.int x1), some (.ref r5), some (.int (if r11 < r8 then r11 else r8)), some (.int r22), none] [.int r25] A24
    refine q_blk (pc' := 75) (lo' := [some (.ref a0), some (.int x1), some (.ref r5), some (.int (if r11 < r8 then r11 else r8)), some (.int r22), none]) (st' := [.ref a0, .int (if r11 < r8 then r11 else r8), .int r25]) [.iload_n 3, .aload_n 0] (by decide +kernel) rfl ?_
    obtain ⟨s27, h⟩ := h
    refine q_getI fl_X6_68 rfl (by decide) (by decide +kernel) s27 ?_
    refine q_blk (pc' := 81) (lo' := [some (.ref a0), some (.int x1), some (.ref r5), some (.int (if r11 < r8 then r11 else r8)), some (.int r22), none]) (st' := [.int (nI 100), .int ((if r11 < r8 then r11 else r8) * (q_I A24 a0 3)), .int r25]) [.imul, .bipush 100] (by decide +kernel) rfl ?_
    refine q_idiv (by decide +kernel) (by decide) ?_
    refine q_mmin mm_X6_52_i.1 mm_X6_52_i.2.1 mm_X6_52_i.2.2.1 mm_X6_52_i.2.2.2 (by decide) (Nat.le_of_ble_eq_true rfl) (by decide) (by decide) (by decide +kernel) ?_
    refine q_blk (pc' := 93) (lo' := [some (.ref a0), some (.int x1), some (.ref r5), some (.int (if r11 < r8 then r11 else r8)), some (.int r22), some (.int (if (((if r11 < r8 then r11 else r8) * (q_I A24 a0 3)) / (nI 100)) < r25 then (((if r11 < r8 then r11 else r8) * (q_I A24 a0 3)) / (nI 100)) else r25))]) (st' := [.ref a0, .int (if (((if r11 < r8 then r11 else r8) * (q_I A24 a0 3)) / (nI 100)) < r25 then (((if r11 < r8 then r11 else r8) * (q_I A24 a0 3)) / (nI 100)) else r25), .int r22, .ref r5]) [.istore 5, .aload_n 2, .iload 4, .iload 5, .aload_n 0] (by decide +kernel) rfl ?_
    obtain ⟨r28, e29, h⟩ := h
    refine q_getR fl_X6_21 rfl (by decide) (by decide +kernel) s27 e29 ?_
    obtain ⟨s32, h⟩ := h
    refine q_callV (ci := 2) (Mc := M_X2_move) (z := 3) (b := r5) (As := [.int r22, .int (if (((if r11 < r8 then r11 else r8) * (q_I A24 a0 3)) / (nI 100)) < r25 then (((if r11 < r8 then r11 else r8) * (q_I A24 a0 3)) / (nI 100)) else r25), .ref r28]) (st := []) mo_X2_move mi_X2_move ml_X6_61_X2_move rfl rfl (by decide) rfl (by decide) (by decide) rfl (Nat.le_of_ble_eq_true rfl) (by decide +kernel) s32 h (q_fV fun A30 h => ?_)
    show q_Wp _ _ _ _ 0 0 99 [some (.ref a0), some (.int x1), some (.ref r5), some (.int (if r11 < r8 then r11 else r8)), some (.int r22), some (.int (if (((if r11 < r8 then r11 else r8) * (q_I A24 a0 3)) / (nI 100)) < r25 then (((if r11 < r8 then r11 else r8) * (q_I A24 a0 3)) / (nI 100)) else r25))] [] A30
    refine q_blk (pc' := 101) (lo' := [some (.ref a0), some (.int x1), some (.ref r5), some (.int (if r11 < r8 then r11 else r8)), some (.int r22), some (.int (if (((if r11 < r8 then r11 else r8) * (q_I A24 a0 3)) / (nI 100)) < r25 then (((if r11 < r8 then r11 else r8) * (q_I A24 a0 3)) / (nI 100)) else r25))]) (st' := [.ref a0, .ref a0]) [.aload_n 0, .dup] (by decide +kernel) rfl ?_
    obtain ⟨s33, h⟩ := h
    refine q_getI fl_X6_71 rfl (by decide) (by decide +kernel) s33 ?_
    refine q_blk (pc' := 109) (lo' := [some (.ref a0), some (.int x1), some (.ref r5), some (.int (if r11 < r8 then r11 else r8)), some (.int r22), some (.int (if (((if r11 < r8 then r11 else r8) * (q_I A24 a0 3)) / (nI 100)) < r25 then (((if r11 < r8 then r11 else r8) * (q_I A24 a0 3)) / (nI 100)) else r25))]) (st' := [.int ((q_I A30 a0 6) + ((if r11 < r8 then r11 else r8) + (if (((if r11 < r8 then r11 else r8) * (q_I A24 a0 3)) / (nI 100)) < r25 then (((if r11 < r8 then r11 else r8) * (q_I A24 a0 3)) / (nI 100)) else r25))), .ref a0]) [.iload_n 3, .iload 5, .iadd, .iadd] (by decide +kernel) rfl ?_
    refine q_putI fw_X6_71 rfl (by decide) (by decide +kernel) s33 ?_
    let A34 : q_H := (q_setI A30 a0 6 ((q_I A30 a0 6) + ((if r11 < r8 then r11 else r8) + (if (((if r11 < r8 then r11 else r8) * (q_I A24 a0 3)) / (nI 100)) < r25 then (((if r11 < r8 then r11 else r8) * (q_I A24 a0 3)) / (nI 100)) else r25))))
    have h := h A34 rfl
    show q_Wp _ _ _ _ 0 0 112 [some (.ref a0), some (.int x1), some (.ref r5), some (.int (if r11 < r8 then r11 else r8)), some (.int r22), some (.int (if (((if r11 < r8 then r11 else r8) * (q_I A24 a0 3)) / (nI 100)) < r25 then (((if r11 < r8 then r11 else r8) * (q_I A24 a0 3)) / (nI 100)) else r25))] [] A34
    refine q_blk (pc' := 114) (lo' := [some (.ref a0), some (.int x1), some (.ref r5), some (.int (if r11 < r8 then r11 else r8)), some (.int r22), some (.int (if (((if r11 < r8 then r11 else r8) * (q_I A24 a0 3)) / (nI 100)) < r25 then (((if r11 < r8 then r11 else r8) * (q_I A24 a0 3)) / (nI 100)) else r25))]) (st' := [.ref a0, .ref a0]) [.aload_n 0, .aload_n 0] (by decide +kernel) rfl ?_
    refine q_getI fl_X6_32 rfl (by decide) (by decide +kernel) s33 ?_
    refine q_blk (pc' := 121) (lo' := [some (.ref a0), some (.int x1), some (.ref r5), some (.int (if r11 < r8 then r11 else r8)), some (.int r22), some (.int (if (((if r11 < r8 then r11 else r8) * (q_I A24 a0 3)) / (nI 100)) < r25 then (((if r11 < r8 then r11 else r8) * (q_I A24 a0 3)) / (nI 100)) else r25))]) (st' := [.int (nI 60), .int ((q_I A34 a0 4) + x1), .ref a0]) [.iload_n 1, .iadd, .bipush 60] (by decide +kernel) rfl ?_
    refine q_mmin mm_X6_52_i.1 mm_X6_52_i.2.1 mm_X6_52_i.2.2.1 mm_X6_52_i.2.2.2 (by decide) (Nat.le_of_ble_eq_true rfl) (by decide) (by decide) (by decide +kernel) ?_
    refine q_putI fw_X6_32 rfl (by decide) (by decide +kernel) s33 ?_
    exact q_ret0 rfl (by decide) (by decide) (by decide +kernel) ⟨rfl, h⟩
  · have h := h.2 c13
    refine q_blk (pc' := 31) (lo' := [some (.ref a0), some (.int x1), some (.ref r5), some (.int (if r11 < r8 then r11 else r8)), none, none]) (st' := [.ref a0, .ref a0]) [.aload_n 0, .aload_n 0] (by decide +kernel) rfl ?_
    obtain ⟨s35, h⟩ := h
    refine q_getI fl_X6_32 rfl (by decide) (by decide +kernel) s35 ?_
    refine q_blk (pc' := 37) (lo' := [some (.ref a0), some (.int x1), some (.ref r5), some (.int (if r11 < r8 then r11 else r8)), none, none]) (st' := [.int (nI 0), .int ((q_I A10 a0 4) - (nI 2)), .ref a0]) [.iconst 2, .isub, .iconst 0] (by decide +kernel) rfl ?_
    refine q_mmax mm_X6_58_a.1 mm_X6_58_a.2.1 mm_X6_58_a.2.2.1 mm_X6_58_a.2.2.2 (by decide) (Nat.le_of_ble_eq_true rfl) (by decide) (by decide) (by decide +kernel) ?_
    refine q_putI fw_X6_32 rfl (by decide) (by decide +kernel) s35 ?_
    exact q_ret0 rfl (by decide) (by decide) (by decide +kernel) ⟨rfl, h⟩
theorem f_X6_copyFrom {G : q_G} {X : String → q_H → Prop} {f : q_H → Prop} {A : q_H} {a0 : Nat} {a1 : Nat} (h : q_sh A a1 = (7, 0) ∧ q_sh A a0 = (7, 0) ∧ (∀ A3 : q_H, A3 = (q_setI (q_setI (q_setI A a0 0 (q_I A a1 0)) a0 1 (q_I (q_setI A a0 0 (q_I A a1 0)) a1 1)) a0 2 (q_I (q_setI (q_setI A a0 0 (q_I A a1 0)) a0 1 (q_I (q_setI A a0 0 (q_I A a1 0)) a1 1)) a1 2)) → (∀ A4 : q_H, A4 = (q_setI (q_setI (q_setI A3 a0 3 (q_I A3 a1 3)) a0 4 (q_I (q_setI A3 a0 3 (q_I A3 a1 3)) a1 4)) a0 5 (q_I (q_setI (q_setI A3 a0 3 (q_I A3 a1 3)) a0 4 (q_I (q_setI A3 a0 3 (q_I A3 a1 3)) a1 4)) a1 5)) → ∃ r5 : Nat, q_R A a0 7 = some r5 ∧ ∃ r7 : Nat, q_R A a1 7 = some r7 ∧ q_sh A r5 = (6, 0) ∧ q_Wc G M_X5_copyFrom [.ref r5, .ref r7] (q_setI A4 a0 6 (q_I A4 a1 6)) (q_KV fun A9 => q_sh A9 a0 = (7, 0) ∧ ∃ r13 : Nat, q_R A9 a0 8 = some r13 ∧ q_sh A9 a1 = (7, 0) ∧ ∃ r16 : Nat, q_R A9 a1 8 = some r16 ∧ q_sh A9 r13 = (3, 0) ∧ q_Wc G M_X2_copyFrom [.ref r13, .ref r16] A9 (q_KV fun A18 => f A18) q_nX) q_nX))) : q_Wc G M_X6_copyFrom [.ref a0, .ref a1] A (q_KV f) X := by
  refine q_Wc.of [some (.ref a0), some (.ref a1)] mo_X6_copyFrom.2.2.2.2.2 rfl (Nat.le_of_ble_eq_true rfl) rfl ?_
  refine q_blk (pc' := 2) (lo' := [some (.ref a0), some (.ref a1)]) (st' := [.ref a1, .ref a0]) [.aload_n 0, .aload_n 1] (by decide +kernel) rfl ?_
  obtain ⟨s1, h⟩ := h
  refine q_getI fl_X6_41 rfl (by decide) (by decide +kernel) s1 ?_
  obtain ⟨s2, h⟩ := h
  refine q_putI fw_X6_41 rfl (by decide) (by decide +kernel) s2 ?_
  refine q_blk (pc' := 10) (lo' := [some (.ref a0), some (.ref a1)]) (st' := [.ref a1, .ref a0]) [.aload_n 0, .aload_n 1] (by decide +kernel) rfl ?_
  refine q_getI fl_X6_25 rfl (by decide) (by decide +kernel) s1 ?_
  refine q_putI fw_X6_25 rfl (by decide) (by decide +kernel) s2 ?_
  refine q_blk (pc' := 18) (lo' := [some (.ref a0), some (.ref a1)]) (st' := [.ref a1, .ref a0]) [.aload_n 0, .aload_n 1] (by decide +kernel) rfl ?_
  refine q_getI fl_X6_29 rfl (by decide) (by decide +kernel) s1 ?_
  refine q_putI fw_X6_29 rfl (by decide) (by decide +kernel) s2 ?_
  let A3 : q_H := (q_setI (q_setI (q_setI A a0 0 (q_I A a1 0)) a0 1 (q_I (q_setI A a0 0 (q_I A a1 0)) a1 1)) a0 2 (q_I (q_setI (q_setI A a0 0 (q_I A a1 0)) a0 1 (q_I (q_setI A a0 0 (q_I A a1 0)) a1 1)) a1 2))
  have h := h A3 rfl
  show q_Wp _ _ _ _ 0 0 24 [some (.ref a0), some (.ref a1)] [] A3
  refine q_blk (pc' := 26) (lo' := [some (.ref a0), some (.ref a1)]) (st' := [.ref a1, .ref a0]) [.aload_n 0, .aload_n 1] (by decide +kernel) rfl ?_
  refine q_getI fl_X6_68 rfl (by decide) (by decide +kernel) s1 ?_
  refine q_putI fw_X6_68 rfl (by decide) (by decide +kernel) s2 ?_
  refine q_blk (pc' := 34) (lo' := [some (.ref a0), some (.ref a1)]) (st' := [.ref a1, .ref a0]) [.aload_n 0, .aload_n 1] (by decide +kernel) rfl ?_
  refine q_getI fl_X6_32 rfl (by decide) (by decide +kernel) s1 ?_
  refine q_putI fw_X6_32 rfl (by decide) (by decide +kernel) s2 ?_
  refine q_blk (pc' := 42) (lo' := [some (.ref a0), some (.ref a1)]) (st' := [.ref a1, .ref a0]) [.aload_n 0, .aload_n 1] (by decide +kernel) rfl ?_
  refine q_getI fl_X6_74 rfl (by decide) (by decide +kernel) s1 ?_
  refine q_putI fw_X6_74 rfl (by decide) (by decide +kernel) s2 ?_
  let A4 : q_H := (q_setI (q_setI (q_setI A3 a0 3 (q_I A3 a1 3)) a0 4 (q_I (q_setI A3 a0 3 (q_I A3 a1 3)) a1 4)) a0 5 (q_I (q_setI (q_setI A3 a0 3 (q_I A3 a1 3)) a0 4 (q_I (q_setI A3 a0 3 (q_I A3 a1 3)) a1 4)) a1 5))
  have h := h A4 rfl
  show q_Wp _ _ _ _ 0 0 48 [some (.ref a0), some (.ref a1)] [] A4
  refine q_blk (pc' := 50) (lo' := [some (.ref a0), some (.ref a1)]) (st' := [.ref a1, .ref a0]) [.aload_n 0, .aload_n 1] (by decide +kernel) rfl ?_
  refine q_getI fl_X6_71 rfl (by decide) (by decide +kernel) s1 ?_
  refine q_putI fw_X6_71 rfl (by decide) (by decide +kernel) s2 ?_
  refine q_blk (pc' := 57) (lo' := [some (.ref a0), some (.ref a1)]) (st' := [.ref a0]) [.aload_n 0] (by decide +kernel) rfl ?_
  obtain ⟨r5, e6, h⟩ := h
  refine q_getR fl_X6_12 rfl (by decide) (by decide +kernel) s2 e6 ?_
  refine q_blk (pc' := 61) (lo' := [some (.ref a0), some (.ref a1)]) (st' := [.ref a1, .ref r5]) [.aload_n 1] (by decide +kernel) rfl ?_
  obtain ⟨r7, e8, h⟩ := h
  refine q_getR fl_X6_12 rfl (by decide) (by decide +kernel) s1 e8 ?_
  obtain ⟨s11, h⟩ := h
  refine q_callV (ci := 5) (Mc := M_X5_copyFrom) (z := 1) (b := r5) (As := [.ref r7]) (st := []) mo_X5_copyFrom mi_X5_copyFrom ml_X6_77_X5_copyFrom rfl rfl (by decide) rfl (by decide) (by decide) rfl (Nat.le_of_ble_eq_true rfl) (by decide +kernel) s11 h (q_fV fun A9 h => ?_)
  show q_Wp _ _ _ _ 0 0 67 [some (.ref a0), some (.ref a1)] [] A9
  refine q_blk (pc' := 68) (lo' := [some (.ref a0), some (.ref a1)]) (st' := [.ref a0]) [.aload_n 0] (by decide +kernel) rfl ?_
  obtain ⟨s12, h⟩ := h
  obtain ⟨r13, e14, h⟩ := h
  refine q_getR fl_X6_21 rfl (by decide) (by decide +kernel) s12 e14 ?_
  refine q_blk (pc' := 72) (lo' := [some (.ref a0), some (.ref a1)]) (st' := [.ref a1, .ref r13]) [.aload_n 1] (by decide +kernel) rfl ?_
  obtain ⟨s15, h⟩ := h
  obtain ⟨r16, e17, h⟩ := h
  refine q_getR fl_X6_21 rfl (by decide) (by decide +kernel) s15 e17 ?_
  obtain ⟨s20, h⟩ := h
  refine q_callV (ci := 2) (Mc := M_X2_copyFrom) (z := 1) (b := r13) (As := [.ref r16]) (st := []) mo_X2_copyFrom mi_X2_copyFrom ml_X6_81_X2_copyFrom rfl rfl (by decide) rfl (by decide) (by decide) rfl (Nat.le_of_ble_eq_true rfl) (by decide +kernel) s20 h (q_fV fun A18 h => ?_)
  show q_Wp _ _ _ _ 0 0 78 [some (.ref a0), some (.ref a1)] [] A18
  exact q_ret0 rfl (by decide) (by decide) (by decide +kernel) ⟨rfl, h⟩
theorem f_X0_init {G : q_G} {X : String → q_H → Prop} {f : q_H → Prop} {A : q_H} {a0 : Nat} (h : q_Wc G M_X2_init [.ref (q_sz A)] (q_new A 3 0) (q_KV fun A2 => q_sh A2 a0 = (1, 0) ∧ f (q_setR A2 a0 4 (some (q_sz A)))) q_nX) : q_Wc G M_X0_init [.ref a0] A (q_KV f) X := by
  refine q_Wc.of [some (.ref a0)] mo_X0_init.2.2.2.2.2 rfl (Nat.le_of_ble_eq_true rfl) rfl ?_
  refine q_blk (pc' := 1) (lo' := [some (.ref a0)]) (st' := [.ref a0]) [.aload_n 0] (by decide +kernel) rfl ?_
  refine q_obj ob_X0_1.1 ob_X0_1.2.1 ob_X0_1.2.2 (by decide) (Nat.le_of_ble_eq_true rfl) (by decide +kernel) ?_
  refine q_blk (pc' := 5) (lo' := [some (.ref a0)]) (st' := [.ref a0]) [.aload_n 0] (by decide +kernel) rfl ?_
  refine q_newO (idx := 7) ck2 (by decide) kl_X0_7 nw_2.1 nw_2.2 (by decide) (by decide) (by decide +kernel) ?_
  have s1 : q_sh (q_new A 3 0) (q_sz A) = (3, 0) := q_shn _ _ _
  refine q_blk (pc' := 9) (lo' := [some (.ref a0)]) (st' := [.ref (q_sz A), .ref (q_sz A), .ref a0]) [.dup] (by decide +kernel) rfl ?_
  refine q_callI (Mc := M_X2_init) (z := 0) (b := (q_sz A)) (As := []) (st := [.ref (q_sz A), .ref a0]) mo_X2_init mi0_X2_init mI_X0_9_X2_init rfl rfl rfl rfl (by decide) (by decide) rfl (Nat.le_of_ble_eq_true rfl) (by decide +kernel) h (q_fV fun A2 h => ?_)
  show q_Wp _ _ _ _ 2 8 12 [some (.ref a0)] [.ref (q_sz A), .ref a0] A2
  obtain ⟨s4, h⟩ := h
  refine q_putP (v := (some (q_sz A))) fp_X0_10 rfl rfl (by decide) (by decide +kernel) s4 ?_
  exact q_ret0 rfl (by decide) (by decide) (by decide +kernel) ⟨rfl, h⟩
theorem f_X0_judge {G : q_G} {X : String → q_H → Prop} {f : q_H → Prop} {A : q_H} {a0 : Nat} {x1 : Int32} {x2 : Int32} (h : q_sh A a0 = (1, 0) ∧ ∃ r2 : Nat, q_R A a0 4 = some r2 ∧ q_sh A r2 = (3, 0) ∧ (((q_I A r2 1) ≤ nI 0 → (((q_I (q_setI A a0 2 (nI 0)) a0 2) < x1 → (((q_I (q_setI A a0 2 (nI 0)) a0 2) < x2 → f (q_setI (q_setI A a0 2 (nI 0)) a0 3 (nI 2))) ∧ (¬ (q_I (q_setI A a0 2 (nI 0)) a0 2) < x2 → f (q_setI (q_setI A a0 2 (nI 0)) a0 3 (nI 1))))) ∧ (¬ (q_I (q_setI A a0 2 (nI 0)) a0 2) < x1 → f (q_setI (q_setI A a0 2 (nI 0)) a0 3 (nI 0))))) ∧ (¬ (q_I A r2 1) ≤ nI 0 → q_Wc G M_X2_of [.ref r2, .int (q_I A a0 1)] A (q_KI fun r9 A8 => q_sh A8 a0 = (1, 0) ∧ ∃ r11 : Nat, q_R A8 a0 4 = some r11 ∧ q_sh A8 r11 = (3, 0) ∧ (¬ (q_I A8 r11 1) = nI 0) ∧ (((q_I (q_setI A8 a0 2 ((r9 * (nI 100)) / (q_I A8 r11 1))) a0 2) < x1 → (((q_I (q_setI A8 a0 2 ((r9 * (nI 100)) / (q_I A8 r11 1))) a0 2) < x2 → f (q_setI (q_setI A8 a0 2 ((r9 * (nI 100)) / (q_I A8 r11 1))) a0 3 (nI 2))) ∧ (¬ (q_I (q_setI A8 a0 2 ((r9 * (nI 100)) / (q_I A8 r11 1))) a0 2) < x2 → f (q_setI (q_setI A8 a0 2 ((r9 * (nI 100)) / (q_I A8 r11 1))) a0 3 (nI 1))))) ∧ (¬ (q_I (q_setI A8 a0 2 ((r9 * (nI 100)) / (q_I A8 r11 1))) a0 2) < x1 → f (q_setI (q_setI A8 a0 2 ((r9 * (nI 100)) / (q_I A8 r11 1))) a0 3 (nI 0))))) q_nX))) : q_Wc G M_X0_judge [.ref a0, .int x1, .int x2] A (q_KV f) X := by
  refine q_Wc.of [some (.ref a0), some (.int x1), some (.int x2)] mo_X0_judge.2.2.2.2.2 rfl (Nat.le_of_ble_eq_true rfl) rfl ?_
  refine q_blk (pc' := 2) (lo' := [some (.ref a0), some (.int x1), some (.int x2)]) (st' := [.ref a0, .ref a0]) [.aload_n 0, .aload_n 0] (by decide +kernel) rfl ?_
  obtain ⟨s1, h⟩ := h
  obtain ⟨r2, e3, h⟩ := h
  refine q_getR fl_X0_10 rfl (by decide) (by decide +kernel) s1 e3 ?_
  obtain ⟨s4, h⟩ := h
  refine q_getI fl_X0_16 rfl (by decide) (by decide +kernel) s4 ?_
  refine q_if_le 36 (off := 28) (by decide +kernel) (by decide) (fun c5 => ?_) (fun c5 => ?_)
  · have h := h.1 c5
    refine q_blk (pc' := 37) (lo' := [some (.ref a0), some (.int x1), some (.int x2)]) (st' := [.int (nI 0), .ref a0]) [.iconst 0] (by decide +kernel) rfl ?_
    refine q_putI fw_X0_27 rfl (by decide) (by decide +kernel) s1 ?_
    refine q_blk (pc' := 42) (lo' := [some (.ref a0), some (.int x1), some (.int x2)]) (st' := [.ref a0, .ref a0]) [.aload_n 0, .aload_n 0] (by decide +kernel) rfl ?_
    refine q_getI fl_X0_27 rfl (by decide) (by decide +kernel) s1 ?_
    refine q_blk (pc' := 46) (lo' := [some (.ref a0), some (.int x1), some (.int x2)]) (st' := [.int x1, .int (q_I (q_setI A a0 2 (nI 0)) a0 2), .ref a0]) [.iload_n 1] (by decide +kernel) rfl ?_
    refine q_icmp_lt 53 (off := 7) (by decide +kernel) (by decide) (fun c6 => ?_) (fun c6 => ?_)
    · have h := h.1 c6
      refine q_blk (pc' := 54) (lo' := [some (.ref a0), some (.int x1), some (.int x2)]) (st' := [.ref a0, .ref a0]) [.aload_n 0] (by decide +kernel) rfl ?_
      refine q_getI fl_X0_27 rfl (by decide) (by decide +kernel) s1 ?_
      refine q_blk (pc' := 58) (lo' := [some (.ref a0), some (.int x1), some (.int x2)]) (st' := [.int x2, .int (q_I (q_setI A a0 2 (nI 0)) a0 2), .ref a0]) [.iload_n 2] (by decide +kernel) rfl ?_
      refine q_icmp_lt 65 (off := 7) (by decide +kernel) (by decide) (fun c7 => ?_) (fun c7 => ?_)
      · have h := h.1 c7
        refine q_blk (pc' := 66) (lo' := [some (.ref a0), some (.int x1), some (.int x2)]) (st' := [.int (nI 2), .ref a0]) [.iconst 2] (by decide +kernel) rfl ?_
        refine q_putI fw_X0_30 rfl (by decide) (by decide +kernel) s1 ?_
        exact q_ret0 rfl (by decide) (by decide) (by decide +kernel) ⟨rfl, h⟩
      · have h := h.2 c7
        refine q_blk (pc' := 62) (lo' := [some (.ref a0), some (.int x1), some (.int x2)]) (st' := [.int (nI 1), .ref a0]) [.iconst 1] (by decide +kernel) rfl ?_
        refine q_goto 66 (off := 4) (by decide +kernel) (by decide) ?_
        refine q_putI fw_X0_30 rfl (by decide) (by decide +kernel) s1 ?_
        exact q_ret0 rfl (by decide) (by decide) (by decide +kernel) ⟨rfl, h⟩
    · have h := h.2 c6
      refine q_blk (pc' := 50) (lo' := [some (.ref a0), some (.int x1), some (.int x2)]) (st' := [.int (nI 0), .ref a0]) [.iconst 0] (by decide +kernel) rfl ?_
      refine q_goto 66 (off := 16) (by decide +kernel) (by decide) ?_
      refine q_putI fw_X0_30 rfl (by decide) (by decide +kernel) s1 ?_
      exact q_ret0 rfl (by decide) (by decide) (by decide +kernel) ⟨rfl, h⟩
  · have h := h.2 c5
    refine q_blk (pc' := 12) (lo' := [some (.ref a0), some (.int x1), some (.int x2)]) (st' := [.ref a0, .ref a0]) [.aload_n 0] (by decide +kernel) rfl ?_
    refine q_getR fl_X0_10 rfl (by decide) (by decide +kernel) s1 e3 ?_
    refine q_blk (pc' := 16) (lo' := [some (.ref a0), some (.int x1), some (.int x2)]) (st' := [.ref a0, .ref r2, .ref a0]) [.aload_n 0] (by decide +kernel) rfl ?_
    refine q_getI fl_X0_20 rfl (by decide) (by decide +kernel) s1 ?_
    refine q_callV (ci := 2) (Mc := M_X2_of) (z := 1) (b := r2) (As := [.int (q_I A a0 1)]) (st := [.ref a0]) mo_X2_of mi_X2_of ml_X0_23_X2_of rfl rfl (by decide) rfl (by decide) (by decide) rfl (Nat.le_of_ble_eq_true rfl) (by decide +kernel) s4 h (q_fI fun r9 A8 h => ?_)
    show q_Wp _ _ _ _ 0 0 22 [some (.ref a0), some (.int x1), some (.int x2)] [.int r9, .ref a0] A8
    refine q_blk (pc' := 26) (lo' := [some (.ref a0), some (.int x1), some (.int x2)]) (st' := [.ref a0, .int (r9 * (nI 100)), .ref a0]) [.bipush 100, .imul, .aload_n 0] (by decide +kernel) rfl ?_
    obtain ⟨s10, h⟩ := h
    obtain ⟨r11, e12, h⟩ := h
    refine q_getR fl_X0_10 rfl (by decide) (by decide +kernel) s10 e12 ?_
    obtain ⟨s13, h⟩ := h
    refine q_getI fl_X0_16 rfl (by decide) (by decide +kernel) s13 ?_
    obtain ⟨d14, h⟩ := h
    refine q_idiv (by decide +kernel) d14 ?_
    refine q_goto 37 (off := 4) (by decide +kernel) (by decide) ?_
    refine q_putI fw_X0_27 rfl (by decide) (by decide +kernel) s10 ?_
    refine q_blk (pc' := 42) (lo' := [some (.ref a0), some (.int x1), some (.int x2)]) (st' := [.ref a0, .ref a0]) [.aload_n 0, .aload_n 0] (by decide +kernel) rfl ?_
    refine q_getI fl_X0_27 rfl (by decide) (by decide +kernel) s10 ?_
    refine q_blk (pc' := 46) (lo' := [some (.ref a0), some (.int x1), some (.int x2)]) (st' := [.int x1, .int (q_I (q_setI A8 a0 2 ((r9 * (nI 100)) / (q_I A8 r11 1))) a0 2), .ref a0]) [.iload_n 1] (by decide +kernel) rfl ?_
    refine q_icmp_lt 53 (off := 7) (by decide +kernel) (by decide) (fun c15 => ?_) (fun c15 => ?_)
    · have h := h.1 c15
      refine q_blk (pc' := 54) (lo' := [some (.ref a0), some (.int x1), some (.int x2)]) (st' := [.ref a0, .ref a0]) [.aload_n 0] (by decide +kernel) rfl ?_
      refine q_getI fl_X0_27 rfl (by decide) (by decide +kernel) s10 ?_
      refine q_blk (pc' := 58) (lo' := [some (.ref a0), some (.int x1), some (.int x2)]) (st' := [.int x2, .int (q_I (q_setI A8 a0 2 ((r9 * (nI 100)) / (q_I A8 r11 1))) a0 2), .ref a0]) [.iload_n 2] (by decide +kernel) rfl ?_
      refine q_icmp_lt 65 (off := 7) (by decide +kernel) (by decide) (fun c16 => ?_) (fun c16 => ?_)
      · have h := h.1 c16
        refine q_blk (pc' := 66) (lo' := [some (.ref a0), some (.int x1), some (.int x2)]) (st' := [.int (nI 2), .ref a0]) [.iconst 2] (by decide +kernel) rfl ?_
        refine q_putI fw_X0_30 rfl (by decide) (by decide +kernel) s10 ?_
        exact q_ret0 rfl (by decide) (by decide) (by decide +kernel) ⟨rfl, h⟩
      · have h := h.2 c16
        refine q_blk (pc' := 62) (lo' := [some (.ref a0), some (.int x1), some (.int x2)]) (st' := [.int (nI 1), .ref a0]) [.iconst 1] (by decide +kernel) rfl ?_
        refine q_goto 66 (off := 4) (by decide +kernel) (by decide) ?_
        refine q_putI fw_X0_30 rfl (by decide) (by decide +kernel) s10 ?_
        exact q_ret0 rfl (by decide) (by decide) (by decide +kernel) ⟨rfl, h⟩
    · have h := h.2 c15
      refine q_blk (pc' := 50) (lo' := [some (.ref a0), some (.int x1), some (.int x2)]) (st' := [.int (nI 0), .ref a0]) [.iconst 0] (by decide +kernel) rfl ?_
      refine q_goto 66 (off := 16) (by decide +kernel) (by decide) ?_
      refine q_putI fw_X0_30 rfl (by decide) (by decide +kernel) s10 ?_
      exact q_ret0 rfl (by decide) (by decide) (by decide +kernel) ⟨rfl, h⟩
theorem f_X0_copyFrom {G : q_G} {X : String → q_H → Prop} {f : q_H → Prop} {A : q_H} {a0 : Nat} {a1 : Nat} (h : q_sh A a1 = (1, 0) ∧ q_sh A a0 = (1, 0) ∧ (∀ A3 : q_H, A3 = (q_setI (q_setI (q_setI A a0 0 (q_I A a1 0)) a0 1 (q_I (q_setI A a0 0 (q_I A a1 0)) a1 1)) a0 2 (q_I (q_setI (q_setI A a0 0 (q_I A a1 0)) a0 1 (q_I (q_setI A a0 0 (q_I A a1 0)) a1 1)) a1 2)) → ∃ r4 : Nat, q_R A a0 4 = some r4 ∧ ∃ r6 : Nat, q_R A a1 4 = some r6 ∧ q_sh A r4 = (3, 0) ∧ q_Wc G M_X2_copyFrom [.ref r4, .ref r6] (q_setI A3 a0 3 (q_I A3 a1 3)) (q_KV fun A8 => f A8) q_nX)) : q_Wc G M_X0_copyFrom [.ref a0, .ref a1] A (q_KV f) X := by
  refine q_Wc.of [some (.ref a0), some (.ref a1)] mo_X0_copyFrom.2.2.2.2.2 rfl (Nat.le_of_ble_eq_true rfl) rfl ?_
  refine q_blk (pc' := 2) (lo' := [some (.ref a0), some (.ref a1)]) (st' := [.ref a1, .ref a0]) [.aload_n 0, .aload_n 1] (by decide +kernel) rfl ?_
  obtain ⟨s1, h⟩ := h
  refine q_getI fl_X0_33 rfl (by decide) (by decide +kernel) s1 ?_
  obtain ⟨s2, h⟩ := h
  refine q_putI fw_X0_33 rfl (by decide) (by decide +kernel) s2 ?_
  refine q_blk (pc' := 10) (lo' := [some (.ref a0), some (.ref a1)]) (st' := [.ref a1, .ref a0]) [.aload_n 0, .aload_n 1] (by decide +kernel) rfl ?_
  refine q_getI fl_X0_20 rfl (by decide) (by decide +kernel) s1 ?_
  refine q_putI fw_X0_20 rfl (by decide) (by decide +kernel) s2 ?_
  refine q_blk (pc' := 18) (lo' := [some (.ref a0), some (.ref a1)]) (st' := [.ref a1, .ref a0]) [.aload_n 0, .aload_n 1] (by decide +kernel) rfl ?_
  refine q_getI fl_X0_27 rfl (by decide) (by decide +kernel) s1 ?_
  refine q_putI fw_X0_27 rfl (by decide) (by decide +kernel) s2 ?_
  let A3 : q_H := (q_setI (q_setI (q_setI A a0 0 (q_I A a1 0)) a0 1 (q_I (q_setI A a0 0 (q_I A a1 0)) a1 1)) a0 2 (q_I (q_setI (q_setI A a0 0 (q_I A a1 0)) a0 1 (q_I (q_setI A a0 0 (q_I A a1 0)) a1 1)) a1 2))
  have h := h A3 rfl
  show q_Wp _ _ _ _ 0 0 24 [some (.ref a0), some (.ref a1)] [] A3
  refine q_blk (pc' := 26) (lo' := [some (.ref a0), some (.ref a1)]) (st' := [.ref a1, .ref a0]) [.aload_n 0, .aload_n 1] (by decide +kernel) rfl ?_
  refine q_getI fl_X0_30 rfl (by decide) (by decide +kernel) s1 ?_
  refine q_putI fw_X0_30 rfl (by decide) (by decide +kernel) s2 ?_
  refine q_blk (pc' := 33) (lo' := [some (.ref a0), some (.ref a1)]) (st' := [.ref a0]) [.aload_n 0] (by decide +kernel) rfl ?_
  obtain ⟨r4, e5, h⟩ := h
  refine q_getR fl_X0_10 rfl (by decide) (by decide +kernel) s2 e5 ?_
  refine q_blk (pc' := 37) (lo' := [some (.ref a0), some (.ref a1)]) (st' := [.ref a1, .ref r4]) [.aload_n 1] (by decide +kernel) rfl ?_
  obtain ⟨r6, e7, h⟩ := h
  refine q_getR fl_X0_10 rfl (by decide) (by decide +kernel) s1 e7 ?_
  obtain ⟨s10, h⟩ := h
  refine q_callV (ci := 2) (Mc := M_X2_copyFrom) (z := 1) (b := r4) (As := [.ref r6]) (st := []) mo_X2_copyFrom mi_X2_copyFrom ml_X0_36_X2_copyFrom rfl rfl (by decide) rfl (by decide) (by decide) rfl (Nat.le_of_ble_eq_true rfl) (by decide +kernel) s10 h (q_fV fun A8 h => ?_)
  show q_Wp _ _ _ _ 0 0 43 [some (.ref a0), some (.ref a1)] [] A8
  exact q_ret0 rfl (by decide) (by decide) (by decide +kernel) ⟨rfl, h⟩
theorem f_X7_init {G : q_G} {X : String → q_H → Prop} {f : q_H → Prop} {A : q_H} {a0 : Nat} (h : q_sh (q_new A 60 40) a0 = (8, 0) ∧ q_Wp G M_X7_init (q_KV f) X 1 40 15 [some (.ref a0), some (.int (nI 0))] [] (q_setR (q_new A 60 40) a0 0 (some (q_sz A)))) : q_Wc G M_X7_init [.ref a0] A (q_KV f) X := by
  refine q_Wc.of [some (.ref a0), none] mo_X7_init.2.2.2.2.2 rfl (Nat.le_of_ble_eq_true rfl) rfl ?_
  refine q_blk (pc' := 1) (lo' := [some (.ref a0), none]) (st' := [.ref a0]) [.aload_n 0] (by decide +kernel) rfl ?_
  refine q_obj ob_X7_3.1 ob_X7_3.2.1 ob_X7_3.2.2 (by decide) (Nat.le_of_ble_eq_true rfl) (by decide +kernel) ?_
  refine q_blk (pc' := 7) (lo' := [some (.ref a0), none]) (st' := [.int (nI 40), .ref a0]) [.aload_n 0, .bipush 40] (by decide +kernel) rfl ?_
  refine q_newR (z := 40) (cc := 0) rfl (q_rk0 G) kl_X7_9 rfl (by decide) (by decide) (by decide) (by decide +kernel) ?_
  have s1 : q_sh (q_new A 60 40) (q_sz A) = (60, 40) := q_shn _ _ _
  obtain ⟨s2, h⟩ := h
  refine q_putP (v := (some (q_sz A))) fp_X7_11 rfl rfl (by decide) (by decide +kernel) s2 ?_
  refine q_blk (pc' := 15) (lo' := [some (.ref a0), some (.int (nI 0))]) (st' := []) [.iconst 0, .istore_n 1] (by decide +kernel) rfl ?_
  exact h
theorem f_X7_init_15 {G : q_G} {X : String → q_H → Prop} {f : q_H → Prop} {A : q_H} {a0 : Nat} {x1 : Int32} {k n : Nat} (h : q_sh A a0 = (8, 0) ∧ ∃ r2 : Nat, q_R A a0 0 = some r2 ∧ ∃ z5 : Nat, q_sh A r2 = (60, z5) ∧ z5 < 2147483648 ∧ (((nI z5) ≤ x1 → (k ≤ 121 ∧ n ≤ 560) ∧ f A) ∧ (¬ (nI z5) ≤ x1 → (k + 1 ≤ 121 ∧ n + 5 ≤ 560) ∧ (k + 1 + 2 ≤ 121 ∧ n + 5 + 8 ≤ 560) ∧ q_Wc G M_X0_init [.ref (q_sz A)] (q_new A 1 0) (q_KV fun A12 => ∃ z15 : Nat, q_sh A12 r2 = (60, z15) ∧ z15 < 2147483648 ∧ ∃ j17 : Nat, x1 = nI j17 ∧ j17 < z15 ∧ q_sh A12 (q_sz A) = (1, 0) ∧ q_Wp G M_X7_init (q_KV f) X (k + 1 + 2) (n + 5 + 8) 15 [some (.ref a0), some (.int (x1 + (nI 1)))] [] (q_setR A12 r2 j17 (some (q_sz A)))) q_nX))) : q_Wp G M_X7_init (q_KV f) X k n 15 [some (.ref a0), some (.int x1)] [] A := by
  refine q_blk (pc' := 17) (lo' := [some (.ref a0), some (.int x1)]) (st' := [.ref a0, .int x1]) [.iload_n 1, .aload_n 0] (by decide +kernel) rfl ?_
  obtain ⟨s1, h⟩ := h
  obtain ⟨r2, e3, h⟩ := h
  refine q_getR fl_X7_11 rfl (by decide) (by decide +kernel) s1 e3 ?_
  obtain ⟨z5, s4, b6, h⟩ := h
  refine q_alenR (q_rk0 G) (by decide +kernel) s4 ?_
  refine q_icmp_ge 43 (off := 22) (by decide +kernel) (by decide) (fun c7 => ?_) (fun c7 => ?_)
  · have h := h.1 c7
    obtain ⟨g8, h⟩ := h
    exact q_ret0 rfl g8.1 g8.2 (by decide +kernel) ⟨rfl, h⟩
  · have h := h.2 c7
    refine q_blk (pc' := 25) (lo' := [some (.ref a0), some (.int x1)]) (st' := [.ref a0]) [.aload_n 0] (by decide +kernel) rfl ?_
    refine q_getR fl_X7_11 rfl (by decide) (by decide +kernel) s1 e3 ?_
    refine q_blk (pc' := 29) (lo' := [some (.ref a0), some (.int x1)]) (st' := [.int x1, .ref r2]) [.iload_n 1] (by decide +kernel) rfl ?_
    obtain ⟨g9, h⟩ := h
    refine q_newO (idx := 9) ck0 (by decide) kl_X7_9 nw_0.1 nw_0.2 g9.1 g9.2 (by decide +kernel) ?_
    have s10 : q_sh (q_new A 1 0) (q_sz A) = (1, 0) := q_shn _ _ _
    refine q_blk (pc' := 33) (lo' := [some (.ref a0), some (.int x1)]) (st' := [.ref (q_sz A), .ref (q_sz A), .int x1, .ref r2]) [.dup] (by decide +kernel) rfl ?_
    obtain ⟨g11, h⟩ := h
    refine q_callI (Mc := M_X0_init) (z := 0) (b := (q_sz A)) (As := []) (st := [.ref (q_sz A), .int x1, .ref r2]) mo_X0_init mi0_X0_init mI_X7_17_X0_init rfl rfl rfl rfl (by decide) g11 rfl (Nat.le_of_ble_eq_true rfl) (by decide +kernel) h (q_fV fun A12 h => ?_)
    show q_Wp _ _ _ _ (k + 1 + 2) (n + 5 + 8) 36 [some (.ref a0), some (.int x1)] [.ref (q_sz A), .int x1, .ref r2] A12
    obtain ⟨z15, s14, b16, h⟩ := h
    obtain ⟨j17, e18, h⟩ := h
    obtain ⟨l19, h⟩ := h
    obtain ⟨s20, h⟩ := h
    refine q_aast (r := some (q_sz A)) (q_rk0 G) (by decide) e18 (by decide +kernel) s14 l19 b16 (fun _ q9 => by cases q9; exact s20) ?_
    refine q_blk (pc' := 40) (lo' := [some (.ref a0), some (.int (x1 + (nI 1)))]) (st' := []) [.iinc 1 1] (by decide +kernel) rfl ?_
    refine q_goto 15 (off := -25) (by decide +kernel) (by decide) ?_
    exact h
theorem f_X7_baleAt {G : q_G} {X : String → q_H → Prop} {f : Option Nat → q_H → Prop} {A : q_H} {a0 : Nat} {x1 : Int32} (h : ((x1 < nI 0 → f none A) ∧ (¬ x1 < nI 0 → q_sh A a0 = (8, 0) ∧ (((q_I A a0 1) ≤ x1 → f none A) ∧ (¬ (q_I A a0 1) ≤ x1 → ∃ r4 : Nat, q_R A a0 0 = some r4 ∧ ∃ z7 : Nat, q_sh A r4 = (60, z7) ∧ z7 < 2147483648 ∧ ∃ j9 : Nat, x1 = nI j9 ∧ j9 < z7 ∧ ∃ r12 : Nat, q_R A r4 j9 = some r12 ∧ f (some r12) A))))) : q_Wc G M_X7_baleAt [.ref a0, .int x1] A (q_KR f) X := by
  refine q_Wc.of [some (.ref a0), some (.int x1)] mo_X7_baleAt.2.2.2.2.2 rfl (Nat.le_of_ble_eq_true rfl) rfl ?_
  refine q_blk (pc' := 1) (lo' := [some (.ref a0), some (.int x1)]) (st' := [.int x1]) [.iload_n 1] (by decide +kernel) rfl ?_
  refine q_if_lt 21 (off := 20) (by decide +kernel) (by decide) (fun c1 => ?_) (fun c1 => ?_)
  · have h := h.1 c1
    refine q_blk (pc' := 22) (lo' := [some (.ref a0), some (.int x1)]) (st' := [.null]) [.aconst_null] (by decide +kernel) rfl ?_
    exact q_retR (r := none) rfl (Or.inl ⟨_, rfl⟩) (by decide) (by decide) (by decide +kernel) ⟨_, rfl, h⟩
  · have h := h.2 c1
    refine q_blk (pc' := 6) (lo' := [some (.ref a0), some (.int x1)]) (st' := [.ref a0, .int x1]) [.iload_n 1, .aload_n 0] (by decide +kernel) rfl ?_
    obtain ⟨s2, h⟩ := h
    refine q_getI fl_X7_18 rfl (by decide) (by decide +kernel) s2 ?_
    refine q_icmp_ge 21 (off := 12) (by decide +kernel) (by decide) (fun c3 => ?_) (fun c3 => ?_)
    · have h := h.1 c3
      refine q_blk (pc' := 22) (lo' := [some (.ref a0), some (.int x1)]) (st' := [.null]) [.aconst_null] (by decide +kernel) rfl ?_
      exact q_retR (r := none) rfl (Or.inl ⟨_, rfl⟩) (by decide) (by decide) (by decide +kernel) ⟨_, rfl, h⟩
    · have h := h.2 c3
      refine q_blk (pc' := 13) (lo' := [some (.ref a0), some (.int x1)]) (st' := [.ref a0]) [.aload_n 0] (by decide +kernel) rfl ?_
      obtain ⟨r4, e5, h⟩ := h
      refine q_getR fl_X7_11 rfl (by decide) (by decide +kernel) s2 e5 ?_
      refine q_blk (pc' := 17) (lo' := [some (.ref a0), some (.int x1)]) (st' := [.int x1, .ref r4]) [.iload_n 1] (by decide +kernel) rfl ?_
      obtain ⟨z7, s6, b8, h⟩ := h
      obtain ⟨j9, e10, h⟩ := h
      obtain ⟨l11, h⟩ := h
      obtain ⟨r12, e13, h⟩ := h
      refine q_aaldS (q_rk0 G) e10 (by decide +kernel) s6 l11 b8 e13 ?_
      refine q_goto 22 (off := 4) (by decide +kernel) (by decide) ?_
      exact q_retR (r := (some r12)) rfl (Or.inl ⟨_, rfl⟩) (by decide) (by decide) (by decide +kernel) ⟨_, rfl, h⟩
theorem f_X7_addLast {G : q_G} {X : String → q_H → Prop} {f : Option Nat → q_H → Prop} {A : q_H} {a0 : Nat} (h : q_sh A a0 = (8, 0) ∧ ∃ r2 : Nat, q_R A a0 0 = some r2 ∧ ∃ z5 : Nat, q_sh A r2 = (60, z5) ∧ z5 < 2147483648 ∧ (((q_I A a0 1) < (nI z5) → ∃ j8 : Nat, (q_I A a0 1) = nI j8 ∧ j8 < z5 ∧ ∃ r11 : Nat, q_R A r2 j8 = some r11 ∧ q_sh A r11 = (1, 0) ∧ ∃ r14 : Nat, q_R A r11 4 = some r14 ∧ q_sh A r14 = (3, 0) ∧ q_Wc G M_X2_clear [.ref r14] A (q_KV fun A16 => q_sh A16 a0 = (8, 0) ∧ f (some r11) (q_setI A16 a0 1 ((q_I A16 a0 1) + (nI 1)))) q_nX) ∧ (¬ (q_I A a0 1) < (nI z5) → f none A))) : q_Wc G M_X7_addLast [.ref a0] A (q_KR f) X := by
  refine q_Wc.of [some (.ref a0), none] mo_X7_addLast.2.2.2.2.2 rfl (Nat.le_of_ble_eq_true rfl) rfl ?_
  refine q_blk (pc' := 1) (lo' := [some (.ref a0), none]) (st' := [.ref a0]) [.aload_n 0] (by decide +kernel) rfl ?_
  obtain ⟨s1, h⟩ := h
  refine q_getI fl_X7_18 rfl (by decide) (by decide +kernel) s1 ?_
  refine q_blk (pc' := 5) (lo' := [some (.ref a0), none]) (st' := [.ref a0, .int (q_I A a0 1)]) [.aload_n 0] (by decide +kernel) rfl ?_
  obtain ⟨r2, e3, h⟩ := h
  refine q_getR fl_X7_11 rfl (by decide) (by decide +kernel) s1 e3 ?_
  obtain ⟨z5, s4, b6, h⟩ := h
  refine q_alenR (q_rk0 G) (by decide +kernel) s4 ?_
  refine q_icmp_lt 14 (off := 5) (by decide +kernel) (by decide) (fun c7 => ?_) (fun c7 => ?_)
  · have h := h.1 c7
    refine q_blk (pc' := 15) (lo' := [some (.ref a0), none]) (st' := [.ref a0]) [.aload_n 0] (by decide +kernel) rfl ?_
    refine q_getR fl_X7_11 rfl (by decide) (by decide +kernel) s1 e3 ?_
    refine q_blk (pc' := 19) (lo' := [some (.ref a0), none]) (st' := [.ref a0, .ref r2]) [.aload_n 0] (by decide +kernel) rfl ?_
    refine q_getI fl_X7_18 rfl (by decide) (by decide +kernel) s1 ?_
    obtain ⟨j8, e9, h⟩ := h
    obtain ⟨l10, h⟩ := h
    obtain ⟨r11, e12, h⟩ := h
    refine q_aaldS (q_rk0 G) e9 (by decide +kernel) s4 l10 b6 e12 ?_
    refine q_blk (pc' := 25) (lo' := [some (.ref a0), some (.ref r11)]) (st' := [.ref r11]) [.astore_n 1, .aload_n 1] (by decide +kernel) rfl ?_
    obtain ⟨s13, h⟩ := h
    obtain ⟨r14, e15, h⟩ := h
    refine q_getR fl_X7_22 rfl (by decide) (by decide +kernel) s13 e15 ?_
    obtain ⟨s18, h⟩ := h
    refine q_callV (ci := 2) (Mc := M_X2_clear) (z := 0) (b := r14) (As := []) (st := []) mo_X2_clear mi_X2_clear ml_X7_26_X2_clear rfl rfl (by decide) rfl (by decide) (by decide) rfl (Nat.le_of_ble_eq_true rfl) (by decide +kernel) s18 h (q_fV fun A16 h => ?_)
    show q_Wp _ _ _ _ 0 0 31 [some (.ref a0), some (.ref r11)] [] A16
    refine q_blk (pc' := 33) (lo' := [some (.ref a0), some (.ref r11)]) (st' := [.ref a0, .ref a0]) [.aload_n 0, .dup] (by decide +kernel) rfl ?_
    obtain ⟨s19, h⟩ := h
    refine q_getI fl_X7_18 rfl (by decide) (by decide +kernel) s19 ?_
    refine q_blk (pc' := 38) (lo' := [some (.ref a0), some (.ref r11)]) (st' := [.int ((q_I A16 a0 1) + (nI 1)), .ref a0]) [.iconst 1, .iadd] (by decide +kernel) rfl ?_
    refine q_putI fw_X7_18 rfl (by decide) (by decide +kernel) s19 ?_
    refine q_blk (pc' := 42) (lo' := [some (.ref a0), some (.ref r11)]) (st' := [.ref r11]) [.aload_n 1] (by decide +kernel) rfl ?_
    exact q_retR (r := (some r11)) rfl (Or.inl ⟨_, rfl⟩) (by decide) (by decide) (by decide +kernel) ⟨_, rfl, h⟩
  · have h := h.2 c7
    refine q_blk (pc' := 13) (lo' := [some (.ref a0), none]) (st' := [.null]) [.aconst_null] (by decide +kernel) rfl ?_
    exact q_retR (r := none) rfl (Or.inl ⟨_, rfl⟩) (by decide) (by decide) (by decide +kernel) ⟨_, rfl, h⟩
theorem f_X7_dropBale {G : q_G} {X : String → q_H → Prop} {f : q_H → Prop} {A : q_H} {a0 : Nat} {x1 : Int32} (h : q_sh A a0 = (8, 0) ∧ q_Wc G M_X7_baleAt [.ref a0, .int x1] A (q_KR fun o4 A1 => (o4 = none → f A1) ∧ (∀ r2 : Nat, o4 = some r2 → q_Wp G M_X7_dropBale (q_KV f) X 0 0 15 [some (.ref a0), none, some (.ref r2), some (.int (x1 + (nI 1)))] [] A1)) q_nX) : q_Wc G M_X7_dropBale [.ref a0, .int x1] A (q_KV f) X := by
  refine q_Wc.of [some (.ref a0), some (.int x1), none, none] mo_X7_dropBale.2.2.2.2.2 rfl (Nat.le_of_ble_eq_true rfl) rfl ?_
  refine q_blk (pc' := 2) (lo' := [some (.ref a0), some (.int x1), none, none]) (st' := [.int x1, .ref a0]) [.aload_n 0, .iload_n 1] (by decide +kernel) rfl ?_
  obtain ⟨s3, h⟩ := h
  refine q_callV (ci := 7) (Mc := M_X7_baleAt) (z := 1) (b := a0) (As := [.int x1]) (st := []) mo_X7_baleAt mi_X7_baleAt ml_X7_31_X7_baleAt rfl rfl (by decide) rfl (by decide) (by decide) rfl (Nat.le_of_ble_eq_true rfl) (by decide +kernel) s3 h (q_fR (fun A1 h => ?_) (fun r2 A1 h => ?_))
  · have h := h.1 rfl
    show q_Wp _ _ _ _ 0 0 5 [some (.ref a0), some (.int x1), none, none] [.null] A1
    refine q_blk (pc' := 7) (lo' := [some (.ref a0), some (.int x1), some (.null), none]) (st' := [.null]) [.astore_n 2, .aload_n 2] (by decide +kernel) rfl ?_
    refine q_nnl_n (off := 4) (by decide +kernel) ?_
    exact q_ret0 rfl (by decide) (by decide) (by decide +kernel) ⟨rfl, h⟩
  · have h := h.2 r2 rfl
    show q_Wp _ _ _ _ 0 0 5 [some (.ref a0), some (.int x1), none, none] [.ref r2] A1
    refine q_blk (pc' := 7) (lo' := [some (.ref a0), some (.int x1), some (.ref r2), none]) (st' := [.ref r2]) [.astore_n 2, .aload_n 2] (by decide +kernel) rfl ?_
    refine q_nnl_y 11 (off := 4) (by decide +kernel) (by decide) ?_
    refine q_blk (pc' := 15) (lo' := [some (.ref a0), some (.int x1), some (.ref r2), some (.int (x1 + (nI 1)))]) (st' := []) [.iload_n 1, .iconst 1, .iadd, .istore_n 3] (by decide +kernel) rfl ?_
    exact q_wk [some (.ref a0), none, some (.ref r2), some (.int (x1 + (nI 1)))] (And.intro rfl (And.intro rfl (And.intro rfl trivial))) h
theorem f_X7_dropBale_15 {G : q_G} {X : String → q_H → Prop} {f : q_H → Prop} {A : q_H} {a0 : Nat} {a2 : Nat} {x3 : Int32} (h : q_sh A a0 = (8, 0) ∧ (((q_I A a0 1) ≤ x3 → ∃ r3 : Nat, q_R A a0 0 = some r3 ∧ ∃ z6 : Nat, q_sh A r3 = (60, z6) ∧ z6 < 2147483648 ∧ ∃ j8 : Nat, (q_I (q_setI A a0 1 ((q_I A a0 1) - (nI 1))) a0 1) = nI j8 ∧ j8 < z6 ∧ q_sh A a2 = (1, 0) ∧ f (q_setR (q_setI A a0 1 ((q_I A a0 1) - (nI 1))) r3 j8 (some a2))) ∧ (¬ (q_I A a0 1) ≤ x3 → ∃ r12 : Nat, q_R A a0 0 = some r12 ∧ ∃ z15 : Nat, q_sh A r12 = (60, z15) ∧ z15 < 2147483648 ∧ ∃ j17 : Nat, x3 = nI j17 ∧ j17 < z15 ∧ ∃ r20 : Nat, q_R A r12 j17 = some r20 ∧ ∃ j22 : Nat, (x3 - (nI 1)) = nI j22 ∧ j22 < z15 ∧ q_sh A r20 = (1, 0) ∧ q_Wp G M_X7_dropBale (q_KV f) X 0 0 15 [some (.ref a0), none, some (.ref a2), some (.int (x3 + (nI 1)))] [] (q_setR A r12 j22 (some r20))))) : q_Wp G M_X7_dropBale (q_KV f) X 0 0 15 [some (.ref a0), none, some (.ref a2), some (.int x3)] [] A := by
  refine q_blk (pc' := 17) (lo' := [some (.ref a0), none, some (.ref a2), some (.int x3)]) (st' := [.ref a0, .int x3]) [.iload_n 3, .aload_n 0] (by decide +kernel) rfl ?_
  obtain ⟨s1, h⟩ := h
  refine q_getI fl_X7_18 rfl (by decide) (by decide +kernel) s1 ?_
  refine q_icmp_ge 43 (off := 23) (by decide +kernel) (by decide) (fun c2 => ?_) (fun c2 => ?_)
  · have h := h.1 c2
    refine q_blk (pc' := 45) (lo' := [some (.ref a0), none, some (.ref a2), some (.int x3)]) (st' := [.ref a0, .ref a0]) [.aload_n 0, .dup] (by decide +kernel) rfl ?_
    refine q_getI fl_X7_18 rfl (by decide) (by decide +kernel) s1 ?_
    refine q_blk (pc' := 50) (lo' := [some (.ref a0), none, some (.ref a2), some (.int x3)]) (st' := [.int ((q_I A a0 1) - (nI 1)), .ref a0]) [.iconst 1, .isub] (by decide +kernel) rfl ?_
    refine q_putI fw_X7_18 rfl (by decide) (by decide +kernel) s1 ?_
    refine q_blk (pc' := 54) (lo' := [some (.ref a0), none, some (.ref a2), some (.int x3)]) (st' := [.ref a0]) [.aload_n 0] (by decide +kernel) rfl ?_
    obtain ⟨r3, e4, h⟩ := h
    refine q_getR fl_X7_11 rfl (by decide) (by decide +kernel) s1 e4 ?_
    refine q_blk (pc' := 58) (lo' := [some (.ref a0), none, some (.ref a2), some (.int x3)]) (st' := [.ref a0, .ref r3]) [.aload_n 0] (by decide +kernel) rfl ?_
    refine q_getI fl_X7_18 rfl (by decide) (by decide +kernel) s1 ?_
    refine q_blk (pc' := 62) (lo' := [some (.ref a0), none, some (.ref a2), some (.int x3)]) (st' := [.ref a2, .int (q_I (q_setI A a0 1 ((q_I A a0 1) - (nI 1))) a0 1), .ref r3]) [.aload_n 2] (by decide +kernel) rfl ?_
    obtain ⟨z6, s5, b7, h⟩ := h
    obtain ⟨j8, e9, h⟩ := h
    obtain ⟨l10, h⟩ := h
    obtain ⟨s11, h⟩ := h
    refine q_aast (r := some a2) (q_rk0 G) (by decide) e9 (by decide +kernel) s5 l10 b7 (fun _ q9 => by cases q9; exact s11) ?_
    exact q_ret0 rfl (by decide) (by decide) (by decide +kernel) ⟨rfl, h⟩
  · have h := h.2 c2
    refine q_blk (pc' := 24) (lo' := [some (.ref a0), none, some (.ref a2), some (.int x3)]) (st' := [.ref a0]) [.aload_n 0] (by decide +kernel) rfl ?_
    obtain ⟨r12, e13, h⟩ := h
    refine q_getR fl_X7_11 rfl (by decide) (by decide +kernel) s1 e13 ?_
    refine q_blk (pc' := 31) (lo' := [some (.ref a0), none, some (.ref a2), some (.int x3)]) (st' := [.ref a0, .int (x3 - (nI 1)), .ref r12]) [.iload_n 3, .iconst 1, .isub, .aload_n 0] (by decide +kernel) rfl ?_
    refine q_getR fl_X7_11 rfl (by decide) (by decide +kernel) s1 e13 ?_
    refine q_blk (pc' := 35) (lo' := [some (.ref a0), none, some (.ref a2), some (.int x3)]) (st' := [.int x3, .ref r12, .int (x3 - (nI 1)), .ref r12]) [.iload_n 3] (by decide +kernel) rfl ?_
    obtain ⟨z15, s14, b16, h⟩ := h
    obtain ⟨j17, e18, h⟩ := h
    obtain ⟨l19, h⟩ := h
    obtain ⟨r20, e21, h⟩ := h
    refine q_aaldS (q_rk0 G) e18 (by decide +kernel) s14 l19 b16 e21 ?_
    obtain ⟨j22, e23, h⟩ := h
    obtain ⟨l24, h⟩ := h
    obtain ⟨s25, h⟩ := h
    refine q_aast (r := some r20) (q_rk0 G) (by decide) e23 (by decide +kernel) s14 l24 b16 (fun _ q9 => by cases q9; exact s25) ?_
    refine q_blk (pc' := 40) (lo' := [some (.ref a0), none, some (.ref a2), some (.int (x3 + (nI 1)))]) (st' := []) [.iinc 3 1] (by decide +kernel) rfl ?_
    refine q_goto 15 (off := -25) (by decide +kernel) (by decide) ?_
    exact h
theorem f_X7_totalMass {G : q_G} {X : String → q_H → Prop} {f : Int32 → q_H → Prop} {A : q_H} {a0 : Nat} (h : q_Wp G M_X7_totalMass (q_KI f) X 0 0 4 [some (.ref a0), some (.int (nI 0)), some (.int (nI 0))] [] A) : q_Wc G M_X7_totalMass [.ref a0] A (q_KI f) X := by
  refine q_Wc.of [some (.ref a0), none, none] mo_X7_totalMass.2.2.2.2.2 rfl (Nat.le_of_ble_eq_true rfl) rfl ?_
  refine q_blk (pc' := 4) (lo' := [some (.ref a0), some (.int (nI 0)), some (.int (nI 0))]) (st' := []) [.iconst 0, .istore_n 1, .iconst 0, .istore_n 2] (by decide +kernel) rfl ?_
  exact h
theorem f_X7_totalMass_4 {G : q_G} {X : String → q_H → Prop} {f : Int32 → q_H → Prop} {A : q_H} {a0 : Nat} {x1 : Int32} {x2 : Int32} (h : q_sh A a0 = (8, 0) ∧ (((q_I A a0 1) ≤ x2 → f x1 A) ∧ (¬ (q_I A a0 1) ≤ x2 → ∃ r3 : Nat, q_R A a0 0 = some r3 ∧ ∃ z6 : Nat, q_sh A r3 = (60, z6) ∧ z6 < 2147483648 ∧ ∃ j8 : Nat, x2 = nI j8 ∧ j8 < z6 ∧ ∃ r11 : Nat, q_R A r3 j8 = some r11 ∧ q_sh A r11 = (1, 0) ∧ ∃ r14 : Nat, q_R A r11 4 = some r14 ∧ q_sh A r14 = (3, 0) ∧ q_Wp G M_X7_totalMass (q_KI f) X 0 0 4 [some (.ref a0), some (.int (x1 + (q_I A r14 1))), some (.int (x2 + (nI 1)))] [] A))) : q_Wp G M_X7_totalMass (q_KI f) X 0 0 4 [some (.ref a0), some (.int x1), some (.int x2)] [] A := by
  refine q_blk (pc' := 6) (lo' := [some (.ref a0), some (.int x1), some (.int x2)]) (st' := [.ref a0, .int x2]) [.iload_n 2, .aload_n 0] (by decide +kernel) rfl ?_
  obtain ⟨s1, h⟩ := h
  refine q_getI fl_X7_18 rfl (by decide) (by decide +kernel) s1 ?_
  refine q_icmp_ge 33 (off := 24) (by decide +kernel) (by decide) (fun c2 => ?_) (fun c2 => ?_)
  · have h := h.1 c2
    refine q_blk (pc' := 34) (lo' := [some (.ref a0), some (.int x1), some (.int x2)]) (st' := [.int x1]) [.iload_n 1] (by decide +kernel) rfl ?_
    exact q_retI rfl (by decide) (by decide) (by decide +kernel) ⟨_, rfl, h⟩
  · have h := h.2 c2
    refine q_blk (pc' := 14) (lo' := [some (.ref a0), some (.int x1), some (.int x2)]) (st' := [.ref a0, .int x1]) [.iload_n 1, .aload_n 0] (by decide +kernel) rfl ?_
    obtain ⟨r3, e4, h⟩ := h
    refine q_getR fl_X7_11 rfl (by decide) (by decide +kernel) s1 e4 ?_
    refine q_blk (pc' := 18) (lo' := [some (.ref a0), some (.int x1), some (.int x2)]) (st' := [.int x2, .ref r3, .int x1]) [.iload_n 2] (by decide +kernel) rfl ?_
    obtain ⟨z6, s5, b7, h⟩ := h
    obtain ⟨j8, e9, h⟩ := h
    obtain ⟨l10, h⟩ := h
    obtain ⟨r11, e12, h⟩ := h
    refine q_aaldS (q_rk0 G) e9 (by decide +kernel) s5 l10 b7 e12 ?_
    obtain ⟨s13, h⟩ := h
    obtain ⟨r14, e15, h⟩ := h
    refine q_getR fl_X7_22 rfl (by decide) (by decide +kernel) s13 e15 ?_
    obtain ⟨s16, h⟩ := h
    refine q_getI fl_X7_35 rfl (by decide) (by decide +kernel) s16 ?_
    refine q_blk (pc' := 30) (lo' := [some (.ref a0), some (.int (x1 + (q_I A r14 1))), some (.int (x2 + (nI 1)))]) (st' := []) [.iadd, .istore_n 1, .iinc 2 1] (by decide +kernel) rfl ?_
    refine q_goto 4 (off := -26) (by decide +kernel) (by decide) ?_
    exact h
theorem f_X7_copyFrom {G : q_G} {X : String → q_H → Prop} {f : q_H → Prop} {A : q_H} {a0 : Nat} {a1 : Nat} (h : q_sh A a1 = (8, 0) ∧ q_sh A a0 = (8, 0) ∧ q_Wp G M_X7_copyFrom (q_KV f) X 0 0 10 [some (.ref a0), some (.ref a1), some (.int (nI 0))] [] (q_setI A a0 1 (q_I A a1 1))) : q_Wc G M_X7_copyFrom [.ref a0, .ref a1] A (q_KV f) X := by
  refine q_Wc.of [some (.ref a0), some (.ref a1), none] mo_X7_copyFrom.2.2.2.2.2 rfl (Nat.le_of_ble_eq_true rfl) rfl ?_
  refine q_blk (pc' := 2) (lo' := [some (.ref a0), some (.ref a1), none]) (st' := [.ref a1, .ref a0]) [.aload_n 0, .aload_n 1] (by decide +kernel) rfl ?_
  obtain ⟨s1, h⟩ := h
  refine q_getI fl_X7_18 rfl (by decide) (by decide +kernel) s1 ?_
  obtain ⟨s2, h⟩ := h
  refine q_putI fw_X7_18 rfl (by decide) (by decide +kernel) s2 ?_
  refine q_blk (pc' := 10) (lo' := [some (.ref a0), some (.ref a1), some (.int (nI 0))]) (st' := []) [.iconst 0, .istore_n 2] (by decide +kernel) rfl ?_
  exact h
theorem f_X7_copyFrom_10 {G : q_G} {X : String → q_H → Prop} {f : q_H → Prop} {A : q_H} {a0 : Nat} {a1 : Nat} {x2 : Int32} (h : q_sh A a0 = (8, 0) ∧ (((q_I A a0 1) ≤ x2 → f A) ∧ (¬ (q_I A a0 1) ≤ x2 → ∃ r3 : Nat, q_R A a0 0 = some r3 ∧ ∃ z6 : Nat, q_sh A r3 = (60, z6) ∧ z6 < 2147483648 ∧ ∃ j8 : Nat, x2 = nI j8 ∧ j8 < z6 ∧ ∃ r11 : Nat, q_R A r3 j8 = some r11 ∧ q_sh A a1 = (8, 0) ∧ ∃ r14 : Nat, q_R A a1 0 = some r14 ∧ ∃ z17 : Nat, q_sh A r14 = (60, z17) ∧ z17 < 2147483648 ∧ j8 < z17 ∧ ∃ r20 : Nat, q_R A r14 j8 = some r20 ∧ q_sh A r11 = (1, 0) ∧ q_Wc G M_X0_copyFrom [.ref r11, .ref r20] A (q_KV fun A22 => q_Wp G M_X7_copyFrom (q_KV f) X 0 0 10 [some (.ref a0), some (.ref a1), some (.int (x2 + (nI 1)))] [] A22) q_nX))) : q_Wp G M_X7_copyFrom (q_KV f) X 0 0 10 [some (.ref a0), some (.ref a1), some (.int x2)] [] A := by
  refine q_blk (pc' := 12) (lo' := [some (.ref a0), some (.ref a1), some (.int x2)]) (st' := [.ref a0, .int x2]) [.iload_n 2, .aload_n 0] (by decide +kernel) rfl ?_
  obtain ⟨s1, h⟩ := h
  refine q_getI fl_X7_18 rfl (by decide) (by decide +kernel) s1 ?_
  refine q_icmp_ge 39 (off := 24) (by decide +kernel) (by decide) (fun c2 => ?_) (fun c2 => ?_)
  · have h := h.1 c2
    exact q_ret0 rfl (by decide) (by decide) (by decide +kernel) ⟨rfl, h⟩
  · have h := h.2 c2
    refine q_blk (pc' := 19) (lo' := [some (.ref a0), some (.ref a1), some (.int x2)]) (st' := [.ref a0]) [.aload_n 0] (by decide +kernel) rfl ?_
    obtain ⟨r3, e4, h⟩ := h
    refine q_getR fl_X7_11 rfl (by decide) (by decide +kernel) s1 e4 ?_
    refine q_blk (pc' := 23) (lo' := [some (.ref a0), some (.ref a1), some (.int x2)]) (st' := [.int x2, .ref r3]) [.iload_n 2] (by decide +kernel) rfl ?_
    obtain ⟨z6, s5, b7, h⟩ := h
    obtain ⟨j8, e9, h⟩ := h
    obtain ⟨l10, h⟩ := h
    obtain ⟨r11, e12, h⟩ := h
    refine q_aaldS (q_rk0 G) e9 (by decide +kernel) s5 l10 b7 e12 ?_
    refine q_blk (pc' := 25) (lo' := [some (.ref a0), some (.ref a1), some (.int x2)]) (st' := [.ref a1, .ref r11]) [.aload_n 1] (by decide +kernel) rfl ?_
    obtain ⟨s13, h⟩ := h
    obtain ⟨r14, e15, h⟩ := h
    refine q_getR fl_X7_11 rfl (by decide) (by decide +kernel) s13 e15 ?_
    refine q_blk (pc' := 29) (lo' := [some (.ref a0), some (.ref a1), some (.int x2)]) (st' := [.int x2, .ref r14, .ref r11]) [.iload_n 2] (by decide +kernel) rfl ?_
    obtain ⟨z17, s16, b18, h⟩ := h
    obtain ⟨l19, h⟩ := h
    obtain ⟨r20, e21, h⟩ := h
    refine q_aaldS (q_rk0 G) e9 (by decide +kernel) s16 l19 b18 e21 ?_
    obtain ⟨s24, h⟩ := h
    refine q_callV (ci := 0) (Mc := M_X0_copyFrom) (z := 1) (b := r11) (As := [.ref r20]) (st := []) mo_X0_copyFrom mi_X0_copyFrom ml_X7_38_X0_copyFrom rfl rfl (by decide) rfl (by decide) (by decide) rfl (Nat.le_of_ble_eq_true rfl) (by decide +kernel) s24 h (q_fV fun A22 h => ?_)
    show q_Wp _ _ _ _ 0 0 33 [some (.ref a0), some (.ref a1), some (.int x2)] [] A22
    refine q_blk (pc' := 36) (lo' := [some (.ref a0), some (.ref a1), some (.int (x2 + (nI 1)))]) (st' := []) [.iinc 2 1] (by decide +kernel) rfl ?_
    refine q_goto 10 (off := -26) (by decide +kernel) (by decide) ?_
    exact h
theorem f_X1_init {G : q_G} {X : String → q_H → Prop} {f : q_H → Prop} {A : q_H} {a0 : Nat} (h : f A) : q_Wc G M_X1_init [.ref a0] A (q_KV f) X := by
  refine q_Wc.of [some (.ref a0)] mo_X1_init.2.2.2.2.2 rfl (Nat.le_of_ble_eq_true rfl) rfl ?_
  refine q_blk (pc' := 1) (lo' := [some (.ref a0)]) (st' := [.ref a0]) [.aload_n 0] (by decide +kernel) rfl ?_
  refine q_obj ob_X1_1.1 ob_X1_1.2.1 ob_X1_1.2.2 (by decide) (Nat.le_of_ble_eq_true rfl) (by decide +kernel) ?_
  exact q_ret0 rfl (by decide) (by decide) (by decide +kernel) ⟨rfl, h⟩
theorem f_X1_takes {G : q_G} {X : String → q_H → Prop} {f : Bool → q_H → Prop} {A : q_H} {a0 : Nat} {a1 : Nat} (h : q_sh A a1 = (1, 0) ∧ q_sh A a0 = (2, 0) ∧ (((q_I A a1 1) = (q_I A a0 1) → (((q_I A a0 2) < (q_I A a1 3) → f false A) ∧ (¬ (q_I A a0 2) < (q_I A a1 3) → f true A))) ∧ (¬ (q_I A a1 1) = (q_I A a0 1) → f false A))) : q_Wc G M_X1_takes [.ref a0, .ref a1] A (q_KB f) X := by
  refine q_Wc.of [some (.ref a0), some (.ref a1)] mo_X1_takes.2.2.2.2.2 rfl (Nat.le_of_ble_eq_true rfl) rfl ?_
  refine q_blk (pc' := 1) (lo' := [some (.ref a0), some (.ref a1)]) (st' := [.ref a1]) [.aload_n 1] (by decide +kernel) rfl ?_
  obtain ⟨s1, h⟩ := h
  refine q_getI fl_X1_7 rfl (by decide) (by decide +kernel) s1 ?_
  refine q_blk (pc' := 5) (lo' := [some (.ref a0), some (.ref a1)]) (st' := [.ref a0, .int (q_I A a1 1)]) [.aload_n 0] (by decide +kernel) rfl ?_
  obtain ⟨s2, h⟩ := h
  refine q_getI fl_X1_13 rfl (by decide) (by decide +kernel) s2 ?_
  refine q_icmp_ne 26 (off := 18) (by decide +kernel) (by decide) (fun c3 => ?_) (fun c3 => ?_)
  · have h := h.2 c3
    refine q_blk (pc' := 27) (lo' := [some (.ref a0), some (.ref a1)]) (st' := [.int (nI 0)]) [.iconst 0] (by decide +kernel) rfl ?_
    exact q_retZ (r := q_i false) rfl (q_nz _) (by decide) (by decide) (by decide +kernel) ⟨false, rfl, h⟩
  · have h := h.1 c3
    refine q_blk (pc' := 12) (lo' := [some (.ref a0), some (.ref a1)]) (st' := [.ref a1]) [.aload_n 1] (by decide +kernel) rfl ?_
    refine q_getI fl_X1_16 rfl (by decide) (by decide +kernel) s1 ?_
    refine q_blk (pc' := 16) (lo' := [some (.ref a0), some (.ref a1)]) (st' := [.ref a0, .int (q_I A a1 3)]) [.aload_n 0] (by decide +kernel) rfl ?_
    refine q_getI fl_X1_19 rfl (by decide) (by decide +kernel) s2 ?_
    refine q_icmp_gt 26 (off := 7) (by decide +kernel) (by decide) (fun c4 => ?_) (fun c4 => ?_)
    · have h := h.1 c4
      refine q_blk (pc' := 27) (lo' := [some (.ref a0), some (.ref a1)]) (st' := [.int (nI 0)]) [.iconst 0] (by decide +kernel) rfl ?_
      exact q_retZ (r := q_i false) rfl (q_nz _) (by decide) (by decide) (by decide +kernel) ⟨false, rfl, h⟩
    · have h := h.2 c4
      refine q_blk (pc' := 23) (lo' := [some (.ref a0), some (.ref a1)]) (st' := [.int (nI 1)]) [.iconst 1] (by decide +kernel) rfl ?_
      refine q_goto 27 (off := 4) (by decide +kernel) (by decide) ?_
      exact q_retZ (r := q_i true) rfl (q_nz _) (by decide) (by decide) (by decide +kernel) ⟨true, rfl, h⟩
theorem f_X1_sendsBack {G : q_G} {X : String → q_H → Prop} {f : Bool → q_H → Prop} {A : q_H} {a0 : Nat} {a1 : Nat} (h : q_sh A a1 = (1, 0) ∧ q_sh A a0 = (2, 0) ∧ ((((nI 100) - (q_I A a1 2)) ≤ (q_I A a0 5) → f false A) ∧ (¬ ((nI 100) - (q_I A a1 2)) ≤ (q_I A a0 5) → f true A))) : q_Wc G M_X1_sendsBack [.ref a0, .ref a1] A (q_KB f) X := by
  refine q_Wc.of [some (.ref a0), some (.ref a1)] mo_X1_sendsBack.2.2.2.2.2 rfl (Nat.le_of_ble_eq_true rfl) rfl ?_
  refine q_blk (pc' := 3) (lo' := [some (.ref a0), some (.ref a1)]) (st' := [.ref a1, .int (nI 100)]) [.bipush 100, .aload_n 1] (by decide +kernel) rfl ?_
  obtain ⟨s1, h⟩ := h
  refine q_getI fl_X1_22 rfl (by decide) (by decide +kernel) s1 ?_
  refine q_blk (pc' := 8) (lo' := [some (.ref a0), some (.ref a1)]) (st' := [.ref a0, .int ((nI 100) - (q_I A a1 2))]) [.isub, .aload_n 0] (by decide +kernel) rfl ?_
  obtain ⟨s2, h⟩ := h
  refine q_getI fl_X1_25 rfl (by decide) (by decide +kernel) s2 ?_
  refine q_icmp_le 18 (off := 7) (by decide +kernel) (by decide) (fun c3 => ?_) (fun c3 => ?_)
  · have h := h.1 c3
    refine q_blk (pc' := 19) (lo' := [some (.ref a0), some (.ref a1)]) (st' := [.int (nI 0)]) [.iconst 0] (by decide +kernel) rfl ?_
    exact q_retZ (r := q_i false) rfl (q_nz _) (by decide) (by decide) (by decide +kernel) ⟨false, rfl, h⟩
  · have h := h.2 c3
    refine q_blk (pc' := 15) (lo' := [some (.ref a0), some (.ref a1)]) (st' := [.int (nI 1)]) [.iconst 1] (by decide +kernel) rfl ?_
    refine q_goto 19 (off := 4) (by decide +kernel) (by decide) ?_
    exact q_retZ (r := q_i true) rfl (q_nz _) (by decide) (by decide) (by decide +kernel) ⟨true, rfl, h⟩
theorem f_X1_claimsFor {G : q_G} {X : String → q_H → Prop} {f : Bool → q_H → Prop} {A : q_H} {a0 : Nat} {a1 : Nat} (h : q_sh A a1 = (1, 0) ∧ q_sh A a0 = (2, 0) ∧ ((((nI 100) - (q_I A a1 2)) ≤ (q_I A a0 4) → f false A) ∧ (¬ ((nI 100) - (q_I A a1 2)) ≤ (q_I A a0 4) → f true A))) : q_Wc G M_X1_claimsFor [.ref a0, .ref a1] A (q_KB f) X := by
  refine q_Wc.of [some (.ref a0), some (.ref a1)] mo_X1_claimsFor.2.2.2.2.2 rfl (Nat.le_of_ble_eq_true rfl) rfl ?_
  refine q_blk (pc' := 3) (lo' := [some (.ref a0), some (.ref a1)]) (st' := [.ref a1, .int (nI 100)]) [.bipush 100, .aload_n 1] (by decide +kernel) rfl ?_
  obtain ⟨s1, h⟩ := h
  refine q_getI fl_X1_22 rfl (by decide) (by decide +kernel) s1 ?_
  refine q_blk (pc' := 8) (lo' := [some (.ref a0), some (.ref a1)]) (st' := [.ref a0, .int ((nI 100) - (q_I A a1 2))]) [.isub, .aload_n 0] (by decide +kernel) rfl ?_
  obtain ⟨s2, h⟩ := h
  refine q_getI fl_X1_28 rfl (by decide) (by decide +kernel) s2 ?_
  refine q_icmp_le 18 (off := 7) (by decide +kernel) (by decide) (fun c3 => ?_) (fun c3 => ?_)
  · have h := h.1 c3
    refine q_blk (pc' := 19) (lo' := [some (.ref a0), some (.ref a1)]) (st' := [.int (nI 0)]) [.iconst 0] (by decide +kernel) rfl ?_
    exact q_retZ (r := q_i false) rfl (q_nz _) (by decide) (by decide) (by decide +kernel) ⟨false, rfl, h⟩
  · have h := h.2 c3
    refine q_blk (pc' := 15) (lo' := [some (.ref a0), some (.ref a1)]) (st' := [.int (nI 1)]) [.iconst 1] (by decide +kernel) rfl ?_
    refine q_goto 19 (off := 4) (by decide +kernel) (by decide) ?_
    exact q_retZ (r := q_i true) rfl (q_nz _) (by decide) (by decide) (by decide +kernel) ⟨true, rfl, h⟩
theorem f_X1_payFor {G : q_G} {X : String → q_H → Prop} {f : Int32 → q_H → Prop} {A : q_H} {a0 : Nat} {a1 : Nat} {x2 : Int32} (h : q_sh A a1 = (1, 0) ∧ q_sh A a0 = (2, 0) ∧ q_Wc G M_X1_worthOf [.ref a0, .int (q_I A a1 3)] A (q_KI fun r3 A2 => q_sh A2 a0 = (2, 0) ∧ q_Wc G M_X1_claimsFor [.ref a0, .ref a1] A2 (q_KB fun b6 A5 => ((b6 = true → q_sh A5 a0 = (2, 0) ∧ q_sh A5 a1 = (1, 0) ∧ f (r3 - (if r3 < ((((q_I A5 a0 3) * (((nI 100) - (q_I A5 a1 2)) - (q_I A5 a0 4))) * x2) / (nI 100)) then r3 else ((((q_I A5 a0 3) * (((nI 100) - (q_I A5 a1 2)) - (q_I A5 a0 4))) * x2) / (nI 100)))) A5) ∧ (b6 = false → f r3 A5))) q_nX) q_nX) : q_Wc G M_X1_payFor [.ref a0, .ref a1, .int x2] A (q_KI f) X := by
  refine q_Wc.of [some (.ref a0), some (.ref a1), some (.int x2), none, none] mo_X1_payFor.2.2.2.2.2 rfl (Nat.le_of_ble_eq_true rfl) rfl ?_
  refine q_blk (pc' := 2) (lo' := [some (.ref a0), some (.ref a1), some (.int x2), none, none]) (st' := [.ref a1, .ref a0]) [.aload_n 0, .aload_n 1] (by decide +kernel) rfl ?_
  obtain ⟨s1, h⟩ := h
  refine q_getI fl_X1_16 rfl (by decide) (by decide +kernel) s1 ?_
  obtain ⟨s4, h⟩ := h
  refine q_callV (ci := 1) (Mc := M_X1_worthOf) (z := 1) (b := a0) (As := [.int (q_I A a1 3)]) (st := []) mo_X1_worthOf mi_X1_worthOf ml_X1_31_X1_worthOf rfl rfl (by decide) rfl (by decide) (by decide) rfl (Nat.le_of_ble_eq_true rfl) (by decide +kernel) s4 h (q_fI fun r3 A2 h => ?_)
  show q_Wp _ _ _ _ 0 0 8 [some (.ref a0), some (.ref a1), some (.int x2), none, none] [.int r3] A2
  refine q_blk (pc' := 11) (lo' := [some (.ref a0), some (.ref a1), some (.int x2), some (.int r3), none]) (st' := [.ref a1, .ref a0]) [.istore_n 3, .aload_n 0, .aload_n 1] (by decide +kernel) rfl ?_
  obtain ⟨s7, h⟩ := h
  refine q_callV (ci := 1) (Mc := M_X1_claimsFor) (z := 1) (b := a0) (As := [.ref a1]) (st := []) mo_X1_claimsFor mi_X1_claimsFor ml_X1_35_X1_claimsFor rfl rfl (by decide) rfl (by decide) (by decide) rfl (Nat.le_of_ble_eq_true rfl) (by decide +kernel) s7 h (q_fB fun b6 A5 h => ?_)
  show q_Wp _ _ _ _ 0 0 14 [some (.ref a0), some (.ref a1), some (.int x2), some (.int r3), none] [.int (q_i b6)] A5
  refine q_ifB_ne 19 (off := 5) (by decide +kernel) (by decide) (fun c8 => ?_) (fun c8 => ?_)
  · have h := h.1 c8
    refine q_blk (pc' := 20) (lo' := [some (.ref a0), some (.ref a1), some (.int x2), some (.int r3), none]) (st' := [.ref a0]) [.aload_n 0] (by decide +kernel) rfl ?_
    obtain ⟨s10, h⟩ := h
    refine q_getI fl_X1_39 rfl (by decide) (by decide +kernel) s10 ?_
    refine q_blk (pc' := 26) (lo' := [some (.ref a0), some (.ref a1), some (.int x2), some (.int r3), none]) (st' := [.ref a1, .int (nI 100), .int (q_I A5 a0 3)]) [.bipush 100, .aload_n 1] (by decide +kernel) rfl ?_
    obtain ⟨s11, h⟩ := h
    refine q_getI fl_X1_22 rfl (by decide) (by decide +kernel) s11 ?_
    refine q_blk (pc' := 31) (lo' := [some (.ref a0), some (.ref a1), some (.int x2), some (.int r3), none]) (st' := [.ref a0, .int ((nI 100) - (q_I A5 a1 2)), .int (q_I A5 a0 3)]) [.isub, .aload_n 0] (by decide +kernel) rfl ?_
    refine q_getI fl_X1_28 rfl (by decide) (by decide +kernel) s10 ?_
    refine q_blk (pc' := 40) (lo' := [some (.ref a0), some (.ref a1), some (.int x2), some (.int r3), none]) (st' := [.int (nI 100), .int (((q_I A5 a0 3) * (((nI 100) - (q_I A5 a1 2)) - (q_I A5 a0 4))) * x2)]) [.isub, .imul, .iload_n 2, .imul, .bipush 100] (by decide +kernel) rfl ?_
    refine q_idiv (by decide +kernel) (by decide) ?_
    refine q_blk (pc' := 47) (lo' := [some (.ref a0), some (.ref a1), some (.int x2), some (.int r3), some (.int ((((q_I A5 a0 3) * (((nI 100) - (q_I A5 a1 2)) - (q_I A5 a0 4))) * x2) / (nI 100)))]) (st' := [.int r3, .int ((((q_I A5 a0 3) * (((nI 100) - (q_I A5 a1 2)) - (q_I A5 a0 4))) * x2) / (nI 100)), .int r3]) [.istore 4, .iload_n 3, .iload 4, .iload_n 3] (by decide +kernel) rfl ?_
    refine q_mmin mm_X1_42_i.1 mm_X1_42_i.2.1 mm_X1_42_i.2.2.1 mm_X1_42_i.2.2.2 (by decide) (Nat.le_of_ble_eq_true rfl) (by decide) (by decide) (by decide +kernel) ?_
    refine q_blk (pc' := 51) (lo' := [some (.ref a0), some (.ref a1), some (.int x2), some (.int r3), some (.int ((((q_I A5 a0 3) * (((nI 100) - (q_I A5 a1 2)) - (q_I A5 a0 4))) * x2) / (nI 100)))]) (st' := [.int (r3 - (if r3 < ((((q_I A5 a0 3) * (((nI 100) - (q_I A5 a1 2)) - (q_I A5 a0 4))) * x2) / (nI 100)) then r3 else ((((q_I A5 a0 3) * (((nI 100) - (q_I A5 a1 2)) - (q_I A5 a0 4))) * x2) / (nI 100))))]) [.isub] (by decide +kernel) rfl ?_
    exact q_retI rfl (by decide) (by decide) (by decide +kernel) ⟨_, rfl, h⟩
  · have h := h.2 c8
    refine q_blk (pc' := 18) (lo' := [some (.ref a0), some (.ref a1), some (.int x2), some (.int r3), none]) (st' := [.int r3]) [.iload_n 3] (by decide +kernel) rfl ?_
    exact q_retI rfl (by decide) (by decide) (by decide +kernel) ⟨_, rfl, h⟩
theorem f_X1_worthOf {G : q_G} {X : String → q_H → Prop} {f : Int32 → q_H → Prop} {A : q_H} {a0 : Nat} {x1 : Int32} (h : ((x1 = nI 0 → q_sh A a0 = (2, 0) ∧ f (q_I A a0 3) A) ∧ (x1 = nI 1 → q_sh A a0 = (2, 0) ∧ f (((q_I A a0 3) * (nI 70)) / (nI 100)) A) ∧ (¬ x1 = nI 0 → ¬ x1 = nI 1 → q_sh A a0 = (2, 0) ∧ f (((q_I A a0 3) * (nI 40)) / (nI 100)) A))) : q_Wc G M_X1_worthOf [.ref a0, .int x1] A (q_KI f) X := by
  refine q_Wc.of [some (.ref a0), some (.int x1)] mo_X1_worthOf.2.2.2.2.2 rfl (Nat.le_of_ble_eq_true rfl) rfl ?_
  refine q_blk (pc' := 1) (lo' := [some (.ref a0), some (.int x1)]) (st' := [.int x1]) [.iload_n 1] (by decide +kernel) rfl ?_
  refine q_lsw 28 33 44 sw_X1_worthOf_1 (by decide) (by decide) (by decide) (fun c1 => ?_) (fun c1 => ?_) (fun c1 c2 => ?_)
  · have h := h.1 c1
    refine q_blk (pc' := 29) (lo' := [some (.ref a0), some (.int x1)]) (st' := [.ref a0]) [.aload_n 0] (by decide +kernel) rfl ?_
    obtain ⟨s1, h⟩ := h
    refine q_getI fl_X1_39 rfl (by decide) (by decide +kernel) s1 ?_
    exact q_retI rfl (by decide) (by decide) (by decide +kernel) ⟨_, rfl, h⟩
  · have h := h.2.1 c1
    refine q_blk (pc' := 34) (lo' := [some (.ref a0), some (.int x1)]) (st' := [.ref a0]) [.aload_n 0] (by decide +kernel) rfl ?_
    obtain ⟨s2, h⟩ := h
    refine q_getI fl_X1_39 rfl (by decide) (by decide +kernel) s2 ?_
    refine q_blk (pc' := 42) (lo' := [some (.ref a0), some (.int x1)]) (st' := [.int (nI 100), .int ((q_I A a0 3) * (nI 70))]) [.bipush 70, .imul, .bipush 100] (by decide +kernel) rfl ?_
    refine q_idiv (by decide +kernel) (by decide) ?_
    exact q_retI rfl (by decide) (by decide) (by decide +kernel) ⟨_, rfl, h⟩
  · have h := h.2.2 c1 c2
    refine q_blk (pc' := 45) (lo' := [some (.ref a0), some (.int x1)]) (st' := [.ref a0]) [.aload_n 0] (by decide +kernel) rfl ?_
    obtain ⟨s3, h⟩ := h
    refine q_getI fl_X1_39 rfl (by decide) (by decide +kernel) s3 ?_
    refine q_blk (pc' := 53) (lo' := [some (.ref a0), some (.int x1)]) (st' := [.int (nI 100), .int ((q_I A a0 3) * (nI 40))]) [.bipush 40, .imul, .bipush 100] (by decide +kernel) rfl ?_
    refine q_idiv (by decide +kernel) (by decide) ?_
    exact q_retI rfl (by decide) (by decide) (by decide +kernel) ⟨_, rfl, h⟩
theorem f_X1_copyFrom {G : q_G} {X : String → q_H → Prop} {f : q_H → Prop} {A : q_H} {a0 : Nat} {a1 : Nat} (h : q_sh A a1 = (2, 0) ∧ q_sh A a0 = (2, 0) ∧ (∀ A3 : q_H, A3 = (q_setI (q_setI (q_setI A a0 0 (q_I A a1 0)) a0 1 (q_I (q_setI A a0 0 (q_I A a1 0)) a1 1)) a0 2 (q_I (q_setI (q_setI A a0 0 (q_I A a1 0)) a0 1 (q_I (q_setI A a0 0 (q_I A a1 0)) a1 1)) a1 2)) → (∀ A4 : q_H, A4 = (q_setI (q_setI (q_setI A3 a0 3 (q_I A3 a1 3)) a0 4 (q_I (q_setI A3 a0 3 (q_I A3 a1 3)) a1 4)) a0 5 (q_I (q_setI (q_setI A3 a0 3 (q_I A3 a1 3)) a0 4 (q_I (q_setI A3 a0 3 (q_I A3 a1 3)) a1 4)) a1 5)) → f (q_setI A4 a0 6 (q_I A4 a1 6))))) : q_Wc G M_X1_copyFrom [.ref a0, .ref a1] A (q_KV f) X := by
  refine q_Wc.of [some (.ref a0), some (.ref a1)] mo_X1_copyFrom.2.2.2.2.2 rfl (Nat.le_of_ble_eq_true rfl) rfl ?_
  refine q_blk (pc' := 2) (lo' := [some (.ref a0), some (.ref a1)]) (st' := [.ref a1, .ref a0]) [.aload_n 0, .aload_n 1] (by decide +kernel) rfl ?_
  obtain ⟨s1, h⟩ := h
  refine q_getI fl_X1_48 rfl (by decide) (by decide +kernel) s1 ?_
  obtain ⟨s2, h⟩ := h
  refine q_putI fw_X1_48 rfl (by decide) (by decide +kernel) s2 ?_
  refine q_blk (pc' := 10) (lo' := [some (.ref a0), some (.ref a1)]) (st' := [.ref a1, .ref a0]) [.aload_n 0, .aload_n 1] (by decide +kernel) rfl ?_
  refine q_getI fl_X1_13 rfl (by decide) (by decide +kernel) s1 ?_
  refine q_putI fw_X1_13 rfl (by decide) (by decide +kernel) s2 ?_
  refine q_blk (pc' := 18) (lo' := [some (.ref a0), some (.ref a1)]) (st' := [.ref a1, .ref a0]) [.aload_n 0, .aload_n 1] (by decide +kernel) rfl ?_
  refine q_getI fl_X1_19 rfl (by decide) (by decide +kernel) s1 ?_
  refine q_putI fw_X1_19 rfl (by decide) (by decide +kernel) s2 ?_
  let A3 : q_H := (q_setI (q_setI (q_setI A a0 0 (q_I A a1 0)) a0 1 (q_I (q_setI A a0 0 (q_I A a1 0)) a1 1)) a0 2 (q_I (q_setI (q_setI A a0 0 (q_I A a1 0)) a0 1 (q_I (q_setI A a0 0 (q_I A a1 0)) a1 1)) a1 2))
  have h := h A3 rfl
  show q_Wp _ _ _ _ 0 0 24 [some (.ref a0), some (.ref a1)] [] A3
  refine q_blk (pc' := 26) (lo' := [some (.ref a0), some (.ref a1)]) (st' := [.ref a1, .ref a0]) [.aload_n 0, .aload_n 1] (by decide +kernel) rfl ?_
  refine q_getI fl_X1_39 rfl (by decide) (by decide +kernel) s1 ?_
  refine q_putI fw_X1_39 rfl (by decide) (by decide +kernel) s2 ?_
  refine q_blk (pc' := 34) (lo' := [some (.ref a0), some (.ref a1)]) (st' := [.ref a1, .ref a0]) [.aload_n 0, .aload_n 1] (by decide +kernel) rfl ?_
  refine q_getI fl_X1_28 rfl (by decide) (by decide +kernel) s1 ?_
  refine q_putI fw_X1_28 rfl (by decide) (by decide +kernel) s2 ?_
  refine q_blk (pc' := 42) (lo' := [some (.ref a0), some (.ref a1)]) (st' := [.ref a1, .ref a0]) [.aload_n 0, .aload_n 1] (by decide +kernel) rfl ?_
  refine q_getI fl_X1_25 rfl (by decide) (by decide +kernel) s1 ?_
  refine q_putI fw_X1_25 rfl (by decide) (by decide +kernel) s2 ?_
  let A4 : q_H := (q_setI (q_setI (q_setI A3 a0 3 (q_I A3 a1 3)) a0 4 (q_I (q_setI A3 a0 3 (q_I A3 a1 3)) a1 4)) a0 5 (q_I (q_setI (q_setI A3 a0 3 (q_I A3 a1 3)) a0 4 (q_I (q_setI A3 a0 3 (q_I A3 a1 3)) a1 4)) a1 5))
  have h := h A4 rfl
  show q_Wp _ _ _ _ 0 0 48 [some (.ref a0), some (.ref a1)] [] A4
  refine q_blk (pc' := 50) (lo' := [some (.ref a0), some (.ref a1)]) (st' := [.ref a1, .ref a0]) [.aload_n 0, .aload_n 1] (by decide +kernel) rfl ?_
  refine q_getI fl_X1_51 rfl (by decide) (by decide +kernel) s1 ?_
  refine q_putI fw_X1_51 rfl (by decide) (by decide +kernel) s2 ?_
  exact q_ret0 rfl (by decide) (by decide) (by decide +kernel) ⟨rfl, h⟩
theorem f_X8_init {G : q_G} {X : String → q_H → Prop} {f : q_H → Prop} {A : q_H} {a0 : Nat} (h : f A) : q_Wc G M_X8_init [.ref a0] A (q_KV f) X := by
  refine q_Wc.of [some (.ref a0)] mo_X8_init.2.2.2.2.2 rfl (Nat.le_of_ble_eq_true rfl) rfl ?_
  refine q_blk (pc' := 1) (lo' := [some (.ref a0)]) (st' := [.ref a0]) [.aload_n 0] (by decide +kernel) rfl ?_
  refine q_obj ob_X8_1.1 ob_X8_1.2.1 ob_X8_1.2.2 (by decide) (Nat.le_of_ble_eq_true rfl) (by decide +kernel) ?_
  exact q_ret0 rfl (by decide) (by decide) (by decide +kernel) ⟨rfl, h⟩
theorem f_X8_copyFrom {G : q_G} {X : String → q_H → Prop} {f : q_H → Prop} {A : q_H} {a0 : Nat} {a1 : Nat} (h : q_sh A a1 = (9, 0) ∧ q_sh A a0 = (9, 0) ∧ (∀ A3 : q_H, A3 = (q_setI (q_setI (q_setI A a0 0 (q_I A a1 0)) a0 1 (q_I (q_setI A a0 0 (q_I A a1 0)) a1 1)) a0 2 (q_I (q_setI (q_setI A a0 0 (q_I A a1 0)) a0 1 (q_I (q_setI A a0 0 (q_I A a1 0)) a1 1)) a1 2)) → (∀ A4 : q_H, A4 = (q_setI (q_setI (q_setI A3 a0 3 (q_I A3 a1 3)) a0 4 (q_I (q_setI A3 a0 3 (q_I A3 a1 3)) a1 4)) a0 5 (q_I (q_setI (q_setI A3 a0 3 (q_I A3 a1 3)) a0 4 (q_I (q_setI A3 a0 3 (q_I A3 a1 3)) a1 4)) a1 5)) → (∀ A5 : q_H, A5 = (q_setI (q_setI (q_setI A4 a0 6 (q_I A4 a1 6)) a0 7 (q_I (q_setI A4 a0 6 (q_I A4 a1 6)) a1 7)) a0 8 (q_I (q_setI (q_setI A4 a0 6 (q_I A4 a1 6)) a0 7 (q_I (q_setI A4 a0 6 (q_I A4 a1 6)) a1 7)) a1 8)) → f (q_setI A5 a0 9 (q_I A5 a1 9)))))) : q_Wc G M_X8_copyFrom [.ref a0, .ref a1] A (q_KV f) X := by
  refine q_Wc.of [some (.ref a0), some (.ref a1)] mo_X8_copyFrom.2.2.2.2.2 rfl (Nat.le_of_ble_eq_true rfl) rfl ?_
  refine q_blk (pc' := 2) (lo' := [some (.ref a0), some (.ref a1)]) (st' := [.ref a1, .ref a0]) [.aload_n 0, .aload_n 1] (by decide +kernel) rfl ?_
  obtain ⟨s1, h⟩ := h
  refine q_getI fl_X8_7 rfl (by decide) (by decide +kernel) s1 ?_
  obtain ⟨s2, h⟩ := h
  refine q_putI fw_X8_7 rfl (by decide) (by decide +kernel) s2 ?_
  refine q_blk (pc' := 10) (lo' := [some (.ref a0), some (.ref a1)]) (st' := [.ref a1, .ref a0]) [.aload_n 0, .aload_n 1] (by decide +kernel) rfl ?_
  refine q_getI fl_X8_13 rfl (by decide) (by decide +kernel) s1 ?_
  refine q_putI fw_X8_13 rfl (by decide) (by decide +kernel) s2 ?_
  refine q_blk (pc' := 18) (lo' := [some (.ref a0), some (.ref a1)]) (st' := [.ref a1, .ref a0]) [.aload_n 0, .aload_n 1] (by decide +kernel) rfl ?_
  refine q_getI fl_X8_16 rfl (by decide) (by decide +kernel) s1 ?_
  refine q_putI fw_X8_16 rfl (by decide) (by decide +kernel) s2 ?_
  let A3 : q_H := (q_setI (q_setI (q_setI A a0 0 (q_I A a1 0)) a0 1 (q_I (q_setI A a0 0 (q_I A a1 0)) a1 1)) a0 2 (q_I (q_setI (q_setI A a0 0 (q_I A a1 0)) a0 1 (q_I (q_setI A a0 0 (q_I A a1 0)) a1 1)) a1 2))
  have h := h A3 rfl
  show q_Wp _ _ _ _ 0 0 24 [some (.ref a0), some (.ref a1)] [] A3
  refine q_blk (pc' := 26) (lo' := [some (.ref a0), some (.ref a1)]) (st' := [.ref a1, .ref a0]) [.aload_n 0, .aload_n 1] (by decide +kernel) rfl ?_
  refine q_getI fl_X8_19 rfl (by decide) (by decide +kernel) s1 ?_
  refine q_putI fw_X8_19 rfl (by decide) (by decide +kernel) s2 ?_
  refine q_blk (pc' := 34) (lo' := [some (.ref a0), some (.ref a1)]) (st' := [.ref a1, .ref a0]) [.aload_n 0, .aload_n 1] (by decide +kernel) rfl ?_
  refine q_getI fl_X8_22 rfl (by decide) (by decide +kernel) s1 ?_
  refine q_putI fw_X8_22 rfl (by decide) (by decide +kernel) s2 ?_
  refine q_blk (pc' := 42) (lo' := [some (.ref a0), some (.ref a1)]) (st' := [.ref a1, .ref a0]) [.aload_n 0, .aload_n 1] (by decide +kernel) rfl ?_
  refine q_getI fl_X8_25 rfl (by decide) (by decide +kernel) s1 ?_
  refine q_putI fw_X8_25 rfl (by decide) (by decide +kernel) s2 ?_
  let A4 : q_H := (q_setI (q_setI (q_setI A3 a0 3 (q_I A3 a1 3)) a0 4 (q_I (q_setI A3 a0 3 (q_I A3 a1 3)) a1 4)) a0 5 (q_I (q_setI (q_setI A3 a0 3 (q_I A3 a1 3)) a0 4 (q_I (q_setI A3 a0 3 (q_I A3 a1 3)) a1 4)) a1 5))
  have h := h A4 rfl
  show q_Wp _ _ _ _ 0 0 48 [some (.ref a0), some (.ref a1)] [] A4
  refine q_blk (pc' := 50) (lo' := [some (.ref a0), some (.ref a1)]) (st' := [.ref a1, .ref a0]) [.aload_n 0, .aload_n 1] (by decide +kernel) rfl ?_
  refine q_getI fl_X8_28 rfl (by decide) (by decide +kernel) s1 ?_
  refine q_putI fw_X8_28 rfl (by decide) (by decide +kernel) s2 ?_
  refine q_blk (pc' := 58) (lo' := [some (.ref a0), some (.ref a1)]) (st' := [.ref a1, .ref a0]) [.aload_n 0, .aload_n 1] (by decide +kernel) rfl ?_
  refine q_getI fl_X8_31 rfl (by decide) (by decide +kernel) s1 ?_
  refine q_putI fw_X8_31 rfl (by decide) (by decide +kernel) s2 ?_
  refine q_blk (pc' := 66) (lo' := [some (.ref a0), some (.ref a1)]) (st' := [.ref a1, .ref a0]) [.aload_n 0, .aload_n 1] (by decide +kernel) rfl ?_
  refine q_getI fl_X8_34 rfl (by decide) (by decide +kernel) s1 ?_
  refine q_putI fw_X8_34 rfl (by decide) (by decide +kernel) s2 ?_
  let A5 : q_H := (q_setI (q_setI (q_setI A4 a0 6 (q_I A4 a1 6)) a0 7 (q_I (q_setI A4 a0 6 (q_I A4 a1 6)) a1 7)) a0 8 (q_I (q_setI (q_setI A4 a0 6 (q_I A4 a1 6)) a0 7 (q_I (q_setI A4 a0 6 (q_I A4 a1 6)) a1 7)) a1 8))
  have h := h A5 rfl
  show q_Wp _ _ _ _ 0 0 72 [some (.ref a0), some (.ref a1)] [] A5
  refine q_blk (pc' := 74) (lo' := [some (.ref a0), some (.ref a1)]) (st' := [.ref a1, .ref a0]) [.aload_n 0, .aload_n 1] (by decide +kernel) rfl ?_
  refine q_getI fl_X8_37 rfl (by decide) (by decide +kernel) s1 ?_
  refine q_putI fw_X8_37 rfl (by decide) (by decide +kernel) s2 ?_
  exact q_ret0 rfl (by decide) (by decide) (by decide +kernel) ⟨rfl, h⟩

/-! CONDITIONS: RecyclingLineModel -/
theorem f_X11_thrown {G : q_G} {X : String → q_H → Prop} {f : Int32 → q_H → Prop} {A : q_H} {a0 : Nat} (h : q_sh A a0 = (12, 0) ∧ f (q_I A a0 0) A) : q_Wc G M_X11_thrown [.ref a0] A (q_KI f) X := by
  refine q_Wc.of [some (.ref a0)] mo_X11_thrown.2.2.2.2.2 rfl (Nat.le_of_ble_eq_true rfl) rfl ?_
  refine q_blk (pc' := 1) (lo' := [some (.ref a0)]) (st' := [.ref a0]) [.aload_n 0] (by decide +kernel) rfl ?_
  obtain ⟨s1, h⟩ := h
  refine q_getI fl_X11_1 rfl (by decide) (by decide +kernel) s1 ?_
  exact q_retI rfl (by decide) (by decide) (by decide +kernel) ⟨_, rfl, h⟩
theorem f_X11_isIn {G : q_G} {X : String → q_H → Prop} {f : Bool → q_H → Prop} {A : q_H} {w0 : Int64} {w2 : Int64} {w4 : Int64} (h : ((w0 < w2 → f false A) ∧ (¬ w0 < w2 → ((w4 < w0 → f false A) ∧ (¬ w4 < w0 → f true A))))) : q_Wc G M_X11_isIn [.long w0, .long w2, .long w4] A (q_KB f) X := by
  refine q_Wc.of [some (.long w0), none, some (.long w2), none, some (.long w4), none] mo_X11_isIn.2.2.2.2.2 rfl (Nat.le_of_ble_eq_true rfl) rfl ?_
  refine q_blk (pc' := 3) (lo' := [some (.long w0), none, some (.long w2), none, some (.long w4), none]) (st' := [.int (lg_cmp w0 w2)]) [.lload_n 0, .lload_n 2, .lcmp] (by decide +kernel) rfl ?_
  refine q_if_lt 17 (off := 14) (by decide +kernel) (by decide) (fun c1 => ?_) (fun c1 => ?_)
  · have h := h.1 ((lg_cmp_lt w0 w2).mp c1)
    refine q_blk (pc' := 18) (lo' := [some (.long w0), none, some (.long w2), none, some (.long w4), none]) (st' := [.int (nI 0)]) [.iconst 0] (by decide +kernel) rfl ?_
    exact q_retZ (r := q_i false) rfl (q_nz _) (by decide) (by decide) (by decide +kernel) ⟨false, rfl, h⟩
  · have h := h.2 (fun q9 => c1 ((lg_cmp_lt w0 w2).mpr q9))
    refine q_blk (pc' := 10) (lo' := [some (.long w0), none, some (.long w2), none, some (.long w4), none]) (st' := [.int (lg_cmp w0 w4)]) [.lload_n 0, .lload 4, .lcmp] (by decide +kernel) rfl ?_
    refine q_if_gt 17 (off := 7) (by decide +kernel) (by decide) (fun c2 => ?_) (fun c2 => ?_)
    · have h := h.1 ((lg_cmp_gt w0 w4).mp c2)
      refine q_blk (pc' := 18) (lo' := [some (.long w0), none, some (.long w2), none, some (.long w4), none]) (st' := [.int (nI 0)]) [.iconst 0] (by decide +kernel) rfl ?_
      exact q_retZ (r := q_i false) rfl (q_nz _) (by decide) (by decide) (by decide +kernel) ⟨false, rfl, h⟩
    · have h := h.2 (fun q9 => c2 ((lg_cmp_gt w0 w4).mpr q9))
      refine q_blk (pc' := 14) (lo' := [some (.long w0), none, some (.long w2), none, some (.long w4), none]) (st' := [.int (nI 1)]) [.iconst 1] (by decide +kernel) rfl ?_
      refine q_goto 18 (off := 4) (by decide +kernel) (by decide) ?_
      exact q_retZ (r := q_i true) rfl (q_nz _) (by decide) (by decide) (by decide +kernel) ⟨true, rfl, h⟩
theorem f_X11_fails {G : q_G} {X : String → q_H → Prop} {f : Bool → q_H → Prop} {A : q_H} {a0 : Nat} {y1 : Bool} {y2 : Bool} {y3 : Bool} (h : ((y1 = true → q_sh A a0 = (12, 0) ∧ (((q_I (q_setI A a0 0 (nI 1)) a0 0) ≤ nI 0 → f false (q_setI A a0 0 (nI 1))) ∧ (¬ (q_I (q_setI A a0 0 (nI 1)) a0 0) ≤ nI 0 → f true (q_setI A a0 0 (nI 1))))) ∧ (y1 = false → ((y2 = true → q_sh A a0 = (12, 0) ∧ (((q_I (q_setI A a0 0 (nI 2)) a0 0) ≤ nI 0 → f false (q_setI A a0 0 (nI 2))) ∧ (¬ (q_I (q_setI A a0 0 (nI 2)) a0 0) ≤ nI 0 → f true (q_setI A a0 0 (nI 2))))) ∧ (y2 = false → ((y3 = true → q_sh A a0 = (12, 0) ∧ (((q_I (q_setI A a0 0 (nI 3)) a0 0) ≤ nI 0 → f false (q_setI A a0 0 (nI 3))) ∧ (¬ (q_I (q_setI A a0 0 (nI 3)) a0 0) ≤ nI 0 → f true (q_setI A a0 0 (nI 3))))) ∧ (y3 = false → q_sh A a0 = (12, 0) ∧ (((q_I (q_setI A a0 0 (nI 0)) a0 0) ≤ nI 0 → f false (q_setI A a0 0 (nI 0))) ∧ (¬ (q_I (q_setI A a0 0 (nI 0)) a0 0) ≤ nI 0 → f true (q_setI A a0 0 (nI 0))))))))))) : q_Wc G M_X11_fails [.ref a0, .int (q_i y1), .int (q_i y2), .int (q_i y3)] A (q_KB f) X := by
  refine q_Wc.of [some (.ref a0), some (.int (q_i y1)), some (.int (q_i y2)), some (.int (q_i y3))] mo_X11_fails.2.2.2.2.2 rfl (Nat.le_of_ble_eq_true rfl) rfl ?_
  refine q_blk (pc' := 2) (lo' := [some (.ref a0), some (.int (q_i y1)), some (.int (q_i y2)), some (.int (q_i y3))]) (st' := [.int (q_i y1), .ref a0]) [.aload_n 0, .iload_n 1] (by decide +kernel) rfl ?_
  refine q_ifB_eq 9 (off := 7) (by decide +kernel) (by decide) (fun c1 => ?_) (fun c1 => ?_)
  · have h := h.2 c1
    refine q_blk (pc' := 10) (lo' := [some (.ref a0), some (.int (q_i y1)), some (.int (q_i y2)), some (.int (q_i y3))]) (st' := [.int (q_i y2), .ref a0]) [.iload_n 2] (by decide +kernel) rfl ?_
    refine q_ifB_eq 17 (off := 7) (by decide +kernel) (by decide) (fun c3 => ?_) (fun c3 => ?_)
    · have h := h.2 c3
      refine q_blk (pc' := 18) (lo' := [some (.ref a0), some (.int (q_i y1)), some (.int (q_i y2)), some (.int (q_i y3))]) (st' := [.int (q_i y3), .ref a0]) [.iload_n 3] (by decide +kernel) rfl ?_
      refine q_ifB_eq 25 (off := 7) (by decide +kernel) (by decide) (fun c5 => ?_) (fun c5 => ?_)
      · have h := h.2 c5
        refine q_blk (pc' := 26) (lo' := [some (.ref a0), some (.int (q_i y1)), some (.int (q_i y2)), some (.int (q_i y3))]) (st' := [.int (nI 0), .ref a0]) [.iconst 0] (by decide +kernel) rfl ?_
        obtain ⟨s7, h⟩ := h
        refine q_putI fw_X11_1 rfl (by decide) (by decide +kernel) s7 ?_
        refine q_blk (pc' := 30) (lo' := [some (.ref a0), some (.int (q_i y1)), some (.int (q_i y2)), some (.int (q_i y3))]) (st' := [.ref a0]) [.aload_n 0] (by decide +kernel) rfl ?_
        refine q_getI fl_X11_1 rfl (by decide) (by decide +kernel) s7 ?_
        refine q_if_le 40 (off := 7) (by decide +kernel) (by decide) (fun c8 => ?_) (fun c8 => ?_)
        · have h := h.1 c8
          refine q_blk (pc' := 41) (lo' := [some (.ref a0), some (.int (q_i y1)), some (.int (q_i y2)), some (.int (q_i y3))]) (st' := [.int (nI 0)]) [.iconst 0] (by decide +kernel) rfl ?_
          exact q_retZ (r := q_i false) rfl (q_nz _) (by decide) (by decide) (by decide +kernel) ⟨false, rfl, h⟩
        · have h := h.2 c8
          refine q_blk (pc' := 37) (lo' := [some (.ref a0), some (.int (q_i y1)), some (.int (q_i y2)), some (.int (q_i y3))]) (st' := [.int (nI 1)]) [.iconst 1] (by decide +kernel) rfl ?_
          refine q_goto 41 (off := 4) (by decide +kernel) (by decide) ?_
          exact q_retZ (r := q_i true) rfl (q_nz _) (by decide) (by decide) (by decide +kernel) ⟨true, rfl, h⟩
      · have h := h.1 c5
        refine q_blk (pc' := 22) (lo' := [some (.ref a0), some (.int (q_i y1)), some (.int (q_i y2)), some (.int (q_i y3))]) (st' := [.int (nI 3), .ref a0]) [.iconst 3] (by decide +kernel) rfl ?_
        refine q_goto 26 (off := 4) (by decide +kernel) (by decide) ?_
        obtain ⟨s9, h⟩ := h
        refine q_putI fw_X11_1 rfl (by decide) (by decide +kernel) s9 ?_
        refine q_blk (pc' := 30) (lo' := [some (.ref a0), some (.int (q_i y1)), some (.int (q_i y2)), some (.int (q_i y3))]) (st' := [.ref a0]) [.aload_n 0] (by decide +kernel) rfl ?_
        refine q_getI fl_X11_1 rfl (by decide) (by decide +kernel) s9 ?_
        refine q_if_le 40 (off := 7) (by decide +kernel) (by decide) (fun c10 => ?_) (fun c10 => ?_)
        · have h := h.1 c10
          refine q_blk (pc' := 41) (lo' := [some (.ref a0), some (.int (q_i y1)), some (.int (q_i y2)), some (.int (q_i y3))]) (st' := [.int (nI 0)]) [.iconst 0] (by decide +kernel) rfl ?_
          exact q_retZ (r := q_i false) rfl (q_nz _) (by decide) (by decide) (by decide +kernel) ⟨false, rfl, h⟩
        · have h := h.2 c10
          refine q_blk (pc' := 37) (lo' := [some (.ref a0), some (.int (q_i y1)), some (.int (q_i y2)), some (.int (q_i y3))]) (st' := [.int (nI 1)]) [.iconst 1] (by decide +kernel) rfl ?_
          refine q_goto 41 (off := 4) (by decide +kernel) (by decide) ?_
          exact q_retZ (r := q_i true) rfl (q_nz _) (by decide) (by decide) (by decide +kernel) ⟨true, rfl, h⟩
    · have h := h.1 c3
      refine q_blk (pc' := 14) (lo' := [some (.ref a0), some (.int (q_i y1)), some (.int (q_i y2)), some (.int (q_i y3))]) (st' := [.int (nI 2), .ref a0]) [.iconst 2] (by decide +kernel) rfl ?_
      refine q_goto 26 (off := 12) (by decide +kernel) (by decide) ?_
      obtain ⟨s11, h⟩ := h
      refine q_putI fw_X11_1 rfl (by decide) (by decide +kernel) s11 ?_
      refine q_blk (pc' := 30) (lo' := [some (.ref a0), some (.int (q_i y1)), some (.int (q_i y2)), some (.int (q_i y3))]) (st' := [.ref a0]) [.aload_n 0] (by decide +kernel) rfl ?_
      refine q_getI fl_X11_1 rfl (by decide) (by decide +kernel) s11 ?_
      refine q_if_le 40 (off := 7) (by decide +kernel) (by decide) (fun c12 => ?_) (fun c12 => ?_)
      · have h := h.1 c12
        refine q_blk (pc' := 41) (lo' := [some (.ref a0), some (.int (q_i y1)), some (.int (q_i y2)), some (.int (q_i y3))]) (st' := [.int (nI 0)]) [.iconst 0] (by decide +kernel) rfl ?_
        exact q_retZ (r := q_i false) rfl (q_nz _) (by decide) (by decide) (by decide +kernel) ⟨false, rfl, h⟩
      · have h := h.2 c12
        refine q_blk (pc' := 37) (lo' := [some (.ref a0), some (.int (q_i y1)), some (.int (q_i y2)), some (.int (q_i y3))]) (st' := [.int (nI 1)]) [.iconst 1] (by decide +kernel) rfl ?_
        refine q_goto 41 (off := 4) (by decide +kernel) (by decide) ?_
        exact q_retZ (r := q_i true) rfl (q_nz _) (by decide) (by decide) (by decide +kernel) ⟨true, rfl, h⟩
  · have h := h.1 c1
    refine q_blk (pc' := 6) (lo' := [some (.ref a0), some (.int (q_i y1)), some (.int (q_i y2)), some (.int (q_i y3))]) (st' := [.int (nI 1), .ref a0]) [.iconst 1] (by decide +kernel) rfl ?_
    refine q_goto 26 (off := 20) (by decide +kernel) (by decide) ?_
    obtain ⟨s13, h⟩ := h
    refine q_putI fw_X11_1 rfl (by decide) (by decide +kernel) s13 ?_
    refine q_blk (pc' := 30) (lo' := [some (.ref a0), some (.int (q_i y1)), some (.int (q_i y2)), some (.int (q_i y3))]) (st' := [.ref a0]) [.aload_n 0] (by decide +kernel) rfl ?_
    refine q_getI fl_X11_1 rfl (by decide) (by decide +kernel) s13 ?_
    refine q_if_le 40 (off := 7) (by decide +kernel) (by decide) (fun c14 => ?_) (fun c14 => ?_)
    · have h := h.1 c14
      refine q_blk (pc' := 41) (lo' := [some (.ref a0), some (.int (q_i y1)), some (.int (q_i y2)), some (.int (q_i y3))]) (st' := [.int (nI 0)]) [.iconst 0] (by decide +kernel) rfl ?_
      exact q_retZ (r := q_i false) rfl (q_nz _) (by decide) (by decide) (by decide +kernel) ⟨false, rfl, h⟩
    · have h := h.2 c14
      refine q_blk (pc' := 37) (lo' := [some (.ref a0), some (.int (q_i y1)), some (.int (q_i y2)), some (.int (q_i y3))]) (st' := [.int (nI 1)]) [.iconst 1] (by decide +kernel) rfl ?_
      refine q_goto 41 (off := 4) (by decide +kernel) (by decide) ?_
      exact q_retZ (r := q_i true) rfl (q_nz _) (by decide) (by decide) (by decide +kernel) ⟨true, rfl, h⟩
theorem f_X11_init {G : q_G} {X : String → q_H → Prop} {f : q_H → Prop} {A : q_H} {a0 : Nat} (h : (∀ A2 : q_H, A2 = (q_setI (q_setI (q_setI (q_setI (q_setI (q_setI (q_new A 50 24) (q_sz A) 0 (nI 1)) (q_sz A) 1 (nI 200)) (q_sz A) 2 (nI 50)) (q_sz A) 3 (nI 20)) (q_sz A) 4 (nI 500)) (q_sz A) 5 (nI 100)) → (∀ A3 : q_H, A3 = (q_setI (q_setI (q_setI (q_setI (q_setI (q_setI A2 (q_sz A) 6 (nI 0)) (q_sz A) 7 (nI 100)) (q_sz A) 8 (nI 95)) (q_sz A) 9 (nI 0)) (q_sz A) 10 (nI 100)) (q_sz A) 11 (nI 85)) → (∀ A4 : q_H, A4 = (q_setI (q_setI (q_setI (q_setI (q_setI (q_setI A3 (q_sz A) 12 (nI 0)) (q_sz A) 13 (nI 100)) (q_sz A) 14 (nI 20)) (q_sz A) 15 (nI 0)) (q_sz A) 16 (nI 5)) (q_sz A) 17 (nI 2)) → (∀ A5 : q_H, A5 = (q_setI (q_setI (q_setI (q_setI (q_setI (q_setI A4 (q_sz A) 18 (nI 0)) (q_sz A) 19 (nI 5)) (q_sz A) 20 (nI 1)) (q_sz A) 21 (nI 0)) (q_sz A) 22 (nI 20)) (q_sz A) 23 (nI 2)) → q_sh (q_new A 50 24) a0 = (12, 0) ∧ q_sh (q_new (q_setR A5 a0 1 (some (q_sz A))) 50 47) a0 = (12, 0) ∧ q_sh (q_new (q_setR (q_new (q_setR A5 a0 1 (some (q_sz A))) 50 47) a0 2 (some (q_sz (q_setR A5 a0 1 (some (q_sz A)))))) 50 47) a0 = (12, 0) ∧ (∀ A11 : q_H, A11 = (q_setR (q_new (q_setR (q_new (q_setR A5 a0 1 (some (q_sz A))) 50 47) a0 2 (some (q_sz (q_setR A5 a0 1 (some (q_sz A)))))) 50 47) a0 3 (some (q_sz (q_setR (q_new (q_setR A5 a0 1 (some (q_sz A))) 50 47) a0 2 (some (q_sz (q_setR A5 a0 1 (some (q_sz A))))))))) → q_sh (q_new A11 52 4) a0 = (12, 0) ∧ q_sh (q_new (q_setR (q_new A11 52 4) a0 4 (some (q_sz A11))) 52 4) a0 = (12, 0) ∧ q_sh (q_new (q_setR (q_new (q_setR (q_new A11 52 4) a0 4 (some (q_sz A11))) 52 4) a0 5 (some (q_sz (q_setR (q_new A11 52 4) a0 4 (some (q_sz A11)))))) 50 788) a0 = (12, 0) ∧ (∀ A18 : q_H, A18 = (q_setR (q_new (q_setR (q_new (q_setR (q_new A11 52 4) a0 4 (some (q_sz A11))) 52 4) a0 5 (some (q_sz (q_setR (q_new A11 52 4) a0 4 (some (q_sz A11)))))) 50 788) a0 6 (some (q_sz (q_setR (q_new (q_setR (q_new A11 52 4) a0 4 (some (q_sz A11))) 52 4) a0 5 (some (q_sz (q_setR (q_new A11 52 4) a0 4 (some (q_sz A11))))))))) → q_sh (q_new A18 50 788) a0 = (12, 0) ∧ q_sh (q_new (q_setR (q_new A18 50 788) a0 7 (some (q_sz A18))) 50 788) a0 = (12, 0) ∧ q_sh (q_new (q_setR (q_new (q_setR (q_new A18 50 788) a0 7 (some (q_sz A18))) 50 788) a0 8 (some (q_sz (q_setR (q_new A18 50 788) a0 7 (some (q_sz A18)))))) 50 4728) a0 = (12, 0) ∧ (∀ A25 : q_H, A25 = (q_setR (q_new (q_setR (q_new (q_setR (q_new A18 50 788) a0 7 (some (q_sz A18))) 50 788) a0 8 (some (q_sz (q_setR (q_new A18 50 788) a0 7 (some (q_sz A18)))))) 50 4728) a0 9 (some (q_sz (q_setR (q_new (q_setR (q_new A18 50 788) a0 7 (some (q_sz A18))) 50 788) a0 8 (some (q_sz (q_setR (q_new A18 50 788) a0 7 (some (q_sz A18))))))))) → q_sh (q_new A25 50 700) a0 = (12, 0) ∧ q_sh (q_new (q_setR (q_new A25 50 700) a0 11 (some (q_sz A25))) 50 1) a0 = (12, 0) ∧ q_sh (q_new (q_setR (q_new (q_setR (q_new A25 50 700) a0 11 (some (q_sz A25))) 50 1) a0 20 (some (q_sz (q_setR (q_new A25 50 700) a0 11 (some (q_sz A25)))))) 50 6) a0 = (12, 0) ∧ (∀ A32 : q_H, A32 = (q_setR (q_new (q_setR (q_new (q_setR (q_new A25 50 700) a0 11 (some (q_sz A25))) 50 1) a0 20 (some (q_sz (q_setR (q_new A25 50 700) a0 11 (some (q_sz A25)))))) 50 6) a0 21 (some (q_sz (q_setR (q_new (q_setR (q_new A25 50 700) a0 11 (some (q_sz A25))) 50 1) a0 20 (some (q_sz (q_setR (q_new A25 50 700) a0 11 (some (q_sz A25))))))))) → q_Wc G M_X11_lays [.ref a0] A32 (q_KV fun A33 => q_sh A33 a0 = (12, 0) ∧ ∃ r36 : Nat, q_R A33 a0 3 = some r36 ∧ ∃ z39 : Nat, q_sh A33 r36 = (50, z39) ∧ z39 < 2147483648 ∧ 0 < z39 ∧ 1 < z39 ∧ 4 < z39 ∧ q_Wc G M_X11_becomes [.ref a0] (q_setI (q_setI (q_setI A33 r36 0 (nI 1)) r36 1 (nI 1)) r36 4 (nI 1)) (q_KV fun A44 => f A44) q_nX) q_nX))))))))) : q_Wc G M_X11_init [.ref a0] A (q_KV f) X := by
  refine q_Wc.of [some (.ref a0)] mo_X11_init.2.2.2.2.2 rfl (Nat.le_of_ble_eq_true rfl) rfl ?_
  refine q_blk (pc' := 1) (lo' := [some (.ref a0)]) (st' := [.ref a0]) [.aload_n 0] (by decide +kernel) rfl ?_
  refine q_obj ob_X11_7.1 ob_X11_7.2.1 ob_X11_7.2.2 (by decide) (Nat.le_of_ble_eq_true rfl) (by decide +kernel) ?_
  refine q_blk (pc' := 7) (lo' := [some (.ref a0)]) (st' := [.int (nI 24), .ref a0]) [.aload_n 0, .bipush 24] (by decide +kernel) rfl ?_
  refine q_newI (z := 24) ac_int rfl (by decide) (by decide) (by decide) (by decide +kernel) ?_
  have s1 : q_sh (q_new A 50 24) (q_sz A) = (50, 24) := q_shn _ _ _
  refine q_blk (pc' := 12) (lo' := [some (.ref a0)]) (st' := [.int (nI 1), .int (nI 0), .ref (q_sz A), .ref (q_sz A), .ref a0]) [.dup, .iconst 0, .iconst 1] (by decide +kernel) rfl ?_
  refine q_iast rfl (by decide +kernel) s1 (by decide) (by decide) ?_
  refine q_blk (pc' := 18) (lo' := [some (.ref a0)]) (st' := [.int (nI 200), .int (nI 1), .ref (q_sz A), .ref (q_sz A), .ref a0]) [.dup, .iconst 1, .sipush 200] (by decide +kernel) rfl ?_
  refine q_iast rfl (by decide +kernel) s1 (by decide) (by decide) ?_
  refine q_blk (pc' := 23) (lo' := [some (.ref a0)]) (st' := [.int (nI 50), .int (nI 2), .ref (q_sz A), .ref (q_sz A), .ref a0]) [.dup, .iconst 2, .bipush 50] (by decide +kernel) rfl ?_
  refine q_iast rfl (by decide +kernel) s1 (by decide) (by decide) ?_
  refine q_blk (pc' := 28) (lo' := [some (.ref a0)]) (st' := [.int (nI 20), .int (nI 3), .ref (q_sz A), .ref (q_sz A), .ref a0]) [.dup, .iconst 3, .bipush 20] (by decide +kernel) rfl ?_
  refine q_iast rfl (by decide +kernel) s1 (by decide) (by decide) ?_
  refine q_blk (pc' := 34) (lo' := [some (.ref a0)]) (st' := [.int (nI 500), .int (nI 4), .ref (q_sz A), .ref (q_sz A), .ref a0]) [.dup, .iconst 4, .sipush 500] (by decide +kernel) rfl ?_
  refine q_iast rfl (by decide +kernel) s1 (by decide) (by decide) ?_
  refine q_blk (pc' := 39) (lo' := [some (.ref a0)]) (st' := [.int (nI 100), .int (nI 5), .ref (q_sz A), .ref (q_sz A), .ref a0]) [.dup, .iconst 5, .bipush 100] (by decide +kernel) rfl ?_
  refine q_iast rfl (by decide +kernel) s1 (by decide) (by decide) ?_
  let A2 : q_H := (q_setI (q_setI (q_setI (q_setI (q_setI (q_setI (q_new A 50 24) (q_sz A) 0 (nI 1)) (q_sz A) 1 (nI 200)) (q_sz A) 2 (nI 50)) (q_sz A) 3 (nI 20)) (q_sz A) 4 (nI 500)) (q_sz A) 5 (nI 100))
  have h := h A2 rfl
  show q_Wp _ _ _ _ 1 24 40 [some (.ref a0)] [.ref (q_sz A), .ref a0] A2
  refine q_blk (pc' := 44) (lo' := [some (.ref a0)]) (st' := [.int (nI 0), .int (nI 6), .ref (q_sz A), .ref (q_sz A), .ref a0]) [.dup, .bipush 6, .iconst 0] (by decide +kernel) rfl ?_
  refine q_iast rfl (by decide +kernel) s1 (by decide) (by decide) ?_
  refine q_blk (pc' := 50) (lo' := [some (.ref a0)]) (st' := [.int (nI 100), .int (nI 7), .ref (q_sz A), .ref (q_sz A), .ref a0]) [.dup, .bipush 7, .bipush 100] (by decide +kernel) rfl ?_
  refine q_iast rfl (by decide +kernel) s1 (by decide) (by decide) ?_
  refine q_blk (pc' := 56) (lo' := [some (.ref a0)]) (st' := [.int (nI 95), .int (nI 8), .ref (q_sz A), .ref (q_sz A), .ref a0]) [.dup, .bipush 8, .bipush 95] (by decide +kernel) rfl ?_
  refine q_iast rfl (by decide +kernel) s1 (by decide) (by decide) ?_
  refine q_blk (pc' := 61) (lo' := [some (.ref a0)]) (st' := [.int (nI 0), .int (nI 9), .ref (q_sz A), .ref (q_sz A), .ref a0]) [.dup, .bipush 9, .iconst 0] (by decide +kernel) rfl ?_
  refine q_iast rfl (by decide +kernel) s1 (by decide) (by decide) ?_
  refine q_blk (pc' := 67) (lo' := [some (.ref a0)]) (st' := [.int (nI 100), .int (nI 10), .ref (q_sz A), .ref (q_sz A), .ref a0]) [.dup, .bipush 10, .bipush 100] (by decide +kernel) rfl ?_
  refine q_iast rfl (by decide +kernel) s1 (by decide) (by decide) ?_
  refine q_blk (pc' := 73) (lo' := [some (.ref a0)]) (st' := [.int (nI 85), .int (nI 11), .ref (q_sz A), .ref (q_sz A), .ref a0]) [.dup, .bipush 11, .bipush 85] (by decide +kernel) rfl ?_
  refine q_iast rfl (by decide +kernel) s1 (by decide) (by decide) ?_
  let A3 : q_H := (q_setI (q_setI (q_setI (q_setI (q_setI (q_setI A2 (q_sz A) 6 (nI 0)) (q_sz A) 7 (nI 100)) (q_sz A) 8 (nI 95)) (q_sz A) 9 (nI 0)) (q_sz A) 10 (nI 100)) (q_sz A) 11 (nI 85))
  have h := h A3 rfl
  show q_Wp _ _ _ _ 1 24 74 [some (.ref a0)] [.ref (q_sz A), .ref a0] A3
  refine q_blk (pc' := 78) (lo' := [some (.ref a0)]) (st' := [.int (nI 0), .int (nI 12), .ref (q_sz A), .ref (q_sz A), .ref a0]) [.dup, .bipush 12, .iconst 0] (by decide +kernel) rfl ?_
  refine q_iast rfl (by decide +kernel) s1 (by decide) (by decide) ?_
  refine q_blk (pc' := 84) (lo' := [some (.ref a0)]) (st' := [.int (nI 100), .int (nI 13), .ref (q_sz A), .ref (q_sz A), .ref a0]) [.dup, .bipush 13, .bipush 100] (by decide +kernel) rfl ?_
  refine q_iast rfl (by decide +kernel) s1 (by decide) (by decide) ?_
  refine q_blk (pc' := 90) (lo' := [some (.ref a0)]) (st' := [.int (nI 20), .int (nI 14), .ref (q_sz A), .ref (q_sz A), .ref a0]) [.dup, .bipush 14, .bipush 20] (by decide +kernel) rfl ?_
  refine q_iast rfl (by decide +kernel) s1 (by decide) (by decide) ?_
  refine q_blk (pc' := 95) (lo' := [some (.ref a0)]) (st' := [.int (nI 0), .int (nI 15), .ref (q_sz A), .ref (q_sz A), .ref a0]) [.dup, .bipush 15, .iconst 0] (by decide +kernel) rfl ?_
  refine q_iast rfl (by decide +kernel) s1 (by decide) (by decide) ?_
  refine q_blk (pc' := 100) (lo' := [some (.ref a0)]) (st' := [.int (nI 5), .int (nI 16), .ref (q_sz A), .ref (q_sz A), .ref a0]) [.dup, .bipush 16, .iconst 5] (by decide +kernel) rfl ?_
  refine q_iast rfl (by decide +kernel) s1 (by decide) (by decide) ?_
  refine q_blk (pc' := 105) (lo' := [some (.ref a0)]) (st' := [.int (nI 2), .int (nI 17), .ref (q_sz A), .ref (q_sz A), .ref a0]) [.dup, .bipush 17, .iconst 2] (by decide +kernel) rfl ?_
  refine q_iast rfl (by decide +kernel) s1 (by decide) (by decide) ?_
  let A4 : q_H := (q_setI (q_setI (q_setI (q_setI (q_setI (q_setI A3 (q_sz A) 12 (nI 0)) (q_sz A) 13 (nI 100)) (q_sz A) 14 (nI 20)) (q_sz A) 15 (nI 0)) (q_sz A) 16 (nI 5)) (q_sz A) 17 (nI 2))
  have h := h A4 rfl
  show q_Wp _ _ _ _ 1 24 106 [some (.ref a0)] [.ref (q_sz A), .ref a0] A4
  refine q_blk (pc' := 110) (lo' := [some (.ref a0)]) (st' := [.int (nI 0), .int (nI 18), .ref (q_sz A), .ref (q_sz A), .ref a0]) [.dup, .bipush 18, .iconst 0] (by decide +kernel) rfl ?_
  refine q_iast rfl (by decide +kernel) s1 (by decide) (by decide) ?_
  refine q_blk (pc' := 115) (lo' := [some (.ref a0)]) (st' := [.int (nI 5), .int (nI 19), .ref (q_sz A), .ref (q_sz A), .ref a0]) [.dup, .bipush 19, .iconst 5] (by decide +kernel) rfl ?_
  refine q_iast rfl (by decide +kernel) s1 (by decide) (by decide) ?_
  refine q_blk (pc' := 120) (lo' := [some (.ref a0)]) (st' := [.int (nI 1), .int (nI 20), .ref (q_sz A), .ref (q_sz A), .ref a0]) [.dup, .bipush 20, .iconst 1] (by decide +kernel) rfl ?_
  refine q_iast rfl (by decide +kernel) s1 (by decide) (by decide) ?_
  refine q_blk (pc' := 125) (lo' := [some (.ref a0)]) (st' := [.int (nI 0), .int (nI 21), .ref (q_sz A), .ref (q_sz A), .ref a0]) [.dup, .bipush 21, .iconst 0] (by decide +kernel) rfl ?_
  refine q_iast rfl (by decide +kernel) s1 (by decide) (by decide) ?_
  refine q_blk (pc' := 131) (lo' := [some (.ref a0)]) (st' := [.int (nI 20), .int (nI 22), .ref (q_sz A), .ref (q_sz A), .ref a0]) [.dup, .bipush 22, .bipush 20] (by decide +kernel) rfl ?_
  refine q_iast rfl (by decide +kernel) s1 (by decide) (by decide) ?_
  refine q_blk (pc' := 136) (lo' := [some (.ref a0)]) (st' := [.int (nI 2), .int (nI 23), .ref (q_sz A), .ref (q_sz A), .ref a0]) [.dup, .bipush 23, .iconst 2] (by decide +kernel) rfl ?_
  refine q_iast rfl (by decide +kernel) s1 (by decide) (by decide) ?_
  let A5 : q_H := (q_setI (q_setI (q_setI (q_setI (q_setI (q_setI A4 (q_sz A) 18 (nI 0)) (q_sz A) 19 (nI 5)) (q_sz A) 20 (nI 1)) (q_sz A) 21 (nI 0)) (q_sz A) 22 (nI 20)) (q_sz A) 23 (nI 2))
  have h := h A5 rfl
  show q_Wp _ _ _ _ 1 24 137 [some (.ref a0)] [.ref (q_sz A), .ref a0] A5
  obtain ⟨s6, h⟩ := h
  refine q_putP (v := (some (q_sz A))) fp_X11_13 rfl rfl (by decide) (by decide +kernel) s6 ?_
  refine q_blk (pc' := 143) (lo' := [some (.ref a0)]) (st' := [.int (nI 47), .ref a0]) [.aload_n 0, .bipush 47] (by decide +kernel) rfl ?_
  refine q_newI (z := 47) ac_int rfl (by decide) (by decide) (by decide) (by decide +kernel) ?_
  have s7 : q_sh (q_new (q_setR A5 a0 1 (some (q_sz A))) 50 47) (q_sz (q_setR A5 a0 1 (some (q_sz A)))) = (50, 47) := q_shn _ _ _
  obtain ⟨s8, h⟩ := h
  refine q_putP (v := (some (q_sz (q_setR A5 a0 1 (some (q_sz A)))))) fp_X11_17 rfl rfl (by decide) (by decide +kernel) s8 ?_
  refine q_blk (pc' := 151) (lo' := [some (.ref a0)]) (st' := [.int (nI 47), .ref a0]) [.aload_n 0, .bipush 47] (by decide +kernel) rfl ?_
  refine q_newI (z := 47) ac_int rfl (by decide) (by decide) (by decide) (by decide +kernel) ?_
  have s9 : q_sh (q_new (q_setR (q_new (q_setR A5 a0 1 (some (q_sz A))) 50 47) a0 2 (some (q_sz (q_setR A5 a0 1 (some (q_sz A)))))) 50 47) (q_sz (q_setR (q_new (q_setR A5 a0 1 (some (q_sz A))) 50 47) a0 2 (some (q_sz (q_setR A5 a0 1 (some (q_sz A))))))) = (50, 47) := q_shn _ _ _
  obtain ⟨s10, h⟩ := h
  refine q_putP (v := (some (q_sz (q_setR (q_new (q_setR A5 a0 1 (some (q_sz A))) 50 47) a0 2 (some (q_sz (q_setR A5 a0 1 (some (q_sz A))))))))) fp_X11_20 rfl rfl (by decide) (by decide +kernel) s10 ?_
  let A11 : q_H := (q_setR (q_new (q_setR (q_new (q_setR A5 a0 1 (some (q_sz A))) 50 47) a0 2 (some (q_sz (q_setR A5 a0 1 (some (q_sz A)))))) 50 47) a0 3 (some (q_sz (q_setR (q_new (q_setR A5 a0 1 (some (q_sz A))) 50 47) a0 2 (some (q_sz (q_setR A5 a0 1 (some (q_sz A)))))))))
  have h := h A11 rfl
  show q_Wp _ _ _ _ 3 118 156 [some (.ref a0)] [] A11
  refine q_blk (pc' := 158) (lo' := [some (.ref a0)]) (st' := [.int (nI 4), .ref a0]) [.aload_n 0, .iconst 4] (by decide +kernel) rfl ?_
  refine q_newL (z := 4) ac_long rfl (by decide) (by decide) (by decide) (by decide +kernel) ?_
  have s12 : q_sh (q_new A11 52 4) (q_sz A11) = (52, 4) := q_shn _ _ _
  obtain ⟨s13, h⟩ := h
  refine q_putP (v := (some (q_sz A11))) fp_X11_23 rfl rfl (by decide) (by decide +kernel) s13 ?_
  refine q_blk (pc' := 165) (lo' := [some (.ref a0)]) (st' := [.int (nI 4), .ref a0]) [.aload_n 0, .iconst 4] (by decide +kernel) rfl ?_
  refine q_newL (z := 4) ac_long rfl (by decide) (by decide) (by decide) (by decide +kernel) ?_
  have s14 : q_sh (q_new (q_setR (q_new A11 52 4) a0 4 (some (q_sz A11))) 52 4) (q_sz (q_setR (q_new A11 52 4) a0 4 (some (q_sz A11)))) = (52, 4) := q_shn _ _ _
  obtain ⟨s15, h⟩ := h
  refine q_putP (v := (some (q_sz (q_setR (q_new A11 52 4) a0 4 (some (q_sz A11)))))) fp_X11_27 rfl rfl (by decide) (by decide +kernel) s15 ?_
  refine q_blk (pc' := 174) (lo' := [some (.ref a0)]) (st' := [.int (nI 788), .ref a0]) [.aload_n 0, .sipush 788] (by decide +kernel) rfl ?_
  refine q_newI (z := 788) ac_int rfl (by decide) (by decide) (by decide) (by decide +kernel) ?_
  have s16 : q_sh (q_new (q_setR (q_new (q_setR (q_new A11 52 4) a0 4 (some (q_sz A11))) 52 4) a0 5 (some (q_sz (q_setR (q_new A11 52 4) a0 4 (some (q_sz A11)))))) 50 788) (q_sz (q_setR (q_new (q_setR (q_new A11 52 4) a0 4 (some (q_sz A11))) 52 4) a0 5 (some (q_sz (q_setR (q_new A11 52 4) a0 4 (some (q_sz A11))))))) = (50, 788) := q_shn _ _ _
  obtain ⟨s17, h⟩ := h
  refine q_putP (v := (some (q_sz (q_setR (q_new (q_setR (q_new A11 52 4) a0 4 (some (q_sz A11))) 52 4) a0 5 (some (q_sz (q_setR (q_new A11 52 4) a0 4 (some (q_sz A11))))))))) fp_X11_30 rfl rfl (by decide) (by decide +kernel) s17 ?_
  let A18 : q_H := (q_setR (q_new (q_setR (q_new (q_setR (q_new A11 52 4) a0 4 (some (q_sz A11))) 52 4) a0 5 (some (q_sz (q_setR (q_new A11 52 4) a0 4 (some (q_sz A11)))))) 50 788) a0 6 (some (q_sz (q_setR (q_new (q_setR (q_new A11 52 4) a0 4 (some (q_sz A11))) 52 4) a0 5 (some (q_sz (q_setR (q_new A11 52 4) a0 4 (some (q_sz A11)))))))))
  have h := h A18 rfl
  show q_Wp _ _ _ _ 6 914 179 [some (.ref a0)] [] A18
  refine q_blk (pc' := 183) (lo' := [some (.ref a0)]) (st' := [.int (nI 788), .ref a0]) [.aload_n 0, .sipush 788] (by decide +kernel) rfl ?_
  refine q_newI (z := 788) ac_int rfl (by decide) (by decide) (by decide) (by decide +kernel) ?_
  have s19 : q_sh (q_new A18 50 788) (q_sz A18) = (50, 788) := q_shn _ _ _
  obtain ⟨s20, h⟩ := h
  refine q_putP (v := (some (q_sz A18))) fp_X11_33 rfl rfl (by decide) (by decide +kernel) s20 ?_
  refine q_blk (pc' := 192) (lo' := [some (.ref a0)]) (st' := [.int (nI 788), .ref a0]) [.aload_n 0, .sipush 788] (by decide +kernel) rfl ?_
  refine q_newI (z := 788) ac_int rfl (by decide) (by decide) (by decide) (by decide +kernel) ?_
  have s21 : q_sh (q_new (q_setR (q_new A18 50 788) a0 7 (some (q_sz A18))) 50 788) (q_sz (q_setR (q_new A18 50 788) a0 7 (some (q_sz A18)))) = (50, 788) := q_shn _ _ _
  obtain ⟨s22, h⟩ := h
  refine q_putP (v := (some (q_sz (q_setR (q_new A18 50 788) a0 7 (some (q_sz A18)))))) fp_X11_36 rfl rfl (by decide) (by decide +kernel) s22 ?_
  refine q_blk (pc' := 201) (lo' := [some (.ref a0)]) (st' := [.int (nI 4728), .ref a0]) [.aload_n 0, .sipush 4728] (by decide +kernel) rfl ?_
  refine q_newI (z := 4728) ac_int rfl (by decide) (by decide) (by decide) (by decide +kernel) ?_
  have s23 : q_sh (q_new (q_setR (q_new (q_setR (q_new A18 50 788) a0 7 (some (q_sz A18))) 50 788) a0 8 (some (q_sz (q_setR (q_new A18 50 788) a0 7 (some (q_sz A18)))))) 50 4728) (q_sz (q_setR (q_new (q_setR (q_new A18 50 788) a0 7 (some (q_sz A18))) 50 788) a0 8 (some (q_sz (q_setR (q_new A18 50 788) a0 7 (some (q_sz A18))))))) = (50, 4728) := q_shn _ _ _
  obtain ⟨s24, h⟩ := h
  refine q_putP (v := (some (q_sz (q_setR (q_new (q_setR (q_new A18 50 788) a0 7 (some (q_sz A18))) 50 788) a0 8 (some (q_sz (q_setR (q_new A18 50 788) a0 7 (some (q_sz A18))))))))) fp_X11_39 rfl rfl (by decide) (by decide +kernel) s24 ?_
  let A25 : q_H := (q_setR (q_new (q_setR (q_new (q_setR (q_new A18 50 788) a0 7 (some (q_sz A18))) 50 788) a0 8 (some (q_sz (q_setR (q_new A18 50 788) a0 7 (some (q_sz A18)))))) 50 4728) a0 9 (some (q_sz (q_setR (q_new (q_setR (q_new A18 50 788) a0 7 (some (q_sz A18))) 50 788) a0 8 (some (q_sz (q_setR (q_new A18 50 788) a0 7 (some (q_sz A18)))))))))
  have h := h A25 rfl
  show q_Wp _ _ _ _ 9 7218 206 [some (.ref a0)] [] A25
  refine q_blk (pc' := 210) (lo' := [some (.ref a0)]) (st' := [.int (nI 700), .ref a0]) [.aload_n 0, .sipush 700] (by decide +kernel) rfl ?_
  refine q_newI (z := 700) ac_int rfl (by decide) (by decide) (by decide) (by decide +kernel) ?_
  have s26 : q_sh (q_new A25 50 700) (q_sz A25) = (50, 700) := q_shn _ _ _
  obtain ⟨s27, h⟩ := h
  refine q_putP (v := (some (q_sz A25))) fp_X11_42 rfl rfl (by decide) (by decide +kernel) s27 ?_
  refine q_blk (pc' := 217) (lo' := [some (.ref a0)]) (st' := [.int (nI 1), .ref a0]) [.aload_n 0, .iconst 1] (by decide +kernel) rfl ?_
  refine q_newI (z := 1) ac_int rfl (by decide) (by decide) (by decide) (by decide +kernel) ?_
  have s28 : q_sh (q_new (q_setR (q_new A25 50 700) a0 11 (some (q_sz A25))) 50 1) (q_sz (q_setR (q_new A25 50 700) a0 11 (some (q_sz A25)))) = (50, 1) := q_shn _ _ _
  obtain ⟨s29, h⟩ := h
  refine q_putP (v := (some (q_sz (q_setR (q_new A25 50 700) a0 11 (some (q_sz A25)))))) fp_X11_45 rfl rfl (by decide) (by decide +kernel) s29 ?_
  refine q_blk (pc' := 225) (lo' := [some (.ref a0)]) (st' := [.int (nI 6), .ref a0]) [.aload_n 0, .bipush 6] (by decide +kernel) rfl ?_
  refine q_newI (z := 6) ac_int rfl (by decide) (by decide) (by decide) (by decide +kernel) ?_
  have s30 : q_sh (q_new (q_setR (q_new (q_setR (q_new A25 50 700) a0 11 (some (q_sz A25))) 50 1) a0 20 (some (q_sz (q_setR (q_new A25 50 700) a0 11 (some (q_sz A25)))))) 50 6) (q_sz (q_setR (q_new (q_setR (q_new A25 50 700) a0 11 (some (q_sz A25))) 50 1) a0 20 (some (q_sz (q_setR (q_new A25 50 700) a0 11 (some (q_sz A25))))))) = (50, 6) := q_shn _ _ _
  obtain ⟨s31, h⟩ := h
  refine q_putP (v := (some (q_sz (q_setR (q_new (q_setR (q_new A25 50 700) a0 11 (some (q_sz A25))) 50 1) a0 20 (some (q_sz (q_setR (q_new A25 50 700) a0 11 (some (q_sz A25))))))))) fp_X11_48 rfl rfl (by decide) (by decide +kernel) s31 ?_
  let A32 : q_H := (q_setR (q_new (q_setR (q_new (q_setR (q_new A25 50 700) a0 11 (some (q_sz A25))) 50 1) a0 20 (some (q_sz (q_setR (q_new A25 50 700) a0 11 (some (q_sz A25)))))) 50 6) a0 21 (some (q_sz (q_setR (q_new (q_setR (q_new A25 50 700) a0 11 (some (q_sz A25))) 50 1) a0 20 (some (q_sz (q_setR (q_new A25 50 700) a0 11 (some (q_sz A25)))))))))
  have h := h A32 rfl
  show q_Wp _ _ _ _ 12 7925 230 [some (.ref a0)] [] A32
  refine q_blk (pc' := 231) (lo' := [some (.ref a0)]) (st' := [.ref a0]) [.aload_n 0] (by decide +kernel) rfl ?_
  refine q_callV (ci := 11) (Mc := M_X11_lays) (z := 0) (b := a0) (As := []) (st := []) mo_X11_lays mi_X11_lays ml_X11_51_X11_lays rfl rfl (by decide) rfl (by decide) (by decide) rfl (Nat.le_of_ble_eq_true rfl) (by decide +kernel) s31 h (q_fV fun A33 h => ?_)
  show q_Wp _ _ _ _ 12 7925 234 [some (.ref a0)] [] A33
  refine q_blk (pc' := 235) (lo' := [some (.ref a0)]) (st' := [.ref a0]) [.aload_n 0] (by decide +kernel) rfl ?_
  obtain ⟨s35, h⟩ := h
  obtain ⟨r36, e37, h⟩ := h
  refine q_getR fl_X11_20 rfl (by decide) (by decide +kernel) s35 e37 ?_
  refine q_blk (pc' := 240) (lo' := [some (.ref a0)]) (st' := [.int (nI 1), .int (nI 0), .ref r36]) [.iconst 0, .iconst 1] (by decide +kernel) rfl ?_
  obtain ⟨z39, s38, b40, h⟩ := h
  obtain ⟨l41, h⟩ := h
  refine q_iast rfl (by decide +kernel) s38 l41 b40 ?_
  refine q_blk (pc' := 242) (lo' := [some (.ref a0)]) (st' := [.ref a0]) [.aload_n 0] (by decide +kernel) rfl ?_
  refine q_getR fl_X11_20 rfl (by decide) (by decide +kernel) s35 e37 ?_
  refine q_blk (pc' := 247) (lo' := [some (.ref a0)]) (st' := [.int (nI 1), .int (nI 1), .ref r36]) [.iconst 1, .iconst 1] (by decide +kernel) rfl ?_
  obtain ⟨l42, h⟩ := h
  refine q_iast rfl (by decide +kernel) s38 l42 b40 ?_
  refine q_blk (pc' := 249) (lo' := [some (.ref a0)]) (st' := [.ref a0]) [.aload_n 0] (by decide +kernel) rfl ?_
  refine q_getR fl_X11_20 rfl (by decide) (by decide +kernel) s35 e37 ?_
  refine q_blk (pc' := 254) (lo' := [some (.ref a0)]) (st' := [.int (nI 1), .int (nI 4), .ref r36]) [.iconst 4, .iconst 1] (by decide +kernel) rfl ?_
  obtain ⟨l43, h⟩ := h
  refine q_iast rfl (by decide +kernel) s38 l43 b40 ?_
  refine q_blk (pc' := 256) (lo' := [some (.ref a0)]) (st' := [.ref a0]) [.aload_n 0] (by decide +kernel) rfl ?_
  refine q_callV (ci := 11) (Mc := M_X11_becomes) (z := 0) (b := a0) (As := []) (st := []) mo_X11_becomes mi_X11_becomes ml_X11_54_X11_becomes rfl rfl (by decide) rfl (by decide) (by decide) rfl (Nat.le_of_ble_eq_true rfl) (by decide +kernel) s35 h (q_fV fun A44 h => ?_)
  show q_Wp _ _ _ _ 12 7925 259 [some (.ref a0)] [] A44
  exact q_ret0 rfl (by decide) (by decide) (by decide +kernel) ⟨rfl, h⟩
theorem f_X11_lays {G : q_G} {X : String → q_H → Prop} {f : q_H → Prop} {A : q_H} {a0 : Nat} (h : q_Wp G M_X11_lays (q_KV f) X 0 0 2 [some (.ref a0), some (.int (nI 0))] [] A) : q_Wc G M_X11_lays [.ref a0] A (q_KV f) X := by
  refine q_Wc.of [some (.ref a0), none] mo_X11_lays.2.2.2.2.2 rfl (Nat.le_of_ble_eq_true rfl) rfl ?_
  refine q_blk (pc' := 2) (lo' := [some (.ref a0), some (.int (nI 0))]) (st' := []) [.iconst 0, .istore_n 1] (by decide +kernel) rfl ?_
  exact h
theorem f_X11_lays_2 {G : q_G} {X : String → q_H → Prop} {f : q_H → Prop} {A : q_H} {a0 : Nat} {x1 : Int32} (h : (((nI 47) ≤ x1 → q_Wp G M_X11_lays (q_KV f) X 0 0 23 [some (.ref a0), some (.int (nI 0))] [] A) ∧ (¬ (nI 47) ≤ x1 → q_sh A a0 = (12, 0) ∧ ∃ r3 : Nat, q_R A a0 3 = some r3 ∧ ∃ z6 : Nat, q_sh A r3 = (50, z6) ∧ z6 < 2147483648 ∧ ∃ j8 : Nat, x1 = nI j8 ∧ j8 < z6 ∧ q_Wp G M_X11_lays (q_KV f) X 0 0 2 [some (.ref a0), some (.int (x1 + (nI 1)))] [] (q_setI A r3 j8 (nI 0))))) : q_Wp G M_X11_lays (q_KV f) X 0 0 2 [some (.ref a0), some (.int x1)] [] A := by
  refine q_blk (pc' := 5) (lo' := [some (.ref a0), some (.int x1)]) (st' := [.int (nI 47), .int x1]) [.iload_n 1, .bipush 47] (by decide +kernel) rfl ?_
  refine q_icmp_ge 21 (off := 16) (by decide +kernel) (by decide) (fun c1 => ?_) (fun c1 => ?_)
  · have h := h.1 c1
    refine q_blk (pc' := 23) (lo' := [some (.ref a0), some (.int (nI 0))]) (st' := []) [.iconst 0, .istore_n 1] (by decide +kernel) rfl ?_
    exact h
  · have h := h.2 c1
    refine q_blk (pc' := 9) (lo' := [some (.ref a0), some (.int x1)]) (st' := [.ref a0]) [.aload_n 0] (by decide +kernel) rfl ?_
    obtain ⟨s2, h⟩ := h
    obtain ⟨r3, e4, h⟩ := h
    refine q_getR fl_X11_20 rfl (by decide) (by decide +kernel) s2 e4 ?_
    refine q_blk (pc' := 14) (lo' := [some (.ref a0), some (.int x1)]) (st' := [.int (nI 0), .int x1, .ref r3]) [.iload_n 1, .iconst 0] (by decide +kernel) rfl ?_
    obtain ⟨z6, s5, b7, h⟩ := h
    obtain ⟨j8, e9, h⟩ := h
    obtain ⟨l10, h⟩ := h
    refine q_iast e9 (by decide +kernel) s5 l10 b7 ?_
    refine q_blk (pc' := 18) (lo' := [some (.ref a0), some (.int (x1 + (nI 1)))]) (st' := []) [.iinc 1 1] (by decide +kernel) rfl ?_
    refine q_goto 2 (off := -16) (by decide +kernel) (by decide) ?_
    exact h
theorem f_X11_lays_23 {G : q_G} {X : String → q_H → Prop} {f : q_H → Prop} {A : q_H} {a0 : Nat} {x1 : Int32} (h : (((nI 788) ≤ x1 → q_Wp G M_X11_lays (q_KV f) X 0 0 45 [some (.ref a0), some (.int (nI 0))] [] A) ∧ (¬ (nI 788) ≤ x1 → q_sh A a0 = (12, 0) ∧ ∃ r3 : Nat, q_R A a0 7 = some r3 ∧ ∃ z6 : Nat, q_sh A r3 = (50, z6) ∧ z6 < 2147483648 ∧ ∃ j8 : Nat, x1 = nI j8 ∧ j8 < z6 ∧ q_Wp G M_X11_lays (q_KV f) X 0 0 23 [some (.ref a0), some (.int (x1 + (nI 1)))] [] (q_setI A r3 j8 (nI 0))))) : q_Wp G M_X11_lays (q_KV f) X 0 0 23 [some (.ref a0), some (.int x1)] [] A := by
  refine q_blk (pc' := 27) (lo' := [some (.ref a0), some (.int x1)]) (st' := [.int (nI 788), .int x1]) [.iload_n 1, .sipush 788] (by decide +kernel) rfl ?_
  refine q_icmp_ge 43 (off := 16) (by decide +kernel) (by decide) (fun c1 => ?_) (fun c1 => ?_)
  · have h := h.1 c1
    refine q_blk (pc' := 45) (lo' := [some (.ref a0), some (.int (nI 0))]) (st' := []) [.iconst 0, .istore_n 1] (by decide +kernel) rfl ?_
    exact h
  · have h := h.2 c1
    refine q_blk (pc' := 31) (lo' := [some (.ref a0), some (.int x1)]) (st' := [.ref a0]) [.aload_n 0] (by decide +kernel) rfl ?_
    obtain ⟨s2, h⟩ := h
    obtain ⟨r3, e4, h⟩ := h
    refine q_getR fl_X11_33 rfl (by decide) (by decide +kernel) s2 e4 ?_
    refine q_blk (pc' := 36) (lo' := [some (.ref a0), some (.int x1)]) (st' := [.int (nI 0), .int x1, .ref r3]) [.iload_n 1, .iconst 0] (by decide +kernel) rfl ?_
    obtain ⟨z6, s5, b7, h⟩ := h
    obtain ⟨j8, e9, h⟩ := h
    obtain ⟨l10, h⟩ := h
    refine q_iast e9 (by decide +kernel) s5 l10 b7 ?_
    refine q_blk (pc' := 40) (lo' := [some (.ref a0), some (.int (x1 + (nI 1)))]) (st' := []) [.iinc 1 1] (by decide +kernel) rfl ?_
    refine q_goto 23 (off := -17) (by decide +kernel) (by decide) ?_
    exact h
theorem f_X11_lays_45 {G : q_G} {X : String → q_H → Prop} {f : q_H → Prop} {A : q_H} {a0 : Nat} {x1 : Int32} (h : (((nI 8) ≤ x1 → q_Wp G M_X11_lays (q_KV f) X 0 0 75 [some (.ref a0), some (.int (nI 0))] [] A) ∧ (¬ (nI 8) ≤ x1 → q_sh A a0 = (12, 0) ∧ ∃ r3 : Nat, q_R A a0 7 = some r3 ∧ ∃ r5 : Nat, q_R A a0 1 = some r5 ∧ ∃ z8 : Nat, q_sh A r5 = (50, z8) ∧ z8 < 2147483648 ∧ ∃ j10 : Nat, (((nI 3) * x1) + (nI 2)) = nI j10 ∧ j10 < z8 ∧ ∃ z14 : Nat, q_sh A r3 = (50, z14) ∧ z14 < 2147483648 ∧ ∃ j16 : Nat, x1 = nI j16 ∧ j16 < z14 ∧ q_Wp G M_X11_lays (q_KV f) X 0 0 45 [some (.ref a0), some (.int (x1 + (nI 1)))] [] (q_setI A r3 j16 (q_I A r5 j10))))) : q_Wp G M_X11_lays (q_KV f) X 0 0 45 [some (.ref a0), some (.int x1)] [] A := by
  refine q_blk (pc' := 48) (lo' := [some (.ref a0), some (.int x1)]) (st' := [.int (nI 8), .int x1]) [.iload_n 1, .bipush 8] (by decide +kernel) rfl ?_
  refine q_icmp_ge 73 (off := 25) (by decide +kernel) (by decide) (fun c1 => ?_) (fun c1 => ?_)
  · have h := h.1 c1
    refine q_blk (pc' := 75) (lo' := [some (.ref a0), some (.int (nI 0))]) (st' := []) [.iconst 0, .istore_n 1] (by decide +kernel) rfl ?_
    exact h
  · have h := h.2 c1
    refine q_blk (pc' := 52) (lo' := [some (.ref a0), some (.int x1)]) (st' := [.ref a0]) [.aload_n 0] (by decide +kernel) rfl ?_
    obtain ⟨s2, h⟩ := h
    obtain ⟨r3, e4, h⟩ := h
    refine q_getR fl_X11_33 rfl (by decide) (by decide +kernel) s2 e4 ?_
    refine q_blk (pc' := 57) (lo' := [some (.ref a0), some (.int x1)]) (st' := [.ref a0, .int x1, .ref r3]) [.iload_n 1, .aload_n 0] (by decide +kernel) rfl ?_
    obtain ⟨r5, e6, h⟩ := h
    refine q_getR fl_X11_13 rfl (by decide) (by decide +kernel) s2 e6 ?_
    refine q_blk (pc' := 65) (lo' := [some (.ref a0), some (.int x1)]) (st' := [.int (((nI 3) * x1) + (nI 2)), .ref r5, .int x1, .ref r3]) [.iconst 3, .iload_n 1, .imul, .iconst 2, .iadd] (by decide +kernel) rfl ?_
    obtain ⟨z8, s7, b9, h⟩ := h
    obtain ⟨j10, e11, h⟩ := h
    obtain ⟨l12, h⟩ := h
    refine q_iald e11 (by decide +kernel) s7 l12 b9 ?_
    obtain ⟨z14, s13, b15, h⟩ := h
    obtain ⟨j16, e17, h⟩ := h
    obtain ⟨l18, h⟩ := h
    refine q_iast e17 (by decide +kernel) s13 l18 b15 ?_
    refine q_blk (pc' := 70) (lo' := [some (.ref a0), some (.int (x1 + (nI 1)))]) (st' := []) [.iinc 1 1] (by decide +kernel) rfl ?_
    refine q_goto 45 (off := -25) (by decide +kernel) (by decide) ?_
    exact h
theorem f_X11_lays_75 {G : q_G} {X : String → q_H → Prop} {f : q_H → Prop} {A : q_H} {a0 : Nat} {x1 : Int32} (h : (((nI 8) ≤ x1 → f A) ∧ (¬ (nI 8) ≤ x1 → q_sh A a0 = (12, 0) ∧ ∃ r3 : Nat, q_R A a0 7 = some r3 ∧ ∃ z6 : Nat, q_sh A r3 = (50, z6) ∧ z6 < 2147483648 ∧ ∃ j8 : Nat, (((nI 252) + ((nI 7) * x1)) + (nI 6)) = nI j8 ∧ j8 < z6 ∧ q_Wp G M_X11_lays (q_KV f) X 0 0 75 [some (.ref a0), some (.int (x1 + (nI 1)))] [] (q_setI A r3 j8 (-1))))) : q_Wp G M_X11_lays (q_KV f) X 0 0 75 [some (.ref a0), some (.int x1)] [] A := by
  refine q_blk (pc' := 78) (lo' := [some (.ref a0), some (.int x1)]) (st' := [.int (nI 8), .int x1]) [.iload_n 1, .bipush 8] (by decide +kernel) rfl ?_
  refine q_icmp_ge 104 (off := 26) (by decide +kernel) (by decide) (fun c1 => ?_) (fun c1 => ?_)
  · have h := h.1 c1
    exact q_ret0 rfl (by decide) (by decide) (by decide +kernel) ⟨rfl, h⟩
  · have h := h.2 c1
    refine q_blk (pc' := 82) (lo' := [some (.ref a0), some (.int x1)]) (st' := [.ref a0]) [.aload_n 0] (by decide +kernel) rfl ?_
    obtain ⟨s2, h⟩ := h
    obtain ⟨r3, e4, h⟩ := h
    refine q_getR fl_X11_33 rfl (by decide) (by decide +kernel) s2 e4 ?_
    refine q_blk (pc' := 97) (lo' := [some (.ref a0), some (.int x1)]) (st' := [.int (-1), .int (((nI 252) + ((nI 7) * x1)) + (nI 6)), .ref r3]) [.sipush 252, .bipush 7, .iload_n 1, .imul, .iadd, .bipush 6, .iadd, .iconst (-1)] (by decide +kernel) rfl ?_
    obtain ⟨z6, s5, b7, h⟩ := h
    obtain ⟨j8, e9, h⟩ := h
    obtain ⟨l10, h⟩ := h
    refine q_iast e9 (by decide +kernel) s5 l10 b7 ?_
    refine q_blk (pc' := 101) (lo' := [some (.ref a0), some (.int (x1 + (nI 1)))]) (st' := []) [.iinc 1 1] (by decide +kernel) rfl ?_
    refine q_goto 75 (off := -26) (by decide +kernel) (by decide) ?_
    exact h
theorem f_X11_becomes {G : q_G} {X : String → q_H → Prop} {f : q_H → Prop} {A : q_H} {a0 : Nat} (h : q_Wp G M_X11_becomes (q_KV f) X 0 0 2 [some (.ref a0), some (.int (nI 0))] [] A) : q_Wc G M_X11_becomes [.ref a0] A (q_KV f) X := by
  refine q_Wc.of [some (.ref a0), none] mo_X11_becomes.2.2.2.2.2 rfl (Nat.le_of_ble_eq_true rfl) rfl ?_
  refine q_blk (pc' := 2) (lo' := [some (.ref a0), some (.int (nI 0))]) (st' := []) [.iconst 0, .istore_n 1] (by decide +kernel) rfl ?_
  exact h
theorem f_X11_becomes_2 {G : q_G} {X : String → q_H → Prop} {f : q_H → Prop} {A : q_H} {a0 : Nat} {x1 : Int32} (h : (((nI 47) ≤ x1 → q_Wp G M_X11_becomes (q_KV f) X 0 0 28 [some (.ref a0), some (.int (nI 0))] [] A) ∧ (¬ (nI 47) ≤ x1 → q_sh A a0 = (12, 0) ∧ ∃ r3 : Nat, q_R A a0 2 = some r3 ∧ ∃ r5 : Nat, q_R A a0 3 = some r5 ∧ ∃ z8 : Nat, q_sh A r5 = (50, z8) ∧ z8 < 2147483648 ∧ ∃ j10 : Nat, x1 = nI j10 ∧ j10 < z8 ∧ ∃ z14 : Nat, q_sh A r3 = (50, z14) ∧ z14 < 2147483648 ∧ j10 < z14 ∧ q_Wp G M_X11_becomes (q_KV f) X 0 0 2 [some (.ref a0), some (.int (x1 + (nI 1)))] [] (q_setI A r3 j10 (q_I A r5 j10))))) : q_Wp G M_X11_becomes (q_KV f) X 0 0 2 [some (.ref a0), some (.int x1)] [] A := by
  refine q_blk (pc' := 5) (lo' := [some (.ref a0), some (.int x1)]) (st' := [.int (nI 47), .int x1]) [.iload_n 1, .bipush 47] (by decide +kernel) rfl ?_
  refine q_icmp_ge 26 (off := 21) (by decide +kernel) (by decide) (fun c1 => ?_) (fun c1 => ?_)
  · have h := h.1 c1
    refine q_blk (pc' := 28) (lo' := [some (.ref a0), some (.int (nI 0))]) (st' := []) [.iconst 0, .istore_n 1] (by decide +kernel) rfl ?_
    exact h
  · have h := h.2 c1
    refine q_blk (pc' := 9) (lo' := [some (.ref a0), some (.int x1)]) (st' := [.ref a0]) [.aload_n 0] (by decide +kernel) rfl ?_
    obtain ⟨s2, h⟩ := h
    obtain ⟨r3, e4, h⟩ := h
    refine q_getR fl_X11_17 rfl (by decide) (by decide +kernel) s2 e4 ?_
    refine q_blk (pc' := 14) (lo' := [some (.ref a0), some (.int x1)]) (st' := [.ref a0, .int x1, .ref r3]) [.iload_n 1, .aload_n 0] (by decide +kernel) rfl ?_
    obtain ⟨r5, e6, h⟩ := h
    refine q_getR fl_X11_20 rfl (by decide) (by decide +kernel) s2 e6 ?_
    refine q_blk (pc' := 18) (lo' := [some (.ref a0), some (.int x1)]) (st' := [.int x1, .ref r5, .int x1, .ref r3]) [.iload_n 1] (by decide +kernel) rfl ?_
    obtain ⟨z8, s7, b9, h⟩ := h
    obtain ⟨j10, e11, h⟩ := h
    obtain ⟨l12, h⟩ := h
    refine q_iald e11 (by decide +kernel) s7 l12 b9 ?_
    obtain ⟨z14, s13, b15, h⟩ := h
    obtain ⟨l16, h⟩ := h
    refine q_iast e11 (by decide +kernel) s13 l16 b15 ?_
    refine q_blk (pc' := 23) (lo' := [some (.ref a0), some (.int (x1 + (nI 1)))]) (st' := []) [.iinc 1 1] (by decide +kernel) rfl ?_
    refine q_goto 2 (off := -21) (by decide +kernel) (by decide) ?_
    exact h
theorem f_X11_becomes_28 {G : q_G} {X : String → q_H → Prop} {f : q_H → Prop} {A : q_H} {a0 : Nat} {x1 : Int32} (h : (((nI 788) ≤ x1 → q_Wp G M_X11_becomes (q_KV f) X 0 0 55 [some (.ref a0), some (.int (nI 0))] [] A) ∧ (¬ (nI 788) ≤ x1 → q_sh A a0 = (12, 0) ∧ ∃ r3 : Nat, q_R A a0 6 = some r3 ∧ ∃ r5 : Nat, q_R A a0 7 = some r5 ∧ ∃ z8 : Nat, q_sh A r5 = (50, z8) ∧ z8 < 2147483648 ∧ ∃ j10 : Nat, x1 = nI j10 ∧ j10 < z8 ∧ ∃ z14 : Nat, q_sh A r3 = (50, z14) ∧ z14 < 2147483648 ∧ j10 < z14 ∧ q_Wp G M_X11_becomes (q_KV f) X 0 0 28 [some (.ref a0), some (.int (x1 + (nI 1)))] [] (q_setI A r3 j10 (q_I A r5 j10))))) : q_Wp G M_X11_becomes (q_KV f) X 0 0 28 [some (.ref a0), some (.int x1)] [] A := by
  refine q_blk (pc' := 32) (lo' := [some (.ref a0), some (.int x1)]) (st' := [.int (nI 788), .int x1]) [.iload_n 1, .sipush 788] (by decide +kernel) rfl ?_
  refine q_icmp_ge 53 (off := 21) (by decide +kernel) (by decide) (fun c1 => ?_) (fun c1 => ?_)
  · have h := h.1 c1
    refine q_blk (pc' := 55) (lo' := [some (.ref a0), some (.int (nI 0))]) (st' := []) [.iconst 0, .istore_n 1] (by decide +kernel) rfl ?_
    exact h
  · have h := h.2 c1
    refine q_blk (pc' := 36) (lo' := [some (.ref a0), some (.int x1)]) (st' := [.ref a0]) [.aload_n 0] (by decide +kernel) rfl ?_
    obtain ⟨s2, h⟩ := h
    obtain ⟨r3, e4, h⟩ := h
    refine q_getR fl_X11_30 rfl (by decide) (by decide +kernel) s2 e4 ?_
    refine q_blk (pc' := 41) (lo' := [some (.ref a0), some (.int x1)]) (st' := [.ref a0, .int x1, .ref r3]) [.iload_n 1, .aload_n 0] (by decide +kernel) rfl ?_
    obtain ⟨r5, e6, h⟩ := h
    refine q_getR fl_X11_33 rfl (by decide) (by decide +kernel) s2 e6 ?_
    refine q_blk (pc' := 45) (lo' := [some (.ref a0), some (.int x1)]) (st' := [.int x1, .ref r5, .int x1, .ref r3]) [.iload_n 1] (by decide +kernel) rfl ?_
    obtain ⟨z8, s7, b9, h⟩ := h
    obtain ⟨j10, e11, h⟩ := h
    obtain ⟨l12, h⟩ := h
    refine q_iald e11 (by decide +kernel) s7 l12 b9 ?_
    obtain ⟨z14, s13, b15, h⟩ := h
    obtain ⟨l16, h⟩ := h
    refine q_iast e11 (by decide +kernel) s13 l16 b15 ?_
    refine q_blk (pc' := 50) (lo' := [some (.ref a0), some (.int (x1 + (nI 1)))]) (st' := []) [.iinc 1 1] (by decide +kernel) rfl ?_
    refine q_goto 28 (off := -22) (by decide +kernel) (by decide) ?_
    exact h
theorem f_X11_becomes_55 {G : q_G} {X : String → q_H → Prop} {f : q_H → Prop} {A : q_H} {a0 : Nat} {x1 : Int32} (h : (((nI 4) ≤ x1 → q_sh A a0 = (12, 0) ∧ f (q_setI A a0 10 (nI 0))) ∧ (¬ (nI 4) ≤ x1 → q_sh A a0 = (12, 0) ∧ ∃ r4 : Nat, q_R A a0 4 = some r4 ∧ ∃ r6 : Nat, q_R A a0 5 = some r6 ∧ ∃ z9 : Nat, q_sh A r6 = (52, z9) ∧ z9 < 2147483648 ∧ ∃ j11 : Nat, x1 = nI j11 ∧ j11 < z9 ∧ ∃ z15 : Nat, q_sh A r4 = (52, z15) ∧ z15 < 2147483648 ∧ j11 < z15 ∧ q_Wp G M_X11_becomes (q_KV f) X 0 0 55 [some (.ref a0), some (.int (x1 + (nI 1)))] [] (q_setL A r4 j11 (q_L A r6 j11))))) : q_Wp G M_X11_becomes (q_KV f) X 0 0 55 [some (.ref a0), some (.int x1)] [] A := by
  refine q_blk (pc' := 57) (lo' := [some (.ref a0), some (.int x1)]) (st' := [.int (nI 4), .int x1]) [.iload_n 1, .iconst 4] (by decide +kernel) rfl ?_
  refine q_icmp_ge 78 (off := 21) (by decide +kernel) (by decide) (fun c1 => ?_) (fun c1 => ?_)
  · have h := h.1 c1
    refine q_blk (pc' := 80) (lo' := [some (.ref a0), some (.int x1)]) (st' := [.int (nI 0), .ref a0]) [.aload_n 0, .iconst 0] (by decide +kernel) rfl ?_
    obtain ⟨s2, h⟩ := h
    refine q_putI fw_X11_57 rfl (by decide) (by decide +kernel) s2 ?_
    exact q_ret0 rfl (by decide) (by decide) (by decide +kernel) ⟨rfl, h⟩
  · have h := h.2 c1
    refine q_blk (pc' := 61) (lo' := [some (.ref a0), some (.int x1)]) (st' := [.ref a0]) [.aload_n 0] (by decide +kernel) rfl ?_
    obtain ⟨s3, h⟩ := h
    obtain ⟨r4, e5, h⟩ := h
    refine q_getR fl_X11_23 rfl (by decide) (by decide +kernel) s3 e5 ?_
    refine q_blk (pc' := 66) (lo' := [some (.ref a0), some (.int x1)]) (st' := [.ref a0, .int x1, .ref r4]) [.iload_n 1, .aload_n 0] (by decide +kernel) rfl ?_
    obtain ⟨r6, e7, h⟩ := h
    refine q_getR fl_X11_27 rfl (by decide) (by decide +kernel) s3 e7 ?_
    refine q_blk (pc' := 70) (lo' := [some (.ref a0), some (.int x1)]) (st' := [.int x1, .ref r6, .int x1, .ref r4]) [.iload_n 1] (by decide +kernel) rfl ?_
    obtain ⟨z9, s8, b10, h⟩ := h
    obtain ⟨j11, e12, h⟩ := h
    obtain ⟨l13, h⟩ := h
    refine q_lald e12 (by decide +kernel) s8 l13 b10 ?_
    obtain ⟨z15, s14, b16, h⟩ := h
    obtain ⟨l17, h⟩ := h
    refine q_last e12 (by decide +kernel) s14 l17 b16 ?_
    refine q_blk (pc' := 75) (lo' := [some (.ref a0), some (.int (x1 + (nI 1)))]) (st' := []) [.iinc 1 1] (by decide +kernel) rfl ?_
    refine q_goto 55 (off := -20) (by decide +kernel) (by decide) ?_
    exact h
theorem f_X11_remembers {G : q_G} {X : String → q_H → Prop} {f : q_H → Prop} {A : q_H} {a0 : Nat} (h : q_sh A a0 = (12, 0) ∧ (((q_I A a0 10) = (nI 6) → q_Wp G M_X11_remembers (q_KV f) X 0 0 13 [some (.ref a0), some (.int (nI 788))] [] A) ∧ (¬ (q_I A a0 10) = (nI 6) → q_Wp G M_X11_remembers (q_KV f) X 0 0 54 [some (.ref a0), some (.int (nI 0))] [] A))) : q_Wc G M_X11_remembers [.ref a0] A (q_KV f) X := by
  refine q_Wc.of [some (.ref a0), none] mo_X11_remembers.2.2.2.2.2 rfl (Nat.le_of_ble_eq_true rfl) rfl ?_
  refine q_blk (pc' := 1) (lo' := [some (.ref a0), none]) (st' := [.ref a0]) [.aload_n 0] (by decide +kernel) rfl ?_
  obtain ⟨s1, h⟩ := h
  refine q_getI fl_X11_57 rfl (by decide) (by decide +kernel) s1 ?_
  refine q_blk (pc' := 6) (lo' := [some (.ref a0), none]) (st' := [.int (nI 6), .int (q_I A a0 10)]) [.bipush 6] (by decide +kernel) rfl ?_
  refine q_icmp_ne 52 (off := 46) (by decide +kernel) (by decide) (fun c2 => ?_) (fun c2 => ?_)
  · have h := h.2 c2
    refine q_blk (pc' := 54) (lo' := [some (.ref a0), some (.int (nI 0))]) (st' := []) [.iconst 0, .istore_n 1] (by decide +kernel) rfl ?_
    exact h
  · have h := h.1 c2
    refine q_blk (pc' := 13) (lo' := [some (.ref a0), some (.int (nI 788))]) (st' := []) [.sipush 788, .istore_n 1] (by decide +kernel) rfl ?_
    exact h
theorem f_X11_remembers_54 {G : q_G} {X : String → q_H → Prop} {f : q_H → Prop} {A : q_H} {a0 : Nat} {x1 : Int32} (h : (((nI 788) ≤ x1 → q_sh A a0 = (12, 0) ∧ f (q_setI A a0 10 ((q_I A a0 10) + (nI 1)))) ∧ (¬ (nI 788) ≤ x1 → q_sh A a0 = (12, 0) ∧ ∃ r4 : Nat, q_R A a0 9 = some r4 ∧ ∃ r6 : Nat, q_R A a0 6 = some r6 ∧ ∃ z9 : Nat, q_sh A r6 = (50, z9) ∧ z9 < 2147483648 ∧ ∃ j11 : Nat, x1 = nI j11 ∧ j11 < z9 ∧ ∃ z15 : Nat, q_sh A r4 = (50, z15) ∧ z15 < 2147483648 ∧ ∃ j17 : Nat, (((nI 788) * (q_I A a0 10)) + x1) = nI j17 ∧ j17 < z15 ∧ q_Wp G M_X11_remembers (q_KV f) X 0 0 54 [some (.ref a0), some (.int (x1 + (nI 1)))] [] (q_setI A r4 j17 (q_I A r6 j11))))) : q_Wp G M_X11_remembers (q_KV f) X 0 0 54 [some (.ref a0), some (.int x1)] [] A := by
  refine q_blk (pc' := 58) (lo' := [some (.ref a0), some (.int x1)]) (st' := [.int (nI 788), .int x1]) [.iload_n 1, .sipush 788] (by decide +kernel) rfl ?_
  refine q_icmp_ge 88 (off := 30) (by decide +kernel) (by decide) (fun c1 => ?_) (fun c1 => ?_)
  · have h := h.1 c1
    refine q_blk (pc' := 90) (lo' := [some (.ref a0), some (.int x1)]) (st' := [.ref a0, .ref a0]) [.aload_n 0, .dup] (by decide +kernel) rfl ?_
    obtain ⟨s2, h⟩ := h
    refine q_getI fl_X11_57 rfl (by decide) (by decide +kernel) s2 ?_
    refine q_blk (pc' := 95) (lo' := [some (.ref a0), some (.int x1)]) (st' := [.int ((q_I A a0 10) + (nI 1)), .ref a0]) [.iconst 1, .iadd] (by decide +kernel) rfl ?_
    refine q_putI fw_X11_57 rfl (by decide) (by decide +kernel) s2 ?_
    exact q_ret0 rfl (by decide) (by decide) (by decide +kernel) ⟨rfl, h⟩
  · have h := h.2 c1
    refine q_blk (pc' := 62) (lo' := [some (.ref a0), some (.int x1)]) (st' := [.ref a0]) [.aload_n 0] (by decide +kernel) rfl ?_
    obtain ⟨s3, h⟩ := h
    obtain ⟨r4, e5, h⟩ := h
    refine q_getR fl_X11_39 rfl (by decide) (by decide +kernel) s3 e5 ?_
    refine q_blk (pc' := 69) (lo' := [some (.ref a0), some (.int x1)]) (st' := [.ref a0, .int (nI 788), .ref r4]) [.sipush 788, .aload_n 0] (by decide +kernel) rfl ?_
    refine q_getI fl_X11_57 rfl (by decide) (by decide +kernel) s3 ?_
    refine q_blk (pc' := 76) (lo' := [some (.ref a0), some (.int x1)]) (st' := [.ref a0, .int (((nI 788) * (q_I A a0 10)) + x1), .ref r4]) [.imul, .iload_n 1, .iadd, .aload_n 0] (by decide +kernel) rfl ?_
    obtain ⟨r6, e7, h⟩ := h
    refine q_getR fl_X11_30 rfl (by decide) (by decide +kernel) s3 e7 ?_
    refine q_blk (pc' := 80) (lo' := [some (.ref a0), some (.int x1)]) (st' := [.int x1, .ref r6, .int (((nI 788) * (q_I A a0 10)) + x1), .ref r4]) [.iload_n 1] (by decide +kernel) rfl ?_
    obtain ⟨z9, s8, b10, h⟩ := h
    obtain ⟨j11, e12, h⟩ := h
    obtain ⟨l13, h⟩ := h
    refine q_iald e12 (by decide +kernel) s8 l13 b10 ?_
    obtain ⟨z15, s14, b16, h⟩ := h
    obtain ⟨j17, e18, h⟩ := h
    obtain ⟨l19, h⟩ := h
    refine q_iast e18 (by decide +kernel) s14 l19 b16 ?_
    refine q_blk (pc' := 85) (lo' := [some (.ref a0), some (.int (x1 + (nI 1)))]) (st' := []) [.iinc 1 1] (by decide +kernel) rfl ?_
    refine q_goto 54 (off := -31) (by decide +kernel) (by decide) ?_
    exact h
theorem f_X11_remembers_13 {G : q_G} {X : String → q_H → Prop} {f : q_H → Prop} {A : q_H} {a0 : Nat} {x1 : Int32} (h : (((nI 4728) ≤ x1 → q_sh A a0 = (12, 0) ∧ q_Wp G M_X11_remembers (q_KV f) X 0 0 54 [some (.ref a0), some (.int (nI 0))] [] (q_setI A a0 10 ((q_I A a0 10) - (nI 1)))) ∧ (¬ (nI 4728) ≤ x1 → q_sh A a0 = (12, 0) ∧ ∃ r4 : Nat, q_R A a0 9 = some r4 ∧ ∃ z7 : Nat, q_sh A r4 = (50, z7) ∧ z7 < 2147483648 ∧ ∃ j9 : Nat, x1 = nI j9 ∧ j9 < z7 ∧ ∃ j12 : Nat, (x1 - (nI 788)) = nI j12 ∧ j12 < z7 ∧ q_Wp G M_X11_remembers (q_KV f) X 0 0 13 [some (.ref a0), some (.int (x1 + (nI 1)))] [] (q_setI A r4 j12 (q_I A r4 j9))))) : q_Wp G M_X11_remembers (q_KV f) X 0 0 13 [some (.ref a0), some (.int x1)] [] A := by
  refine q_blk (pc' := 17) (lo' := [some (.ref a0), some (.int x1)]) (st' := [.int (nI 4728), .int x1]) [.iload_n 1, .sipush 4728] (by decide +kernel) rfl ?_
  refine q_icmp_ge 42 (off := 25) (by decide +kernel) (by decide) (fun c1 => ?_) (fun c1 => ?_)
  · have h := h.1 c1
    refine q_blk (pc' := 44) (lo' := [some (.ref a0), some (.int x1)]) (st' := [.ref a0, .ref a0]) [.aload_n 0, .dup] (by decide +kernel) rfl ?_
    obtain ⟨s2, h⟩ := h
    refine q_getI fl_X11_57 rfl (by decide) (by decide +kernel) s2 ?_
    refine q_blk (pc' := 49) (lo' := [some (.ref a0), some (.int x1)]) (st' := [.int ((q_I A a0 10) - (nI 1)), .ref a0]) [.iconst 1, .isub] (by decide +kernel) rfl ?_
    refine q_putI fw_X11_57 rfl (by decide) (by decide +kernel) s2 ?_
    refine q_blk (pc' := 54) (lo' := [some (.ref a0), some (.int (nI 0))]) (st' := []) [.iconst 0, .istore_n 1] (by decide +kernel) rfl ?_
    exact h
  · have h := h.2 c1
    refine q_blk (pc' := 21) (lo' := [some (.ref a0), some (.int x1)]) (st' := [.ref a0]) [.aload_n 0] (by decide +kernel) rfl ?_
    obtain ⟨s3, h⟩ := h
    obtain ⟨r4, e5, h⟩ := h
    refine q_getR fl_X11_39 rfl (by decide) (by decide +kernel) s3 e5 ?_
    refine q_blk (pc' := 30) (lo' := [some (.ref a0), some (.int x1)]) (st' := [.ref a0, .int (x1 - (nI 788)), .ref r4]) [.iload_n 1, .sipush 788, .isub, .aload_n 0] (by decide +kernel) rfl ?_
    refine q_getR fl_X11_39 rfl (by decide) (by decide +kernel) s3 e5 ?_
    refine q_blk (pc' := 34) (lo' := [some (.ref a0), some (.int x1)]) (st' := [.int x1, .ref r4, .int (x1 - (nI 788)), .ref r4]) [.iload_n 1] (by decide +kernel) rfl ?_
    obtain ⟨z7, s6, b8, h⟩ := h
    obtain ⟨j9, e10, h⟩ := h
    obtain ⟨l11, h⟩ := h
    refine q_iald e10 (by decide +kernel) s6 l11 b8 ?_
    obtain ⟨j12, e13, h⟩ := h
    obtain ⟨l14, h⟩ := h
    refine q_iast e13 (by decide +kernel) s6 l14 b8 ?_
    refine q_blk (pc' := 39) (lo' := [some (.ref a0), some (.int (x1 + (nI 1)))]) (st' := []) [.iinc 1 1] (by decide +kernel) rfl ?_
    refine q_goto 13 (off := -26) (by decide +kernel) (by decide) ?_
    exact h
theorem f_X11_undo {G : q_G} {X : String → q_H → Prop} {f : Int32 → q_H → Prop} {A : q_H} {a0 : Nat} (h : q_sh A a0 = (12, 0) ∧ (((q_I (q_setI A a0 0 (nI 0)) a0 10) = nI 0 → f (-1) (q_setI A a0 0 (nI 0))) ∧ (¬ (q_I (q_setI A a0 0 (nI 0)) a0 10) = nI 0 → q_Wp G M_X11_undo (q_KI f) X 0 0 26 [some (.ref a0), some (.int (nI 0))] [] (q_setI (q_setI A a0 0 (nI 0)) a0 10 ((q_I (q_setI A a0 0 (nI 0)) a0 10) - (nI 1)))))) : q_Wc G M_X11_undo [.ref a0] A (q_KI f) X := by
  refine q_Wc.of [some (.ref a0), none] mo_X11_undo.2.2.2.2.2 rfl (Nat.le_of_ble_eq_true rfl) rfl ?_
  refine q_blk (pc' := 2) (lo' := [some (.ref a0), none]) (st' := [.int (nI 0), .ref a0]) [.aload_n 0, .iconst 0] (by decide +kernel) rfl ?_
  obtain ⟨s1, h⟩ := h
  refine q_putI fw_X11_1 rfl (by decide) (by decide +kernel) s1 ?_
  refine q_blk (pc' := 6) (lo' := [some (.ref a0), none]) (st' := [.ref a0]) [.aload_n 0] (by decide +kernel) rfl ?_
  refine q_getI fl_X11_57 rfl (by decide) (by decide +kernel) s1 ?_
  refine q_if_ne 14 (off := 5) (by decide +kernel) (by decide) (fun c2 => ?_) (fun c2 => ?_)
  · have h := h.2 c2
    refine q_blk (pc' := 16) (lo' := [some (.ref a0), none]) (st' := [.ref a0, .ref a0]) [.aload_n 0, .dup] (by decide +kernel) rfl ?_
    refine q_getI fl_X11_57 rfl (by decide) (by decide +kernel) s1 ?_
    refine q_blk (pc' := 21) (lo' := [some (.ref a0), none]) (st' := [.int ((q_I (q_setI A a0 0 (nI 0)) a0 10) - (nI 1)), .ref a0]) [.iconst 1, .isub] (by decide +kernel) rfl ?_
    refine q_putI fw_X11_57 rfl (by decide) (by decide +kernel) s1 ?_
    refine q_blk (pc' := 26) (lo' := [some (.ref a0), some (.int (nI 0))]) (st' := []) [.iconst 0, .istore_n 1] (by decide +kernel) rfl ?_
    exact h
  · have h := h.1 c2
    refine q_blk (pc' := 13) (lo' := [some (.ref a0), none]) (st' := [.int (-1)]) [.iconst (-1)] (by decide +kernel) rfl ?_
    exact q_retI rfl (by decide) (by decide) (by decide +kernel) ⟨_, rfl, h⟩
theorem f_X11_undo_26 {G : q_G} {X : String → q_H → Prop} {f : Int32 → q_H → Prop} {A : q_H} {a0 : Nat} {x1 : Int32} (h : (((nI 788) ≤ x1 → q_sh A a0 = (12, 0) ∧ f (q_I A a0 10) A) ∧ (¬ (nI 788) ≤ x1 → q_sh A a0 = (12, 0) ∧ ∃ r4 : Nat, q_R A a0 6 = some r4 ∧ ∃ r6 : Nat, q_R A a0 9 = some r6 ∧ ∃ z9 : Nat, q_sh A r6 = (50, z9) ∧ z9 < 2147483648 ∧ ∃ j11 : Nat, (((nI 788) * (q_I A a0 10)) + x1) = nI j11 ∧ j11 < z9 ∧ ∃ z15 : Nat, q_sh A r4 = (50, z15) ∧ z15 < 2147483648 ∧ ∃ j17 : Nat, x1 = nI j17 ∧ j17 < z15 ∧ q_Wp G M_X11_undo (q_KI f) X 0 0 26 [some (.ref a0), some (.int (x1 + (nI 1)))] [] (q_setI A r4 j17 (q_I A r6 j11))))) : q_Wp G M_X11_undo (q_KI f) X 0 0 26 [some (.ref a0), some (.int x1)] [] A := by
  refine q_blk (pc' := 30) (lo' := [some (.ref a0), some (.int x1)]) (st' := [.int (nI 788), .int x1]) [.iload_n 1, .sipush 788] (by decide +kernel) rfl ?_
  refine q_icmp_ge 60 (off := 30) (by decide +kernel) (by decide) (fun c1 => ?_) (fun c1 => ?_)
  · have h := h.1 c1
    refine q_blk (pc' := 61) (lo' := [some (.ref a0), some (.int x1)]) (st' := [.ref a0]) [.aload_n 0] (by decide +kernel) rfl ?_
    obtain ⟨s2, h⟩ := h
    refine q_getI fl_X11_57 rfl (by decide) (by decide +kernel) s2 ?_
    exact q_retI rfl (by decide) (by decide) (by decide +kernel) ⟨_, rfl, h⟩
  · have h := h.2 c1
    refine q_blk (pc' := 34) (lo' := [some (.ref a0), some (.int x1)]) (st' := [.ref a0]) [.aload_n 0] (by decide +kernel) rfl ?_
    obtain ⟨s3, h⟩ := h
    obtain ⟨r4, e5, h⟩ := h
    refine q_getR fl_X11_30 rfl (by decide) (by decide +kernel) s3 e5 ?_
    refine q_blk (pc' := 39) (lo' := [some (.ref a0), some (.int x1)]) (st' := [.ref a0, .int x1, .ref r4]) [.iload_n 1, .aload_n 0] (by decide +kernel) rfl ?_
    obtain ⟨r6, e7, h⟩ := h
    refine q_getR fl_X11_39 rfl (by decide) (by decide +kernel) s3 e7 ?_
    refine q_blk (pc' := 46) (lo' := [some (.ref a0), some (.int x1)]) (st' := [.ref a0, .int (nI 788), .ref r6, .int x1, .ref r4]) [.sipush 788, .aload_n 0] (by decide +kernel) rfl ?_
    refine q_getI fl_X11_57 rfl (by decide) (by decide +kernel) s3 ?_
    refine q_blk (pc' := 52) (lo' := [some (.ref a0), some (.int x1)]) (st' := [.int (((nI 788) * (q_I A a0 10)) + x1), .ref r6, .int x1, .ref r4]) [.imul, .iload_n 1, .iadd] (by decide +kernel) rfl ?_
    obtain ⟨z9, s8, b10, h⟩ := h
    obtain ⟨j11, e12, h⟩ := h
    obtain ⟨l13, h⟩ := h
    refine q_iald e12 (by decide +kernel) s8 l13 b10 ?_
    obtain ⟨z15, s14, b16, h⟩ := h
    obtain ⟨j17, e18, h⟩ := h
    obtain ⟨l19, h⟩ := h
    refine q_iast e18 (by decide +kernel) s14 l19 b16 ?_
    refine q_blk (pc' := 57) (lo' := [some (.ref a0), some (.int (x1 + (nI 1)))]) (st' := []) [.iinc 1 1] (by decide +kernel) rfl ?_
    refine q_goto 26 (off := -31) (by decide +kernel) (by decide) ?_
    exact h
theorem f_X11_materials {G : q_G} {X : String → q_H → Prop} {f : Int32 → q_H → Prop} {A : q_H} {a0 : Nat} (h : q_sh A a0 = (12, 0) ∧ ∃ r2 : Nat, q_R A a0 2 = some r2 ∧ ∃ z5 : Nat, q_sh A r2 = (50, z5) ∧ z5 < 2147483648 ∧ 0 < z5 ∧ f (q_I A r2 0) A) : q_Wc G M_X11_materials [.ref a0] A (q_KI f) X := by
  refine q_Wc.of [some (.ref a0)] mo_X11_materials.2.2.2.2.2 rfl (Nat.le_of_ble_eq_true rfl) rfl ?_
  refine q_blk (pc' := 1) (lo' := [some (.ref a0)]) (st' := [.ref a0]) [.aload_n 0] (by decide +kernel) rfl ?_
  obtain ⟨s1, h⟩ := h
  obtain ⟨r2, e3, h⟩ := h
  refine q_getR fl_X11_17 rfl (by decide) (by decide +kernel) s1 e3 ?_
  refine q_blk (pc' := 5) (lo' := [some (.ref a0)]) (st' := [.int (nI 0), .ref r2]) [.iconst 0] (by decide +kernel) rfl ?_
  obtain ⟨z5, s4, b6, h⟩ := h
  obtain ⟨l7, h⟩ := h
  refine q_iald rfl (by decide +kernel) s4 l7 b6 ?_
  exact q_retI rfl (by decide) (by decide) (by decide +kernel) ⟨_, rfl, h⟩
theorem f_X11_stations {G : q_G} {X : String → q_H → Prop} {f : Int32 → q_H → Prop} {A : q_H} {a0 : Nat} (h : q_sh A a0 = (12, 0) ∧ ∃ r2 : Nat, q_R A a0 2 = some r2 ∧ ∃ z5 : Nat, q_sh A r2 = (50, z5) ∧ z5 < 2147483648 ∧ 1 < z5 ∧ f (q_I A r2 1) A) : q_Wc G M_X11_stations [.ref a0] A (q_KI f) X := by
  refine q_Wc.of [some (.ref a0)] mo_X11_stations.2.2.2.2.2 rfl (Nat.le_of_ble_eq_true rfl) rfl ?_
  refine q_blk (pc' := 1) (lo' := [some (.ref a0)]) (st' := [.ref a0]) [.aload_n 0] (by decide +kernel) rfl ?_
  obtain ⟨s1, h⟩ := h
  obtain ⟨r2, e3, h⟩ := h
  refine q_getR fl_X11_17 rfl (by decide) (by decide +kernel) s1 e3 ?_
  refine q_blk (pc' := 5) (lo' := [some (.ref a0)]) (st' := [.int (nI 1), .ref r2]) [.iconst 1] (by decide +kernel) rfl ?_
  obtain ⟨z5, s4, b6, h⟩ := h
  obtain ⟨l7, h⟩ := h
  refine q_iald rfl (by decide +kernel) s4 l7 b6 ?_
  exact q_retI rfl (by decide) (by decide) (by decide +kernel) ⟨_, rfl, h⟩
theorem f_X11_parcelAt {G : q_G} {X : String → q_H → Prop} {f : Int32 → q_H → Prop} {A : q_H} {x0 : Int32} (h : f ((nI 42) + ((nI 7) * x0)) A) : q_Wc G M_X11_parcelAt [.int x0] A (q_KI f) X := by
  refine q_Wc.of [some (.int x0)] mo_X11_parcelAt.2.2.2.2.2 rfl (Nat.le_of_ble_eq_true rfl) rfl ?_
  refine q_blk (pc' := 7) (lo' := [some (.int x0)]) (st' := [.int ((nI 42) + ((nI 7) * x0))]) [.bipush 42, .bipush 7, .iload_n 0, .imul, .iadd] (by decide +kernel) rfl ?_
  exact q_retI rfl (by decide) (by decide) (by decide +kernel) ⟨_, rfl, h⟩
theorem f_X11_slotAt {G : q_G} {X : String → q_H → Prop} {f : Int32 → q_H → Prop} {A : q_H} {x0 : Int32} (h : f ((nI 252) + ((nI 7) * x0)) A) : q_Wc G M_X11_slotAt [.int x0] A (q_KI f) X := by
  refine q_Wc.of [some (.int x0)] mo_X11_slotAt.2.2.2.2.2 rfl (Nat.le_of_ble_eq_true rfl) rfl ?_
  refine q_blk (pc' := 8) (lo' := [some (.int x0)]) (st' := [.int ((nI 252) + ((nI 7) * x0))]) [.sipush 252, .bipush 7, .iload_n 0, .imul, .iadd] (by decide +kernel) rfl ?_
  exact q_retI rfl (by decide) (by decide) (by decide +kernel) ⟨_, rfl, h⟩
theorem f_X11_placeAt {G : q_G} {X : String → q_H → Prop} {f : Int32 → q_H → Prop} {A : q_H} {x0 : Int32} {x1 : Int32} (h : f (((nI 308) + ((nI 10) * x0)) + x1) A) : q_Wc G M_X11_placeAt [.int x0, .int x1] A (q_KI f) X := by
  refine q_Wc.of [some (.int x0), some (.int x1)] mo_X11_placeAt.2.2.2.2.2 rfl (Nat.le_of_ble_eq_true rfl) rfl ?_
  refine q_blk (pc' := 10) (lo' := [some (.int x0), some (.int x1)]) (st' := [.int (((nI 308) + ((nI 10) * x0)) + x1)]) [.sipush 308, .bipush 10, .iload_n 0, .imul, .iadd, .iload_n 1, .iadd] (by decide +kernel) rfl ?_
  exact q_retI rfl (by decide) (by decide) (by decide +kernel) ⟨_, rfl, h⟩
theorem f_X11_storedAt {G : q_G} {X : String → q_H → Prop} {f : Int32 → q_H → Prop} {A : q_H} {x0 : Int32} {x1 : Int32} (h : f (((nI 388) + ((nI 10) * x0)) + x1) A) : q_Wc G M_X11_storedAt [.int x0, .int x1] A (q_KI f) X := by
  refine q_Wc.of [some (.int x0), some (.int x1)] mo_X11_storedAt.2.2.2.2.2 rfl (Nat.le_of_ble_eq_true rfl) rfl ?_
  refine q_blk (pc' := 10) (lo' := [some (.int x0), some (.int x1)]) (st' := [.int (((nI 388) + ((nI 10) * x0)) + x1)]) [.sipush 388, .bipush 10, .iload_n 0, .imul, .iadd, .iload_n 1, .iadd] (by decide +kernel) rfl ?_
  exact q_retI rfl (by decide) (by decide) (by decide +kernel) ⟨_, rfl, h⟩
theorem f_X11_targetOf {G : q_G} {X : String → q_H → Prop} {f : Int32 → q_H → Prop} {A : q_H} {a0 : Nat} {x1 : Int32} (h : q_sh A a0 = (12, 0) ∧ ∃ r2 : Nat, q_R A a0 2 = some r2 ∧ ∃ z5 : Nat, q_sh A r2 = (50, z5) ∧ z5 < 2147483648 ∧ ∃ j7 : Nat, ((nI 3) + ((nI 3) * x1)) = nI j7 ∧ j7 < z5 ∧ f (q_I A r2 j7) A) : q_Wc G M_X11_targetOf [.ref a0, .int x1] A (q_KI f) X := by
  refine q_Wc.of [some (.ref a0), some (.int x1)] mo_X11_targetOf.2.2.2.2.2 rfl (Nat.le_of_ble_eq_true rfl) rfl ?_
  refine q_blk (pc' := 1) (lo' := [some (.ref a0), some (.int x1)]) (st' := [.ref a0]) [.aload_n 0] (by decide +kernel) rfl ?_
  obtain ⟨s1, h⟩ := h
  obtain ⟨r2, e3, h⟩ := h
  refine q_getR fl_X11_17 rfl (by decide) (by decide +kernel) s1 e3 ?_
  refine q_blk (pc' := 9) (lo' := [some (.ref a0), some (.int x1)]) (st' := [.int ((nI 3) + ((nI 3) * x1)), .ref r2]) [.iconst 3, .iconst 3, .iload_n 1, .imul, .iadd] (by decide +kernel) rfl ?_
  obtain ⟨z5, s4, b6, h⟩ := h
  obtain ⟨j7, e8, h⟩ := h
  obtain ⟨l9, h⟩ := h
  refine q_iald e8 (by decide +kernel) s4 l9 b6 ?_
  exact q_retI rfl (by decide) (by decide) (by decide +kernel) ⟨_, rfl, h⟩
theorem f_X11_totalOf {G : q_G} {X : String → q_H → Prop} {f : Int32 → q_H → Prop} {A : q_H} {a0 : Nat} {x1 : Int32} (h : q_Wp G M_X11_totalOf (q_KI f) X 0 0 4 [some (.ref a0), some (.int x1), some (.int (nI 0)), some (.int (nI 0))] [] A) : q_Wc G M_X11_totalOf [.ref a0, .int x1] A (q_KI f) X := by
  refine q_Wc.of [some (.ref a0), some (.int x1), none, none] mo_X11_totalOf.2.2.2.2.2 rfl (Nat.le_of_ble_eq_true rfl) rfl ?_
  refine q_blk (pc' := 4) (lo' := [some (.ref a0), some (.int x1), some (.int (nI 0)), some (.int (nI 0))]) (st' := []) [.iconst 0, .istore_n 2, .iconst 0, .istore_n 3] (by decide +kernel) rfl ?_
  exact h
theorem f_X11_totalOf_4 {G : q_G} {X : String → q_H → Prop} {f : Int32 → q_H → Prop} {A : q_H} {a0 : Nat} {x1 : Int32} {x2 : Int32} {x3 : Int32} (h : (((nI 6) ≤ x3 → f x2 A) ∧ (¬ (nI 6) ≤ x3 → ∃ z3 : Nat, q_sh A a0 = (50, z3) ∧ z3 < 2147483648 ∧ ∃ j5 : Nat, (x1 + x3) = nI j5 ∧ j5 < z3 ∧ q_Wp G M_X11_totalOf (q_KI f) X 0 0 4 [some (.ref a0), some (.int x1), some (.int (x2 + (q_I A a0 j5))), some (.int (x3 + (nI 1)))] [] A))) : q_Wp G M_X11_totalOf (q_KI f) X 0 0 4 [some (.ref a0), some (.int x1), some (.int x2), some (.int x3)] [] A := by
  refine q_blk (pc' := 7) (lo' := [some (.ref a0), some (.int x1), some (.int x2), some (.int x3)]) (st' := [.int (nI 6), .int x3]) [.iload_n 3, .bipush 6] (by decide +kernel) rfl ?_
  refine q_icmp_ge 24 (off := 17) (by decide +kernel) (by decide) (fun c1 => ?_) (fun c1 => ?_)
  · have h := h.1 c1
    refine q_blk (pc' := 25) (lo' := [some (.ref a0), some (.int x1), some (.int x2), some (.int x3)]) (st' := [.int x2]) [.iload_n 2] (by decide +kernel) rfl ?_
    exact q_retI rfl (by decide) (by decide) (by decide +kernel) ⟨_, rfl, h⟩
  · have h := h.2 c1
    refine q_blk (pc' := 15) (lo' := [some (.ref a0), some (.int x1), some (.int x2), some (.int x3)]) (st' := [.int (x1 + x3), .ref a0, .int x2]) [.iload_n 2, .aload_n 0, .iload_n 1, .iload_n 3, .iadd] (by decide +kernel) rfl ?_
    obtain ⟨z3, s2, b4, h⟩ := h
    obtain ⟨j5, e6, h⟩ := h
    obtain ⟨l7, h⟩ := h
    refine q_iald e6 (by decide +kernel) s2 l7 b4 ?_
    refine q_blk (pc' := 21) (lo' := [some (.ref a0), some (.int x1), some (.int (x2 + (q_I A a0 j5))), some (.int (x3 + (nI 1)))]) (st' := []) [.iadd, .istore_n 2, .iinc 3 1] (by decide +kernel) rfl ?_
    refine q_goto 4 (off := -17) (by decide +kernel) (by decide) ?_
    exact h
theorem f_X11_total {G : q_G} {X : String → q_H → Prop} {f : Int32 → q_H → Prop} {A : q_H} {a0 : Nat} {x1 : Int32} (h : q_sh A a0 = (12, 0) ∧ ∃ r2 : Nat, q_R A a0 6 = some r2 ∧ q_Wc G M_X11_totalOf [.ref r2, .int x1] A (q_KI fun r5 A4 => f r5 A4) q_nX) : q_Wc G M_X11_total [.ref a0, .int x1] A (q_KI f) X := by
  refine q_Wc.of [some (.ref a0), some (.int x1)] mo_X11_total.2.2.2.2.2 rfl (Nat.le_of_ble_eq_true rfl) rfl ?_
  refine q_blk (pc' := 1) (lo' := [some (.ref a0), some (.int x1)]) (st' := [.ref a0]) [.aload_n 0] (by decide +kernel) rfl ?_
  obtain ⟨s1, h⟩ := h
  obtain ⟨r2, e3, h⟩ := h
  refine q_getR fl_X11_30 rfl (by decide) (by decide +kernel) s1 e3 ?_
  refine q_blk (pc' := 5) (lo' := [some (.ref a0), some (.int x1)]) (st' := [.int x1, .ref r2]) [.iload_n 1] (by decide +kernel) rfl ?_
  refine q_callS (Mc := M_X11_totalOf) (z := 2) (As := [.ref r2, .int x1]) (st := []) mo_X11_totalOf ms_X11_totalOf ml_X11_60_X11_totalOf rfl rfl (by decide) (by decide) rfl (Nat.le_of_ble_eq_true rfl) (by decide +kernel) h (q_fI fun r5 A4 h => ?_)
  show q_Wp _ _ _ _ 0 0 8 [some (.ref a0), some (.int x1)] [.int r5] A4
  exact q_retI rfl (by decide) (by decide) (by decide +kernel) ⟨_, rfl, h⟩
theorem f_X11_adds {G : q_G} {X : String → q_H → Prop} {f : q_H → Prop} {A : q_H} {a0 : Nat} {x1 : Int32} (h : q_Wp G M_X11_adds (q_KV f) X 0 0 3 [some (.ref a0), some (.int x1), some (.int (nI 24))] [] A) : q_Wc G M_X11_adds [.ref a0, .int x1] A (q_KV f) X := by
  refine q_Wc.of [some (.ref a0), some (.int x1), none] mo_X11_adds.2.2.2.2.2 rfl (Nat.le_of_ble_eq_true rfl) rfl ?_
  refine q_blk (pc' := 3) (lo' := [some (.ref a0), some (.int x1), some (.int (nI 24))]) (st' := []) [.bipush 24, .istore_n 2] (by decide +kernel) rfl ?_
  exact h
theorem f_X11_adds_3 {G : q_G} {X : String → q_H → Prop} {f : q_H → Prop} {A : q_H} {a0 : Nat} {x1 : Int32} {x2 : Int32} (h : ((x2 < nI 0 → f A) ∧ (¬ x2 < nI 0 → q_sh A a0 = (12, 0) ∧ ∃ r3 : Nat, q_R A a0 11 = some r3 ∧ ∃ z6 : Nat, q_sh A r3 = (50, z6) ∧ z6 < 2147483648 ∧ ∃ j8 : Nat, (q_I A a0 12) = nI j8 ∧ j8 < z6 ∧ (∀ A11 : q_H, A11 = (q_setI (q_setI A r3 j8 (((x1.toUInt32 >>> (x2.toUInt32 &&& Int32.toUInt32 31)).toInt32) &&& (nI 255))) a0 12 ((q_I (q_setI A r3 j8 (((x1.toUInt32 >>> (x2.toUInt32 &&& Int32.toUInt32 31)).toInt32) &&& (nI 255))) a0 12) + (nI 1))) → q_Wp G M_X11_adds (q_KV f) X 0 0 3 [some (.ref a0), some (.int x1), some (.int (x2 + Int32.ofInt (-8)))] [] A11)))) : q_Wp G M_X11_adds (q_KV f) X 0 0 3 [some (.ref a0), some (.int x1), some (.int x2)] [] A := by
  refine q_blk (pc' := 4) (lo' := [some (.ref a0), some (.int x1), some (.int x2)]) (st' := [.int x2]) [.iload_n 2] (by decide +kernel) rfl ?_
  refine q_if_lt 39 (off := 35) (by decide +kernel) (by decide) (fun c1 => ?_) (fun c1 => ?_)
  · have h := h.1 c1
    exact q_ret0 rfl (by decide) (by decide) (by decide +kernel) ⟨rfl, h⟩
  · have h := h.2 c1
    refine q_blk (pc' := 8) (lo' := [some (.ref a0), some (.int x1), some (.int x2)]) (st' := [.ref a0]) [.aload_n 0] (by decide +kernel) rfl ?_
    obtain ⟨s2, h⟩ := h
    obtain ⟨r3, e4, h⟩ := h
    refine q_getR fl_X11_42 rfl (by decide) (by decide +kernel) s2 e4 ?_
    refine q_blk (pc' := 12) (lo' := [some (.ref a0), some (.int x1), some (.int x2)]) (st' := [.ref a0, .ref r3]) [.aload_n 0] (by decide +kernel) rfl ?_
    refine q_getI fl_X11_64 rfl (by decide) (by decide +kernel) s2 ?_
    refine q_blk (pc' := 22) (lo' := [some (.ref a0), some (.int x1), some (.int x2)]) (st' := [.int (((x1.toUInt32 >>> (x2.toUInt32 &&& Int32.toUInt32 31)).toInt32) &&& (nI 255)), .int (q_I A a0 12), .ref r3]) [.iload_n 1, .iload_n 2, .iushr, .sipush 255, .iand] (by decide +kernel) rfl ?_
    obtain ⟨z6, s5, b7, h⟩ := h
    obtain ⟨j8, e9, h⟩ := h
    obtain ⟨l10, h⟩ := h
    refine q_iast e9 (by decide +kernel) s5 l10 b7 ?_
    refine q_blk (pc' := 25) (lo' := [some (.ref a0), some (.int x1), some (.int x2)]) (st' := [.ref a0, .ref a0]) [.aload_n 0, .dup] (by decide +kernel) rfl ?_
    refine q_getI fl_X11_64 rfl (by decide) (by decide +kernel) s2 ?_
    refine q_blk (pc' := 30) (lo' := [some (.ref a0), some (.int x1), some (.int x2)]) (st' := [.int ((q_I (q_setI A r3 j8 (((x1.toUInt32 >>> (x2.toUInt32 &&& Int32.toUInt32 31)).toInt32) &&& (nI 255))) a0 12) + (nI 1)), .ref a0]) [.iconst 1, .iadd] (by decide +kernel) rfl ?_
    refine q_putI fw_X11_64 rfl (by decide) (by decide +kernel) s2 ?_
    let A11 : q_H := (q_setI (q_setI A r3 j8 (((x1.toUInt32 >>> (x2.toUInt32 &&& Int32.toUInt32 31)).toInt32) &&& (nI 255))) a0 12 ((q_I (q_setI A r3 j8 (((x1.toUInt32 >>> (x2.toUInt32 &&& Int32.toUInt32 31)).toInt32) &&& (nI 255))) a0 12) + (nI 1)))
    have h := h A11 rfl
    show q_Wp _ _ _ _ 0 0 33 [some (.ref a0), some (.int x1), some (.int x2)] [] A11
    refine q_blk (pc' := 36) (lo' := [some (.ref a0), some (.int x1), some (.int (x2 + Int32.ofInt (-8)))]) (st' := []) [.iinc 2 (-8)] (by decide +kernel) rfl ?_
    refine q_goto 3 (off := -33) (by decide +kernel) (by decide) ?_
    exact h
theorem f_X11_append {G : q_G} {X : String → q_H → Prop} {f : Int32 → q_H → Prop} {A : q_H} {a0 : Nat} {x1 : Int32} {x2 : Int32} {x3 : Int32} {x4 : Int32} {x5 : Int32} (h : q_sh A a0 = (12, 0) ∧ ((((q_I (q_setI A a0 0 (nI 0)) a0 12) + (nI 20)) ≤ (nI 700) → q_Wc G M_X11_adds [.ref a0, .int x1] (q_setI A a0 0 (nI 0)) (q_KV fun A3 => q_sh A3 a0 = (12, 0) ∧ q_Wc G M_X11_adds [.ref a0, .int x2] A3 (q_KV fun A5 => q_sh A5 a0 = (12, 0) ∧ q_Wc G M_X11_adds [.ref a0, .int x3] A5 (q_KV fun A8 => q_sh A8 a0 = (12, 0) ∧ q_Wc G M_X11_adds [.ref a0, .int x4] A8 (q_KV fun A11 => q_sh A11 a0 = (12, 0) ∧ q_Wc G M_X11_adds [.ref a0, .int x5] A11 (q_KV fun A14 => q_sh A14 a0 = (12, 0) ∧ f (q_I A14 a0 12) A14) q_nX) q_nX) q_nX) q_nX) q_nX) ∧ (¬ ((q_I (q_setI A a0 0 (nI 0)) a0 12) + (nI 20)) ≤ (nI 700) → f (-1) (q_setI A a0 0 (nI 0))))) : q_Wc G M_X11_append [.ref a0, .int x1, .int x2, .int x3, .int x4, .int x5] A (q_KI f) X := by
  refine q_Wc.of [some (.ref a0), some (.int x1), some (.int x2), some (.int x3), some (.int x4), some (.int x5)] mo_X11_append.2.2.2.2.2 rfl (Nat.le_of_ble_eq_true rfl) rfl ?_
  refine q_blk (pc' := 2) (lo' := [some (.ref a0), some (.int x1), some (.int x2), some (.int x3), some (.int x4), some (.int x5)]) (st' := [.int (nI 0), .ref a0]) [.aload_n 0, .iconst 0] (by decide +kernel) rfl ?_
  obtain ⟨s1, h⟩ := h
  refine q_putI fw_X11_1 rfl (by decide) (by decide +kernel) s1 ?_
  refine q_blk (pc' := 6) (lo' := [some (.ref a0), some (.int x1), some (.int x2), some (.int x3), some (.int x4), some (.int x5)]) (st' := [.ref a0]) [.aload_n 0] (by decide +kernel) rfl ?_
  refine q_getI fl_X11_64 rfl (by decide) (by decide +kernel) s1 ?_
  refine q_blk (pc' := 15) (lo' := [some (.ref a0), some (.int x1), some (.int x2), some (.int x3), some (.int x4), some (.int x5)]) (st' := [.int (nI 700), .int ((q_I (q_setI A a0 0 (nI 0)) a0 12) + (nI 20))]) [.bipush 20, .iadd, .sipush 700] (by decide +kernel) rfl ?_
  refine q_icmp_le 20 (off := 5) (by decide +kernel) (by decide) (fun c2 => ?_) (fun c2 => ?_)
  · have h := h.1 c2
    refine q_blk (pc' := 22) (lo' := [some (.ref a0), some (.int x1), some (.int x2), some (.int x3), some (.int x4), some (.int x5)]) (st' := [.int x1, .ref a0]) [.aload_n 0, .iload_n 1] (by decide +kernel) rfl ?_
    refine q_callV (ci := 11) (Mc := M_X11_adds) (z := 1) (b := a0) (As := [.int x1]) (st := []) mo_X11_adds mi_X11_adds ml_X11_67_X11_adds rfl rfl (by decide) rfl (by decide) (by decide) rfl (Nat.le_of_ble_eq_true rfl) (by decide +kernel) s1 h (q_fV fun A3 h => ?_)
    show q_Wp _ _ _ _ 0 0 25 [some (.ref a0), some (.int x1), some (.int x2), some (.int x3), some (.int x4), some (.int x5)] [] A3
    refine q_blk (pc' := 27) (lo' := [some (.ref a0), some (.int x1), some (.int x2), some (.int x3), some (.int x4), some (.int x5)]) (st' := [.int x2, .ref a0]) [.aload_n 0, .iload_n 2] (by decide +kernel) rfl ?_
    obtain ⟨s7, h⟩ := h
    refine q_callV (ci := 11) (Mc := M_X11_adds) (z := 1) (b := a0) (As := [.int x2]) (st := []) mo_X11_adds mi_X11_adds ml_X11_67_X11_adds rfl rfl (by decide) rfl (by decide) (by decide) rfl (Nat.le_of_ble_eq_true rfl) (by decide +kernel) s7 h (q_fV fun A5 h => ?_)
    show q_Wp _ _ _ _ 0 0 30 [some (.ref a0), some (.int x1), some (.int x2), some (.int x3), some (.int x4), some (.int x5)] [] A5
    refine q_blk (pc' := 32) (lo' := [some (.ref a0), some (.int x1), some (.int x2), some (.int x3), some (.int x4), some (.int x5)]) (st' := [.int x3, .ref a0]) [.aload_n 0, .iload_n 3] (by decide +kernel) rfl ?_
    obtain ⟨s10, h⟩ := h
    refine q_callV (ci := 11) (Mc := M_X11_adds) (z := 1) (b := a0) (As := [.int x3]) (st := []) mo_X11_adds mi_X11_adds ml_X11_67_X11_adds rfl rfl (by decide) rfl (by decide) (by decide) rfl (Nat.le_of_ble_eq_true rfl) (by decide +kernel) s10 h (q_fV fun A8 h => ?_)
    show q_Wp _ _ _ _ 0 0 35 [some (.ref a0), some (.int x1), some (.int x2), some (.int x3), some (.int x4), some (.int x5)] [] A8
    refine q_blk (pc' := 38) (lo' := [some (.ref a0), some (.int x1), some (.int x2), some (.int x3), some (.int x4), some (.int x5)]) (st' := [.int x4, .ref a0]) [.aload_n 0, .iload 4] (by decide +kernel) rfl ?_
    obtain ⟨s13, h⟩ := h
    refine q_callV (ci := 11) (Mc := M_X11_adds) (z := 1) (b := a0) (As := [.int x4]) (st := []) mo_X11_adds mi_X11_adds ml_X11_67_X11_adds rfl rfl (by decide) rfl (by decide) (by decide) rfl (Nat.le_of_ble_eq_true rfl) (by decide +kernel) s13 h (q_fV fun A11 h => ?_)
    show q_Wp _ _ _ _ 0 0 41 [some (.ref a0), some (.int x1), some (.int x2), some (.int x3), some (.int x4), some (.int x5)] [] A11
    refine q_blk (pc' := 44) (lo' := [some (.ref a0), some (.int x1), some (.int x2), some (.int x3), some (.int x4), some (.int x5)]) (st' := [.int x5, .ref a0]) [.aload_n 0, .iload 5] (by decide +kernel) rfl ?_
    obtain ⟨s16, h⟩ := h
    refine q_callV (ci := 11) (Mc := M_X11_adds) (z := 1) (b := a0) (As := [.int x5]) (st := []) mo_X11_adds mi_X11_adds ml_X11_67_X11_adds rfl rfl (by decide) rfl (by decide) (by decide) rfl (Nat.le_of_ble_eq_true rfl) (by decide +kernel) s16 h (q_fV fun A14 h => ?_)
    show q_Wp _ _ _ _ 0 0 47 [some (.ref a0), some (.int x1), some (.int x2), some (.int x3), some (.int x4), some (.int x5)] [] A14
    refine q_blk (pc' := 48) (lo' := [some (.ref a0), some (.int x1), some (.int x2), some (.int x3), some (.int x4), some (.int x5)]) (st' := [.ref a0]) [.aload_n 0] (by decide +kernel) rfl ?_
    obtain ⟨s17, h⟩ := h
    refine q_getI fl_X11_64 rfl (by decide) (by decide +kernel) s17 ?_
    exact q_retI rfl (by decide) (by decide) (by decide +kernel) ⟨_, rfl, h⟩
  · have h := h.2 c2
    refine q_blk (pc' := 19) (lo' := [some (.ref a0), some (.int x1), some (.int x2), some (.int x3), some (.int x4), some (.int x5)]) (st' := [.int (-1)]) [.iconst (-1)] (by decide +kernel) rfl ?_
    exact q_retI rfl (by decide) (by decide) (by decide +kernel) ⟨_, rfl, h⟩
theorem f_X11_truncate {G : q_G} {X : String → q_H → Prop} {f : Bool → q_H → Prop} {A : q_H} {a0 : Nat} {x1 : Int32} (h : q_sh A a0 = (12, 0) ∧ q_Wc G M_X11_isIn [.long (x1.toInt64), .long (lN 0), .long ((q_I (q_setI A a0 0 (nI 0)) a0 12).toInt64)] (q_setI A a0 0 (nI 0)) (q_KB fun b3 A2 => ((b3 = true → q_sh A2 a0 = (12, 0) ∧ f true (q_setI A2 a0 12 x1)) ∧ (b3 = false → f false A2))) q_nX) : q_Wc G M_X11_truncate [.ref a0, .int x1] A (q_KB f) X := by
  refine q_Wc.of [some (.ref a0), some (.int x1)] mo_X11_truncate.2.2.2.2.2 rfl (Nat.le_of_ble_eq_true rfl) rfl ?_
  refine q_blk (pc' := 2) (lo' := [some (.ref a0), some (.int x1)]) (st' := [.int (nI 0), .ref a0]) [.aload_n 0, .iconst 0] (by decide +kernel) rfl ?_
  obtain ⟨s1, h⟩ := h
  refine q_putI fw_X11_1 rfl (by decide) (by decide +kernel) s1 ?_
  refine q_blk (pc' := 9) (lo' := [some (.ref a0), some (.int x1)]) (st' := [.ref a0, .long (lN 0), .long (x1.toInt64)]) [.iload_n 1, .i2l, .lconst 0, .aload_n 0] (by decide +kernel) rfl ?_
  refine q_getI fl_X11_64 rfl (by decide) (by decide +kernel) s1 ?_
  refine q_blk (pc' := 13) (lo' := [some (.ref a0), some (.int x1)]) (st' := [.long ((q_I (q_setI A a0 0 (nI 0)) a0 12).toInt64), .long (lN 0), .long (x1.toInt64)]) [.i2l] (by decide +kernel) rfl ?_
  refine q_callS (Mc := M_X11_isIn) (z := 3) (As := [.long (x1.toInt64), .long (lN 0), .long ((q_I (q_setI A a0 0 (nI 0)) a0 12).toInt64)]) (st := []) mo_X11_isIn ms_X11_isIn ml_X11_71_X11_isIn rfl rfl (by decide) (by decide) rfl (Nat.le_of_ble_eq_true rfl) (by decide +kernel) h (q_fB fun b3 A2 h => ?_)
  show q_Wp _ _ _ _ 0 0 16 [some (.ref a0), some (.int x1)] [.int (q_i b3)] A2
  refine q_ifB_ne 21 (off := 5) (by decide +kernel) (by decide) (fun c4 => ?_) (fun c4 => ?_)
  · have h := h.1 c4
    refine q_blk (pc' := 23) (lo' := [some (.ref a0), some (.int x1)]) (st' := [.int x1, .ref a0]) [.aload_n 0, .iload_n 1] (by decide +kernel) rfl ?_
    obtain ⟨s6, h⟩ := h
    refine q_putI fw_X11_64 rfl (by decide) (by decide +kernel) s6 ?_
    refine q_blk (pc' := 27) (lo' := [some (.ref a0), some (.int x1)]) (st' := [.int (nI 1)]) [.iconst 1] (by decide +kernel) rfl ?_
    exact q_retZ (r := q_i true) rfl (q_nz _) (by decide) (by decide) (by decide +kernel) ⟨true, rfl, h⟩
  · have h := h.2 c4
    refine q_blk (pc' := 20) (lo' := [some (.ref a0), some (.int x1)]) (st' := [.int (nI 0)]) [.iconst 0] (by decide +kernel) rfl ?_
    exact q_retZ (r := q_i false) rfl (q_nz _) (by decide) (by decide) (by decide +kernel) ⟨false, rfl, h⟩
theorem f_X11_bufferLength {G : q_G} {X : String → q_H → Prop} {f : Int32 → q_H → Prop} {A : q_H} {a0 : Nat} (h : q_sh A a0 = (12, 0) ∧ f (q_I (q_setI A a0 0 (nI 0)) a0 12) (q_setI A a0 0 (nI 0))) : q_Wc G M_X11_bufferLength [.ref a0] A (q_KI f) X := by
  refine q_Wc.of [some (.ref a0)] mo_X11_bufferLength.2.2.2.2.2 rfl (Nat.le_of_ble_eq_true rfl) rfl ?_
  refine q_blk (pc' := 2) (lo' := [some (.ref a0)]) (st' := [.int (nI 0), .ref a0]) [.aload_n 0, .iconst 0] (by decide +kernel) rfl ?_
  obtain ⟨s1, h⟩ := h
  refine q_putI fw_X11_1 rfl (by decide) (by decide +kernel) s1 ?_
  refine q_blk (pc' := 6) (lo' := [some (.ref a0)]) (st' := [.ref a0]) [.aload_n 0] (by decide +kernel) rfl ?_
  refine q_getI fl_X11_64 rfl (by decide) (by decide +kernel) s1 ?_
  exact q_retI rfl (by decide) (by decide) (by decide +kernel) ⟨_, rfl, h⟩
theorem f_X11_byteAt {G : q_G} {X : String → q_H → Prop} {f : Int32 → q_H → Prop} {A : q_H} {a0 : Nat} {x1 : Int32} (h : q_sh A a0 = (12, 0) ∧ (((q_I A a0 13) ≤ x1 → f (-1) A) ∧ (¬ (q_I A a0 13) ≤ x1 → ∃ r3 : Nat, q_R A a0 11 = some r3 ∧ ∃ z6 : Nat, q_sh A r3 = (50, z6) ∧ z6 < 2147483648 ∧ ∃ j8 : Nat, x1 = nI j8 ∧ j8 < z6 ∧ f (q_I A r3 j8) A))) : q_Wc G M_X11_byteAt [.ref a0, .int x1] A (q_KI f) X := by
  refine q_Wc.of [some (.ref a0), some (.int x1)] mo_X11_byteAt.2.2.2.2.2 rfl (Nat.le_of_ble_eq_true rfl) rfl ?_
  refine q_blk (pc' := 2) (lo' := [some (.ref a0), some (.int x1)]) (st' := [.ref a0, .int x1]) [.iload_n 1, .aload_n 0] (by decide +kernel) rfl ?_
  obtain ⟨s1, h⟩ := h
  refine q_getI fl_X11_75 rfl (by decide) (by decide +kernel) s1 ?_
  refine q_icmp_ge 17 (off := 12) (by decide +kernel) (by decide) (fun c2 => ?_) (fun c2 => ?_)
  · have h := h.1 c2
    refine q_blk (pc' := 18) (lo' := [some (.ref a0), some (.int x1)]) (st' := [.int (-1)]) [.iconst (-1)] (by decide +kernel) rfl ?_
    exact q_retI rfl (by decide) (by decide) (by decide +kernel) ⟨_, rfl, h⟩
  · have h := h.2 c2
    refine q_blk (pc' := 9) (lo' := [some (.ref a0), some (.int x1)]) (st' := [.ref a0]) [.aload_n 0] (by decide +kernel) rfl ?_
    obtain ⟨r3, e4, h⟩ := h
    refine q_getR fl_X11_42 rfl (by decide) (by decide +kernel) s1 e4 ?_
    refine q_blk (pc' := 13) (lo' := [some (.ref a0), some (.int x1)]) (st' := [.int x1, .ref r3]) [.iload_n 1] (by decide +kernel) rfl ?_
    obtain ⟨z6, s5, b7, h⟩ := h
    obtain ⟨j8, e9, h⟩ := h
    obtain ⟨l10, h⟩ := h
    refine q_iald e9 (by decide +kernel) s5 l10 b7 ?_
    refine q_goto 18 (off := 4) (by decide +kernel) (by decide) ?_
    exact q_retI rfl (by decide) (by decide) (by decide +kernel) ⟨_, rfl, h⟩
theorem f_X11_isSmall {G : q_G} {X : String → q_H → Prop} {f : Bool → q_H → Prop} {A : q_H} {x0 : Int32} (h : ((x0 < (nI 97) → f false A) ∧ (¬ x0 < (nI 97) → (((nI 122) < x0 → f false A) ∧ (¬ (nI 122) < x0 → f true A))))) : q_Wc G M_X11_isSmall [.int x0] A (q_KB f) X := by
  refine q_Wc.of [some (.int x0)] mo_X11_isSmall.2.2.2.2.2 rfl (Nat.le_of_ble_eq_true rfl) rfl ?_
  refine q_blk (pc' := 3) (lo' := [some (.int x0)]) (st' := [.int (nI 97), .int x0]) [.iload_n 0, .bipush 97] (by decide +kernel) rfl ?_
  refine q_icmp_lt 16 (off := 13) (by decide +kernel) (by decide) (fun c1 => ?_) (fun c1 => ?_)
  · have h := h.1 c1
    refine q_blk (pc' := 17) (lo' := [some (.int x0)]) (st' := [.int (nI 0)]) [.iconst 0] (by decide +kernel) rfl ?_
    exact q_retZ (r := q_i false) rfl (q_nz _) (by decide) (by decide) (by decide +kernel) ⟨false, rfl, h⟩
  · have h := h.2 c1
    refine q_blk (pc' := 9) (lo' := [some (.int x0)]) (st' := [.int (nI 122), .int x0]) [.iload_n 0, .bipush 122] (by decide +kernel) rfl ?_
    refine q_icmp_gt 16 (off := 7) (by decide +kernel) (by decide) (fun c2 => ?_) (fun c2 => ?_)
    · have h := h.1 c2
      refine q_blk (pc' := 17) (lo' := [some (.int x0)]) (st' := [.int (nI 0)]) [.iconst 0] (by decide +kernel) rfl ?_
      exact q_retZ (r := q_i false) rfl (q_nz _) (by decide) (by decide) (by decide +kernel) ⟨false, rfl, h⟩
    · have h := h.2 c2
      refine q_blk (pc' := 13) (lo' := [some (.int x0)]) (st' := [.int (nI 1)]) [.iconst 1] (by decide +kernel) rfl ?_
      refine q_goto 17 (off := 4) (by decide +kernel) (by decide) ?_
      exact q_retZ (r := q_i true) rfl (q_nz _) (by decide) (by decide) (by decide +kernel) ⟨true, rfl, h⟩
theorem f_X11_isDigit {G : q_G} {X : String → q_H → Prop} {f : Bool → q_H → Prop} {A : q_H} {x0 : Int32} (h : ((x0 < (nI 48) → f false A) ∧ (¬ x0 < (nI 48) → (((nI 57) < x0 → f false A) ∧ (¬ (nI 57) < x0 → f true A))))) : q_Wc G M_X11_isDigit [.int x0] A (q_KB f) X := by
  refine q_Wc.of [some (.int x0)] mo_X11_isDigit.2.2.2.2.2 rfl (Nat.le_of_ble_eq_true rfl) rfl ?_
  refine q_blk (pc' := 3) (lo' := [some (.int x0)]) (st' := [.int (nI 48), .int x0]) [.iload_n 0, .bipush 48] (by decide +kernel) rfl ?_
  refine q_icmp_lt 16 (off := 13) (by decide +kernel) (by decide) (fun c1 => ?_) (fun c1 => ?_)
  · have h := h.1 c1
    refine q_blk (pc' := 17) (lo' := [some (.int x0)]) (st' := [.int (nI 0)]) [.iconst 0] (by decide +kernel) rfl ?_
    exact q_retZ (r := q_i false) rfl (q_nz _) (by decide) (by decide) (by decide +kernel) ⟨false, rfl, h⟩
  · have h := h.2 c1
    refine q_blk (pc' := 9) (lo' := [some (.int x0)]) (st' := [.int (nI 57), .int x0]) [.iload_n 0, .bipush 57] (by decide +kernel) rfl ?_
    refine q_icmp_gt 16 (off := 7) (by decide +kernel) (by decide) (fun c2 => ?_) (fun c2 => ?_)
    · have h := h.1 c2
      refine q_blk (pc' := 17) (lo' := [some (.int x0)]) (st' := [.int (nI 0)]) [.iconst 0] (by decide +kernel) rfl ?_
      exact q_retZ (r := q_i false) rfl (q_nz _) (by decide) (by decide) (by decide +kernel) ⟨false, rfl, h⟩
    · have h := h.2 c2
      refine q_blk (pc' := 13) (lo' := [some (.int x0)]) (st' := [.int (nI 1)]) [.iconst 1] (by decide +kernel) rfl ?_
      refine q_goto 17 (off := 4) (by decide +kernel) (by decide) ?_
      exact q_retZ (r := q_i true) rfl (q_nz _) (by decide) (by decide) (by decide +kernel) ⟨true, rfl, h⟩
theorem f_X11_go {G : q_G} {X : String → q_H → Prop} {f : q_H → Prop} {A : q_H} {a0 : Nat} (h : q_Wp G M_X11_go (q_KV f) X 0 0 0 [some (.ref a0), none] [] A) : q_Wc G M_X11_go [.ref a0] A (q_KV f) X := by
  refine q_Wc.of [some (.ref a0), none] mo_X11_go.2.2.2.2.2 rfl (Nat.le_of_ble_eq_true rfl) rfl ?_
  exact h
theorem f_X11_go_0 {G : q_G} {X : String → q_H → Prop} {f : q_H → Prop} {A : q_H} {a0 : Nat} (h : q_sh A a0 = (12, 0) ∧ q_Wc G M_X11_byteAt [.ref a0, .int (q_I A a0 14)] A (q_KI fun r3 A2 => ((r3 = (nI 32) → q_sh A2 a0 = (12, 0) ∧ q_Wp G M_X11_go (q_KV f) X 0 0 0 [some (.ref a0), none] [] (q_setI A2 a0 14 ((q_I A2 a0 14) + (nI 1)))) ∧ (¬ r3 = (nI 32) → q_sh A2 a0 = (12, 0) ∧ q_Wc G M_X11_byteAt [.ref a0, .int (q_I A2 a0 14)] A2 (q_KI fun r8 A7 => ((r8 = (nI 10) → q_sh A7 a0 = (12, 0) ∧ q_Wp G M_X11_go (q_KV f) X 0 0 0 [some (.ref a0), none] [] (q_setI A7 a0 14 ((q_I A7 a0 14) + (nI 1)))) ∧ (¬ r8 = (nI 10) → q_sh A7 a0 = (12, 0) ∧ q_Wc G M_X11_byteAt [.ref a0, .int (q_I (q_setI A7 a0 15 (q_I A7 a0 14)) a0 14)] (q_setI A7 a0 15 (q_I A7 a0 14)) (q_KI fun r12 A11 => ((r12 = (-1) → q_sh A11 a0 = (12, 0) ∧ f (q_setI A11 a0 16 (nI 0))) ∧ (¬ r12 = (-1) → q_Wc G M_X11_isSmall [.int r12] A11 (q_KB fun b15 A14 => ((b15 = true → q_Wp G M_X11_go (q_KV f) X 0 0 76 [some (.ref a0), none] [] A14) ∧ (b15 = false → q_Wc G M_X11_isDigit [.int r12] A14 (q_KB fun b19 A18 => ((b19 = true → q_sh A18 a0 = (12, 0) ∧ q_Wp G M_X11_go (q_KV f) X 0 0 123 [some (.ref a0), none] [] (q_setI A18 a0 17 (nI 0))) ∧ (b19 = false → q_sh A18 a0 = (12, 0) ∧ ((r12 = (nI 59) → f (q_setI (q_setI A18 a0 14 ((q_I A18 a0 14) + (nI 1))) a0 16 (nI 4))) ∧ (¬ r12 = (nI 59) → f (q_setI (q_setI A18 a0 14 ((q_I A18 a0 14) + (nI 1))) a0 16 (nI 1))))))) q_nX))) q_nX))) q_nX))) q_nX))) q_nX) : q_Wp G M_X11_go (q_KV f) X 0 0 0 [some (.ref a0), none] [] A := by
  refine q_blk (pc' := 2) (lo' := [some (.ref a0), none]) (st' := [.ref a0, .ref a0]) [.aload_n 0, .aload_n 0] (by decide +kernel) rfl ?_
  obtain ⟨s1, h⟩ := h
  refine q_getI fl_X11_78 rfl (by decide) (by decide +kernel) s1 ?_
  refine q_callV (ci := 11) (Mc := M_X11_byteAt) (z := 1) (b := a0) (As := [.int (q_I A a0 14)]) (st := []) mo_X11_byteAt mi_X11_byteAt ml_X11_81_X11_byteAt rfl rfl (by decide) rfl (by decide) (by decide) rfl (Nat.le_of_ble_eq_true rfl) (by decide +kernel) s1 h (q_fI fun r3 A2 h => ?_)
  show q_Wp _ _ _ _ 0 0 8 [some (.ref a0), none] [.int r3] A2
  refine q_blk (pc' := 10) (lo' := [some (.ref a0), none]) (st' := [.int (nI 32), .int r3]) [.bipush 32] (by decide +kernel) rfl ?_
  refine q_icmp_eq 26 (off := 16) (by decide +kernel) (by decide) (fun c4 => ?_) (fun c4 => ?_)
  · have h := h.1 c4
    refine q_blk (pc' := 28) (lo' := [some (.ref a0), none]) (st' := [.ref a0, .ref a0]) [.aload_n 0, .dup] (by decide +kernel) rfl ?_
    obtain ⟨s5, h⟩ := h
    refine q_getI fl_X11_78 rfl (by decide) (by decide +kernel) s5 ?_
    refine q_blk (pc' := 33) (lo' := [some (.ref a0), none]) (st' := [.int ((q_I A2 a0 14) + (nI 1)), .ref a0]) [.iconst 1, .iadd] (by decide +kernel) rfl ?_
    refine q_putI fw_X11_78 rfl (by decide) (by decide +kernel) s5 ?_
    refine q_goto 0 (off := -36) (by decide +kernel) (by decide) ?_
    exact h
  · have h := h.2 c4
    refine q_blk (pc' := 15) (lo' := [some (.ref a0), none]) (st' := [.ref a0, .ref a0]) [.aload_n 0, .aload_n 0] (by decide +kernel) rfl ?_
    obtain ⟨s6, h⟩ := h
    refine q_getI fl_X11_78 rfl (by decide) (by decide +kernel) s6 ?_
    refine q_callV (ci := 11) (Mc := M_X11_byteAt) (z := 1) (b := a0) (As := [.int (q_I A2 a0 14)]) (st := []) mo_X11_byteAt mi_X11_byteAt ml_X11_81_X11_byteAt rfl rfl (by decide) rfl (by decide) (by decide) rfl (Nat.le_of_ble_eq_true rfl) (by decide +kernel) s6 h (q_fI fun r8 A7 h => ?_)
    show q_Wp _ _ _ _ 0 0 21 [some (.ref a0), none] [.int r8] A7
    refine q_blk (pc' := 23) (lo' := [some (.ref a0), none]) (st' := [.int (nI 10), .int r8]) [.bipush 10] (by decide +kernel) rfl ?_
    refine q_icmp_ne 39 (off := 16) (by decide +kernel) (by decide) (fun c9 => ?_) (fun c9 => ?_)
    · have h := h.2 c9
      refine q_blk (pc' := 41) (lo' := [some (.ref a0), none]) (st' := [.ref a0, .ref a0]) [.aload_n 0, .aload_n 0] (by decide +kernel) rfl ?_
      obtain ⟨s10, h⟩ := h
      refine q_getI fl_X11_78 rfl (by decide) (by decide +kernel) s10 ?_
      refine q_putI fw_X11_85 rfl (by decide) (by decide +kernel) s10 ?_
      refine q_blk (pc' := 49) (lo' := [some (.ref a0), none]) (st' := [.ref a0, .ref a0]) [.aload_n 0, .aload_n 0] (by decide +kernel) rfl ?_
      refine q_getI fl_X11_78 rfl (by decide) (by decide +kernel) s10 ?_
      refine q_callV (ci := 11) (Mc := M_X11_byteAt) (z := 1) (b := a0) (As := [.int (q_I (q_setI A7 a0 15 (q_I A7 a0 14)) a0 14)]) (st := []) mo_X11_byteAt mi_X11_byteAt ml_X11_81_X11_byteAt rfl rfl (by decide) rfl (by decide) (by decide) rfl (Nat.le_of_ble_eq_true rfl) (by decide +kernel) s10 h (q_fI fun r12 A11 h => ?_)
      show q_Wp _ _ _ _ 0 0 55 [some (.ref a0), none] [.int r12] A11
      refine q_blk (pc' := 58) (lo' := [some (.ref a0), some (.int r12)]) (st' := [.int (-1), .int r12]) [.istore_n 1, .iload_n 1, .iconst (-1)] (by decide +kernel) rfl ?_
      refine q_icmp_ne 69 (off := 11) (by decide +kernel) (by decide) (fun c13 => ?_) (fun c13 => ?_)
      · have h := h.2 c13
        refine q_blk (pc' := 70) (lo' := [some (.ref a0), some (.int r12)]) (st' := [.int r12]) [.iload_n 1] (by decide +kernel) rfl ?_
        refine q_callS (Mc := M_X11_isSmall) (z := 1) (As := [.int r12]) (st := []) mo_X11_isSmall ms_X11_isSmall ml_X11_91_X11_isSmall rfl rfl (by decide) (by decide) rfl (Nat.le_of_ble_eq_true rfl) (by decide +kernel) h (q_fB fun b15 A14 h => ?_)
        show q_Wp _ _ _ _ 0 0 73 [some (.ref a0), some (.int r12)] [.int (q_i b15)] A14
        refine q_ifB_eq 111 (off := 38) (by decide +kernel) (by decide) (fun c16 => ?_) (fun c16 => ?_)
        · have h := h.2 c16
          refine q_blk (pc' := 112) (lo' := [some (.ref a0), some (.int r12)]) (st' := [.int r12]) [.iload_n 1] (by decide +kernel) rfl ?_
          refine q_callS (Mc := M_X11_isDigit) (z := 1) (As := [.int r12]) (st := []) mo_X11_isDigit ms_X11_isDigit ml_X11_95_X11_isDigit rfl rfl (by decide) (by decide) rfl (Nat.le_of_ble_eq_true rfl) (by decide +kernel) h (q_fB fun b19 A18 h => ?_)
          show q_Wp _ _ _ _ 0 0 115 [some (.ref a0), some (.int r12)] [.int (q_i b19)] A18
          refine q_ifB_eq 212 (off := 97) (by decide +kernel) (by decide) (fun c20 => ?_) (fun c20 => ?_)
          · have h := h.2 c20
            refine q_blk (pc' := 214) (lo' := [some (.ref a0), some (.int r12)]) (st' := [.ref a0, .ref a0]) [.aload_n 0, .dup] (by decide +kernel) rfl ?_
            obtain ⟨s22, h⟩ := h
            refine q_getI fl_X11_78 rfl (by decide) (by decide +kernel) s22 ?_
            refine q_blk (pc' := 219) (lo' := [some (.ref a0), some (.int r12)]) (st' := [.int ((q_I A18 a0 14) + (nI 1)), .ref a0]) [.iconst 1, .iadd] (by decide +kernel) rfl ?_
            refine q_putI fw_X11_78 rfl (by decide) (by decide +kernel) s22 ?_
            refine q_blk (pc' := 226) (lo' := [some (.ref a0), some (.int r12)]) (st' := [.int (nI 59), .int r12, .ref a0]) [.aload_n 0, .iload_n 1, .bipush 59] (by decide +kernel) rfl ?_
            refine q_icmp_ne 233 (off := 7) (by decide +kernel) (by decide) (fun c23 => ?_) (fun c23 => ?_)
            · have h := h.2 c23
              refine q_blk (pc' := 234) (lo' := [some (.ref a0), some (.int r12)]) (st' := [.int (nI 1), .ref a0]) [.iconst 1] (by decide +kernel) rfl ?_
              refine q_putI fw_X11_88 rfl (by decide) (by decide +kernel) s22 ?_
              exact q_ret0 rfl (by decide) (by decide) (by decide +kernel) ⟨rfl, h⟩
            · have h := h.1 c23
              refine q_blk (pc' := 230) (lo' := [some (.ref a0), some (.int r12)]) (st' := [.int (nI 4), .ref a0]) [.iconst 4] (by decide +kernel) rfl ?_
              refine q_goto 234 (off := 4) (by decide +kernel) (by decide) ?_
              refine q_putI fw_X11_88 rfl (by decide) (by decide +kernel) s22 ?_
              exact q_ret0 rfl (by decide) (by decide) (by decide +kernel) ⟨rfl, h⟩
          · have h := h.1 c20
            refine q_blk (pc' := 120) (lo' := [some (.ref a0), some (.int r12)]) (st' := [.int (nI 0), .ref a0]) [.aload_n 0, .iconst 0] (by decide +kernel) rfl ?_
            obtain ⟨s24, h⟩ := h
            refine q_putI fw_X11_98 rfl (by decide) (by decide +kernel) s24 ?_
            exact q_wk [some (.ref a0), none] (And.intro rfl trivial) h
        · have h := h.1 c16
          exact q_wk [some (.ref a0), none] (And.intro rfl trivial) h
      · have h := h.1 c13
        refine q_blk (pc' := 63) (lo' := [some (.ref a0), some (.int r12)]) (st' := [.int (nI 0), .ref a0]) [.aload_n 0, .iconst 0] (by decide +kernel) rfl ?_
        obtain ⟨s25, h⟩ := h
        refine q_putI fw_X11_88 rfl (by decide) (by decide +kernel) s25 ?_
        refine q_goto 237 (off := 171) (by decide +kernel) (by decide) ?_
        exact q_ret0 rfl (by decide) (by decide) (by decide +kernel) ⟨rfl, h⟩
    · have h := h.1 c9
      refine q_blk (pc' := 28) (lo' := [some (.ref a0), none]) (st' := [.ref a0, .ref a0]) [.aload_n 0, .dup] (by decide +kernel) rfl ?_
      obtain ⟨s26, h⟩ := h
      refine q_getI fl_X11_78 rfl (by decide) (by decide +kernel) s26 ?_
      refine q_blk (pc' := 33) (lo' := [some (.ref a0), none]) (st' := [.int ((q_I A7 a0 14) + (nI 1)), .ref a0]) [.iconst 1, .iadd] (by decide +kernel) rfl ?_
      refine q_putI fw_X11_78 rfl (by decide) (by decide +kernel) s26 ?_
      refine q_goto 0 (off := -36) (by decide +kernel) (by decide) ?_
      exact h
theorem f_X11_go_123 {G : q_G} {X : String → q_H → Prop} {f : q_H → Prop} {A : q_H} {a0 : Nat} (h : q_sh A a0 = (12, 0) ∧ q_Wc G M_X11_byteAt [.ref a0, .int (q_I A a0 14)] A (q_KI fun r3 A2 => q_Wc G M_X11_isDigit [.int r3] A2 (q_KB fun b5 A4 => ((b5 = true → q_sh A4 a0 = (12, 0) ∧ (((nI 4) ≤ ((q_I A4 a0 14) - (q_I A4 a0 15)) → q_Wp G M_X11_go (q_KV f) X 0 0 123 [some (.ref a0), none] [] (q_setI A4 a0 14 ((q_I A4 a0 14) + (nI 1)))) ∧ (¬ (nI 4) ≤ ((q_I A4 a0 14) - (q_I A4 a0 15)) → ∃ r12 : Nat, q_R A4 a0 11 = some r12 ∧ ∃ z15 : Nat, q_sh A4 r12 = (50, z15) ∧ z15 < 2147483648 ∧ ∃ j17 : Nat, (q_I A4 a0 14) = nI j17 ∧ j17 < z15 ∧ (∀ A20 : q_H, A20 = (q_setI (q_setI A4 a0 17 ((((nI 10) * (q_I A4 a0 17)) + (q_I A4 r12 j17)) - (nI 48))) a0 14 ((q_I (q_setI A4 a0 17 ((((nI 10) * (q_I A4 a0 17)) + (q_I A4 r12 j17)) - (nI 48))) a0 14) + (nI 1))) → q_Wp G M_X11_go (q_KV f) X 0 0 123 [some (.ref a0), none] [] A20)))) ∧ (b5 = false → q_sh A4 a0 = (12, 0) ∧ ((((q_I A4 a0 14) - (q_I A4 a0 15)) ≤ (nI 4) → f (q_setI A4 a0 16 (nI 3))) ∧ (¬ ((q_I A4 a0 14) - (q_I A4 a0 15)) ≤ (nI 4) → f (q_setI A4 a0 16 (nI 1))))))) q_nX) q_nX) : q_Wp G M_X11_go (q_KV f) X 0 0 123 [some (.ref a0), none] [] A := by
  refine q_blk (pc' := 125) (lo' := [some (.ref a0), none]) (st' := [.ref a0, .ref a0]) [.aload_n 0, .aload_n 0] (by decide +kernel) rfl ?_
  obtain ⟨s1, h⟩ := h
  refine q_getI fl_X11_78 rfl (by decide) (by decide +kernel) s1 ?_
  refine q_callV (ci := 11) (Mc := M_X11_byteAt) (z := 1) (b := a0) (As := [.int (q_I A a0 14)]) (st := []) mo_X11_byteAt mi_X11_byteAt ml_X11_81_X11_byteAt rfl rfl (by decide) rfl (by decide) (by decide) rfl (Nat.le_of_ble_eq_true rfl) (by decide +kernel) s1 h (q_fI fun r3 A2 h => ?_)
  show q_Wp _ _ _ _ 0 0 131 [some (.ref a0), none] [.int r3] A2
  refine q_callS (Mc := M_X11_isDigit) (z := 1) (As := [.int r3]) (st := []) mo_X11_isDigit ms_X11_isDigit ml_X11_95_X11_isDigit rfl rfl (by decide) (by decide) rfl (Nat.le_of_ble_eq_true rfl) (by decide +kernel) h (q_fB fun b5 A4 h => ?_)
  show q_Wp _ _ _ _ 0 0 134 [some (.ref a0), none] [.int (q_i b5)] A4
  refine q_ifB_eq 187 (off := 53) (by decide +kernel) (by decide) (fun c6 => ?_) (fun c6 => ?_)
  · have h := h.2 c6
    refine q_blk (pc' := 189) (lo' := [some (.ref a0), none]) (st' := [.ref a0, .ref a0]) [.aload_n 0, .aload_n 0] (by decide +kernel) rfl ?_
    obtain ⟨s8, h⟩ := h
    refine q_getI fl_X11_78 rfl (by decide) (by decide +kernel) s8 ?_
    refine q_blk (pc' := 193) (lo' := [some (.ref a0), none]) (st' := [.ref a0, .int (q_I A4 a0 14), .ref a0]) [.aload_n 0] (by decide +kernel) rfl ?_
    refine q_getI fl_X11_85 rfl (by decide) (by decide +kernel) s8 ?_
    refine q_blk (pc' := 198) (lo' := [some (.ref a0), none]) (st' := [.int (nI 4), .int ((q_I A4 a0 14) - (q_I A4 a0 15)), .ref a0]) [.isub, .iconst 4] (by decide +kernel) rfl ?_
    refine q_icmp_le 205 (off := 7) (by decide +kernel) (by decide) (fun c9 => ?_) (fun c9 => ?_)
    · have h := h.1 c9
      refine q_blk (pc' := 206) (lo' := [some (.ref a0), none]) (st' := [.int (nI 3), .ref a0]) [.iconst 3] (by decide +kernel) rfl ?_
      refine q_putI fw_X11_88 rfl (by decide) (by decide +kernel) s8 ?_
      refine q_goto 237 (off := 28) (by decide +kernel) (by decide) ?_
      exact q_ret0 rfl (by decide) (by decide) (by decide +kernel) ⟨rfl, h⟩
    · have h := h.2 c9
      refine q_blk (pc' := 202) (lo' := [some (.ref a0), none]) (st' := [.int (nI 1), .ref a0]) [.iconst 1] (by decide +kernel) rfl ?_
      refine q_goto 206 (off := 4) (by decide +kernel) (by decide) ?_
      refine q_putI fw_X11_88 rfl (by decide) (by decide +kernel) s8 ?_
      refine q_goto 237 (off := 28) (by decide +kernel) (by decide) ?_
      exact q_ret0 rfl (by decide) (by decide) (by decide +kernel) ⟨rfl, h⟩
  · have h := h.1 c6
    refine q_blk (pc' := 138) (lo' := [some (.ref a0), none]) (st' := [.ref a0]) [.aload_n 0] (by decide +kernel) rfl ?_
    obtain ⟨s10, h⟩ := h
    refine q_getI fl_X11_78 rfl (by decide) (by decide +kernel) s10 ?_
    refine q_blk (pc' := 142) (lo' := [some (.ref a0), none]) (st' := [.ref a0, .int (q_I A4 a0 14)]) [.aload_n 0] (by decide +kernel) rfl ?_
    refine q_getI fl_X11_85 rfl (by decide) (by decide +kernel) s10 ?_
    refine q_blk (pc' := 147) (lo' := [some (.ref a0), none]) (st' := [.int (nI 4), .int ((q_I A4 a0 14) - (q_I A4 a0 15))]) [.isub, .iconst 4] (by decide +kernel) rfl ?_
    refine q_icmp_ge 174 (off := 27) (by decide +kernel) (by decide) (fun c11 => ?_) (fun c11 => ?_)
    · have h := h.1 c11
      refine q_blk (pc' := 176) (lo' := [some (.ref a0), none]) (st' := [.ref a0, .ref a0]) [.aload_n 0, .dup] (by decide +kernel) rfl ?_
      refine q_getI fl_X11_78 rfl (by decide) (by decide +kernel) s10 ?_
      refine q_blk (pc' := 181) (lo' := [some (.ref a0), none]) (st' := [.int ((q_I A4 a0 14) + (nI 1)), .ref a0]) [.iconst 1, .iadd] (by decide +kernel) rfl ?_
      refine q_putI fw_X11_78 rfl (by decide) (by decide +kernel) s10 ?_
      refine q_goto 123 (off := -61) (by decide +kernel) (by decide) ?_
      exact h
    · have h := h.2 c11
      refine q_blk (pc' := 154) (lo' := [some (.ref a0), none]) (st' := [.ref a0, .int (nI 10), .ref a0]) [.aload_n 0, .bipush 10, .aload_n 0] (by decide +kernel) rfl ?_
      refine q_getI fl_X11_98 rfl (by decide) (by decide +kernel) s10 ?_
      refine q_blk (pc' := 159) (lo' := [some (.ref a0), none]) (st' := [.ref a0, .int ((nI 10) * (q_I A4 a0 17)), .ref a0]) [.imul, .aload_n 0] (by decide +kernel) rfl ?_
      obtain ⟨r12, e13, h⟩ := h
      refine q_getR fl_X11_42 rfl (by decide) (by decide +kernel) s10 e13 ?_
      refine q_blk (pc' := 163) (lo' := [some (.ref a0), none]) (st' := [.ref a0, .ref r12, .int ((nI 10) * (q_I A4 a0 17)), .ref a0]) [.aload_n 0] (by decide +kernel) rfl ?_
      refine q_getI fl_X11_78 rfl (by decide) (by decide +kernel) s10 ?_
      obtain ⟨z15, s14, b16, h⟩ := h
      obtain ⟨j17, e18, h⟩ := h
      obtain ⟨l19, h⟩ := h
      refine q_iald e18 (by decide +kernel) s14 l19 b16 ?_
      refine q_blk (pc' := 171) (lo' := [some (.ref a0), none]) (st' := [.int ((((nI 10) * (q_I A4 a0 17)) + (q_I A4 r12 j17)) - (nI 48)), .ref a0]) [.iadd, .bipush 48, .isub] (by decide +kernel) rfl ?_
      refine q_putI fw_X11_98 rfl (by decide) (by decide +kernel) s10 ?_
      refine q_blk (pc' := 176) (lo' := [some (.ref a0), none]) (st' := [.ref a0, .ref a0]) [.aload_n 0, .dup] (by decide +kernel) rfl ?_
      refine q_getI fl_X11_78 rfl (by decide) (by decide +kernel) s10 ?_
      refine q_blk (pc' := 181) (lo' := [some (.ref a0), none]) (st' := [.int ((q_I (q_setI A4 a0 17 ((((nI 10) * (q_I A4 a0 17)) + (q_I A4 r12 j17)) - (nI 48))) a0 14) + (nI 1)), .ref a0]) [.iconst 1, .iadd] (by decide +kernel) rfl ?_
      refine q_putI fw_X11_78 rfl (by decide) (by decide +kernel) s10 ?_
      let A20 : q_H := (q_setI (q_setI A4 a0 17 ((((nI 10) * (q_I A4 a0 17)) + (q_I A4 r12 j17)) - (nI 48))) a0 14 ((q_I (q_setI A4 a0 17 ((((nI 10) * (q_I A4 a0 17)) + (q_I A4 r12 j17)) - (nI 48))) a0 14) + (nI 1)))
      have h := h A20 rfl
      show q_Wp _ _ _ _ 0 0 184 [some (.ref a0), none] [] A20
      refine q_goto 123 (off := -61) (by decide +kernel) (by decide) ?_
      exact h
theorem f_X11_go_76 {G : q_G} {X : String → q_H → Prop} {f : q_H → Prop} {A : q_H} {a0 : Nat} (h : q_sh A a0 = (12, 0) ∧ q_Wc G M_X11_byteAt [.ref a0, .int (q_I A a0 14)] A (q_KI fun r3 A2 => q_Wc G M_X11_isSmall [.int r3] A2 (q_KB fun b5 A4 => ((b5 = true → q_sh A4 a0 = (12, 0) ∧ q_Wp G M_X11_go (q_KV f) X 0 0 76 [some (.ref a0), none] [] (q_setI A4 a0 14 ((q_I A4 a0 14) + (nI 1)))) ∧ (b5 = false → q_sh A4 a0 = (12, 0) ∧ f (q_setI A4 a0 16 (nI 2))))) q_nX) q_nX) : q_Wp G M_X11_go (q_KV f) X 0 0 76 [some (.ref a0), none] [] A := by
  refine q_blk (pc' := 78) (lo' := [some (.ref a0), none]) (st' := [.ref a0, .ref a0]) [.aload_n 0, .aload_n 0] (by decide +kernel) rfl ?_
  obtain ⟨s1, h⟩ := h
  refine q_getI fl_X11_78 rfl (by decide) (by decide +kernel) s1 ?_
  refine q_callV (ci := 11) (Mc := M_X11_byteAt) (z := 1) (b := a0) (As := [.int (q_I A a0 14)]) (st := []) mo_X11_byteAt mi_X11_byteAt ml_X11_81_X11_byteAt rfl rfl (by decide) rfl (by decide) (by decide) rfl (Nat.le_of_ble_eq_true rfl) (by decide +kernel) s1 h (q_fI fun r3 A2 h => ?_)
  show q_Wp _ _ _ _ 0 0 84 [some (.ref a0), none] [.int r3] A2
  refine q_callS (Mc := M_X11_isSmall) (z := 1) (As := [.int r3]) (st := []) mo_X11_isSmall ms_X11_isSmall ml_X11_91_X11_isSmall rfl rfl (by decide) (by decide) rfl (Nat.le_of_ble_eq_true rfl) (by decide +kernel) h (q_fB fun b5 A4 h => ?_)
  show q_Wp _ _ _ _ 0 0 87 [some (.ref a0), none] [.int (q_i b5)] A4
  refine q_ifB_eq 103 (off := 16) (by decide +kernel) (by decide) (fun c6 => ?_) (fun c6 => ?_)
  · have h := h.2 c6
    refine q_blk (pc' := 105) (lo' := [some (.ref a0), none]) (st' := [.int (nI 2), .ref a0]) [.aload_n 0, .iconst 2] (by decide +kernel) rfl ?_
    obtain ⟨s8, h⟩ := h
    refine q_putI fw_X11_88 rfl (by decide) (by decide +kernel) s8 ?_
    refine q_goto 237 (off := 129) (by decide +kernel) (by decide) ?_
    exact q_ret0 rfl (by decide) (by decide) (by decide +kernel) ⟨rfl, h⟩
  · have h := h.1 c6
    refine q_blk (pc' := 92) (lo' := [some (.ref a0), none]) (st' := [.ref a0, .ref a0]) [.aload_n 0, .dup] (by decide +kernel) rfl ?_
    obtain ⟨s9, h⟩ := h
    refine q_getI fl_X11_78 rfl (by decide) (by decide +kernel) s9 ?_
    refine q_blk (pc' := 97) (lo' := [some (.ref a0), none]) (st' := [.int ((q_I A4 a0 14) + (nI 1)), .ref a0]) [.iconst 1, .iadd] (by decide +kernel) rfl ?_
    refine q_putI fw_X11_78 rfl (by decide) (by decide +kernel) s9 ?_
    refine q_goto 76 (off := -24) (by decide +kernel) (by decide) ?_
    exact h
theorem f_X11_isWord {G : q_G} {X : String → q_H → Prop} {f : Bool → q_H → Prop} {A : q_H} {a0 : Nat} {t0 : Nat} {q0 : String × Nat × String × List Int32} (hq0 : q_txt[t0]? = some q0) (h : q_sh A a0 = (12, 0) ∧ (((q_I A a0 16) = (nI 2) → q_Wc G M_J0_length_8abf5 [.ref (q_aK G t0)] A (q_KI fun r4 A3 => ((((q_I A a0 14) - (q_I A a0 15)) = r4 → q_Wp G M_X11_isWord (q_KB f) X 0 0 28 [some (.ref a0), some (.ref (q_aK G t0)), some (.int (nI 0))] [] A3) ∧ (¬ ((q_I A a0 14) - (q_I A a0 15)) = r4 → f false A3))) q_nX) ∧ (¬ (q_I A a0 16) = (nI 2) → f false A))) : q_Wc G M_X11_isWord [.ref a0, .ref (q_aK G t0)] A (q_KB f) X := by
  refine q_Wc.of [some (.ref a0), some (.ref (q_aK G t0)), none] mo_X11_isWord.2.2.2.2.2 rfl (Nat.le_of_ble_eq_true rfl) rfl ?_
  refine q_blk (pc' := 1) (lo' := [some (.ref a0), some (.ref (q_aK G t0)), none]) (st' := [.ref a0]) [.aload_n 0] (by decide +kernel) rfl ?_
  obtain ⟨s1, h⟩ := h
  refine q_getI fl_X11_88 rfl (by decide) (by decide +kernel) s1 ?_
  refine q_blk (pc' := 5) (lo' := [some (.ref a0), some (.ref (q_aK G t0)), none]) (st' := [.int (nI 2), .int (q_I A a0 16)]) [.iconst 2] (by decide +kernel) rfl ?_
  refine q_icmp_ne 24 (off := 19) (by decide +kernel) (by decide) (fun c2 => ?_) (fun c2 => ?_)
  · have h := h.2 c2
    refine q_blk (pc' := 25) (lo' := [some (.ref a0), some (.ref (q_aK G t0)), none]) (st' := [.int (nI 0)]) [.iconst 0] (by decide +kernel) rfl ?_
    exact q_retZ (r := q_i false) rfl (q_nz _) (by decide) (by decide) (by decide +kernel) ⟨false, rfl, h⟩
  · have h := h.1 c2
    refine q_blk (pc' := 9) (lo' := [some (.ref a0), some (.ref (q_aK G t0)), none]) (st' := [.ref a0]) [.aload_n 0] (by decide +kernel) rfl ?_
    refine q_getI fl_X11_78 rfl (by decide) (by decide +kernel) s1 ?_
    refine q_blk (pc' := 13) (lo' := [some (.ref a0), some (.ref (q_aK G t0)), none]) (st' := [.ref a0, .int (q_I A a0 14)]) [.aload_n 0] (by decide +kernel) rfl ?_
    refine q_getI fl_X11_85 rfl (by decide) (by decide +kernel) s1 ?_
    refine q_blk (pc' := 18) (lo' := [some (.ref a0), some (.ref (q_aK G t0)), none]) (st' := [.ref (q_aK G t0), .int ((q_I A a0 14) - (q_I A a0 15))]) [.isub, .aload_n 1] (by decide +kernel) rfl ?_
    refine q_callVS (i := t0) (Mc := M_J0_length_8abf5) (z := 0) (As := []) (st := [.int ((q_I A a0 14) - (q_I A a0 15))]) hq0 mo_J0_length_8abf5 mi_J0_length_8abf5 ml_X11_101_J0_length_8abf5 rfl rfl rfl (by decide) (by decide) rfl (Nat.le_of_ble_eq_true rfl) (by decide +kernel) h (q_fI fun r4 A3 h => ?_)
    show q_Wp _ _ _ _ 0 0 21 [some (.ref a0), some (.ref (q_aK G t0)), none] [.int r4, .int ((q_I A a0 14) - (q_I A a0 15))] A3
    refine q_icmp_eq 26 (off := 5) (by decide +kernel) (by decide) (fun c5 => ?_) (fun c5 => ?_)
    · have h := h.1 c5
      refine q_blk (pc' := 28) (lo' := [some (.ref a0), some (.ref (q_aK G t0)), some (.int (nI 0))]) (st' := []) [.iconst 0, .istore_n 2] (by decide +kernel) rfl ?_
      exact h
    · have h := h.2 c5
      refine q_blk (pc' := 25) (lo' := [some (.ref a0), some (.ref (q_aK G t0)), none]) (st' := [.int (nI 0)]) [.iconst 0] (by decide +kernel) rfl ?_
      exact q_retZ (r := q_i false) rfl (q_nz _) (by decide) (by decide) (by decide +kernel) ⟨false, rfl, h⟩
theorem f_X11_isWord_28 {G : q_G} {X : String → q_H → Prop} {f : Bool → q_H → Prop} {A : q_H} {a0 : Nat} {x2 : Int32} {t0 : Nat} {q0 : String × Nat × String × List Int32} (hq0 : q_txt[t0]? = some q0) (h : q_Wc G M_J0_length_8abf5 [.ref (q_aK G t0)] A (q_KI fun r2 A1 => ((r2 ≤ x2 → f true A1) ∧ (¬ r2 ≤ x2 → q_sh A1 a0 = (12, 0) ∧ ∃ r5 : Nat, q_R A1 a0 11 = some r5 ∧ ∃ z8 : Nat, q_sh A1 r5 = (50, z8) ∧ z8 < 2147483648 ∧ ∃ j10 : Nat, ((q_I A1 a0 15) + x2) = nI j10 ∧ j10 < z8 ∧ q_Wc G M_J0_charAt_5068e [.ref (q_aK G t0), .int x2] A1 (q_KI fun r14 A13 => (((q_I A1 r5 j10) = r14 → q_Wp G M_X11_isWord (q_KB f) X 0 0 28 [some (.ref a0), some (.ref (q_aK G t0)), some (.int (x2 + (nI 1)))] [] A13) ∧ (¬ (q_I A1 r5 j10) = r14 → f false A13))) q_nX))) q_nX) : q_Wp G M_X11_isWord (q_KB f) X 0 0 28 [some (.ref a0), some (.ref (q_aK G t0)), some (.int x2)] [] A := by
  refine q_blk (pc' := 30) (lo' := [some (.ref a0), some (.ref (q_aK G t0)), some (.int x2)]) (st' := [.ref (q_aK G t0), .int x2]) [.iload_n 2, .aload_n 1] (by decide +kernel) rfl ?_
  refine q_callVS (i := t0) (Mc := M_J0_length_8abf5) (z := 0) (As := []) (st := [.int x2]) hq0 mo_J0_length_8abf5 mi_J0_length_8abf5 ml_X11_101_J0_length_8abf5 rfl rfl rfl (by decide) (by decide) rfl (Nat.le_of_ble_eq_true rfl) (by decide +kernel) h (q_fI fun r2 A1 h => ?_)
  show q_Wp _ _ _ _ 0 0 33 [some (.ref a0), some (.ref (q_aK G t0)), some (.int x2)] [.int r2, .int x2] A1
  refine q_icmp_ge 63 (off := 30) (by decide +kernel) (by decide) (fun c3 => ?_) (fun c3 => ?_)
  · have h := h.1 c3
    refine q_blk (pc' := 64) (lo' := [some (.ref a0), some (.ref (q_aK G t0)), some (.int x2)]) (st' := [.int (nI 1)]) [.iconst 1] (by decide +kernel) rfl ?_
    exact q_retZ (r := q_i true) rfl (q_nz _) (by decide) (by decide) (by decide +kernel) ⟨true, rfl, h⟩
  · have h := h.2 c3
    refine q_blk (pc' := 37) (lo' := [some (.ref a0), some (.ref (q_aK G t0)), some (.int x2)]) (st' := [.ref a0]) [.aload_n 0] (by decide +kernel) rfl ?_
    obtain ⟨s4, h⟩ := h
    obtain ⟨r5, e6, h⟩ := h
    refine q_getR fl_X11_42 rfl (by decide) (by decide +kernel) s4 e6 ?_
    refine q_blk (pc' := 41) (lo' := [some (.ref a0), some (.ref (q_aK G t0)), some (.int x2)]) (st' := [.ref a0, .ref r5]) [.aload_n 0] (by decide +kernel) rfl ?_
    refine q_getI fl_X11_85 rfl (by decide) (by decide +kernel) s4 ?_
    refine q_blk (pc' := 46) (lo' := [some (.ref a0), some (.ref (q_aK G t0)), some (.int x2)]) (st' := [.int ((q_I A1 a0 15) + x2), .ref r5]) [.iload_n 2, .iadd] (by decide +kernel) rfl ?_
    obtain ⟨z8, s7, b9, h⟩ := h
    obtain ⟨j10, e11, h⟩ := h
    obtain ⟨l12, h⟩ := h
    refine q_iald e11 (by decide +kernel) s7 l12 b9 ?_
    refine q_blk (pc' := 49) (lo' := [some (.ref a0), some (.ref (q_aK G t0)), some (.int x2)]) (st' := [.int x2, .ref (q_aK G t0), .int (q_I A1 r5 j10)]) [.aload_n 1, .iload_n 2] (by decide +kernel) rfl ?_
    refine q_callVS (i := t0) (Mc := M_J0_charAt_5068e) (z := 1) (As := [.int x2]) (st := [.int (q_I A1 r5 j10)]) hq0 mo_J0_charAt_5068e mi_J0_charAt_5068e ml_X11_107_J0_charAt_5068e rfl rfl rfl (by decide) (by decide) rfl (Nat.le_of_ble_eq_true rfl) (by decide +kernel) h (q_fI fun r14 A13 h => ?_)
    show q_Wp _ _ _ _ 0 0 52 [some (.ref a0), some (.ref (q_aK G t0)), some (.int x2)] [.int r14, .int (q_I A1 r5 j10)] A13
    refine q_icmp_eq 57 (off := 5) (by decide +kernel) (by decide) (fun c15 => ?_) (fun c15 => ?_)
    · have h := h.1 c15
      refine q_blk (pc' := 60) (lo' := [some (.ref a0), some (.ref (q_aK G t0)), some (.int (x2 + (nI 1)))]) (st' := []) [.iinc 2 1] (by decide +kernel) rfl ?_
      refine q_goto 28 (off := -32) (by decide +kernel) (by decide) ?_
      exact h
    · have h := h.2 c15
      refine q_blk (pc' := 56) (lo' := [some (.ref a0), some (.ref (q_aK G t0)), some (.int x2)]) (st' := [.int (nI 0)]) [.iconst 0] (by decide +kernel) rfl ?_
      exact q_retZ (r := q_i false) rfl (q_nz _) (by decide) (by decide) (by decide +kernel) ⟨false, rfl, h⟩
theorem f_X11_isName {G : q_G} {X : String → q_H → Prop} {f : Bool → q_H → Prop} {A : q_H} {a0 : Nat} (h : q_sh A a0 = (12, 0) ∧ (((q_I A a0 16) = (nI 2) → (((nI 6) < ((q_I A a0 14) - (q_I A a0 15)) → f false A) ∧ (¬ (nI 6) < ((q_I A a0 14) - (q_I A a0 15)) → q_Wc G M_X11_isWord [.ref a0, .ref (q_aK G 25)] A (q_KB fun b5 A4 => ((b5 = true → f false A4) ∧ (b5 = false → q_sh A4 a0 = (12, 0) ∧ q_Wc G M_X11_isWord [.ref a0, .ref (q_aK G 26)] A4 (q_KB fun b9 A8 => ((b9 = true → f false A8) ∧ (b9 = false → q_sh A8 a0 = (12, 0) ∧ q_Wc G M_X11_isWord [.ref a0, .ref (q_aK G 27)] A8 (q_KB fun b14 A13 => ((b14 = true → f false A13) ∧ (b14 = false → f true A13))) q_nX))) q_nX))) q_nX))) ∧ (¬ (q_I A a0 16) = (nI 2) → f false A))) : q_Wc G M_X11_isName [.ref a0] A (q_KB f) X := by
  refine q_Wc.of [some (.ref a0)] mo_X11_isName.2.2.2.2.2 rfl (Nat.le_of_ble_eq_true rfl) rfl ?_
  refine q_blk (pc' := 1) (lo' := [some (.ref a0)]) (st' := [.ref a0]) [.aload_n 0] (by decide +kernel) rfl ?_
  obtain ⟨s1, h⟩ := h
  refine q_getI fl_X11_88 rfl (by decide) (by decide +kernel) s1 ?_
  refine q_blk (pc' := 5) (lo' := [some (.ref a0)]) (st' := [.int (nI 2), .int (q_I A a0 16)]) [.iconst 2] (by decide +kernel) rfl ?_
  refine q_icmp_ne 53 (off := 48) (by decide +kernel) (by decide) (fun c2 => ?_) (fun c2 => ?_)
  · have h := h.2 c2
    refine q_blk (pc' := 54) (lo' := [some (.ref a0)]) (st' := [.int (nI 0)]) [.iconst 0] (by decide +kernel) rfl ?_
    exact q_retZ (r := q_i false) rfl (q_nz _) (by decide) (by decide) (by decide +kernel) ⟨false, rfl, h⟩
  · have h := h.1 c2
    refine q_blk (pc' := 9) (lo' := [some (.ref a0)]) (st' := [.ref a0]) [.aload_n 0] (by decide +kernel) rfl ?_
    refine q_getI fl_X11_78 rfl (by decide) (by decide +kernel) s1 ?_
    refine q_blk (pc' := 13) (lo' := [some (.ref a0)]) (st' := [.ref a0, .int (q_I A a0 14)]) [.aload_n 0] (by decide +kernel) rfl ?_
    refine q_getI fl_X11_85 rfl (by decide) (by decide +kernel) s1 ?_
    refine q_blk (pc' := 19) (lo' := [some (.ref a0)]) (st' := [.int (nI 6), .int ((q_I A a0 14) - (q_I A a0 15))]) [.isub, .bipush 6] (by decide +kernel) rfl ?_
    refine q_icmp_gt 53 (off := 34) (by decide +kernel) (by decide) (fun c3 => ?_) (fun c3 => ?_)
    · have h := h.1 c3
      refine q_blk (pc' := 54) (lo' := [some (.ref a0)]) (st' := [.int (nI 0)]) [.iconst 0] (by decide +kernel) rfl ?_
      exact q_retZ (r := q_i false) rfl (q_nz _) (by decide) (by decide) (by decide +kernel) ⟨false, rfl, h⟩
    · have h := h.2 c3
      refine q_blk (pc' := 23) (lo' := [some (.ref a0)]) (st' := [.ref a0]) [.aload_n 0] (by decide +kernel) rfl ?_
      refine q_ldc (i := 25) rfl rfl rfl (by decide +kernel) ?_
      refine q_callV (ci := 11) (Mc := M_X11_isWord) (z := 1) (b := a0) (As := [.ref (q_aK G 25)]) (st := []) mo_X11_isWord mi_X11_isWord ml_X11_113_X11_isWord rfl rfl (by decide) rfl (by decide) (by decide) rfl (Nat.le_of_ble_eq_true rfl) (by decide +kernel) s1 h (q_fB fun b5 A4 h => ?_)
      show q_Wp _ _ _ _ 0 0 28 [some (.ref a0)] [.int (q_i b5)] A4
      refine q_ifB_ne 53 (off := 25) (by decide +kernel) (by decide) (fun c6 => ?_) (fun c6 => ?_)
      · have h := h.1 c6
        refine q_blk (pc' := 54) (lo' := [some (.ref a0)]) (st' := [.int (nI 0)]) [.iconst 0] (by decide +kernel) rfl ?_
        exact q_retZ (r := q_i false) rfl (q_nz _) (by decide) (by decide) (by decide +kernel) ⟨false, rfl, h⟩
      · have h := h.2 c6
        refine q_blk (pc' := 32) (lo' := [some (.ref a0)]) (st' := [.ref a0]) [.aload_n 0] (by decide +kernel) rfl ?_
        refine q_ldc (i := 26) rfl rfl rfl (by decide +kernel) ?_
        obtain ⟨s10, h⟩ := h
        refine q_callV (ci := 11) (Mc := M_X11_isWord) (z := 1) (b := a0) (As := [.ref (q_aK G 26)]) (st := []) mo_X11_isWord mi_X11_isWord ml_X11_113_X11_isWord rfl rfl (by decide) rfl (by decide) (by decide) rfl (Nat.le_of_ble_eq_true rfl) (by decide +kernel) s10 h (q_fB fun b9 A8 h => ?_)
        show q_Wp _ _ _ _ 0 0 37 [some (.ref a0)] [.int (q_i b9)] A8
        refine q_ifB_ne 53 (off := 16) (by decide +kernel) (by decide) (fun c11 => ?_) (fun c11 => ?_)
        · have h := h.1 c11
          refine q_blk (pc' := 54) (lo' := [some (.ref a0)]) (st' := [.int (nI 0)]) [.iconst 0] (by decide +kernel) rfl ?_
          exact q_retZ (r := q_i false) rfl (q_nz _) (by decide) (by decide) (by decide +kernel) ⟨false, rfl, h⟩
        · have h := h.2 c11
          refine q_blk (pc' := 41) (lo' := [some (.ref a0)]) (st' := [.ref a0]) [.aload_n 0] (by decide +kernel) rfl ?_
          refine q_ldc (i := 27) rfl rfl rfl (by decide +kernel) ?_
          obtain ⟨s15, h⟩ := h
          refine q_callV (ci := 11) (Mc := M_X11_isWord) (z := 1) (b := a0) (As := [.ref (q_aK G 27)]) (st := []) mo_X11_isWord mi_X11_isWord ml_X11_113_X11_isWord rfl rfl (by decide) rfl (by decide) (by decide) rfl (Nat.le_of_ble_eq_true rfl) (by decide +kernel) s15 h (q_fB fun b14 A13 h => ?_)
          show q_Wp _ _ _ _ 0 0 46 [some (.ref a0)] [.int (q_i b14)] A13
          refine q_ifB_ne 53 (off := 7) (by decide +kernel) (by decide) (fun c16 => ?_) (fun c16 => ?_)
          · have h := h.1 c16
            refine q_blk (pc' := 54) (lo' := [some (.ref a0)]) (st' := [.int (nI 0)]) [.iconst 0] (by decide +kernel) rfl ?_
            exact q_retZ (r := q_i false) rfl (q_nz _) (by decide) (by decide) (by decide +kernel) ⟨false, rfl, h⟩
          · have h := h.2 c16
            refine q_blk (pc' := 50) (lo' := [some (.ref a0)]) (st' := [.int (nI 1)]) [.iconst 1] (by decide +kernel) rfl ?_
            refine q_goto 54 (off := 4) (by decide +kernel) (by decide) ?_
            exact q_retZ (r := q_i true) rfl (q_nz _) (by decide) (by decide) (by decide +kernel) ⟨true, rfl, h⟩
theorem f_X11_bad {G : q_G} {X : String → q_H → Prop} {f : Bool → q_H → Prop} {A : q_H} {a0 : Nat} {x1 : Int32} (h : q_sh A a0 = (12, 0) ∧ f false (q_setI (q_setI A a0 18 x1) a0 19 (q_I (q_setI A a0 18 x1) a0 15))) : q_Wc G M_X11_bad [.ref a0, .int x1] A (q_KB f) X := by
  refine q_Wc.of [some (.ref a0), some (.int x1)] mo_X11_bad.2.2.2.2.2 rfl (Nat.le_of_ble_eq_true rfl) rfl ?_
  refine q_blk (pc' := 2) (lo' := [some (.ref a0), some (.int x1)]) (st' := [.int x1, .ref a0]) [.aload_n 0, .iload_n 1] (by decide +kernel) rfl ?_
  obtain ⟨s1, h⟩ := h
  refine q_putI fw_X11_121 rfl (by decide) (by decide +kernel) s1 ?_
  refine q_blk (pc' := 7) (lo' := [some (.ref a0), some (.int x1)]) (st' := [.ref a0, .ref a0]) [.aload_n 0, .aload_n 0] (by decide +kernel) rfl ?_
  refine q_getI fl_X11_85 rfl (by decide) (by decide +kernel) s1 ?_
  refine q_putI fw_X11_124 rfl (by decide) (by decide +kernel) s1 ?_
  refine q_blk (pc' := 14) (lo' := [some (.ref a0), some (.int x1)]) (st' := [.int (nI 0)]) [.iconst 0] (by decide +kernel) rfl ?_
  exact q_retZ (r := q_i false) rfl (q_nz _) (by decide) (by decide) (by decide +kernel) ⟨false, rfl, h⟩
theorem f_X11_letters {G : q_G} {X : String → q_H → Prop} {f : Int64 → q_H → Prop} {A : q_H} {a0 : Nat} {x1 : Int32} {x2 : Int32} (h : q_Wp G M_X11_letters (q_KL f) X 0 0 5 [some (.ref a0), none, some (.int x2), some (.long (lN 0)), none, some (.int x1)] [] A) : q_Wc G M_X11_letters [.ref a0, .int x1, .int x2] A (q_KL f) X := by
  refine q_Wc.of [some (.ref a0), some (.int x1), some (.int x2), none, none, none] mo_X11_letters.2.2.2.2.2 rfl (Nat.le_of_ble_eq_true rfl) rfl ?_
  refine q_blk (pc' := 5) (lo' := [some (.ref a0), some (.int x1), some (.int x2), some (.long (lN 0)), none, some (.int x1)]) (st' := []) [.lconst 0, .lstore_n 3, .iload_n 1, .istore 5] (by decide +kernel) rfl ?_
  exact q_wk [some (.ref a0), none, some (.int x2), some (.long (lN 0)), none, some (.int x1)] (And.intro rfl (And.intro rfl (And.intro rfl (And.intro rfl trivial)))) h
theorem f_X11_letters_5 {G : q_G} {X : String → q_H → Prop} {f : Int64 → q_H → Prop} {A : q_H} {a0 : Nat} {x2 : Int32} {w3 : Int64} {x5 : Int32} (h : ((x2 ≤ x5 → f w3 A) ∧ (¬ x2 ≤ x5 → q_sh A a0 = (12, 0) ∧ ∃ r3 : Nat, q_R A a0 11 = some r3 ∧ ∃ z6 : Nat, q_sh A r3 = (50, z6) ∧ z6 < 2147483648 ∧ ∃ j8 : Nat, x5 = nI j8 ∧ j8 < z6 ∧ q_Wp G M_X11_letters (q_KL f) X 0 0 5 [some (.ref a0), none, some (.int x2), some (.long ((((lN 27) * w3) + ((q_I A r3 j8).toInt64)) - (lN 96))), none, some (.int (x5 + (nI 1)))] [] A))) : q_Wp G M_X11_letters (q_KL f) X 0 0 5 [some (.ref a0), none, some (.int x2), some (.long w3), none, some (.int x5)] [] A := by
  refine q_blk (pc' := 8) (lo' := [some (.ref a0), none, some (.int x2), some (.long w3), none, some (.int x5)]) (st' := [.int x2, .int x5]) [.iload 5, .iload_n 2] (by decide +kernel) rfl ?_
  refine q_icmp_ge 36 (off := 28) (by decide +kernel) (by decide) (fun c1 => ?_) (fun c1 => ?_)
  · have h := h.1 c1
    refine q_blk (pc' := 37) (lo' := [some (.ref a0), none, some (.int x2), some (.long w3), none, some (.int x5)]) (st' := [.long w3]) [.lload_n 3] (by decide +kernel) rfl ?_
    exact q_retL rfl (by decide) (by decide) (by decide +kernel) ⟨_, rfl, h⟩
  · have h := h.2 c1
    refine q_ldc2 (v := 27) c2_X11_127 (by decide +kernel) ?_
    --
    refine q_blk (pc' := 17) (lo' := [some (.ref a0), none, some (.int x2), some (.long w3), none, some (.int x5)]) (st' := [.ref a0, .long ((lN 27) * w3)]) [.lload_n 3, .lmul, .aload_n 0] (by decide +kernel) rfl ?_
    obtain ⟨s2, h⟩ := h
    obtain ⟨r3, e4, h⟩ := h
    refine q_getR fl_X11_42 rfl (by decide) (by decide +kernel) s2 e4 ?_
    refine q_blk (pc' := 22) (lo' := [some (.ref a0), none, some (.int x2), some (.long w3), none, some (.int x5)]) (st' := [.int x5, .ref r3, .long ((lN 27) * w3)]) [.iload 5] (by decide +kernel) rfl ?_
    obtain ⟨z6, s5, b7, h⟩ := h
    obtain ⟨j8, e9, h⟩ := h
    obtain ⟨l10, h⟩ := h
    refine q_iald e9 (by decide +kernel) s5 l10 b7 ?_
    refine q_blk (pc' := 25) (lo' := [some (.ref a0), none, some (.int x2), some (.long w3), none, some (.int x5)]) (st' := [.long (((lN 27) * w3) + ((q_I A r3 j8).toInt64))]) [.i2l, .ladd] (by decide +kernel) rfl ?_
    refine q_ldc2 (v := 96) c2_X11_129 (by decide +kernel) ?_
    --
    refine q_blk (pc' := 33) (lo' := [some (.ref a0), none, some (.int x2), some (.long ((((lN 27) * w3) + ((q_I A r3 j8).toInt64)) - (lN 96))), none, some (.int (x5 + (nI 1)))]) (st' := []) [.lsub, .lstore_n 3, .iinc 5 1] (by decide +kernel) rfl ?_
    refine q_goto 5 (off := -28) (by decide +kernel) (by decide) ?_
    exact h
theorem f_X11_buyerWith {G : q_G} {X : String → q_H → Prop} {f : Int32 → q_H → Prop} {A : q_H} {w0 : Int64} {a2 : Nat} {x3 : Int32} (h : q_Wp G M_X11_buyerWith (q_KI f) X 0 0 3 [some (.long w0), none, some (.ref a2), some (.int x3), some (.int (nI 0))] [] A) : q_Wc G M_X11_buyerWith [.long w0, .ref a2, .int x3] A (q_KI f) X := by
  refine q_Wc.of [some (.long w0), none, some (.ref a2), some (.int x3), none] mo_X11_buyerWith.2.2.2.2.2 rfl (Nat.le_of_ble_eq_true rfl) rfl ?_
  refine q_blk (pc' := 3) (lo' := [some (.long w0), none, some (.ref a2), some (.int x3), some (.int (nI 0))]) (st' := []) [.iconst 0, .istore 4] (by decide +kernel) rfl ?_
  exact h
theorem f_X11_buyerWith_3 {G : q_G} {X : String → q_H → Prop} {f : Int32 → q_H → Prop} {A : q_H} {w0 : Int64} {a2 : Nat} {x3 : Int32} {x4 : Int32} (h : ((x3 ≤ x4 → f (-1) A) ∧ (¬ x3 ≤ x4 → ∃ z3 : Nat, q_sh A a2 = (52, z3) ∧ z3 < 2147483648 ∧ ∃ j5 : Nat, x4 = nI j5 ∧ j5 < z3 ∧ (((q_L A a2 j5) = w0 → f x4 A) ∧ (¬ (q_L A a2 j5) = w0 → q_Wp G M_X11_buyerWith (q_KI f) X 0 0 3 [some (.long w0), none, some (.ref a2), some (.int x3), some (.int (x4 + (nI 1)))] [] A))))) : q_Wp G M_X11_buyerWith (q_KI f) X 0 0 3 [some (.long w0), none, some (.ref a2), some (.int x3), some (.int x4)] [] A := by
  refine q_blk (pc' := 6) (lo' := [some (.long w0), none, some (.ref a2), some (.int x3), some (.int x4)]) (st' := [.int x3, .int x4]) [.iload 4, .iload_n 3] (by decide +kernel) rfl ?_
  refine q_icmp_ge 27 (off := 21) (by decide +kernel) (by decide) (fun c1 => ?_) (fun c1 => ?_)
  · have h := h.1 c1
    refine q_blk (pc' := 28) (lo' := [some (.long w0), none, some (.ref a2), some (.int x3), some (.int x4)]) (st' := [.int (-1)]) [.iconst (-1)] (by decide +kernel) rfl ?_
    exact q_retI rfl (by decide) (by decide) (by decide +kernel) ⟨_, rfl, h⟩
  · have h := h.2 c1
    refine q_blk (pc' := 12) (lo' := [some (.long w0), none, some (.ref a2), some (.int x3), some (.int x4)]) (st' := [.int x4, .ref a2]) [.aload_n 2, .iload 4] (by decide +kernel) rfl ?_
    obtain ⟨z3, s2, b4, h⟩ := h
    obtain ⟨j5, e6, h⟩ := h
    obtain ⟨l7, h⟩ := h
    refine q_lald e6 (by decide +kernel) s2 l7 b4 ?_
    refine q_blk (pc' := 15) (lo' := [some (.long w0), none, some (.ref a2), some (.int x3), some (.int x4)]) (st' := [.int (lg_cmp (q_L A a2 j5) w0)]) [.lload_n 0, .lcmp] (by decide +kernel) rfl ?_
    refine q_if_ne 21 (off := 6) (by decide +kernel) (by decide) (fun c8 => ?_) (fun c8 => ?_)
    · have h := h.2 (fun q9 => c8 ((lg_cmp_eq (q_L A a2 j5) w0).mpr q9))
      refine q_blk (pc' := 24) (lo' := [some (.long w0), none, some (.ref a2), some (.int x3), some (.int (x4 + (nI 1)))]) (st' := []) [.iinc 4 1] (by decide +kernel) rfl ?_
      refine q_goto 3 (off := -21) (by decide +kernel) (by decide) ?_
      exact h
    · have h := h.1 ((lg_cmp_eq (q_L A a2 j5) w0).mp c8)
      refine q_blk (pc' := 20) (lo' := [some (.long w0), none, some (.ref a2), some (.int x3), some (.int x4)]) (st' := [.int x4]) [.iload 4] (by decide +kernel) rfl ?_
      exact q_retI rfl (by decide) (by decide) (by decide +kernel) ⟨_, rfl, h⟩
theorem f_X11_reads {G : q_G} {X : String → q_H → Prop} {f : Bool → q_H → Prop} {A : q_H} {a0 : Nat} {a1 : Nat} {x2 : Int32} {x3 : Int32} {x4 : Int32} (h : q_sh A a0 = (12, 0) ∧ (((q_I A a0 16) = (nI 3) → q_Wc G M_X11_isIn [.long ((q_I A a0 17).toInt64), .long (x3.toInt64), .long (x4.toInt64)] A (q_KB fun b4 A3 => ((b4 = true → q_sh A3 a0 = (12, 0) ∧ ∃ z9 : Nat, q_sh A3 a1 = (50, z9) ∧ z9 < 2147483648 ∧ ∃ j11 : Nat, x2 = nI j11 ∧ j11 < z9 ∧ q_Wc G M_X11_go [.ref a0] (q_setI A3 a1 j11 (q_I A3 a0 17)) (q_KV fun A14 => f true A14) q_nX) ∧ (b4 = false → q_sh A3 a0 = (12, 0) ∧ q_Wc G M_X11_bad [.ref a0, .int (nI 2)] A3 (q_KB fun b17 A16 => f b17 A16) q_nX))) q_nX) ∧ (¬ (q_I A a0 16) = (nI 3) → q_Wc G M_X11_bad [.ref a0, .int (nI 1)] A (q_KB fun b20 A19 => f b20 A19) q_nX))) : q_Wc G M_X11_reads [.ref a0, .ref a1, .int x2, .int x3, .int x4] A (q_KB f) X := by
  refine q_Wc.of [some (.ref a0), some (.ref a1), some (.int x2), some (.int x3), some (.int x4)] mo_X11_reads.2.2.2.2.2 rfl (Nat.le_of_ble_eq_true rfl) rfl ?_
  refine q_blk (pc' := 1) (lo' := [some (.ref a0), some (.ref a1), some (.int x2), some (.int x3), some (.int x4)]) (st' := [.ref a0]) [.aload_n 0] (by decide +kernel) rfl ?_
  obtain ⟨s1, h⟩ := h
  refine q_getI fl_X11_88 rfl (by decide) (by decide +kernel) s1 ?_
  refine q_blk (pc' := 5) (lo' := [some (.ref a0), some (.ref a1), some (.int x2), some (.int x3), some (.int x4)]) (st' := [.int (nI 3), .int (q_I A a0 16)]) [.iconst 3] (by decide +kernel) rfl ?_
  refine q_icmp_eq 14 (off := 9) (by decide +kernel) (by decide) (fun c2 => ?_) (fun c2 => ?_)
  · have h := h.1 c2
    refine q_blk (pc' := 15) (lo' := [some (.ref a0), some (.ref a1), some (.int x2), some (.int x3), some (.int x4)]) (st' := [.ref a0]) [.aload_n 0] (by decide +kernel) rfl ?_
    refine q_getI fl_X11_98 rfl (by decide) (by decide +kernel) s1 ?_
    refine q_blk (pc' := 24) (lo' := [some (.ref a0), some (.ref a1), some (.int x2), some (.int x3), some (.int x4)]) (st' := [.long (x4.toInt64), .long (x3.toInt64), .long ((q_I A a0 17).toInt64)]) [.i2l, .iload_n 3, .i2l, .iload 4, .i2l] (by decide +kernel) rfl ?_
    refine q_callS (Mc := M_X11_isIn) (z := 3) (As := [.long ((q_I A a0 17).toInt64), .long (x3.toInt64), .long (x4.toInt64)]) (st := []) mo_X11_isIn ms_X11_isIn ml_X11_71_X11_isIn rfl rfl (by decide) (by decide) rfl (Nat.le_of_ble_eq_true rfl) (by decide +kernel) h (q_fB fun b4 A3 h => ?_)
    show q_Wp _ _ _ _ 0 0 27 [some (.ref a0), some (.ref a1), some (.int x2), some (.int x3), some (.int x4)] [.int (q_i b4)] A3
    refine q_ifB_ne 36 (off := 9) (by decide +kernel) (by decide) (fun c5 => ?_) (fun c5 => ?_)
    · have h := h.1 c5
      refine q_blk (pc' := 39) (lo' := [some (.ref a0), some (.ref a1), some (.int x2), some (.int x3), some (.int x4)]) (st' := [.ref a0, .int x2, .ref a1]) [.aload_n 1, .iload_n 2, .aload_n 0] (by decide +kernel) rfl ?_
      obtain ⟨s7, h⟩ := h
      refine q_getI fl_X11_98 rfl (by decide) (by decide +kernel) s7 ?_
      obtain ⟨z9, s8, b10, h⟩ := h
      obtain ⟨j11, e12, h⟩ := h
      obtain ⟨l13, h⟩ := h
      refine q_iast e12 (by decide +kernel) s8 l13 b10 ?_
      refine q_blk (pc' := 44) (lo' := [some (.ref a0), some (.ref a1), some (.int x2), some (.int x3), some (.int x4)]) (st' := [.ref a0]) [.aload_n 0] (by decide +kernel) rfl ?_
      refine q_callV (ci := 11) (Mc := M_X11_go) (z := 0) (b := a0) (As := []) (st := []) mo_X11_go mi_X11_go ml_X11_134_X11_go rfl rfl (by decide) rfl (by decide) (by decide) rfl (Nat.le_of_ble_eq_true rfl) (by decide +kernel) s7 h (q_fV fun A14 h => ?_)
      show q_Wp _ _ _ _ 0 0 47 [some (.ref a0), some (.ref a1), some (.int x2), some (.int x3), some (.int x4)] [] A14
      refine q_blk (pc' := 48) (lo' := [some (.ref a0), some (.ref a1), some (.int x2), some (.int x3), some (.int x4)]) (st' := [.int (nI 1)]) [.iconst 1] (by decide +kernel) rfl ?_
      exact q_retZ (r := q_i true) rfl (q_nz _) (by decide) (by decide) (by decide +kernel) ⟨true, rfl, h⟩
    · have h := h.2 c5
      refine q_blk (pc' := 32) (lo' := [some (.ref a0), some (.ref a1), some (.int x2), some (.int x3), some (.int x4)]) (st' := [.int (nI 2), .ref a0]) [.aload_n 0, .iconst 2] (by decide +kernel) rfl ?_
      obtain ⟨s18, h⟩ := h
      refine q_callV (ci := 11) (Mc := M_X11_bad) (z := 1) (b := a0) (As := [.int (nI 2)]) (st := []) mo_X11_bad mi_X11_bad ml_X11_131_X11_bad rfl rfl (by decide) rfl (by decide) (by decide) rfl (Nat.le_of_ble_eq_true rfl) (by decide +kernel) s18 h (q_fB fun b17 A16 h => ?_)
      show q_Wp _ _ _ _ 0 0 35 [some (.ref a0), some (.ref a1), some (.int x2), some (.int x3), some (.int x4)] [.int (q_i b17)] A16
      exact q_retZ (r := q_i b17) rfl (q_nz _) (by decide) (by decide) (by decide +kernel) ⟨b17, rfl, h⟩
  · have h := h.2 c2
    refine q_blk (pc' := 10) (lo' := [some (.ref a0), some (.ref a1), some (.int x2), some (.int x3), some (.int x4)]) (st' := [.int (nI 1), .ref a0]) [.aload_n 0, .iconst 1] (by decide +kernel) rfl ?_
    refine q_callV (ci := 11) (Mc := M_X11_bad) (z := 1) (b := a0) (As := [.int (nI 1)]) (st := []) mo_X11_bad mi_X11_bad ml_X11_131_X11_bad rfl rfl (by decide) rfl (by decide) (by decide) rfl (Nat.le_of_ble_eq_true rfl) (by decide +kernel) s1 h (q_fB fun b20 A19 h => ?_)
    show q_Wp _ _ _ _ 0 0 13 [some (.ref a0), some (.ref a1), some (.int x2), some (.int x3), some (.int x4)] [.int (q_i b20)] A19
    exact q_retZ (r := q_i b20) rfl (q_nz _) (by decide) (by decide) (by decide +kernel) ⟨b20, rfl, h⟩
theorem f_X11_readsStation {G : q_G} {X : String → q_H → Prop} {f : Bool → q_H → Prop} {A : q_H} {a0 : Nat} (h : q_sh A a0 = (12, 0) ∧ ∃ r2 : Nat, q_R A a0 3 = some r2 ∧ ∃ z5 : Nat, q_sh A r2 = (50, z5) ∧ z5 < 2147483648 ∧ 1 < z5 ∧ (((q_I A r2 1) = (nI 8) → q_Wc G M_X11_bad [.ref a0, .int (nI 5)] A (q_KB fun b48 A47 => f b48 A47) q_nX) ∧ (¬ (q_I A r2 1) = (nI 8) → q_Wc G M_X11_go [.ref a0] A (q_KV fun A9 => q_sh A9 a0 = (12, 0) ∧ ∃ r12 : Nat, q_R A9 a0 3 = some r12 ∧ ∃ z15 : Nat, q_sh A9 r12 = (50, z15) ∧ z15 < 2147483648 ∧ 1 < z15 ∧ 0 < z15 ∧ q_Wc G M_X11_reads [.ref a0, .ref r12, .int ((nI 3) + ((nI 3) * (q_I A r2 1))), .int (nI 0), .int ((q_I (q_setI A9 r12 1 ((q_I A9 r12 1) + (nI 1))) r12 0) - (nI 1))] (q_setI A9 r12 1 ((q_I A9 r12 1) + (nI 1))) (q_KB fun b20 A19 => ((b20 = true → q_sh A19 a0 = (12, 0) ∧ ∃ r24 : Nat, q_R A19 a0 7 = some r24 ∧ q_Wc G M_X11_placeAt [.int (q_I A r2 1), .int (nI 0)] A19 (q_KI fun r27 A26 => q_sh A26 a0 = (12, 0) ∧ q_Wc G M_X11_reads [.ref a0, .ref r24, .int r27, .int (nI 0), .int (nI 9)] A26 (q_KB fun b29 A28 => ((b29 = true → q_sh A28 a0 = (12, 0) ∧ ∃ r34 : Nat, q_R A28 a0 3 = some r34 ∧ q_Wc G M_X11_reads [.ref a0, .ref r34, .int (((nI 3) + ((nI 3) * (q_I A r2 1))) + (nI 1)), .int (nI 1), .int (nI 50)] A28 (q_KB fun b37 A36 => ((b37 = true → q_sh A36 a0 = (12, 0) ∧ ∃ r41 : Nat, q_R A36 a0 3 = some r41 ∧ q_Wc G M_X11_reads [.ref a0, .ref r41, .int (((nI 3) + ((nI 3) * (q_I A r2 1))) + (nI 2)), .int (nI 0), .int (nI 30)] A36 (q_KB fun b44 A43 => ((b44 = true → f true A43) ∧ (b44 = false → f false A43))) q_nX) ∧ (b37 = false → f false A36))) q_nX) ∧ (b29 = false → f false A28))) q_nX) q_nX) ∧ (b20 = false → f false A19))) q_nX) q_nX))) : q_Wc G M_X11_readsStation [.ref a0] A (q_KB f) X := by
  refine q_Wc.of [some (.ref a0), none, none] mo_X11_readsStation.2.2.2.2.2 rfl (Nat.le_of_ble_eq_true rfl) rfl ?_
  refine q_blk (pc' := 1) (lo' := [some (.ref a0), none, none]) (st' := [.ref a0]) [.aload_n 0] (by decide +kernel) rfl ?_
  obtain ⟨s1, h⟩ := h
  obtain ⟨r2, e3, h⟩ := h
  refine q_getR fl_X11_20 rfl (by decide) (by decide +kernel) s1 e3 ?_
  refine q_blk (pc' := 5) (lo' := [some (.ref a0), none, none]) (st' := [.int (nI 1), .ref r2]) [.iconst 1] (by decide +kernel) rfl ?_
  obtain ⟨z5, s4, b6, h⟩ := h
  obtain ⟨l7, h⟩ := h
  refine q_iald rfl (by decide +kernel) s4 l7 b6 ?_
  refine q_blk (pc' := 10) (lo' := [some (.ref a0), some (.int (q_I A r2 1)), none]) (st' := [.int (nI 8), .int (q_I A r2 1)]) [.istore_n 1, .iload_n 1, .bipush 8] (by decide +kernel) rfl ?_
  refine q_icmp_ne 19 (off := 9) (by decide +kernel) (by decide) (fun c8 => ?_) (fun c8 => ?_)
  · have h := h.2 c8
    refine q_blk (pc' := 20) (lo' := [some (.ref a0), some (.int (q_I A r2 1)), none]) (st' := [.ref a0]) [.aload_n 0] (by decide +kernel) rfl ?_
    refine q_callV (ci := 11) (Mc := M_X11_go) (z := 0) (b := a0) (As := []) (st := []) mo_X11_go mi_X11_go ml_X11_134_X11_go rfl rfl (by decide) rfl (by decide) (by decide) rfl (Nat.le_of_ble_eq_true rfl) (by decide +kernel) s1 h (q_fV fun A9 h => ?_)
    show q_Wp _ _ _ _ 0 0 23 [some (.ref a0), some (.int (q_I A r2 1)), none] [] A9
    refine q_blk (pc' := 30) (lo' := [some (.ref a0), some (.int (q_I A r2 1)), some (.int ((nI 3) + ((nI 3) * (q_I A r2 1))))]) (st' := [.ref a0]) [.iconst 3, .iconst 3, .iload_n 1, .imul, .iadd, .istore_n 2, .aload_n 0] (by decide +kernel) rfl ?_
    obtain ⟨s11, h⟩ := h
    obtain ⟨r12, e13, h⟩ := h
    refine q_getR fl_X11_20 rfl (by decide) (by decide +kernel) s11 e13 ?_
    refine q_blk (pc' := 35) (lo' := [some (.ref a0), some (.int (q_I A r2 1)), some (.int ((nI 3) + ((nI 3) * (q_I A r2 1))))]) (st' := [.int (nI 1), .ref r12, .int (nI 1), .ref r12]) [.iconst 1, .dup2] (by decide +kernel) rfl ?_
    obtain ⟨z15, s14, b16, h⟩ := h
    obtain ⟨l17, h⟩ := h
    refine q_iald rfl (by decide +kernel) s14 l17 b16 ?_
    refine q_blk (pc' := 38) (lo' := [some (.ref a0), some (.int (q_I A r2 1)), some (.int ((nI 3) + ((nI 3) * (q_I A r2 1))))]) (st' := [.int ((q_I A9 r12 1) + (nI 1)), .int (nI 1), .ref r12]) [.iconst 1, .iadd] (by decide +kernel) rfl ?_
    refine q_iast rfl (by decide +kernel) s14 l17 b16 ?_
    refine q_blk (pc' := 41) (lo' := [some (.ref a0), some (.int (q_I A r2 1)), some (.int ((nI 3) + ((nI 3) * (q_I A r2 1))))]) (st' := [.ref a0, .ref a0]) [.aload_n 0, .aload_n 0] (by decide +kernel) rfl ?_
    refine q_getR fl_X11_20 rfl (by decide) (by decide +kernel) s11 e13 ?_
    refine q_blk (pc' := 47) (lo' := [some (.ref a0), some (.int (q_I A r2 1)), some (.int ((nI 3) + ((nI 3) * (q_I A r2 1))))]) (st' := [.ref a0, .int (nI 0), .int ((nI 3) + ((nI 3) * (q_I A r2 1))), .ref r12, .ref a0]) [.iload_n 2, .iconst 0, .aload_n 0] (by decide +kernel) rfl ?_
    refine q_getR fl_X11_20 rfl (by decide) (by decide +kernel) s11 e13 ?_
    refine q_blk (pc' := 51) (lo' := [some (.ref a0), some (.int (q_I A r2 1)), some (.int ((nI 3) + ((nI 3) * (q_I A r2 1))))]) (st' := [.int (nI 0), .ref r12, .int (nI 0), .int ((nI 3) + ((nI 3) * (q_I A r2 1))), .ref r12, .ref a0]) [.iconst 0] (by decide +kernel) rfl ?_
    obtain ⟨l18, h⟩ := h
    refine q_iald rfl (by decide +kernel) s14 l18 b16 ?_
    refine q_blk (pc' := 54) (lo' := [some (.ref a0), some (.int (q_I A r2 1)), some (.int ((nI 3) + ((nI 3) * (q_I A r2 1))))]) (st' := [.int ((q_I (q_setI A9 r12 1 ((q_I A9 r12 1) + (nI 1))) r12 0) - (nI 1)), .int (nI 0), .int ((nI 3) + ((nI 3) * (q_I A r2 1))), .ref r12, .ref a0]) [.iconst 1, .isub] (by decide +kernel) rfl ?_
    refine q_callV (ci := 11) (Mc := M_X11_reads) (z := 4) (b := a0) (As := [.ref r12, .int ((nI 3) + ((nI 3) * (q_I A r2 1))), .int (nI 0), .int ((q_I (q_setI A9 r12 1 ((q_I A9 r12 1) + (nI 1))) r12 0) - (nI 1))]) (st := []) mo_X11_reads mi_X11_reads ml_X11_137_X11_reads rfl rfl (by decide) rfl (by decide) (by decide) rfl (Nat.le_of_ble_eq_true rfl) (by decide +kernel) s11 h (q_fB fun b20 A19 h => ?_)
    show q_Wp _ _ _ _ 0 0 57 [some (.ref a0), some (.int (q_I A r2 1)), some (.int ((nI 3) + ((nI 3) * (q_I A r2 1))))] [.int (q_i b20)] A19
    refine q_ifB_eq 117 (off := 60) (by decide +kernel) (by decide) (fun c21 => ?_) (fun c21 => ?_)
    · have h := h.2 c21
      refine q_blk (pc' := 118) (lo' := [some (.ref a0), some (.int (q_I A r2 1)), some (.int ((nI 3) + ((nI 3) * (q_I A r2 1))))]) (st' := [.int (nI 0)]) [.iconst 0] (by decide +kernel) rfl ?_
      exact q_retZ (r := q_i false) rfl (q_nz _) (by decide) (by decide) (by decide +kernel) ⟨false, rfl, h⟩
    · have h := h.1 c21
      refine q_blk (pc' := 62) (lo' := [some (.ref a0), some (.int (q_I A r2 1)), some (.int ((nI 3) + ((nI 3) * (q_I A r2 1))))]) (st' := [.ref a0, .ref a0]) [.aload_n 0, .aload_n 0] (by decide +kernel) rfl ?_
      obtain ⟨s23, h⟩ := h
      obtain ⟨r24, e25, h⟩ := h
      refine q_getR fl_X11_33 rfl (by decide) (by decide +kernel) s23 e25 ?_
      refine q_blk (pc' := 67) (lo' := [some (.ref a0), some (.int (q_I A r2 1)), some (.int ((nI 3) + ((nI 3) * (q_I A r2 1))))]) (st' := [.int (nI 0), .int (q_I A r2 1), .ref r24, .ref a0]) [.iload_n 1, .iconst 0] (by decide +kernel) rfl ?_
      refine q_callS (Mc := M_X11_placeAt) (z := 2) (As := [.int (q_I A r2 1), .int (nI 0)]) (st := [.ref r24, .ref a0]) mo_X11_placeAt ms_X11_placeAt ml_X11_141_X11_placeAt rfl rfl (by decide) (by decide) rfl (Nat.le_of_ble_eq_true rfl) (by decide +kernel) h (q_fI fun r27 A26 h => ?_)
      show q_Wp _ _ _ _ 0 0 70 [some (.ref a0), some (.int (q_I A r2 1)), some (.int ((nI 3) + ((nI 3) * (q_I A r2 1))))] [.int r27, .ref r24, .ref a0] A26
      refine q_blk (pc' := 73) (lo' := [some (.ref a0), some (.int (q_I A r2 1)), some (.int ((nI 3) + ((nI 3) * (q_I A r2 1))))]) (st' := [.int (nI 9), .int (nI 0), .int r27, .ref r24, .ref a0]) [.iconst 0, .bipush 9] (by decide +kernel) rfl ?_
      obtain ⟨s30, h⟩ := h
      refine q_callV (ci := 11) (Mc := M_X11_reads) (z := 4) (b := a0) (As := [.ref r24, .int r27, .int (nI 0), .int (nI 9)]) (st := []) mo_X11_reads mi_X11_reads ml_X11_137_X11_reads rfl rfl (by decide) rfl (by decide) (by decide) rfl (Nat.le_of_ble_eq_true rfl) (by decide +kernel) s30 h (q_fB fun b29 A28 h => ?_)
      show q_Wp _ _ _ _ 0 0 76 [some (.ref a0), some (.int (q_I A r2 1)), some (.int ((nI 3) + ((nI 3) * (q_I A r2 1))))] [.int (q_i b29)] A28
      refine q_ifB_eq 117 (off := 41) (by decide +kernel) (by decide) (fun c31 => ?_) (fun c31 => ?_)
      · have h := h.2 c31
        refine q_blk (pc' := 118) (lo' := [some (.ref a0), some (.int (q_I A r2 1)), some (.int ((nI 3) + ((nI 3) * (q_I A r2 1))))]) (st' := [.int (nI 0)]) [.iconst 0] (by decide +kernel) rfl ?_
        exact q_retZ (r := q_i false) rfl (q_nz _) (by decide) (by decide) (by decide +kernel) ⟨false, rfl, h⟩
      · have h := h.1 c31
        refine q_blk (pc' := 81) (lo' := [some (.ref a0), some (.int (q_I A r2 1)), some (.int ((nI 3) + ((nI 3) * (q_I A r2 1))))]) (st' := [.ref a0, .ref a0]) [.aload_n 0, .aload_n 0] (by decide +kernel) rfl ?_
        obtain ⟨s33, h⟩ := h
        obtain ⟨r34, e35, h⟩ := h
        refine q_getR fl_X11_20 rfl (by decide) (by decide +kernel) s33 e35 ?_
        refine q_blk (pc' := 90) (lo' := [some (.ref a0), some (.int (q_I A r2 1)), some (.int ((nI 3) + ((nI 3) * (q_I A r2 1))))]) (st' := [.int (nI 50), .int (nI 1), .int (((nI 3) + ((nI 3) * (q_I A r2 1))) + (nI 1)), .ref r34, .ref a0]) [.iload_n 2, .iconst 1, .iadd, .iconst 1, .bipush 50] (by decide +kernel) rfl ?_
        refine q_callV (ci := 11) (Mc := M_X11_reads) (z := 4) (b := a0) (As := [.ref r34, .int (((nI 3) + ((nI 3) * (q_I A r2 1))) + (nI 1)), .int (nI 1), .int (nI 50)]) (st := []) mo_X11_reads mi_X11_reads ml_X11_137_X11_reads rfl rfl (by decide) rfl (by decide) (by decide) rfl (Nat.le_of_ble_eq_true rfl) (by decide +kernel) s33 h (q_fB fun b37 A36 h => ?_)
        show q_Wp _ _ _ _ 0 0 93 [some (.ref a0), some (.int (q_I A r2 1)), some (.int ((nI 3) + ((nI 3) * (q_I A r2 1))))] [.int (q_i b37)] A36
        refine q_ifB_eq 117 (off := 24) (by decide +kernel) (by decide) (fun c38 => ?_) (fun c38 => ?_)
        · have h := h.2 c38
          refine q_blk (pc' := 118) (lo' := [some (.ref a0), some (.int (q_I A r2 1)), some (.int ((nI 3) + ((nI 3) * (q_I A r2 1))))]) (st' := [.int (nI 0)]) [.iconst 0] (by decide +kernel) rfl ?_
          exact q_retZ (r := q_i false) rfl (q_nz _) (by decide) (by decide) (by decide +kernel) ⟨false, rfl, h⟩
        · have h := h.1 c38
          refine q_blk (pc' := 98) (lo' := [some (.ref a0), some (.int (q_I A r2 1)), some (.int ((nI 3) + ((nI 3) * (q_I A r2 1))))]) (st' := [.ref a0, .ref a0]) [.aload_n 0, .aload_n 0] (by decide +kernel) rfl ?_
          obtain ⟨s40, h⟩ := h
          obtain ⟨r41, e42, h⟩ := h
          refine q_getR fl_X11_20 rfl (by decide) (by decide +kernel) s40 e42 ?_
          refine q_blk (pc' := 107) (lo' := [some (.ref a0), some (.int (q_I A r2 1)), some (.int ((nI 3) + ((nI 3) * (q_I A r2 1))))]) (st' := [.int (nI 30), .int (nI 0), .int (((nI 3) + ((nI 3) * (q_I A r2 1))) + (nI 2)), .ref r41, .ref a0]) [.iload_n 2, .iconst 2, .iadd, .iconst 0, .bipush 30] (by decide +kernel) rfl ?_
          refine q_callV (ci := 11) (Mc := M_X11_reads) (z := 4) (b := a0) (As := [.ref r41, .int (((nI 3) + ((nI 3) * (q_I A r2 1))) + (nI 2)), .int (nI 0), .int (nI 30)]) (st := []) mo_X11_reads mi_X11_reads ml_X11_137_X11_reads rfl rfl (by decide) rfl (by decide) (by decide) rfl (Nat.le_of_ble_eq_true rfl) (by decide +kernel) s40 h (q_fB fun b44 A43 h => ?_)
          show q_Wp _ _ _ _ 0 0 110 [some (.ref a0), some (.int (q_I A r2 1)), some (.int ((nI 3) + ((nI 3) * (q_I A r2 1))))] [.int (q_i b44)] A43
          refine q_ifB_eq 117 (off := 7) (by decide +kernel) (by decide) (fun c45 => ?_) (fun c45 => ?_)
          · have h := h.2 c45
            refine q_blk (pc' := 118) (lo' := [some (.ref a0), some (.int (q_I A r2 1)), some (.int ((nI 3) + ((nI 3) * (q_I A r2 1))))]) (st' := [.int (nI 0)]) [.iconst 0] (by decide +kernel) rfl ?_
            exact q_retZ (r := q_i false) rfl (q_nz _) (by decide) (by decide) (by decide +kernel) ⟨false, rfl, h⟩
          · have h := h.1 c45
            refine q_blk (pc' := 114) (lo' := [some (.ref a0), some (.int (q_I A r2 1)), some (.int ((nI 3) + ((nI 3) * (q_I A r2 1))))]) (st' := [.int (nI 1)]) [.iconst 1] (by decide +kernel) rfl ?_
            refine q_goto 118 (off := 4) (by decide +kernel) (by decide) ?_
            exact q_retZ (r := q_i true) rfl (q_nz _) (by decide) (by decide) (by decide +kernel) ⟨true, rfl, h⟩
  · have h := h.1 c8
    refine q_blk (pc' := 15) (lo' := [some (.ref a0), some (.int (q_I A r2 1)), none]) (st' := [.int (nI 5), .ref a0]) [.aload_n 0, .iconst 5] (by decide +kernel) rfl ?_
    refine q_callV (ci := 11) (Mc := M_X11_bad) (z := 1) (b := a0) (As := [.int (nI 5)]) (st := []) mo_X11_bad mi_X11_bad ml_X11_131_X11_bad rfl rfl (by decide) rfl (by decide) (by decide) rfl (Nat.le_of_ble_eq_true rfl) (by decide +kernel) s1 h (q_fB fun b48 A47 h => ?_)
    show q_Wp _ _ _ _ 0 0 18 [some (.ref a0), some (.int (q_I A r2 1)), none] [.int (q_i b48)] A47
    exact q_retZ (r := q_i b48) rfl (q_nz _) (by decide) (by decide) (by decide +kernel) ⟨b48, rfl, h⟩
theorem f_X11_readsSetting {G : q_G} {X : String → q_H → Prop} {f : Bool → q_H → Prop} {A : q_H} {a0 : Nat} (h : q_sh A a0 = (12, 0) ∧ q_Wc G M_X11_go [.ref a0] A (q_KV fun A1 => q_sh A1 a0 = (12, 0) ∧ ∃ r5 : Nat, q_R A1 a0 20 = some r5 ∧ q_Wc G M_X11_reads [.ref a0, .ref r5, .int (nI 0), .int (nI 0), .int (nI 7)] A1 (q_KB fun b8 A7 => ((b8 = true → q_sh A7 a0 = (12, 0) ∧ ∃ r12 : Nat, q_R A7 a0 20 = some r12 ∧ ∃ z15 : Nat, q_sh A7 r12 = (50, z15) ∧ z15 < 2147483648 ∧ 0 < z15 ∧ ∃ r18 : Nat, q_R A7 a0 7 = some r18 ∧ ∃ r20 : Nat, q_R A7 a0 1 = some r20 ∧ ∃ z23 : Nat, q_sh A7 r20 = (50, z23) ∧ z23 < 2147483648 ∧ ∃ j25 : Nat, ((nI 3) * (q_I A7 r12 0)) = nI j25 ∧ j25 < z23 ∧ ∃ j28 : Nat, (((nI 3) * (q_I A7 r12 0)) + (nI 1)) = nI j28 ∧ j28 < z23 ∧ q_Wc G M_X11_reads [.ref a0, .ref r18, .int (q_I A7 r12 0), .int (q_I A7 r20 j25), .int (q_I A7 r20 j28)] A7 (q_KB fun b32 A31 => f b32 A31) q_nX) ∧ (b8 = false → f false A7))) q_nX) q_nX) : q_Wc G M_X11_readsSetting [.ref a0] A (q_KB f) X := by
  refine q_Wc.of [some (.ref a0), none] mo_X11_readsSetting.2.2.2.2.2 rfl (Nat.le_of_ble_eq_true rfl) rfl ?_
  refine q_blk (pc' := 1) (lo' := [some (.ref a0), none]) (st' := [.ref a0]) [.aload_n 0] (by decide +kernel) rfl ?_
  obtain ⟨s3, h⟩ := h
  refine q_callV (ci := 11) (Mc := M_X11_go) (z := 0) (b := a0) (As := []) (st := []) mo_X11_go mi_X11_go ml_X11_134_X11_go rfl rfl (by decide) rfl (by decide) (by decide) rfl (Nat.le_of_ble_eq_true rfl) (by decide +kernel) s3 h (q_fV fun A1 h => ?_)
  show q_Wp _ _ _ _ 0 0 4 [some (.ref a0), none] [] A1
  refine q_blk (pc' := 6) (lo' := [some (.ref a0), none]) (st' := [.ref a0, .ref a0]) [.aload_n 0, .aload_n 0] (by decide +kernel) rfl ?_
  obtain ⟨s4, h⟩ := h
  obtain ⟨r5, e6, h⟩ := h
  refine q_getR fl_X11_45 rfl (by decide) (by decide +kernel) s4 e6 ?_
  refine q_blk (pc' := 13) (lo' := [some (.ref a0), none]) (st' := [.int (nI 7), .int (nI 0), .int (nI 0), .ref r5, .ref a0]) [.iconst 0, .iconst 0, .bipush 7] (by decide +kernel) rfl ?_
  refine q_callV (ci := 11) (Mc := M_X11_reads) (z := 4) (b := a0) (As := [.ref r5, .int (nI 0), .int (nI 0), .int (nI 7)]) (st := []) mo_X11_reads mi_X11_reads ml_X11_137_X11_reads rfl rfl (by decide) rfl (by decide) (by decide) rfl (Nat.le_of_ble_eq_true rfl) (by decide +kernel) s4 h (q_fB fun b8 A7 h => ?_)
  show q_Wp _ _ _ _ 0 0 16 [some (.ref a0), none] [.int (q_i b8)] A7
  refine q_ifB_ne 21 (off := 5) (by decide +kernel) (by decide) (fun c9 => ?_) (fun c9 => ?_)
  · have h := h.1 c9
    refine q_blk (pc' := 22) (lo' := [some (.ref a0), none]) (st' := [.ref a0]) [.aload_n 0] (by decide +kernel) rfl ?_
    obtain ⟨s11, h⟩ := h
    obtain ⟨r12, e13, h⟩ := h
    refine q_getR fl_X11_45 rfl (by decide) (by decide +kernel) s11 e13 ?_
    refine q_blk (pc' := 26) (lo' := [some (.ref a0), none]) (st' := [.int (nI 0), .ref r12]) [.iconst 0] (by decide +kernel) rfl ?_
    obtain ⟨z15, s14, b16, h⟩ := h
    obtain ⟨l17, h⟩ := h
    refine q_iald rfl (by decide +kernel) s14 l17 b16 ?_
    refine q_blk (pc' := 30) (lo' := [some (.ref a0), some (.int (q_I A7 r12 0))]) (st' := [.ref a0, .ref a0]) [.istore_n 1, .aload_n 0, .aload_n 0] (by decide +kernel) rfl ?_
    obtain ⟨r18, e19, h⟩ := h
    refine q_getR fl_X11_33 rfl (by decide) (by decide +kernel) s11 e19 ?_
    refine q_blk (pc' := 35) (lo' := [some (.ref a0), some (.int (q_I A7 r12 0))]) (st' := [.ref a0, .int (q_I A7 r12 0), .ref r18, .ref a0]) [.iload_n 1, .aload_n 0] (by decide +kernel) rfl ?_
    obtain ⟨r20, e21, h⟩ := h
    refine q_getR fl_X11_13 rfl (by decide) (by decide +kernel) s11 e21 ?_
    refine q_blk (pc' := 41) (lo' := [some (.ref a0), some (.int (q_I A7 r12 0))]) (st' := [.int ((nI 3) * (q_I A7 r12 0)), .ref r20, .int (q_I A7 r12 0), .ref r18, .ref a0]) [.iconst 3, .iload_n 1, .imul] (by decide +kernel) rfl ?_
    obtain ⟨z23, s22, b24, h⟩ := h
    obtain ⟨j25, e26, h⟩ := h
    obtain ⟨l27, h⟩ := h
    refine q_iald e26 (by decide +kernel) s22 l27 b24 ?_
    refine q_blk (pc' := 43) (lo' := [some (.ref a0), some (.int (q_I A7 r12 0))]) (st' := [.ref a0, .int (q_I A7 r20 j25), .int (q_I A7 r12 0), .ref r18, .ref a0]) [.aload_n 0] (by decide +kernel) rfl ?_
    refine q_getR fl_X11_13 rfl (by decide) (by decide +kernel) s11 e21 ?_
    refine q_blk (pc' := 51) (lo' := [some (.ref a0), some (.int (q_I A7 r12 0))]) (st' := [.int (((nI 3) * (q_I A7 r12 0)) + (nI 1)), .ref r20, .int (q_I A7 r20 j25), .int (q_I A7 r12 0), .ref r18, .ref a0]) [.iconst 3, .iload_n 1, .imul, .iconst 1, .iadd] (by decide +kernel) rfl ?_
    obtain ⟨j28, e29, h⟩ := h
    obtain ⟨l30, h⟩ := h
    refine q_iald e29 (by decide +kernel) s22 l30 b24 ?_
    refine q_callV (ci := 11) (Mc := M_X11_reads) (z := 4) (b := a0) (As := [.ref r18, .int (q_I A7 r12 0), .int (q_I A7 r20 j25), .int (q_I A7 r20 j28)]) (st := []) mo_X11_reads mi_X11_reads ml_X11_137_X11_reads rfl rfl (by decide) rfl (by decide) (by decide) rfl (Nat.le_of_ble_eq_true rfl) (by decide +kernel) s11 h (q_fB fun b32 A31 h => ?_)
    show q_Wp _ _ _ _ 0 0 55 [some (.ref a0), some (.int (q_I A7 r12 0))] [.int (q_i b32)] A31
    exact q_retZ (r := q_i b32) rfl (q_nz _) (by decide) (by decide) (by decide +kernel) ⟨b32, rfl, h⟩
  · have h := h.2 c9
    refine q_blk (pc' := 20) (lo' := [some (.ref a0), none]) (st' := [.int (nI 0)]) [.iconst 0] (by decide +kernel) rfl ?_
    exact q_retZ (r := q_i false) rfl (q_nz _) (by decide) (by decide) (by decide +kernel) ⟨false, rfl, h⟩
theorem f_X11_readsLoad {G : q_G} {X : String → q_H → Prop} {f : Bool → q_H → Prop} {A : q_H} {a0 : Nat} (h : q_sh A a0 = (12, 0) ∧ ∃ r2 : Nat, q_R A a0 7 = some r2 ∧ ∃ z5 : Nat, q_sh A r2 = (50, z5) ∧ z5 < 2147483648 ∧ 9 < z5 ∧ (((q_I A r2 9) = (nI 30) → q_Wc G M_X11_bad [.ref a0, .int (nI 5)] A (q_KB fun b21 A20 => f b21 A20) q_nX) ∧ (¬ (q_I A r2 9) = (nI 30) → q_Wc G M_X11_go [.ref a0] A (q_KV fun A9 => q_sh A9 a0 = (12, 0) ∧ ∃ r12 : Nat, q_R A9 a0 7 = some r12 ∧ ∃ z15 : Nat, q_sh A9 r12 = (50, z15) ∧ z15 < 2147483648 ∧ 9 < z15 ∧ q_Wc G M_X11_parcelAt [.int (q_I A9 r12 9)] A9 (q_KI fun r19 A18 => q_Wp G M_X11_readsLoad (q_KB f) X 0 0 35 [some (.ref a0), some (.int r19), some (.int (nI 0)), none] [] A18) q_nX) q_nX))) : q_Wc G M_X11_readsLoad [.ref a0] A (q_KB f) X := by
  refine q_Wc.of [some (.ref a0), none, none, none] mo_X11_readsLoad.2.2.2.2.2 rfl (Nat.le_of_ble_eq_true rfl) rfl ?_
  refine q_blk (pc' := 1) (lo' := [some (.ref a0), none, none, none]) (st' := [.ref a0]) [.aload_n 0] (by decide +kernel) rfl ?_
  obtain ⟨s1, h⟩ := h
  obtain ⟨r2, e3, h⟩ := h
  refine q_getR fl_X11_33 rfl (by decide) (by decide +kernel) s1 e3 ?_
  refine q_blk (pc' := 6) (lo' := [some (.ref a0), none, none, none]) (st' := [.int (nI 9), .ref r2]) [.bipush 9] (by decide +kernel) rfl ?_
  obtain ⟨z5, s4, b6, h⟩ := h
  obtain ⟨l7, h⟩ := h
  refine q_iald rfl (by decide +kernel) s4 l7 b6 ?_
  refine q_blk (pc' := 9) (lo' := [some (.ref a0), none, none, none]) (st' := [.int (nI 30), .int (q_I A r2 9)]) [.bipush 30] (by decide +kernel) rfl ?_
  refine q_icmp_ne 18 (off := 9) (by decide +kernel) (by decide) (fun c8 => ?_) (fun c8 => ?_)
  · have h := h.2 c8
    refine q_blk (pc' := 19) (lo' := [some (.ref a0), none, none, none]) (st' := [.ref a0]) [.aload_n 0] (by decide +kernel) rfl ?_
    refine q_callV (ci := 11) (Mc := M_X11_go) (z := 0) (b := a0) (As := []) (st := []) mo_X11_go mi_X11_go ml_X11_134_X11_go rfl rfl (by decide) rfl (by decide) (by decide) rfl (Nat.le_of_ble_eq_true rfl) (by decide +kernel) s1 h (q_fV fun A9 h => ?_)
    show q_Wp _ _ _ _ 0 0 22 [some (.ref a0), none, none, none] [] A9
    refine q_blk (pc' := 23) (lo' := [some (.ref a0), none, none, none]) (st' := [.ref a0]) [.aload_n 0] (by decide +kernel) rfl ?_
    obtain ⟨s11, h⟩ := h
    obtain ⟨r12, e13, h⟩ := h
    refine q_getR fl_X11_33 rfl (by decide) (by decide +kernel) s11 e13 ?_
    refine q_blk (pc' := 28) (lo' := [some (.ref a0), none, none, none]) (st' := [.int (nI 9), .ref r12]) [.bipush 9] (by decide +kernel) rfl ?_
    obtain ⟨z15, s14, b16, h⟩ := h
    obtain ⟨l17, h⟩ := h
    refine q_iald rfl (by decide +kernel) s14 l17 b16 ?_
    refine q_callS (Mc := M_X11_parcelAt) (z := 1) (As := [.int (q_I A9 r12 9)]) (st := []) mo_X11_parcelAt ms_X11_parcelAt ml_X11_145_X11_parcelAt rfl rfl (by decide) (by decide) rfl (Nat.le_of_ble_eq_true rfl) (by decide +kernel) h (q_fI fun r19 A18 h => ?_)
    show q_Wp _ _ _ _ 0 0 32 [some (.ref a0), none, none, none] [.int r19] A18
    refine q_blk (pc' := 35) (lo' := [some (.ref a0), some (.int r19), some (.int (nI 0)), none]) (st' := []) [.istore_n 1, .iconst 0, .istore_n 2] (by decide +kernel) rfl ?_
    exact h
  · have h := h.1 c8
    refine q_blk (pc' := 14) (lo' := [some (.ref a0), none, none, none]) (st' := [.int (nI 5), .ref a0]) [.aload_n 0, .iconst 5] (by decide +kernel) rfl ?_
    refine q_callV (ci := 11) (Mc := M_X11_bad) (z := 1) (b := a0) (As := [.int (nI 5)]) (st := []) mo_X11_bad mi_X11_bad ml_X11_131_X11_bad rfl rfl (by decide) rfl (by decide) (by decide) rfl (Nat.le_of_ble_eq_true rfl) (by decide +kernel) s1 h (q_fB fun b21 A20 h => ?_)
    show q_Wp _ _ _ _ 0 0 17 [some (.ref a0), none, none, none] [.int (q_i b21)] A20
    exact q_retZ (r := q_i b21) rfl (q_nz _) (by decide) (by decide) (by decide +kernel) ⟨b21, rfl, h⟩
theorem f_X11_readsLoad_35 {G : q_G} {X : String → q_H → Prop} {f : Bool → q_H → Prop} {A : q_H} {a0 : Nat} {x1 : Int32} {x2 : Int32} (h : (((nI 6) < x2 → q_Wp G M_X11_readsLoad (q_KB f) X 0 0 58 [some (.ref a0), some (.int x1), some (.int (nI 0)), none] [] A) ∧ (¬ (nI 6) < x2 → q_sh A a0 = (12, 0) ∧ ∃ r3 : Nat, q_R A a0 7 = some r3 ∧ ∃ z6 : Nat, q_sh A r3 = (50, z6) ∧ z6 < 2147483648 ∧ ∃ j8 : Nat, (x1 + x2) = nI j8 ∧ j8 < z6 ∧ q_Wp G M_X11_readsLoad (q_KB f) X 0 0 35 [some (.ref a0), some (.int x1), some (.int (x2 + (nI 1))), none] [] (q_setI A r3 j8 (nI 0))))) : q_Wp G M_X11_readsLoad (q_KB f) X 0 0 35 [some (.ref a0), some (.int x1), some (.int x2), none] [] A := by
  refine q_blk (pc' := 38) (lo' := [some (.ref a0), some (.int x1), some (.int x2), none]) (st' := [.int (nI 6), .int x2]) [.iload_n 2, .bipush 6] (by decide +kernel) rfl ?_
  refine q_icmp_gt 56 (off := 18) (by decide +kernel) (by decide) (fun c1 => ?_) (fun c1 => ?_)
  · have h := h.1 c1
    refine q_blk (pc' := 58) (lo' := [some (.ref a0), some (.int x1), some (.int (nI 0)), none]) (st' := []) [.iconst 0, .istore_n 2] (by decide +kernel) rfl ?_
    exact h
  · have h := h.2 c1
    refine q_blk (pc' := 42) (lo' := [some (.ref a0), some (.int x1), some (.int x2), none]) (st' := [.ref a0]) [.aload_n 0] (by decide +kernel) rfl ?_
    obtain ⟨s2, h⟩ := h
    obtain ⟨r3, e4, h⟩ := h
    refine q_getR fl_X11_33 rfl (by decide) (by decide +kernel) s2 e4 ?_
    refine q_blk (pc' := 49) (lo' := [some (.ref a0), some (.int x1), some (.int x2), none]) (st' := [.int (nI 0), .int (x1 + x2), .ref r3]) [.iload_n 1, .iload_n 2, .iadd, .iconst 0] (by decide +kernel) rfl ?_
    obtain ⟨z6, s5, b7, h⟩ := h
    obtain ⟨j8, e9, h⟩ := h
    obtain ⟨l10, h⟩ := h
    refine q_iast e9 (by decide +kernel) s5 l10 b7 ?_
    refine q_blk (pc' := 53) (lo' := [some (.ref a0), some (.int x1), some (.int (x2 + (nI 1))), none]) (st' := []) [.iinc 2 1] (by decide +kernel) rfl ?_
    refine q_goto 35 (off := -18) (by decide +kernel) (by decide) ?_
    exact h
theorem f_X11_readsLoad_58 {G : q_G} {X : String → q_H → Prop} {f : Bool → q_H → Prop} {A : q_H} {a0 : Nat} {x1 : Int32} {x2 : Int32} (h : q_sh A a0 = (12, 0) ∧ (((q_I A a0 16) = (nI 3) → ∃ r24 : Nat, q_R A a0 3 = some r24 ∧ ∃ z27 : Nat, q_sh A r24 = (50, z27) ∧ z27 < 2147483648 ∧ 0 < z27 ∧ ((x2 = (q_I A r24 0) → q_Wc G M_X11_bad [.ref a0, .int (nI 1)] A (q_KB fun b53 A52 => f b53 A52) q_nX) ∧ (¬ x2 = (q_I A r24 0) → ∃ r31 : Nat, q_R A a0 7 = some r31 ∧ q_Wc G M_X11_reads [.ref a0, .ref r31, .int (x1 + x2), .int (nI 0), .int (nI 999)] A (q_KB fun b34 A33 => ((b34 = true → q_sh A33 a0 = (12, 0) ∧ (((q_I A33 a0 16) = (nI 3) → q_Wp G M_X11_readsLoad (q_KB f) X 0 0 58 [some (.ref a0), some (.int x1), some (.int (x2 + (nI 1))), none] [] A33) ∧ (¬ (q_I A33 a0 16) = (nI 3) → ∃ r39 : Nat, q_R A33 a0 7 = some r39 ∧ q_Wc G M_X11_totalOf [.ref r39, .int x1] A33 (q_KI fun r42 A41 => q_sh A41 a0 = (12, 0) ∧ ∃ r44 : Nat, q_R A41 a0 7 = some r44 ∧ ∃ z47 : Nat, q_sh A41 r44 = (50, z47) ∧ z47 < 2147483648 ∧ 16 < z47 ∧ 9 < z47 ∧ ((r42 ≤ nI 0 → f true (q_setI (q_setI A41 r44 16 ((q_I A41 r44 16) + r42)) r44 9 ((q_I (q_setI A41 r44 16 ((q_I A41 r44 16) + r42)) r44 9) + (nI 0)))) ∧ (¬ r42 ≤ nI 0 → f true (q_setI (q_setI A41 r44 16 ((q_I A41 r44 16) + r42)) r44 9 ((q_I (q_setI A41 r44 16 ((q_I A41 r44 16) + r42)) r44 9) + (nI 1)))))) q_nX))) ∧ (b34 = false → f false A33))) q_nX))) ∧ (¬ (q_I A a0 16) = (nI 3) → ∃ r3 : Nat, q_R A a0 7 = some r3 ∧ q_Wc G M_X11_reads [.ref a0, .ref r3, .int (x1 + x2), .int (nI 0), .int (nI 999)] A (q_KB fun b6 A5 => ((b6 = true → q_sh A5 a0 = (12, 0) ∧ (((q_I A5 a0 16) = (nI 3) → q_Wp G M_X11_readsLoad (q_KB f) X 0 0 58 [some (.ref a0), some (.int x1), some (.int (x2 + (nI 1))), none] [] A5) ∧ (¬ (q_I A5 a0 16) = (nI 3) → ∃ r11 : Nat, q_R A5 a0 7 = some r11 ∧ q_Wc G M_X11_totalOf [.ref r11, .int x1] A5 (q_KI fun r14 A13 => q_sh A13 a0 = (12, 0) ∧ ∃ r16 : Nat, q_R A13 a0 7 = some r16 ∧ ∃ z19 : Nat, q_sh A13 r16 = (50, z19) ∧ z19 < 2147483648 ∧ 16 < z19 ∧ 9 < z19 ∧ ((r14 ≤ nI 0 → f true (q_setI (q_setI A13 r16 16 ((q_I A13 r16 16) + r14)) r16 9 ((q_I (q_setI A13 r16 16 ((q_I A13 r16 16) + r14)) r16 9) + (nI 0)))) ∧ (¬ r14 ≤ nI 0 → f true (q_setI (q_setI A13 r16 16 ((q_I A13 r16 16) + r14)) r16 9 ((q_I (q_setI A13 r16 16 ((q_I A13 r16 16) + r14)) r16 9) + (nI 1)))))) q_nX))) ∧ (b6 = false → f false A5))) q_nX))) : q_Wp G M_X11_readsLoad (q_KB f) X 0 0 58 [some (.ref a0), some (.int x1), some (.int x2), none] [] A := by
  refine q_blk (pc' := 59) (lo' := [some (.ref a0), some (.int x1), some (.int x2), none]) (st' := [.ref a0]) [.aload_n 0] (by decide +kernel) rfl ?_
  obtain ⟨s1, h⟩ := h
  refine q_getI fl_X11_88 rfl (by decide) (by decide +kernel) s1 ?_
  refine q_blk (pc' := 63) (lo' := [some (.ref a0), some (.int x1), some (.int x2), none]) (st' := [.int (nI 3), .int (q_I A a0 16)]) [.iconst 3] (by decide +kernel) rfl ?_
  refine q_icmp_ne 82 (off := 19) (by decide +kernel) (by decide) (fun c2 => ?_) (fun c2 => ?_)
  · have h := h.2 c2
    refine q_blk (pc' := 84) (lo' := [some (.ref a0), some (.int x1), some (.int x2), none]) (st' := [.ref a0, .ref a0]) [.aload_n 0, .aload_n 0] (by decide +kernel) rfl ?_
    obtain ⟨r3, e4, h⟩ := h
    refine q_getR fl_X11_33 rfl (by decide) (by decide +kernel) s1 e4 ?_
    refine q_blk (pc' := 94) (lo' := [some (.ref a0), some (.int x1), some (.int x2), none]) (st' := [.int (nI 999), .int (nI 0), .int (x1 + x2), .ref r3, .ref a0]) [.iload_n 1, .iload_n 2, .iadd, .iconst 0, .sipush 999] (by decide +kernel) rfl ?_
    refine q_callV (ci := 11) (Mc := M_X11_reads) (z := 4) (b := a0) (As := [.ref r3, .int (x1 + x2), .int (nI 0), .int (nI 999)]) (st := []) mo_X11_reads mi_X11_reads ml_X11_137_X11_reads rfl rfl (by decide) rfl (by decide) (by decide) rfl (Nat.le_of_ble_eq_true rfl) (by decide +kernel) s1 h (q_fB fun b6 A5 h => ?_)
    show q_Wp _ _ _ _ 0 0 97 [some (.ref a0), some (.int x1), some (.int x2), none] [.int (q_i b6)] A5
    refine q_ifB_ne 102 (off := 5) (by decide +kernel) (by decide) (fun c7 => ?_) (fun c7 => ?_)
    · have h := h.1 c7
      refine q_blk (pc' := 106) (lo' := [some (.ref a0), some (.int x1), some (.int (x2 + (nI 1))), none]) (st' := [.ref a0]) [.iinc 2 1, .aload_n 0] (by decide +kernel) rfl ?_
      obtain ⟨s9, h⟩ := h
      refine q_getI fl_X11_88 rfl (by decide) (by decide +kernel) s9 ?_
      refine q_blk (pc' := 110) (lo' := [some (.ref a0), some (.int x1), some (.int (x2 + (nI 1))), none]) (st' := [.int (nI 3), .int (q_I A5 a0 16)]) [.iconst 3] (by decide +kernel) rfl ?_
      refine q_icmp_eq 58 (off := -52) (by decide +kernel) (by decide) (fun c10 => ?_) (fun c10 => ?_)
      · have h := h.1 c10
        exact h
      · have h := h.2 c10
        refine q_blk (pc' := 114) (lo' := [some (.ref a0), some (.int x1), some (.int (x2 + (nI 1))), none]) (st' := [.ref a0]) [.aload_n 0] (by decide +kernel) rfl ?_
        obtain ⟨r11, e12, h⟩ := h
        refine q_getR fl_X11_33 rfl (by decide) (by decide +kernel) s9 e12 ?_
        refine q_blk (pc' := 118) (lo' := [some (.ref a0), some (.int x1), some (.int (x2 + (nI 1))), none]) (st' := [.int x1, .ref r11]) [.iload_n 1] (by decide +kernel) rfl ?_
        refine q_callS (Mc := M_X11_totalOf) (z := 2) (As := [.ref r11, .int x1]) (st := []) mo_X11_totalOf ms_X11_totalOf ml_X11_60_X11_totalOf rfl rfl (by decide) (by decide) rfl (Nat.le_of_ble_eq_true rfl) (by decide +kernel) h (q_fI fun r14 A13 h => ?_)
        show q_Wp _ _ _ _ 0 0 121 [some (.ref a0), some (.int x1), some (.int (x2 + (nI 1))), none] [.int r14] A13
        refine q_blk (pc' := 123) (lo' := [some (.ref a0), some (.int x1), some (.int (x2 + (nI 1))), some (.int r14)]) (st' := [.ref a0]) [.istore_n 3, .aload_n 0] (by decide +kernel) rfl ?_
        obtain ⟨s15, h⟩ := h
        obtain ⟨r16, e17, h⟩ := h
        refine q_getR fl_X11_33 rfl (by decide) (by decide +kernel) s15 e17 ?_
        refine q_blk (pc' := 129) (lo' := [some (.ref a0), some (.int x1), some (.int (x2 + (nI 1))), some (.int r14)]) (st' := [.int (nI 16), .ref r16, .int (nI 16), .ref r16]) [.bipush 16, .dup2] (by decide +kernel) rfl ?_
        obtain ⟨z19, s18, b20, h⟩ := h
        obtain ⟨l21, h⟩ := h
        refine q_iald rfl (by decide +kernel) s18 l21 b20 ?_
        refine q_blk (pc' := 132) (lo' := [some (.ref a0), some (.int x1), some (.int (x2 + (nI 1))), some (.int r14)]) (st' := [.int ((q_I A13 r16 16) + r14), .int (nI 16), .ref r16]) [.iload_n 3, .iadd] (by decide +kernel) rfl ?_
        refine q_iast rfl (by decide +kernel) s18 l21 b20 ?_
        refine q_blk (pc' := 134) (lo' := [some (.ref a0), some (.int x1), some (.int (x2 + (nI 1))), some (.int r14)]) (st' := [.ref a0]) [.aload_n 0] (by decide +kernel) rfl ?_
        refine q_getR fl_X11_33 rfl (by decide) (by decide +kernel) s15 e17 ?_
        refine q_blk (pc' := 140) (lo' := [some (.ref a0), some (.int x1), some (.int (x2 + (nI 1))), some (.int r14)]) (st' := [.int (nI 9), .ref r16, .int (nI 9), .ref r16]) [.bipush 9, .dup2] (by decide +kernel) rfl ?_
        obtain ⟨l22, h⟩ := h
        refine q_iald rfl (by decide +kernel) s18 l22 b20 ?_
        refine q_blk (pc' := 142) (lo' := [some (.ref a0), some (.int x1), some (.int (x2 + (nI 1))), some (.int r14)]) (st' := [.int r14, .int (q_I (q_setI A13 r16 16 ((q_I A13 r16 16) + r14)) r16 9), .int (nI 9), .ref r16]) [.iload_n 3] (by decide +kernel) rfl ?_
        refine q_if_le 149 (off := 7) (by decide +kernel) (by decide) (fun c23 => ?_) (fun c23 => ?_)
        · have h := h.1 c23
          refine q_blk (pc' := 151) (lo' := [some (.ref a0), some (.int x1), some (.int (x2 + (nI 1))), some (.int r14)]) (st' := [.int ((q_I (q_setI A13 r16 16 ((q_I A13 r16 16) + r14)) r16 9) + (nI 0)), .int (nI 9), .ref r16]) [.iconst 0, .iadd] (by decide +kernel) rfl ?_
          refine q_iast rfl (by decide +kernel) s18 l22 b20 ?_
          refine q_blk (pc' := 153) (lo' := [some (.ref a0), some (.int x1), some (.int (x2 + (nI 1))), some (.int r14)]) (st' := [.int (nI 1)]) [.iconst 1] (by decide +kernel) rfl ?_
          exact q_retZ (r := q_i true) rfl (q_nz _) (by decide) (by decide) (by decide +kernel) ⟨true, rfl, h⟩
        · have h := h.2 c23
          refine q_blk (pc' := 146) (lo' := [some (.ref a0), some (.int x1), some (.int (x2 + (nI 1))), some (.int r14)]) (st' := [.int (nI 1), .int (q_I (q_setI A13 r16 16 ((q_I A13 r16 16) + r14)) r16 9), .int (nI 9), .ref r16]) [.iconst 1] (by decide +kernel) rfl ?_
          refine q_goto 150 (off := 4) (by decide +kernel) (by decide) ?_
          refine q_blk (pc' := 151) (lo' := [some (.ref a0), some (.int x1), some (.int (x2 + (nI 1))), some (.int r14)]) (st' := [.int ((q_I (q_setI A13 r16 16 ((q_I A13 r16 16) + r14)) r16 9) + (nI 1)), .int (nI 9), .ref r16]) [.iadd] (by decide +kernel) rfl ?_
          refine q_iast rfl (by decide +kernel) s18 l22 b20 ?_
          refine q_blk (pc' := 153) (lo' := [some (.ref a0), some (.int x1), some (.int (x2 + (nI 1))), some (.int r14)]) (st' := [.int (nI 1)]) [.iconst 1] (by decide +kernel) rfl ?_
          exact q_retZ (r := q_i true) rfl (q_nz _) (by decide) (by decide) (by decide +kernel) ⟨true, rfl, h⟩
    · have h := h.2 c7
      refine q_blk (pc' := 101) (lo' := [some (.ref a0), some (.int x1), some (.int x2), none]) (st' := [.int (nI 0)]) [.iconst 0] (by decide +kernel) rfl ?_
      exact q_retZ (r := q_i false) rfl (q_nz _) (by decide) (by decide) (by decide +kernel) ⟨false, rfl, h⟩
  · have h := h.1 c2
    refine q_blk (pc' := 68) (lo' := [some (.ref a0), some (.int x1), some (.int x2), none]) (st' := [.ref a0, .int x2]) [.iload_n 2, .aload_n 0] (by decide +kernel) rfl ?_
    obtain ⟨r24, e25, h⟩ := h
    refine q_getR fl_X11_20 rfl (by decide) (by decide +kernel) s1 e25 ?_
    refine q_blk (pc' := 72) (lo' := [some (.ref a0), some (.int x1), some (.int x2), none]) (st' := [.int (nI 0), .ref r24, .int x2]) [.iconst 0] (by decide +kernel) rfl ?_
    obtain ⟨z27, s26, b28, h⟩ := h
    obtain ⟨l29, h⟩ := h
    refine q_iald rfl (by decide +kernel) s26 l29 b28 ?_
    refine q_icmp_ne 82 (off := 9) (by decide +kernel) (by decide) (fun c30 => ?_) (fun c30 => ?_)
    · have h := h.2 c30
      refine q_blk (pc' := 84) (lo' := [some (.ref a0), some (.int x1), some (.int x2), none]) (st' := [.ref a0, .ref a0]) [.aload_n 0, .aload_n 0] (by decide +kernel) rfl ?_
      obtain ⟨r31, e32, h⟩ := h
      refine q_getR fl_X11_33 rfl (by decide) (by decide +kernel) s1 e32 ?_
      refine q_blk (pc' := 94) (lo' := [some (.ref a0), some (.int x1), some (.int x2), none]) (st' := [.int (nI 999), .int (nI 0), .int (x1 + x2), .ref r31, .ref a0]) [.iload_n 1, .iload_n 2, .iadd, .iconst 0, .sipush 999] (by decide +kernel) rfl ?_
      refine q_callV (ci := 11) (Mc := M_X11_reads) (z := 4) (b := a0) (As := [.ref r31, .int (x1 + x2), .int (nI 0), .int (nI 999)]) (st := []) mo_X11_reads mi_X11_reads ml_X11_137_X11_reads rfl rfl (by decide) rfl (by decide) (by decide) rfl (Nat.le_of_ble_eq_true rfl) (by decide +kernel) s1 h (q_fB fun b34 A33 h => ?_)
      show q_Wp _ _ _ _ 0 0 97 [some (.ref a0), some (.int x1), some (.int x2), none] [.int (q_i b34)] A33
      refine q_ifB_ne 102 (off := 5) (by decide +kernel) (by decide) (fun c35 => ?_) (fun c35 => ?_)
      · have h := h.1 c35
        refine q_blk (pc' := 106) (lo' := [some (.ref a0), some (.int x1), some (.int (x2 + (nI 1))), none]) (st' := [.ref a0]) [.iinc 2 1, .aload_n 0] (by decide +kernel) rfl ?_
        obtain ⟨s37, h⟩ := h
        refine q_getI fl_X11_88 rfl (by decide) (by decide +kernel) s37 ?_
        refine q_blk (pc' := 110) (lo' := [some (.ref a0), some (.int x1), some (.int (x2 + (nI 1))), none]) (st' := [.int (nI 3), .int (q_I A33 a0 16)]) [.iconst 3] (by decide +kernel) rfl ?_
        refine q_icmp_eq 58 (off := -52) (by decide +kernel) (by decide) (fun c38 => ?_) (fun c38 => ?_)
        · have h := h.1 c38
          exact h
        · have h := h.2 c38
          refine q_blk (pc' := 114) (lo' := [some (.ref a0), some (.int x1), some (.int (x2 + (nI 1))), none]) (st' := [.ref a0]) [.aload_n 0] (by decide +kernel) rfl ?_
          obtain ⟨r39, e40, h⟩ := h
          refine q_getR fl_X11_33 rfl (by decide) (by decide +kernel) s37 e40 ?_
          refine q_blk (pc' := 118) (lo' := [some (.ref a0), some (.int x1), some (.int (x2 + (nI 1))), none]) (st' := [.int x1, .ref r39]) [.iload_n 1] (by decide +kernel) rfl ?_
          refine q_callS (Mc := M_X11_totalOf) (z := 2) (As := [.ref r39, .int x1]) (st := []) mo_X11_totalOf ms_X11_totalOf ml_X11_60_X11_totalOf rfl rfl (by decide) (by decide) rfl (Nat.le_of_ble_eq_true rfl) (by decide +kernel) h (q_fI fun r42 A41 h => ?_)
          show q_Wp _ _ _ _ 0 0 121 [some (.ref a0), some (.int x1), some (.int (x2 + (nI 1))), none] [.int r42] A41
          refine q_blk (pc' := 123) (lo' := [some (.ref a0), some (.int x1), some (.int (x2 + (nI 1))), some (.int r42)]) (st' := [.ref a0]) [.istore_n 3, .aload_n 0] (by decide +kernel) rfl ?_
          obtain ⟨s43, h⟩ := h
          obtain ⟨r44, e45, h⟩ := h
          refine q_getR fl_X11_33 rfl (by decide) (by decide +kernel) s43 e45 ?_
          refine q_blk (pc' := 129) (lo' := [some (.ref a0), some (.int x1), some (.int (x2 + (nI 1))), some (.int r42)]) (st' := [.int (nI 16), .ref r44, .int (nI 16), .ref r44]) [.bipush 16, .dup2] (by decide +kernel) rfl ?_
          obtain ⟨z47, s46, b48, h⟩ := h
          obtain ⟨l49, h⟩ := h
          refine q_iald rfl (by decide +kernel) s46 l49 b48 ?_
          refine q_blk (pc' := 132) (lo' := [some (.ref a0), some (.int x1), some (.int (x2 + (nI 1))), some (.int r42)]) (st' := [.int ((q_I A41 r44 16) + r42), .int (nI 16), .ref r44]) [.iload_n 3, .iadd] (by decide +kernel) rfl ?_
          refine q_iast rfl (by decide +kernel) s46 l49 b48 ?_
          refine q_blk (pc' := 134) (lo' := [some (.ref a0), some (.int x1), some (.int (x2 + (nI 1))), some (.int r42)]) (st' := [.ref a0]) [.aload_n 0] (by decide +kernel) rfl ?_
          refine q_getR fl_X11_33 rfl (by decide) (by decide +kernel) s43 e45 ?_
          refine q_blk (pc' := 140) (lo' := [some (.ref a0), some (.int x1), some (.int (x2 + (nI 1))), some (.int r42)]) (st' := [.int (nI 9), .ref r44, .int (nI 9), .ref r44]) [.bipush 9, .dup2] (by decide +kernel) rfl ?_
          obtain ⟨l50, h⟩ := h
          refine q_iald rfl (by decide +kernel) s46 l50 b48 ?_
          refine q_blk (pc' := 142) (lo' := [some (.ref a0), some (.int x1), some (.int (x2 + (nI 1))), some (.int r42)]) (st' := [.int r42, .int (q_I (q_setI A41 r44 16 ((q_I A41 r44 16) + r42)) r44 9), .int (nI 9), .ref r44]) [.iload_n 3] (by decide +kernel) rfl ?_
          refine q_if_le 149 (off := 7) (by decide +kernel) (by decide) (fun c51 => ?_) (fun c51 => ?_)
          · have h := h.1 c51
            refine q_blk (pc' := 151) (lo' := [some (.ref a0), some (.int x1), some (.int (x2 + (nI 1))), some (.int r42)]) (st' := [.int ((q_I (q_setI A41 r44 16 ((q_I A41 r44 16) + r42)) r44 9) + (nI 0)), .int (nI 9), .ref r44]) [.iconst 0, .iadd] (by decide +kernel) rfl ?_
            refine q_iast rfl (by decide +kernel) s46 l50 b48 ?_
            refine q_blk (pc' := 153) (lo' := [some (.ref a0), some (.int x1), some (.int (x2 + (nI 1))), some (.int r42)]) (st' := [.int (nI 1)]) [.iconst 1] (by decide +kernel) rfl ?_
            exact q_retZ (r := q_i true) rfl (q_nz _) (by decide) (by decide) (by decide +kernel) ⟨true, rfl, h⟩
          · have h := h.2 c51
            refine q_blk (pc' := 146) (lo' := [some (.ref a0), some (.int x1), some (.int (x2 + (nI 1))), some (.int r42)]) (st' := [.int (nI 1), .int (q_I (q_setI A41 r44 16 ((q_I A41 r44 16) + r42)) r44 9), .int (nI 9), .ref r44]) [.iconst 1] (by decide +kernel) rfl ?_
            refine q_goto 150 (off := 4) (by decide +kernel) (by decide) ?_
            refine q_blk (pc' := 151) (lo' := [some (.ref a0), some (.int x1), some (.int (x2 + (nI 1))), some (.int r42)]) (st' := [.int ((q_I (q_setI A41 r44 16 ((q_I A41 r44 16) + r42)) r44 9) + (nI 1)), .int (nI 9), .ref r44]) [.iadd] (by decide +kernel) rfl ?_
            refine q_iast rfl (by decide +kernel) s46 l50 b48 ?_
            refine q_blk (pc' := 153) (lo' := [some (.ref a0), some (.int x1), some (.int (x2 + (nI 1))), some (.int r42)]) (st' := [.int (nI 1)]) [.iconst 1] (by decide +kernel) rfl ?_
            exact q_retZ (r := q_i true) rfl (q_nz _) (by decide) (by decide) (by decide +kernel) ⟨true, rfl, h⟩
      · have h := h.2 c35
        refine q_blk (pc' := 101) (lo' := [some (.ref a0), some (.int x1), some (.int x2), none]) (st' := [.int (nI 0)]) [.iconst 0] (by decide +kernel) rfl ?_
        exact q_retZ (r := q_i false) rfl (q_nz _) (by decide) (by decide) (by decide +kernel) ⟨false, rfl, h⟩
    · have h := h.1 c30
      refine q_blk (pc' := 78) (lo' := [some (.ref a0), some (.int x1), some (.int x2), none]) (st' := [.int (nI 1), .ref a0]) [.aload_n 0, .iconst 1] (by decide +kernel) rfl ?_
      refine q_callV (ci := 11) (Mc := M_X11_bad) (z := 1) (b := a0) (As := [.int (nI 1)]) (st := []) mo_X11_bad mi_X11_bad ml_X11_131_X11_bad rfl rfl (by decide) rfl (by decide) (by decide) rfl (Nat.le_of_ble_eq_true rfl) (by decide +kernel) s1 h (q_fB fun b53 A52 h => ?_)
      show q_Wp _ _ _ _ 0 0 81 [some (.ref a0), some (.int x1), some (.int x2), none] [.int (q_i b53)] A52
      exact q_retZ (r := q_i b53) rfl (q_nz _) (by decide) (by decide) (by decide +kernel) ⟨b53, rfl, h⟩
theorem f_X11_readsBuyer {G : q_G} {X : String → q_H → Prop} {f : Bool → q_H → Prop} {A : q_H} {a0 : Nat} (h : q_sh A a0 = (12, 0) ∧ ∃ r2 : Nat, q_R A a0 3 = some r2 ∧ ∃ z5 : Nat, q_sh A r2 = (50, z5) ∧ z5 < 2147483648 ∧ 2 < z5 ∧ (((q_I A r2 2) = (nI 4) → q_Wc G M_X11_bad [.ref a0, .int (nI 5)] A (q_KB fun b83 A82 => f b83 A82) q_nX) ∧ (¬ (q_I A r2 2) = (nI 4) → q_Wc G M_X11_go [.ref a0] A (q_KV fun A9 => q_sh A9 a0 = (12, 0) ∧ q_Wc G M_X11_isName [.ref a0] A9 (q_KB fun b12 A11 => ((b12 = true → q_sh A11 a0 = (12, 0) ∧ q_Wc G M_X11_letters [.ref a0, .int (q_I A11 a0 15), .int (q_I A11 a0 14)] A11 (q_KL fun r18 A17 => q_sh A17 a0 = (12, 0) ∧ ∃ r20 : Nat, q_R A17 a0 5 = some r20 ∧ q_Wc G M_X11_buyerWith [.long r18, .ref r20, .int (q_I A r2 2)] A17 (q_KI fun r23 A22 => ((r23 = (-1) → q_sh A22 a0 = (12, 0) ∧ q_Wc G M_X11_go [.ref a0] A22 (q_KV fun A25 => q_sh A25 a0 = (12, 0) ∧ ∃ r29 : Nat, q_R A25 a0 5 = some r29 ∧ ∃ z32 : Nat, q_sh A25 r29 = (52, z32) ∧ z32 < 2147483648 ∧ ∃ j34 : Nat, (q_I A r2 2) = nI j34 ∧ j34 < z32 ∧ ∃ r37 : Nat, q_R A25 a0 3 = some r37 ∧ ∃ z40 : Nat, q_sh A25 r37 = (50, z40) ∧ z40 < 2147483648 ∧ 2 < z40 ∧ 0 < z40 ∧ q_Wc G M_X11_reads [.ref a0, .ref r37, .int ((nI 27) + ((nI 5) * (q_I A r2 2))), .int (nI 0), .int ((q_I (q_setI (q_setL A25 r29 j34 r18) r37 2 ((q_I (q_setL A25 r29 j34 r18) r37 2) + (nI 1))) r37 0) - (nI 1))] (q_setI (q_setL A25 r29 j34 r18) r37 2 ((q_I (q_setL A25 r29 j34 r18) r37 2) + (nI 1))) (q_KB fun b45 A44 => ((b45 = true → q_sh A44 a0 = (12, 0) ∧ ∃ r49 : Nat, q_R A44 a0 3 = some r49 ∧ q_Wc G M_X11_reads [.ref a0, .ref r49, .int (((nI 27) + ((nI 5) * (q_I A r2 2))) + (nI 1)), .int (nI 0), .int (nI 2)] A44 (q_KB fun b52 A51 => ((b52 = true → q_sh A51 a0 = (12, 0) ∧ ∃ r56 : Nat, q_R A51 a0 3 = some r56 ∧ q_Wc G M_X11_reads [.ref a0, .ref r56, .int (((nI 27) + ((nI 5) * (q_I A r2 2))) + (nI 2)), .int (nI 1), .int (nI 9999)] A51 (q_KB fun b59 A58 => ((b59 = true → q_sh A58 a0 = (12, 0) ∧ ∃ r63 : Nat, q_R A58 a0 3 = some r63 ∧ q_Wc G M_X11_reads [.ref a0, .ref r63, .int (((nI 27) + ((nI 5) * (q_I A r2 2))) + (nI 3)), .int (nI 0), .int (nI 100)] A58 (q_KB fun b66 A65 => ((b66 = true → q_sh A65 a0 = (12, 0) ∧ ∃ r70 : Nat, q_R A65 a0 3 = some r70 ∧ q_Wc G M_X11_reads [.ref a0, .ref r70, .int (((nI 27) + ((nI 5) * (q_I A r2 2))) + (nI 4)), .int (nI 0), .int (nI 100)] A65 (q_KB fun b73 A72 => ((b73 = true → f true A72) ∧ (b73 = false → f false A72))) q_nX) ∧ (b66 = false → f false A65))) q_nX) ∧ (b59 = false → f false A58))) q_nX) ∧ (b52 = false → f false A51))) q_nX) ∧ (b45 = false → f false A44))) q_nX) q_nX) ∧ (¬ r23 = (-1) → q_sh A22 a0 = (12, 0) ∧ q_Wc G M_X11_bad [.ref a0, .int (nI 3)] A22 (q_KB fun b77 A76 => f b77 A76) q_nX))) q_nX) q_nX) ∧ (b12 = false → q_sh A11 a0 = (12, 0) ∧ q_Wc G M_X11_bad [.ref a0, .int (nI 1)] A11 (q_KB fun b80 A79 => f b80 A79) q_nX))) q_nX) q_nX))) : q_Wc G M_X11_readsBuyer [.ref a0] A (q_KB f) X := by
  refine q_Wc.of [some (.ref a0), none, none, none, none] mo_X11_readsBuyer.2.2.2.2.2 rfl (Nat.le_of_ble_eq_true rfl) rfl ?_
  refine q_blk (pc' := 1) (lo' := [some (.ref a0), none, none, none, none]) (st' := [.ref a0]) [.aload_n 0] (by decide +kernel) rfl ?_
  obtain ⟨s1, h⟩ := h
  obtain ⟨r2, e3, h⟩ := h
  refine q_getR fl_X11_20 rfl (by decide) (by decide +kernel) s1 e3 ?_
  refine q_blk (pc' := 5) (lo' := [some (.ref a0), none, none, none, none]) (st' := [.int (nI 2), .ref r2]) [.iconst 2] (by decide +kernel) rfl ?_
  obtain ⟨z5, s4, b6, h⟩ := h
  obtain ⟨l7, h⟩ := h
  refine q_iald rfl (by decide +kernel) s4 l7 b6 ?_
  refine q_blk (pc' := 9) (lo' := [some (.ref a0), some (.int (q_I A r2 2)), none, none, none]) (st' := [.int (nI 4), .int (q_I A r2 2)]) [.istore_n 1, .iload_n 1, .iconst 4] (by decide +kernel) rfl ?_
  refine q_icmp_ne 18 (off := 9) (by decide +kernel) (by decide) (fun c8 => ?_) (fun c8 => ?_)
  · have h := h.2 c8
    refine q_blk (pc' := 19) (lo' := [some (.ref a0), some (.int (q_I A r2 2)), none, none, none]) (st' := [.ref a0]) [.aload_n 0] (by decide +kernel) rfl ?_
    refine q_callV (ci := 11) (Mc := M_X11_go) (z := 0) (b := a0) (As := []) (st := []) mo_X11_go mi_X11_go ml_X11_134_X11_go rfl rfl (by decide) rfl (by decide) (by decide) rfl (Nat.le_of_ble_eq_true rfl) (by decide +kernel) s1 h (q_fV fun A9 h => ?_)
    show q_Wp _ _ _ _ 0 0 22 [some (.ref a0), some (.int (q_I A r2 2)), none, none, none] [] A9
    refine q_blk (pc' := 23) (lo' := [some (.ref a0), some (.int (q_I A r2 2)), none, none, none]) (st' := [.ref a0]) [.aload_n 0] (by decide +kernel) rfl ?_
    obtain ⟨s13, h⟩ := h
    refine q_callV (ci := 11) (Mc := M_X11_isName) (z := 0) (b := a0) (As := []) (st := []) mo_X11_isName mi_X11_isName ml_X11_148_X11_isName rfl rfl (by decide) rfl (by decide) (by decide) rfl (Nat.le_of_ble_eq_true rfl) (by decide +kernel) s13 h (q_fB fun b12 A11 h => ?_)
    show q_Wp _ _ _ _ 0 0 26 [some (.ref a0), some (.int (q_I A r2 2)), none, none, none] [.int (q_i b12)] A11
    refine q_ifB_ne 35 (off := 9) (by decide +kernel) (by decide) (fun c14 => ?_) (fun c14 => ?_)
    · have h := h.1 c14
      refine q_blk (pc' := 37) (lo' := [some (.ref a0), some (.int (q_I A r2 2)), none, none, none]) (st' := [.ref a0, .ref a0]) [.aload_n 0, .aload_n 0] (by decide +kernel) rfl ?_
      obtain ⟨s16, h⟩ := h
      refine q_getI fl_X11_85 rfl (by decide) (by decide +kernel) s16 ?_
      refine q_blk (pc' := 41) (lo' := [some (.ref a0), some (.int (q_I A r2 2)), none, none, none]) (st' := [.ref a0, .int (q_I A11 a0 15), .ref a0]) [.aload_n 0] (by decide +kernel) rfl ?_
      refine q_getI fl_X11_78 rfl (by decide) (by decide +kernel) s16 ?_
      refine q_callV (ci := 11) (Mc := M_X11_letters) (z := 2) (b := a0) (As := [.int (q_I A11 a0 15), .int (q_I A11 a0 14)]) (st := []) mo_X11_letters mi_X11_letters ml_X11_152_X11_letters rfl rfl (by decide) rfl (by decide) (by decide) rfl (Nat.le_of_ble_eq_true rfl) (by decide +kernel) s16 h (q_fL fun r18 A17 h => ?_)
      show q_Wp _ _ _ _ 0 0 47 [some (.ref a0), some (.int (q_I A r2 2)), none, none, none] [.long r18] A17
      refine q_blk (pc' := 50) (lo' := [some (.ref a0), some (.int (q_I A r2 2)), some (.long r18), none, none]) (st' := [.ref a0, .long r18]) [.lstore_n 2, .lload_n 2, .aload_n 0] (by decide +kernel) rfl ?_
      obtain ⟨s19, h⟩ := h
      obtain ⟨r20, e21, h⟩ := h
      refine q_getR fl_X11_27 rfl (by decide) (by decide +kernel) s19 e21 ?_
      refine q_blk (pc' := 54) (lo' := [some (.ref a0), some (.int (q_I A r2 2)), some (.long r18), none, none]) (st' := [.int (q_I A r2 2), .ref r20, .long r18]) [.iload_n 1] (by decide +kernel) rfl ?_
      refine q_callS (Mc := M_X11_buyerWith) (z := 3) (As := [.long r18, .ref r20, .int (q_I A r2 2)]) (st := []) mo_X11_buyerWith ms_X11_buyerWith ml_X11_156_X11_buyerWith rfl rfl (by decide) (by decide) rfl (Nat.le_of_ble_eq_true rfl) (by decide +kernel) h (q_fI fun r23 A22 h => ?_)
      show q_Wp _ _ _ _ 0 0 57 [some (.ref a0), some (.int (q_I A r2 2)), some (.long r18), none, none] [.int r23] A22
      refine q_blk (pc' := 58) (lo' := [some (.ref a0), some (.int (q_I A r2 2)), some (.long r18), none, none]) (st' := [.int (-1), .int r23]) [.iconst (-1)] (by decide +kernel) rfl ?_
      refine q_icmp_eq 67 (off := 9) (by decide +kernel) (by decide) (fun c24 => ?_) (fun c24 => ?_)
      · have h := h.1 c24
        refine q_blk (pc' := 68) (lo' := [some (.ref a0), some (.int (q_I A r2 2)), some (.long r18), none, none]) (st' := [.ref a0]) [.aload_n 0] (by decide +kernel) rfl ?_
        obtain ⟨s27, h⟩ := h
        refine q_callV (ci := 11) (Mc := M_X11_go) (z := 0) (b := a0) (As := []) (st := []) mo_X11_go mi_X11_go ml_X11_134_X11_go rfl rfl (by decide) rfl (by decide) (by decide) rfl (Nat.le_of_ble_eq_true rfl) (by decide +kernel) s27 h (q_fV fun A25 h => ?_)
        show q_Wp _ _ _ _ 0 0 71 [some (.ref a0), some (.int (q_I A r2 2)), some (.long r18), none, none] [] A25
        refine q_blk (pc' := 80) (lo' := [some (.ref a0), some (.int (q_I A r2 2)), some (.long r18), none, some (.int ((nI 27) + ((nI 5) * (q_I A r2 2))))]) (st' := [.ref a0]) [.bipush 27, .iconst 5, .iload_n 1, .imul, .iadd, .istore 4, .aload_n 0] (by decide +kernel) rfl ?_
        obtain ⟨s28, h⟩ := h
        obtain ⟨r29, e30, h⟩ := h
        refine q_getR fl_X11_27 rfl (by decide) (by decide +kernel) s28 e30 ?_
        refine q_blk (pc' := 85) (lo' := [some (.ref a0), some (.int (q_I A r2 2)), some (.long r18), none, some (.int ((nI 27) + ((nI 5) * (q_I A r2 2))))]) (st' := [.long r18, .int (q_I A r2 2), .ref r29]) [.iload_n 1, .lload_n 2] (by decide +kernel) rfl ?_
        obtain ⟨z32, s31, b33, h⟩ := h
        obtain ⟨j34, e35, h⟩ := h
        obtain ⟨l36, h⟩ := h
        refine q_last e35 (by decide +kernel) s31 l36 b33 ?_
        refine q_blk (pc' := 87) (lo' := [some (.ref a0), some (.int (q_I A r2 2)), some (.long r18), none, some (.int ((nI 27) + ((nI 5) * (q_I A r2 2))))]) (st' := [.ref a0]) [.aload_n 0] (by decide +kernel) rfl ?_
        obtain ⟨r37, e38, h⟩ := h
        refine q_getR fl_X11_20 rfl (by decide) (by decide +kernel) s28 e38 ?_
        refine q_blk (pc' := 92) (lo' := [some (.ref a0), some (.int (q_I A r2 2)), some (.long r18), none, some (.int ((nI 27) + ((nI 5) * (q_I A r2 2))))]) (st' := [.int (nI 2), .ref r37, .int (nI 2), .ref r37]) [.iconst 2, .dup2] (by decide +kernel) rfl ?_
        obtain ⟨z40, s39, b41, h⟩ := h
        obtain ⟨l42, h⟩ := h
        refine q_iald rfl (by decide +kernel) s39 l42 b41 ?_
        refine q_blk (pc' := 95) (lo' := [some (.ref a0), some (.int (q_I A r2 2)), some (.long r18), none, some (.int ((nI 27) + ((nI 5) * (q_I A r2 2))))]) (st' := [.int ((q_I (q_setL A25 r29 j34 r18) r37 2) + (nI 1)), .int (nI 2), .ref r37]) [.iconst 1, .iadd] (by decide +kernel) rfl ?_
        refine q_iast rfl (by decide +kernel) s39 l42 b41 ?_
        refine q_blk (pc' := 98) (lo' := [some (.ref a0), some (.int (q_I A r2 2)), some (.long r18), none, some (.int ((nI 27) + ((nI 5) * (q_I A r2 2))))]) (st' := [.ref a0, .ref a0]) [.aload_n 0, .aload_n 0] (by decide +kernel) rfl ?_
        refine q_getR fl_X11_20 rfl (by decide) (by decide +kernel) s28 e38 ?_
        refine q_blk (pc' := 105) (lo' := [some (.ref a0), some (.int (q_I A r2 2)), some (.long r18), none, some (.int ((nI 27) + ((nI 5) * (q_I A r2 2))))]) (st' := [.ref a0, .int (nI 0), .int ((nI 27) + ((nI 5) * (q_I A r2 2))), .ref r37, .ref a0]) [.iload 4, .iconst 0, .aload_n 0] (by decide +kernel) rfl ?_
        refine q_getR fl_X11_20 rfl (by decide) (by decide +kernel) s28 e38 ?_
        refine q_blk (pc' := 109) (lo' := [some (.ref a0), some (.int (q_I A r2 2)), some (.long r18), none, some (.int ((nI 27) + ((nI 5) * (q_I A r2 2))))]) (st' := [.int (nI 0), .ref r37, .int (nI 0), .int ((nI 27) + ((nI 5) * (q_I A r2 2))), .ref r37, .ref a0]) [.iconst 0] (by decide +kernel) rfl ?_
        obtain ⟨l43, h⟩ := h
        refine q_iald rfl (by decide +kernel) s39 l43 b41 ?_
        refine q_blk (pc' := 112) (lo' := [some (.ref a0), some (.int (q_I A r2 2)), some (.long r18), none, some (.int ((nI 27) + ((nI 5) * (q_I A r2 2))))]) (st' := [.int ((q_I (q_setI (q_setL A25 r29 j34 r18) r37 2 ((q_I (q_setL A25 r29 j34 r18) r37 2) + (nI 1))) r37 0) - (nI 1)), .int (nI 0), .int ((nI 27) + ((nI 5) * (q_I A r2 2))), .ref r37, .ref a0]) [.iconst 1, .isub] (by decide +kernel) rfl ?_
        refine q_callV (ci := 11) (Mc := M_X11_reads) (z := 4) (b := a0) (As := [.ref r37, .int ((nI 27) + ((nI 5) * (q_I A r2 2))), .int (nI 0), .int ((q_I (q_setI (q_setL A25 r29 j34 r18) r37 2 ((q_I (q_setL A25 r29 j34 r18) r37 2) + (nI 1))) r37 0) - (nI 1))]) (st := []) mo_X11_reads mi_X11_reads ml_X11_137_X11_reads rfl rfl (by decide) rfl (by decide) (by decide) rfl (Nat.le_of_ble_eq_true rfl) (by decide +kernel) s28 h (q_fB fun b45 A44 h => ?_)
        show q_Wp _ _ _ _ 0 0 115 [some (.ref a0), some (.int (q_I A r2 2)), some (.long r18), none, some (.int ((nI 27) + ((nI 5) * (q_I A r2 2))))] [.int (q_i b45)] A44
        refine q_ifB_eq 194 (off := 79) (by decide +kernel) (by decide) (fun c46 => ?_) (fun c46 => ?_)
        · have h := h.2 c46
          refine q_blk (pc' := 195) (lo' := [some (.ref a0), some (.int (q_I A r2 2)), some (.long r18), none, some (.int ((nI 27) + ((nI 5) * (q_I A r2 2))))]) (st' := [.int (nI 0)]) [.iconst 0] (by decide +kernel) rfl ?_
          exact q_retZ (r := q_i false) rfl (q_nz _) (by decide) (by decide) (by decide +kernel) ⟨false, rfl, h⟩
        · have h := h.1 c46
          refine q_blk (pc' := 120) (lo' := [some (.ref a0), some (.int (q_I A r2 2)), some (.long r18), none, some (.int ((nI 27) + ((nI 5) * (q_I A r2 2))))]) (st' := [.ref a0, .ref a0]) [.aload_n 0, .aload_n 0] (by decide +kernel) rfl ?_
          obtain ⟨s48, h⟩ := h
          obtain ⟨r49, e50, h⟩ := h
          refine q_getR fl_X11_20 rfl (by decide) (by decide +kernel) s48 e50 ?_
          refine q_blk (pc' := 129) (lo' := [some (.ref a0), some (.int (q_I A r2 2)), some (.long r18), none, some (.int ((nI 27) + ((nI 5) * (q_I A r2 2))))]) (st' := [.int (nI 2), .int (nI 0), .int (((nI 27) + ((nI 5) * (q_I A r2 2))) + (nI 1)), .ref r49, .ref a0]) [.iload 4, .iconst 1, .iadd, .iconst 0, .iconst 2] (by decide +kernel) rfl ?_
          refine q_callV (ci := 11) (Mc := M_X11_reads) (z := 4) (b := a0) (As := [.ref r49, .int (((nI 27) + ((nI 5) * (q_I A r2 2))) + (nI 1)), .int (nI 0), .int (nI 2)]) (st := []) mo_X11_reads mi_X11_reads ml_X11_137_X11_reads rfl rfl (by decide) rfl (by decide) (by decide) rfl (Nat.le_of_ble_eq_true rfl) (by decide +kernel) s48 h (q_fB fun b52 A51 h => ?_)
          show q_Wp _ _ _ _ 0 0 132 [some (.ref a0), some (.int (q_I A r2 2)), some (.long r18), none, some (.int ((nI 27) + ((nI 5) * (q_I A r2 2))))] [.int (q_i b52)] A51
          refine q_ifB_eq 194 (off := 62) (by decide +kernel) (by decide) (fun c53 => ?_) (fun c53 => ?_)
          · have h := h.2 c53
            refine q_blk (pc' := 195) (lo' := [some (.ref a0), some (.int (q_I A r2 2)), some (.long r18), none, some (.int ((nI 27) + ((nI 5) * (q_I A r2 2))))]) (st' := [.int (nI 0)]) [.iconst 0] (by decide +kernel) rfl ?_
            exact q_retZ (r := q_i false) rfl (q_nz _) (by decide) (by decide) (by decide +kernel) ⟨false, rfl, h⟩
          · have h := h.1 c53
            refine q_blk (pc' := 137) (lo' := [some (.ref a0), some (.int (q_I A r2 2)), some (.long r18), none, some (.int ((nI 27) + ((nI 5) * (q_I A r2 2))))]) (st' := [.ref a0, .ref a0]) [.aload_n 0, .aload_n 0] (by decide +kernel) rfl ?_
            obtain ⟨s55, h⟩ := h
            obtain ⟨r56, e57, h⟩ := h
            refine q_getR fl_X11_20 rfl (by decide) (by decide +kernel) s55 e57 ?_
            refine q_blk (pc' := 148) (lo' := [some (.ref a0), some (.int (q_I A r2 2)), some (.long r18), none, some (.int ((nI 27) + ((nI 5) * (q_I A r2 2))))]) (st' := [.int (nI 9999), .int (nI 1), .int (((nI 27) + ((nI 5) * (q_I A r2 2))) + (nI 2)), .ref r56, .ref a0]) [.iload 4, .iconst 2, .iadd, .iconst 1, .sipush 9999] (by decide +kernel) rfl ?_
            refine q_callV (ci := 11) (Mc := M_X11_reads) (z := 4) (b := a0) (As := [.ref r56, .int (((nI 27) + ((nI 5) * (q_I A r2 2))) + (nI 2)), .int (nI 1), .int (nI 9999)]) (st := []) mo_X11_reads mi_X11_reads ml_X11_137_X11_reads rfl rfl (by decide) rfl (by decide) (by decide) rfl (Nat.le_of_ble_eq_true rfl) (by decide +kernel) s55 h (q_fB fun b59 A58 h => ?_)
            show q_Wp _ _ _ _ 0 0 151 [some (.ref a0), some (.int (q_I A r2 2)), some (.long r18), none, some (.int ((nI 27) + ((nI 5) * (q_I A r2 2))))] [.int (q_i b59)] A58
            refine q_ifB_eq 194 (off := 43) (by decide +kernel) (by decide) (fun c60 => ?_) (fun c60 => ?_)
            · have h := h.2 c60
              refine q_blk (pc' := 195) (lo' := [some (.ref a0), some (.int (q_I A r2 2)), some (.long r18), none, some (.int ((nI 27) + ((nI 5) * (q_I A r2 2))))]) (st' := [.int (nI 0)]) [.iconst 0] (by decide +kernel) rfl ?_
              exact q_retZ (r := q_i false) rfl (q_nz _) (by decide) (by decide) (by decide +kernel) ⟨false, rfl, h⟩
            · have h := h.1 c60
              refine q_blk (pc' := 156) (lo' := [some (.ref a0), some (.int (q_I A r2 2)), some (.long r18), none, some (.int ((nI 27) + ((nI 5) * (q_I A r2 2))))]) (st' := [.ref a0, .ref a0]) [.aload_n 0, .aload_n 0] (by decide +kernel) rfl ?_
              obtain ⟨s62, h⟩ := h
              obtain ⟨r63, e64, h⟩ := h
              refine q_getR fl_X11_20 rfl (by decide) (by decide +kernel) s62 e64 ?_
              refine q_blk (pc' := 166) (lo' := [some (.ref a0), some (.int (q_I A r2 2)), some (.long r18), none, some (.int ((nI 27) + ((nI 5) * (q_I A r2 2))))]) (st' := [.int (nI 100), .int (nI 0), .int (((nI 27) + ((nI 5) * (q_I A r2 2))) + (nI 3)), .ref r63, .ref a0]) [.iload 4, .iconst 3, .iadd, .iconst 0, .bipush 100] (by decide +kernel) rfl ?_
              refine q_callV (ci := 11) (Mc := M_X11_reads) (z := 4) (b := a0) (As := [.ref r63, .int (((nI 27) + ((nI 5) * (q_I A r2 2))) + (nI 3)), .int (nI 0), .int (nI 100)]) (st := []) mo_X11_reads mi_X11_reads ml_X11_137_X11_reads rfl rfl (by decide) rfl (by decide) (by decide) rfl (Nat.le_of_ble_eq_true rfl) (by decide +kernel) s62 h (q_fB fun b66 A65 h => ?_)
              show q_Wp _ _ _ _ 0 0 169 [some (.ref a0), some (.int (q_I A r2 2)), some (.long r18), none, some (.int ((nI 27) + ((nI 5) * (q_I A r2 2))))] [.int (q_i b66)] A65
              refine q_ifB_eq 194 (off := 25) (by decide +kernel) (by decide) (fun c67 => ?_) (fun c67 => ?_)
              · have h := h.2 c67
                refine q_blk (pc' := 195) (lo' := [some (.ref a0), some (.int (q_I A r2 2)), some (.long r18), none, some (.int ((nI 27) + ((nI 5) * (q_I A r2 2))))]) (st' := [.int (nI 0)]) [.iconst 0] (by decide +kernel) rfl ?_
                exact q_retZ (r := q_i false) rfl (q_nz _) (by decide) (by decide) (by decide +kernel) ⟨false, rfl, h⟩
              · have h := h.1 c67
                refine q_blk (pc' := 174) (lo' := [some (.ref a0), some (.int (q_I A r2 2)), some (.long r18), none, some (.int ((nI 27) + ((nI 5) * (q_I A r2 2))))]) (st' := [.ref a0, .ref a0]) [.aload_n 0, .aload_n 0] (by decide +kernel) rfl ?_
                obtain ⟨s69, h⟩ := h
                obtain ⟨r70, e71, h⟩ := h
                refine q_getR fl_X11_20 rfl (by decide) (by decide +kernel) s69 e71 ?_
                refine q_blk (pc' := 184) (lo' := [some (.ref a0), some (.int (q_I A r2 2)), some (.long r18), none, some (.int ((nI 27) + ((nI 5) * (q_I A r2 2))))]) (st' := [.int (nI 100), .int (nI 0), .int (((nI 27) + ((nI 5) * (q_I A r2 2))) + (nI 4)), .ref r70, .ref a0]) [.iload 4, .iconst 4, .iadd, .iconst 0, .bipush 100] (by decide +kernel) rfl ?_
                refine q_callV (ci := 11) (Mc := M_X11_reads) (z := 4) (b := a0) (As := [.ref r70, .int (((nI 27) + ((nI 5) * (q_I A r2 2))) + (nI 4)), .int (nI 0), .int (nI 100)]) (st := []) mo_X11_reads mi_X11_reads ml_X11_137_X11_reads rfl rfl (by decide) rfl (by decide) (by decide) rfl (Nat.le_of_ble_eq_true rfl) (by decide +kernel) s69 h (q_fB fun b73 A72 h => ?_)
                show q_Wp _ _ _ _ 0 0 187 [some (.ref a0), some (.int (q_I A r2 2)), some (.long r18), none, some (.int ((nI 27) + ((nI 5) * (q_I A r2 2))))] [.int (q_i b73)] A72
                refine q_ifB_eq 194 (off := 7) (by decide +kernel) (by decide) (fun c74 => ?_) (fun c74 => ?_)
                · have h := h.2 c74
                  refine q_blk (pc' := 195) (lo' := [some (.ref a0), some (.int (q_I A r2 2)), some (.long r18), none, some (.int ((nI 27) + ((nI 5) * (q_I A r2 2))))]) (st' := [.int (nI 0)]) [.iconst 0] (by decide +kernel) rfl ?_
                  exact q_retZ (r := q_i false) rfl (q_nz _) (by decide) (by decide) (by decide +kernel) ⟨false, rfl, h⟩
                · have h := h.1 c74
                  refine q_blk (pc' := 191) (lo' := [some (.ref a0), some (.int (q_I A r2 2)), some (.long r18), none, some (.int ((nI 27) + ((nI 5) * (q_I A r2 2))))]) (st' := [.int (nI 1)]) [.iconst 1] (by decide +kernel) rfl ?_
                  refine q_goto 195 (off := 4) (by decide +kernel) (by decide) ?_
                  exact q_retZ (r := q_i true) rfl (q_nz _) (by decide) (by decide) (by decide +kernel) ⟨true, rfl, h⟩
      · have h := h.2 c24
        refine q_blk (pc' := 63) (lo' := [some (.ref a0), some (.int (q_I A r2 2)), some (.long r18), none, none]) (st' := [.int (nI 3), .ref a0]) [.aload_n 0, .iconst 3] (by decide +kernel) rfl ?_
        obtain ⟨s78, h⟩ := h
        refine q_callV (ci := 11) (Mc := M_X11_bad) (z := 1) (b := a0) (As := [.int (nI 3)]) (st := []) mo_X11_bad mi_X11_bad ml_X11_131_X11_bad rfl rfl (by decide) rfl (by decide) (by decide) rfl (Nat.le_of_ble_eq_true rfl) (by decide +kernel) s78 h (q_fB fun b77 A76 h => ?_)
        show q_Wp _ _ _ _ 0 0 66 [some (.ref a0), some (.int (q_I A r2 2)), some (.long r18), none, none] [.int (q_i b77)] A76
        exact q_retZ (r := q_i b77) rfl (q_nz _) (by decide) (by decide) (by decide +kernel) ⟨b77, rfl, h⟩
    · have h := h.2 c14
      refine q_blk (pc' := 31) (lo' := [some (.ref a0), some (.int (q_I A r2 2)), none, none, none]) (st' := [.int (nI 1), .ref a0]) [.aload_n 0, .iconst 1] (by decide +kernel) rfl ?_
      obtain ⟨s81, h⟩ := h
      refine q_callV (ci := 11) (Mc := M_X11_bad) (z := 1) (b := a0) (As := [.int (nI 1)]) (st := []) mo_X11_bad mi_X11_bad ml_X11_131_X11_bad rfl rfl (by decide) rfl (by decide) (by decide) rfl (Nat.le_of_ble_eq_true rfl) (by decide +kernel) s81 h (q_fB fun b80 A79 h => ?_)
      show q_Wp _ _ _ _ 0 0 34 [some (.ref a0), some (.int (q_I A r2 2)), none, none, none] [.int (q_i b80)] A79
      exact q_retZ (r := q_i b80) rfl (q_nz _) (by decide) (by decide) (by decide +kernel) ⟨b80, rfl, h⟩
  · have h := h.1 c8
    refine q_blk (pc' := 14) (lo' := [some (.ref a0), some (.int (q_I A r2 2)), none, none, none]) (st' := [.int (nI 5), .ref a0]) [.aload_n 0, .iconst 5] (by decide +kernel) rfl ?_
    refine q_callV (ci := 11) (Mc := M_X11_bad) (z := 1) (b := a0) (As := [.int (nI 5)]) (st := []) mo_X11_bad mi_X11_bad ml_X11_131_X11_bad rfl rfl (by decide) rfl (by decide) (by decide) rfl (Nat.le_of_ble_eq_true rfl) (by decide +kernel) s1 h (q_fB fun b83 A82 h => ?_)
    show q_Wp _ _ _ _ 0 0 17 [some (.ref a0), some (.int (q_I A r2 2)), none, none, none] [.int (q_i b83)] A82
    exact q_retZ (r := q_i b83) rfl (q_nz _) (by decide) (by decide) (by decide +kernel) ⟨b83, rfl, h⟩
theorem f_X11_ends {G : q_G} {X : String → q_H → Prop} {f : Bool → q_H → Prop} {A : q_H} {a0 : Nat} (h : q_sh A a0 = (12, 0) ∧ (((q_I A a0 16) = (nI 4) → q_Wc G M_X11_go [.ref a0] A (q_KV fun A3 => f true A3) q_nX) ∧ (¬ (q_I A a0 16) = (nI 4) → q_Wc G M_X11_bad [.ref a0, .int (nI 1)] A (q_KB fun b6 A5 => f b6 A5) q_nX))) : q_Wc G M_X11_ends [.ref a0] A (q_KB f) X := by
  refine q_Wc.of [some (.ref a0)] mo_X11_ends.2.2.2.2.2 rfl (Nat.le_of_ble_eq_true rfl) rfl ?_
  refine q_blk (pc' := 1) (lo' := [some (.ref a0)]) (st' := [.ref a0]) [.aload_n 0] (by decide +kernel) rfl ?_
  obtain ⟨s1, h⟩ := h
  refine q_getI fl_X11_88 rfl (by decide) (by decide +kernel) s1 ?_
  refine q_blk (pc' := 5) (lo' := [some (.ref a0)]) (st' := [.int (nI 4), .int (q_I A a0 16)]) [.iconst 4] (by decide +kernel) rfl ?_
  refine q_icmp_eq 14 (off := 9) (by decide +kernel) (by decide) (fun c2 => ?_) (fun c2 => ?_)
  · have h := h.1 c2
    refine q_blk (pc' := 15) (lo' := [some (.ref a0)]) (st' := [.ref a0]) [.aload_n 0] (by decide +kernel) rfl ?_
    refine q_callV (ci := 11) (Mc := M_X11_go) (z := 0) (b := a0) (As := []) (st := []) mo_X11_go mi_X11_go ml_X11_134_X11_go rfl rfl (by decide) rfl (by decide) (by decide) rfl (Nat.le_of_ble_eq_true rfl) (by decide +kernel) s1 h (q_fV fun A3 h => ?_)
    show q_Wp _ _ _ _ 0 0 18 [some (.ref a0)] [] A3
    refine q_blk (pc' := 19) (lo' := [some (.ref a0)]) (st' := [.int (nI 1)]) [.iconst 1] (by decide +kernel) rfl ?_
    exact q_retZ (r := q_i true) rfl (q_nz _) (by decide) (by decide) (by decide +kernel) ⟨true, rfl, h⟩
  · have h := h.2 c2
    refine q_blk (pc' := 10) (lo' := [some (.ref a0)]) (st' := [.int (nI 1), .ref a0]) [.aload_n 0, .iconst 1] (by decide +kernel) rfl ?_
    refine q_callV (ci := 11) (Mc := M_X11_bad) (z := 1) (b := a0) (As := [.int (nI 1)]) (st := []) mo_X11_bad mi_X11_bad ml_X11_131_X11_bad rfl rfl (by decide) rfl (by decide) (by decide) rfl (Nat.le_of_ble_eq_true rfl) (by decide +kernel) s1 h (q_fB fun b6 A5 h => ?_)
    show q_Wp _ _ _ _ 0 0 13 [some (.ref a0)] [.int (q_i b6)] A5
    exact q_retZ (r := q_i b6) rfl (q_nz _) (by decide) (by decide) (by decide +kernel) ⟨b6, rfl, h⟩
theorem f_X11_readsAll {G : q_G} {X : String → q_H → Prop} {f : Bool → q_H → Prop} {A : q_H} {a0 : Nat} (h : q_sh A a0 = (12, 0) ∧ q_Wc G M_X11_go [.ref a0] A (q_KV fun A1 => q_sh A1 a0 = (12, 0) ∧ q_Wc G M_X11_isWord [.ref a0, .ref (q_aK G 23)] A1 (q_KB fun b5 A4 => ((b5 = true → q_sh A4 a0 = (12, 0) ∧ q_Wc G M_X11_go [.ref a0] A4 (q_KV fun A9 => q_sh A9 a0 = (12, 0) ∧ ∃ r13 : Nat, q_R A9 a0 3 = some r13 ∧ q_Wc G M_X11_reads [.ref a0, .ref r13, .int (nI 0), .int (nI 1), .int (nI 6)] A9 (q_KB fun b16 A15 => ((b16 = true → q_sh A15 a0 = (12, 0) ∧ q_Wc G M_X11_ends [.ref a0] A15 (q_KB fun b20 A19 => ((b20 = true → q_Wp G M_X11_readsAll (q_KB f) X 0 0 47 [some (.ref a0), none] [] A19) ∧ (b20 = false → f false A19))) q_nX) ∧ (b16 = false → f false A15))) q_nX) q_nX) ∧ (b5 = false → q_sh A4 a0 = (12, 0) ∧ q_Wc G M_X11_bad [.ref a0, .int (nI 1)] A4 (q_KB fun b25 A24 => f b25 A24) q_nX))) q_nX) q_nX) : q_Wc G M_X11_readsAll [.ref a0] A (q_KB f) X := by
  refine q_Wc.of [some (.ref a0), none] mo_X11_readsAll.2.2.2.2.2 rfl (Nat.le_of_ble_eq_true rfl) rfl ?_
  refine q_blk (pc' := 1) (lo' := [some (.ref a0), none]) (st' := [.ref a0]) [.aload_n 0] (by decide +kernel) rfl ?_
  obtain ⟨s3, h⟩ := h
  refine q_callV (ci := 11) (Mc := M_X11_go) (z := 0) (b := a0) (As := []) (st := []) mo_X11_go mi_X11_go ml_X11_134_X11_go rfl rfl (by decide) rfl (by decide) (by decide) rfl (Nat.le_of_ble_eq_true rfl) (by decide +kernel) s3 h (q_fV fun A1 h => ?_)
  show q_Wp _ _ _ _ 0 0 4 [some (.ref a0), none] [] A1
  refine q_blk (pc' := 5) (lo' := [some (.ref a0), none]) (st' := [.ref a0]) [.aload_n 0] (by decide +kernel) rfl ?_
  refine q_ldc (i := 23) rfl rfl rfl (by decide +kernel) ?_
  obtain ⟨s6, h⟩ := h
  refine q_callV (ci := 11) (Mc := M_X11_isWord) (z := 1) (b := a0) (As := [.ref (q_aK G 23)]) (st := []) mo_X11_isWord mi_X11_isWord ml_X11_113_X11_isWord rfl rfl (by decide) rfl (by decide) (by decide) rfl (Nat.le_of_ble_eq_true rfl) (by decide +kernel) s6 h (q_fB fun b5 A4 h => ?_)
  show q_Wp _ _ _ _ 0 0 10 [some (.ref a0), none] [.int (q_i b5)] A4
  refine q_ifB_ne 19 (off := 9) (by decide +kernel) (by decide) (fun c7 => ?_) (fun c7 => ?_)
  · have h := h.1 c7
    refine q_blk (pc' := 20) (lo' := [some (.ref a0), none]) (st' := [.ref a0]) [.aload_n 0] (by decide +kernel) rfl ?_
    obtain ⟨s11, h⟩ := h
    refine q_callV (ci := 11) (Mc := M_X11_go) (z := 0) (b := a0) (As := []) (st := []) mo_X11_go mi_X11_go ml_X11_134_X11_go rfl rfl (by decide) rfl (by decide) (by decide) rfl (Nat.le_of_ble_eq_true rfl) (by decide +kernel) s11 h (q_fV fun A9 h => ?_)
    show q_Wp _ _ _ _ 0 0 23 [some (.ref a0), none] [] A9
    refine q_blk (pc' := 25) (lo' := [some (.ref a0), none]) (st' := [.ref a0, .ref a0]) [.aload_n 0, .aload_n 0] (by decide +kernel) rfl ?_
    obtain ⟨s12, h⟩ := h
    obtain ⟨r13, e14, h⟩ := h
    refine q_getR fl_X11_20 rfl (by decide) (by decide +kernel) s12 e14 ?_
    refine q_blk (pc' := 32) (lo' := [some (.ref a0), none]) (st' := [.int (nI 6), .int (nI 1), .int (nI 0), .ref r13, .ref a0]) [.iconst 0, .iconst 1, .bipush 6] (by decide +kernel) rfl ?_
    refine q_callV (ci := 11) (Mc := M_X11_reads) (z := 4) (b := a0) (As := [.ref r13, .int (nI 0), .int (nI 1), .int (nI 6)]) (st := []) mo_X11_reads mi_X11_reads ml_X11_137_X11_reads rfl rfl (by decide) rfl (by decide) (by decide) rfl (Nat.le_of_ble_eq_true rfl) (by decide +kernel) s12 h (q_fB fun b16 A15 h => ?_)
    show q_Wp _ _ _ _ 0 0 35 [some (.ref a0), none] [.int (q_i b16)] A15
    refine q_ifB_eq 45 (off := 10) (by decide +kernel) (by decide) (fun c17 => ?_) (fun c17 => ?_)
    · have h := h.2 c17
      refine q_blk (pc' := 46) (lo' := [some (.ref a0), none]) (st' := [.int (nI 0)]) [.iconst 0] (by decide +kernel) rfl ?_
      exact q_retZ (r := q_i false) rfl (q_nz _) (by decide) (by decide) (by decide +kernel) ⟨false, rfl, h⟩
    · have h := h.1 c17
      refine q_blk (pc' := 39) (lo' := [some (.ref a0), none]) (st' := [.ref a0]) [.aload_n 0] (by decide +kernel) rfl ?_
      obtain ⟨s21, h⟩ := h
      refine q_callV (ci := 11) (Mc := M_X11_ends) (z := 0) (b := a0) (As := []) (st := []) mo_X11_ends mi_X11_ends ml_X11_162_X11_ends rfl rfl (by decide) rfl (by decide) (by decide) rfl (Nat.le_of_ble_eq_true rfl) (by decide +kernel) s21 h (q_fB fun b20 A19 h => ?_)
      show q_Wp _ _ _ _ 0 0 42 [some (.ref a0), none] [.int (q_i b20)] A19
      refine q_ifB_ne 47 (off := 5) (by decide +kernel) (by decide) (fun c22 => ?_) (fun c22 => ?_)
      · have h := h.1 c22
        exact h
      · have h := h.2 c22
        refine q_blk (pc' := 46) (lo' := [some (.ref a0), none]) (st' := [.int (nI 0)]) [.iconst 0] (by decide +kernel) rfl ?_
        exact q_retZ (r := q_i false) rfl (q_nz _) (by decide) (by decide) (by decide +kernel) ⟨false, rfl, h⟩
  · have h := h.2 c7
    refine q_blk (pc' := 15) (lo' := [some (.ref a0), none]) (st' := [.int (nI 1), .ref a0]) [.aload_n 0, .iconst 1] (by decide +kernel) rfl ?_
    obtain ⟨s26, h⟩ := h
    refine q_callV (ci := 11) (Mc := M_X11_bad) (z := 1) (b := a0) (As := [.int (nI 1)]) (st := []) mo_X11_bad mi_X11_bad ml_X11_131_X11_bad rfl rfl (by decide) rfl (by decide) (by decide) rfl (Nat.le_of_ble_eq_true rfl) (by decide +kernel) s26 h (q_fB fun b25 A24 h => ?_)
    show q_Wp _ _ _ _ 0 0 18 [some (.ref a0), none] [.int (q_i b25)] A24
    exact q_retZ (r := q_i b25) rfl (q_nz _) (by decide) (by decide) (by decide +kernel) ⟨b25, rfl, h⟩
theorem f_X11_readsAll_47 {G : q_G} {X : String → q_H → Prop} {f : Bool → q_H → Prop} {A : q_H} {a0 : Nat} (h : q_sh A a0 = (12, 0) ∧ (((q_I A a0 16) = nI 0 → ∃ r3 : Nat, q_R A a0 3 = some r3 ∧ ∃ z6 : Nat, q_sh A r3 = (50, z6) ∧ z6 < 2147483648 ∧ 1 < z6 ∧ ((nI 0 < (q_I A r3 1) → f true A) ∧ (¬ nI 0 < (q_I A r3 1) → q_Wc G M_X11_bad [.ref a0, .int (nI 1)] A (q_KB fun b11 A10 => ((b11 = true → f true A10) ∧ (b11 = false → f false A10))) q_nX))) ∧ (¬ (q_I A a0 16) = nI 0 → q_Wc G M_X11_isWord [.ref a0, .ref (q_aK G 24)] A (q_KB fun b15 A14 => ((b15 = true → q_sh A14 a0 = (12, 0) ∧ q_Wc G M_X11_readsStation [.ref a0] A14 (q_KB fun b74 A73 => ((b74 = true → q_sh A73 a0 = (12, 0) ∧ q_Wc G M_X11_ends [.ref a0] A73 (q_KB fun b79 A78 => ((b79 = true → q_Wp G M_X11_readsAll (q_KB f) X 0 0 47 [some (.ref a0), none] [] A78) ∧ (b79 = false → f false A78))) q_nX) ∧ (b74 = false → f false A73))) q_nX) ∧ (b15 = false → q_sh A14 a0 = (12, 0) ∧ q_Wc G M_X11_isWord [.ref a0, .ref (q_aK G 25)] A14 (q_KB fun b19 A18 => ((b19 = true → q_sh A18 a0 = (12, 0) ∧ q_Wc G M_X11_readsSetting [.ref a0] A18 (q_KB fun b64 A63 => ((b64 = true → q_sh A63 a0 = (12, 0) ∧ q_Wc G M_X11_ends [.ref a0] A63 (q_KB fun b69 A68 => ((b69 = true → q_Wp G M_X11_readsAll (q_KB f) X 0 0 47 [some (.ref a0), none] [] A68) ∧ (b69 = false → f false A68))) q_nX) ∧ (b64 = false → f false A63))) q_nX) ∧ (b19 = false → q_sh A18 a0 = (12, 0) ∧ q_Wc G M_X11_isWord [.ref a0, .ref (q_aK G 26)] A18 (q_KB fun b24 A23 => ((b24 = true → q_sh A23 a0 = (12, 0) ∧ q_Wc G M_X11_readsLoad [.ref a0] A23 (q_KB fun b54 A53 => ((b54 = true → q_sh A53 a0 = (12, 0) ∧ q_Wc G M_X11_ends [.ref a0] A53 (q_KB fun b59 A58 => ((b59 = true → q_Wp G M_X11_readsAll (q_KB f) X 0 0 47 [some (.ref a0), none] [] A58) ∧ (b59 = false → f false A58))) q_nX) ∧ (b54 = false → f false A53))) q_nX) ∧ (b24 = false → q_sh A23 a0 = (12, 0) ∧ q_Wc G M_X11_isWord [.ref a0, .ref (q_aK G 27)] A23 (q_KB fun b29 A28 => ((b29 = true → q_sh A28 a0 = (12, 0) ∧ q_Wc G M_X11_readsBuyer [.ref a0] A28 (q_KB fun b44 A43 => ((b44 = true → q_sh A43 a0 = (12, 0) ∧ q_Wc G M_X11_ends [.ref a0] A43 (q_KB fun b49 A48 => ((b49 = true → q_Wp G M_X11_readsAll (q_KB f) X 0 0 47 [some (.ref a0), none] [] A48) ∧ (b49 = false → f false A48))) q_nX) ∧ (b44 = false → f false A43))) q_nX) ∧ (b29 = false → q_sh A28 a0 = (12, 0) ∧ q_Wc G M_X11_bad [.ref a0, .int (nI 1)] A28 (q_KB fun b34 A33 => ((b34 = true → q_sh A33 a0 = (12, 0) ∧ q_Wc G M_X11_ends [.ref a0] A33 (q_KB fun b39 A38 => ((b39 = true → q_Wp G M_X11_readsAll (q_KB f) X 0 0 47 [some (.ref a0), none] [] A38) ∧ (b39 = false → f false A38))) q_nX) ∧ (b34 = false → f false A33))) q_nX))) q_nX))) q_nX))) q_nX))) q_nX))) : q_Wp G M_X11_readsAll (q_KB f) X 0 0 47 [some (.ref a0), none] [] A := by
  refine q_blk (pc' := 48) (lo' := [some (.ref a0), none]) (st' := [.ref a0]) [.aload_n 0] (by decide +kernel) rfl ?_
  obtain ⟨s1, h⟩ := h
  refine q_getI fl_X11_88 rfl (by decide) (by decide +kernel) s1 ?_
  refine q_if_eq 140 (off := 89) (by decide +kernel) (by decide) (fun c2 => ?_) (fun c2 => ?_)
  · have h := h.1 c2
    refine q_blk (pc' := 141) (lo' := [some (.ref a0), none]) (st' := [.ref a0]) [.aload_n 0] (by decide +kernel) rfl ?_
    obtain ⟨r3, e4, h⟩ := h
    refine q_getR fl_X11_20 rfl (by decide) (by decide +kernel) s1 e4 ?_
    refine q_blk (pc' := 145) (lo' := [some (.ref a0), none]) (st' := [.int (nI 1), .ref r3]) [.iconst 1] (by decide +kernel) rfl ?_
    obtain ⟨z6, s5, b7, h⟩ := h
    obtain ⟨l8, h⟩ := h
    refine q_iald rfl (by decide +kernel) s5 l8 b7 ?_
    refine q_if_gt 157 (off := 11) (by decide +kernel) (by decide) (fun c9 => ?_) (fun c9 => ?_)
    · have h := h.1 c9
      refine q_blk (pc' := 158) (lo' := [some (.ref a0), none]) (st' := [.int (nI 1)]) [.iconst 1] (by decide +kernel) rfl ?_
      refine q_goto 162 (off := 4) (by decide +kernel) (by decide) ?_
      exact q_retZ (r := q_i true) rfl (q_nz _) (by decide) (by decide) (by decide +kernel) ⟨true, rfl, h⟩
    · have h := h.2 c9
      refine q_blk (pc' := 151) (lo' := [some (.ref a0), none]) (st' := [.int (nI 1), .ref a0]) [.aload_n 0, .iconst 1] (by decide +kernel) rfl ?_
      refine q_callV (ci := 11) (Mc := M_X11_bad) (z := 1) (b := a0) (As := [.int (nI 1)]) (st := []) mo_X11_bad mi_X11_bad ml_X11_131_X11_bad rfl rfl (by decide) rfl (by decide) (by decide) rfl (Nat.le_of_ble_eq_true rfl) (by decide +kernel) s1 h (q_fB fun b11 A10 h => ?_)
      show q_Wp _ _ _ _ 0 0 154 [some (.ref a0), none] [.int (q_i b11)] A10
      refine q_ifB_eq 161 (off := 7) (by decide +kernel) (by decide) (fun c12 => ?_) (fun c12 => ?_)
      · have h := h.2 c12
        refine q_blk (pc' := 162) (lo' := [some (.ref a0), none]) (st' := [.int (nI 0)]) [.iconst 0] (by decide +kernel) rfl ?_
        exact q_retZ (r := q_i false) rfl (q_nz _) (by decide) (by decide) (by decide +kernel) ⟨false, rfl, h⟩
      · have h := h.1 c12
        refine q_blk (pc' := 158) (lo' := [some (.ref a0), none]) (st' := [.int (nI 1)]) [.iconst 1] (by decide +kernel) rfl ?_
        refine q_goto 162 (off := 4) (by decide +kernel) (by decide) ?_
        exact q_retZ (r := q_i true) rfl (q_nz _) (by decide) (by decide) (by decide +kernel) ⟨true, rfl, h⟩
  · have h := h.2 c2
    refine q_blk (pc' := 55) (lo' := [some (.ref a0), none]) (st' := [.ref a0]) [.aload_n 0] (by decide +kernel) rfl ?_
    refine q_ldc (i := 24) rfl rfl rfl (by decide +kernel) ?_
    refine q_callV (ci := 11) (Mc := M_X11_isWord) (z := 1) (b := a0) (As := [.ref (q_aK G 24)]) (st := []) mo_X11_isWord mi_X11_isWord ml_X11_113_X11_isWord rfl rfl (by decide) rfl (by decide) (by decide) rfl (Nat.le_of_ble_eq_true rfl) (by decide +kernel) s1 h (q_fB fun b15 A14 h => ?_)
    show q_Wp _ _ _ _ 0 0 60 [some (.ref a0), none] [.int (q_i b15)] A14
    refine q_ifB_eq 70 (off := 10) (by decide +kernel) (by decide) (fun c16 => ?_) (fun c16 => ?_)
    · have h := h.2 c16
      refine q_blk (pc' := 71) (lo' := [some (.ref a0), none]) (st' := [.ref a0]) [.aload_n 0] (by decide +kernel) rfl ?_
      refine q_ldc (i := 25) rfl rfl rfl (by decide +kernel) ?_
      obtain ⟨s20, h⟩ := h
      refine q_callV (ci := 11) (Mc := M_X11_isWord) (z := 1) (b := a0) (As := [.ref (q_aK G 25)]) (st := []) mo_X11_isWord mi_X11_isWord ml_X11_113_X11_isWord rfl rfl (by decide) rfl (by decide) (by decide) rfl (Nat.le_of_ble_eq_true rfl) (by decide +kernel) s20 h (q_fB fun b19 A18 h => ?_)
      show q_Wp _ _ _ _ 0 0 76 [some (.ref a0), none] [.int (q_i b19)] A18
      refine q_ifB_eq 86 (off := 10) (by decide +kernel) (by decide) (fun c21 => ?_) (fun c21 => ?_)
      · have h := h.2 c21
        refine q_blk (pc' := 87) (lo' := [some (.ref a0), none]) (st' := [.ref a0]) [.aload_n 0] (by decide +kernel) rfl ?_
        refine q_ldc (i := 26) rfl rfl rfl (by decide +kernel) ?_
        obtain ⟨s25, h⟩ := h
        refine q_callV (ci := 11) (Mc := M_X11_isWord) (z := 1) (b := a0) (As := [.ref (q_aK G 26)]) (st := []) mo_X11_isWord mi_X11_isWord ml_X11_113_X11_isWord rfl rfl (by decide) rfl (by decide) (by decide) rfl (Nat.le_of_ble_eq_true rfl) (by decide +kernel) s25 h (q_fB fun b24 A23 h => ?_)
        show q_Wp _ _ _ _ 0 0 92 [some (.ref a0), none] [.int (q_i b24)] A23
        refine q_ifB_eq 102 (off := 10) (by decide +kernel) (by decide) (fun c26 => ?_) (fun c26 => ?_)
        · have h := h.2 c26
          refine q_blk (pc' := 103) (lo' := [some (.ref a0), none]) (st' := [.ref a0]) [.aload_n 0] (by decide +kernel) rfl ?_
          refine q_ldc (i := 27) rfl rfl rfl (by decide +kernel) ?_
          obtain ⟨s30, h⟩ := h
          refine q_callV (ci := 11) (Mc := M_X11_isWord) (z := 1) (b := a0) (As := [.ref (q_aK G 27)]) (st := []) mo_X11_isWord mi_X11_isWord ml_X11_113_X11_isWord rfl rfl (by decide) rfl (by decide) (by decide) rfl (Nat.le_of_ble_eq_true rfl) (by decide +kernel) s30 h (q_fB fun b29 A28 h => ?_)
          show q_Wp _ _ _ _ 0 0 108 [some (.ref a0), none] [.int (q_i b29)] A28
          refine q_ifB_eq 118 (off := 10) (by decide +kernel) (by decide) (fun c31 => ?_) (fun c31 => ?_)
          · have h := h.2 c31
            refine q_blk (pc' := 120) (lo' := [some (.ref a0), none]) (st' := [.int (nI 1), .ref a0]) [.aload_n 0, .iconst 1] (by decide +kernel) rfl ?_
            obtain ⟨s35, h⟩ := h
            refine q_callV (ci := 11) (Mc := M_X11_bad) (z := 1) (b := a0) (As := [.int (nI 1)]) (st := []) mo_X11_bad mi_X11_bad ml_X11_131_X11_bad rfl rfl (by decide) rfl (by decide) (by decide) rfl (Nat.le_of_ble_eq_true rfl) (by decide +kernel) s35 h (q_fB fun b34 A33 h => ?_)
            show q_Wp _ _ _ _ 0 0 123 [some (.ref a0), none] [.int (q_i b34)] A33
            refine q_blk (pc' := 125) (lo' := [some (.ref a0), some (.int (q_i b34))]) (st' := [.int (q_i b34)]) [.istore_n 1, .iload_n 1] (by decide +kernel) rfl ?_
            refine q_ifB_eq 135 (off := 10) (by decide +kernel) (by decide) (fun c36 => ?_) (fun c36 => ?_)
            · have h := h.2 c36
              refine q_blk (pc' := 136) (lo' := [some (.ref a0), some (.int (q_i b34))]) (st' := [.int (nI 0)]) [.iconst 0] (by decide +kernel) rfl ?_
              exact q_retZ (r := q_i false) rfl (q_nz _) (by decide) (by decide) (by decide +kernel) ⟨false, rfl, h⟩
            · have h := h.1 c36
              refine q_blk (pc' := 129) (lo' := [some (.ref a0), some (.int (q_i b34))]) (st' := [.ref a0]) [.aload_n 0] (by decide +kernel) rfl ?_
              obtain ⟨s40, h⟩ := h
              refine q_callV (ci := 11) (Mc := M_X11_ends) (z := 0) (b := a0) (As := []) (st := []) mo_X11_ends mi_X11_ends ml_X11_162_X11_ends rfl rfl (by decide) rfl (by decide) (by decide) rfl (Nat.le_of_ble_eq_true rfl) (by decide +kernel) s40 h (q_fB fun b39 A38 h => ?_)
              show q_Wp _ _ _ _ 0 0 132 [some (.ref a0), some (.int (q_i b34))] [.int (q_i b39)] A38
              refine q_ifB_ne 137 (off := 5) (by decide +kernel) (by decide) (fun c41 => ?_) (fun c41 => ?_)
              · have h := h.1 c41
                refine q_goto 47 (off := -90) (by decide +kernel) (by decide) ?_
                exact q_wk [some (.ref a0), none] (And.intro rfl trivial) h
              · have h := h.2 c41
                refine q_blk (pc' := 136) (lo' := [some (.ref a0), some (.int (q_i b34))]) (st' := [.int (nI 0)]) [.iconst 0] (by decide +kernel) rfl ?_
                exact q_retZ (r := q_i false) rfl (q_nz _) (by decide) (by decide) (by decide +kernel) ⟨false, rfl, h⟩
          · have h := h.1 c31
            refine q_blk (pc' := 112) (lo' := [some (.ref a0), none]) (st' := [.ref a0]) [.aload_n 0] (by decide +kernel) rfl ?_
            obtain ⟨s45, h⟩ := h
            refine q_callV (ci := 11) (Mc := M_X11_readsBuyer) (z := 0) (b := a0) (As := []) (st := []) mo_X11_readsBuyer mi_X11_readsBuyer ml_X11_176_X11_readsBuyer rfl rfl (by decide) rfl (by decide) (by decide) rfl (Nat.le_of_ble_eq_true rfl) (by decide +kernel) s45 h (q_fB fun b44 A43 h => ?_)
            show q_Wp _ _ _ _ 0 0 115 [some (.ref a0), none] [.int (q_i b44)] A43
            refine q_goto 123 (off := 8) (by decide +kernel) (by decide) ?_
            refine q_blk (pc' := 125) (lo' := [some (.ref a0), some (.int (q_i b44))]) (st' := [.int (q_i b44)]) [.istore_n 1, .iload_n 1] (by decide +kernel) rfl ?_
            refine q_ifB_eq 135 (off := 10) (by decide +kernel) (by decide) (fun c46 => ?_) (fun c46 => ?_)
            · have h := h.2 c46
              refine q_blk (pc' := 136) (lo' := [some (.ref a0), some (.int (q_i b44))]) (st' := [.int (nI 0)]) [.iconst 0] (by decide +kernel) rfl ?_
              exact q_retZ (r := q_i false) rfl (q_nz _) (by decide) (by decide) (by decide +kernel) ⟨false, rfl, h⟩
            · have h := h.1 c46
              refine q_blk (pc' := 129) (lo' := [some (.ref a0), some (.int (q_i b44))]) (st' := [.ref a0]) [.aload_n 0] (by decide +kernel) rfl ?_
              obtain ⟨s50, h⟩ := h
              refine q_callV (ci := 11) (Mc := M_X11_ends) (z := 0) (b := a0) (As := []) (st := []) mo_X11_ends mi_X11_ends ml_X11_162_X11_ends rfl rfl (by decide) rfl (by decide) (by decide) rfl (Nat.le_of_ble_eq_true rfl) (by decide +kernel) s50 h (q_fB fun b49 A48 h => ?_)
              show q_Wp _ _ _ _ 0 0 132 [some (.ref a0), some (.int (q_i b44))] [.int (q_i b49)] A48
              refine q_ifB_ne 137 (off := 5) (by decide +kernel) (by decide) (fun c51 => ?_) (fun c51 => ?_)
              · have h := h.1 c51
                refine q_goto 47 (off := -90) (by decide +kernel) (by decide) ?_
                exact q_wk [some (.ref a0), none] (And.intro rfl trivial) h
              · have h := h.2 c51
                refine q_blk (pc' := 136) (lo' := [some (.ref a0), some (.int (q_i b44))]) (st' := [.int (nI 0)]) [.iconst 0] (by decide +kernel) rfl ?_
                exact q_retZ (r := q_i false) rfl (q_nz _) (by decide) (by decide) (by decide +kernel) ⟨false, rfl, h⟩
        · have h := h.1 c26
          refine q_blk (pc' := 96) (lo' := [some (.ref a0), none]) (st' := [.ref a0]) [.aload_n 0] (by decide +kernel) rfl ?_
          obtain ⟨s55, h⟩ := h
          refine q_callV (ci := 11) (Mc := M_X11_readsLoad) (z := 0) (b := a0) (As := []) (st := []) mo_X11_readsLoad mi_X11_readsLoad ml_X11_173_X11_readsLoad rfl rfl (by decide) rfl (by decide) (by decide) rfl (Nat.le_of_ble_eq_true rfl) (by decide +kernel) s55 h (q_fB fun b54 A53 h => ?_)
          show q_Wp _ _ _ _ 0 0 99 [some (.ref a0), none] [.int (q_i b54)] A53
          refine q_goto 123 (off := 24) (by decide +kernel) (by decide) ?_
          refine q_blk (pc' := 125) (lo' := [some (.ref a0), some (.int (q_i b54))]) (st' := [.int (q_i b54)]) [.istore_n 1, .iload_n 1] (by decide +kernel) rfl ?_
          refine q_ifB_eq 135 (off := 10) (by decide +kernel) (by decide) (fun c56 => ?_) (fun c56 => ?_)
          · have h := h.2 c56
            refine q_blk (pc' := 136) (lo' := [some (.ref a0), some (.int (q_i b54))]) (st' := [.int (nI 0)]) [.iconst 0] (by decide +kernel) rfl ?_
            exact q_retZ (r := q_i false) rfl (q_nz _) (by decide) (by decide) (by decide +kernel) ⟨false, rfl, h⟩
          · have h := h.1 c56
            refine q_blk (pc' := 129) (lo' := [some (.ref a0), some (.int (q_i b54))]) (st' := [.ref a0]) [.aload_n 0] (by decide +kernel) rfl ?_
            obtain ⟨s60, h⟩ := h
            refine q_callV (ci := 11) (Mc := M_X11_ends) (z := 0) (b := a0) (As := []) (st := []) mo_X11_ends mi_X11_ends ml_X11_162_X11_ends rfl rfl (by decide) rfl (by decide) (by decide) rfl (Nat.le_of_ble_eq_true rfl) (by decide +kernel) s60 h (q_fB fun b59 A58 h => ?_)
            show q_Wp _ _ _ _ 0 0 132 [some (.ref a0), some (.int (q_i b54))] [.int (q_i b59)] A58
            refine q_ifB_ne 137 (off := 5) (by decide +kernel) (by decide) (fun c61 => ?_) (fun c61 => ?_)
            · have h := h.1 c61
              refine q_goto 47 (off := -90) (by decide +kernel) (by decide) ?_
              exact q_wk [some (.ref a0), none] (And.intro rfl trivial) h
            · have h := h.2 c61
              refine q_blk (pc' := 136) (lo' := [some (.ref a0), some (.int (q_i b54))]) (st' := [.int (nI 0)]) [.iconst 0] (by decide +kernel) rfl ?_
              exact q_retZ (r := q_i false) rfl (q_nz _) (by decide) (by decide) (by decide +kernel) ⟨false, rfl, h⟩
      · have h := h.1 c21
        refine q_blk (pc' := 80) (lo' := [some (.ref a0), none]) (st' := [.ref a0]) [.aload_n 0] (by decide +kernel) rfl ?_
        obtain ⟨s65, h⟩ := h
        refine q_callV (ci := 11) (Mc := M_X11_readsSetting) (z := 0) (b := a0) (As := []) (st := []) mo_X11_readsSetting mi_X11_readsSetting ml_X11_170_X11_readsSetting rfl rfl (by decide) rfl (by decide) (by decide) rfl (Nat.le_of_ble_eq_true rfl) (by decide +kernel) s65 h (q_fB fun b64 A63 h => ?_)
        show q_Wp _ _ _ _ 0 0 83 [some (.ref a0), none] [.int (q_i b64)] A63
        refine q_goto 123 (off := 40) (by decide +kernel) (by decide) ?_
        refine q_blk (pc' := 125) (lo' := [some (.ref a0), some (.int (q_i b64))]) (st' := [.int (q_i b64)]) [.istore_n 1, .iload_n 1] (by decide +kernel) rfl ?_
        refine q_ifB_eq 135 (off := 10) (by decide +kernel) (by decide) (fun c66 => ?_) (fun c66 => ?_)
        · have h := h.2 c66
          refine q_blk (pc' := 136) (lo' := [some (.ref a0), some (.int (q_i b64))]) (st' := [.int (nI 0)]) [.iconst 0] (by decide +kernel) rfl ?_
          exact q_retZ (r := q_i false) rfl (q_nz _) (by decide) (by decide) (by decide +kernel) ⟨false, rfl, h⟩
        · have h := h.1 c66
          refine q_blk (pc' := 129) (lo' := [some (.ref a0), some (.int (q_i b64))]) (st' := [.ref a0]) [.aload_n 0] (by decide +kernel) rfl ?_
          obtain ⟨s70, h⟩ := h
          refine q_callV (ci := 11) (Mc := M_X11_ends) (z := 0) (b := a0) (As := []) (st := []) mo_X11_ends mi_X11_ends ml_X11_162_X11_ends rfl rfl (by decide) rfl (by decide) (by decide) rfl (Nat.le_of_ble_eq_true rfl) (by decide +kernel) s70 h (q_fB fun b69 A68 h => ?_)
          show q_Wp _ _ _ _ 0 0 132 [some (.ref a0), some (.int (q_i b64))] [.int (q_i b69)] A68
          refine q_ifB_ne 137 (off := 5) (by decide +kernel) (by decide) (fun c71 => ?_) (fun c71 => ?_)
          · have h := h.1 c71
            refine q_goto 47 (off := -90) (by decide +kernel) (by decide) ?_
            exact q_wk [some (.ref a0), none] (And.intro rfl trivial) h
          · have h := h.2 c71
            refine q_blk (pc' := 136) (lo' := [some (.ref a0), some (.int (q_i b64))]) (st' := [.int (nI 0)]) [.iconst 0] (by decide +kernel) rfl ?_
            exact q_retZ (r := q_i false) rfl (q_nz _) (by decide) (by decide) (by decide +kernel) ⟨false, rfl, h⟩
    · have h := h.1 c16
      refine q_blk (pc' := 64) (lo' := [some (.ref a0), none]) (st' := [.ref a0]) [.aload_n 0] (by decide +kernel) rfl ?_
      obtain ⟨s75, h⟩ := h
      refine q_callV (ci := 11) (Mc := M_X11_readsStation) (z := 0) (b := a0) (As := []) (st := []) mo_X11_readsStation mi_X11_readsStation ml_X11_167_X11_readsStation rfl rfl (by decide) rfl (by decide) (by decide) rfl (Nat.le_of_ble_eq_true rfl) (by decide +kernel) s75 h (q_fB fun b74 A73 h => ?_)
      show q_Wp _ _ _ _ 0 0 67 [some (.ref a0), none] [.int (q_i b74)] A73
      refine q_goto 123 (off := 56) (by decide +kernel) (by decide) ?_
      refine q_blk (pc' := 125) (lo' := [some (.ref a0), some (.int (q_i b74))]) (st' := [.int (q_i b74)]) [.istore_n 1, .iload_n 1] (by decide +kernel) rfl ?_
      refine q_ifB_eq 135 (off := 10) (by decide +kernel) (by decide) (fun c76 => ?_) (fun c76 => ?_)
      · have h := h.2 c76
        refine q_blk (pc' := 136) (lo' := [some (.ref a0), some (.int (q_i b74))]) (st' := [.int (nI 0)]) [.iconst 0] (by decide +kernel) rfl ?_
        exact q_retZ (r := q_i false) rfl (q_nz _) (by decide) (by decide) (by decide +kernel) ⟨false, rfl, h⟩
      · have h := h.1 c76
        refine q_blk (pc' := 129) (lo' := [some (.ref a0), some (.int (q_i b74))]) (st' := [.ref a0]) [.aload_n 0] (by decide +kernel) rfl ?_
        obtain ⟨s80, h⟩ := h
        refine q_callV (ci := 11) (Mc := M_X11_ends) (z := 0) (b := a0) (As := []) (st := []) mo_X11_ends mi_X11_ends ml_X11_162_X11_ends rfl rfl (by decide) rfl (by decide) (by decide) rfl (Nat.le_of_ble_eq_true rfl) (by decide +kernel) s80 h (q_fB fun b79 A78 h => ?_)
        show q_Wp _ _ _ _ 0 0 132 [some (.ref a0), some (.int (q_i b74))] [.int (q_i b79)] A78
        refine q_ifB_ne 137 (off := 5) (by decide +kernel) (by decide) (fun c81 => ?_) (fun c81 => ?_)
        · have h := h.1 c81
          refine q_goto 47 (off := -90) (by decide +kernel) (by decide) ?_
          exact q_wk [some (.ref a0), none] (And.intro rfl trivial) h
        · have h := h.2 c81
          refine q_blk (pc' := 136) (lo' := [some (.ref a0), some (.int (q_i b74))]) (st' := [.int (nI 0)]) [.iconst 0] (by decide +kernel) rfl ?_
          exact q_retZ (r := q_i false) rfl (q_nz _) (by decide) (by decide) (by decide +kernel) ⟨false, rfl, h⟩
theorem f_X11_read {G : q_G} {X : String → q_H → Prop} {f : Int32 → q_H → Prop} {A : q_H} {a0 : Nat} (h : q_sh A a0 = (12, 0) ∧ q_Wc G M_X11_lays [.ref a0] (q_setI (q_setI (q_setI (q_setI A a0 0 (nI 0)) a0 13 (q_I (q_setI A a0 0 (nI 0)) a0 12)) a0 12 (nI 0)) a0 14 (nI 0)) (q_KV fun A2 => q_sh A2 a0 = (12, 0) ∧ q_Wc G M_X11_readsAll [.ref a0] A2 (q_KB fun b5 A4 => ((b5 = true → q_sh A4 a0 = (12, 0) ∧ q_Wc G M_X11_becomes [.ref a0] A4 (q_KV fun A9 => q_sh A9 a0 = (12, 0) ∧ q_Wc G M_X11_stations [.ref a0] A9 (q_KI fun r13 A12 => f r13 A12) q_nX) q_nX) ∧ (b5 = false → q_sh A4 a0 = (12, 0) ∧ f (-(((nI 8) * (q_I A4 a0 19)) + (q_I A4 a0 18))) A4))) q_nX) q_nX) : q_Wc G M_X11_read [.ref a0] A (q_KI f) X := by
  refine q_Wc.of [some (.ref a0)] mo_X11_read.2.2.2.2.2 rfl (Nat.le_of_ble_eq_true rfl) rfl ?_
  refine q_blk (pc' := 2) (lo' := [some (.ref a0)]) (st' := [.int (nI 0), .ref a0]) [.aload_n 0, .iconst 0] (by decide +kernel) rfl ?_
  obtain ⟨s1, h⟩ := h
  refine q_putI fw_X11_1 rfl (by decide) (by decide +kernel) s1 ?_
  refine q_blk (pc' := 7) (lo' := [some (.ref a0)]) (st' := [.ref a0, .ref a0]) [.aload_n 0, .aload_n 0] (by decide +kernel) rfl ?_
  refine q_getI fl_X11_64 rfl (by decide) (by decide +kernel) s1 ?_
  refine q_putI fw_X11_75 rfl (by decide) (by decide +kernel) s1 ?_
  refine q_blk (pc' := 15) (lo' := [some (.ref a0)]) (st' := [.int (nI 0), .ref a0]) [.aload_n 0, .iconst 0] (by decide +kernel) rfl ?_
  refine q_putI fw_X11_64 rfl (by decide) (by decide +kernel) s1 ?_
  refine q_blk (pc' := 20) (lo' := [some (.ref a0)]) (st' := [.int (nI 0), .ref a0]) [.aload_n 0, .iconst 0] (by decide +kernel) rfl ?_
  refine q_putI fw_X11_78 rfl (by decide) (by decide +kernel) s1 ?_
  refine q_blk (pc' := 24) (lo' := [some (.ref a0)]) (st' := [.ref a0]) [.aload_n 0] (by decide +kernel) rfl ?_
  refine q_callV (ci := 11) (Mc := M_X11_lays) (z := 0) (b := a0) (As := []) (st := []) mo_X11_lays mi_X11_lays ml_X11_51_X11_lays rfl rfl (by decide) rfl (by decide) (by decide) rfl (Nat.le_of_ble_eq_true rfl) (by decide +kernel) s1 h (q_fV fun A2 h => ?_)
  show q_Wp _ _ _ _ 0 0 27 [some (.ref a0)] [] A2
  refine q_blk (pc' := 28) (lo' := [some (.ref a0)]) (st' := [.ref a0]) [.aload_n 0] (by decide +kernel) rfl ?_
  obtain ⟨s6, h⟩ := h
  refine q_callV (ci := 11) (Mc := M_X11_readsAll) (z := 0) (b := a0) (As := []) (st := []) mo_X11_readsAll mi_X11_readsAll ml_X11_179_X11_readsAll rfl rfl (by decide) rfl (by decide) (by decide) rfl (Nat.le_of_ble_eq_true rfl) (by decide +kernel) s6 h (q_fB fun b5 A4 h => ?_)
  show q_Wp _ _ _ _ 0 0 31 [some (.ref a0)] [.int (q_i b5)] A4
  refine q_ifB_ne 48 (off := 17) (by decide +kernel) (by decide) (fun c7 => ?_) (fun c7 => ?_)
  · have h := h.1 c7
    refine q_blk (pc' := 49) (lo' := [some (.ref a0)]) (st' := [.ref a0]) [.aload_n 0] (by decide +kernel) rfl ?_
    obtain ⟨s11, h⟩ := h
    refine q_callV (ci := 11) (Mc := M_X11_becomes) (z := 0) (b := a0) (As := []) (st := []) mo_X11_becomes mi_X11_becomes ml_X11_54_X11_becomes rfl rfl (by decide) rfl (by decide) (by decide) rfl (Nat.le_of_ble_eq_true rfl) (by decide +kernel) s11 h (q_fV fun A9 h => ?_)
    show q_Wp _ _ _ _ 0 0 52 [some (.ref a0)] [] A9
    refine q_blk (pc' := 53) (lo' := [some (.ref a0)]) (st' := [.ref a0]) [.aload_n 0] (by decide +kernel) rfl ?_
    obtain ⟨s14, h⟩ := h
    refine q_callV (ci := 11) (Mc := M_X11_stations) (z := 0) (b := a0) (As := []) (st := []) mo_X11_stations mi_X11_stations ml_X11_182_X11_stations rfl rfl (by decide) rfl (by decide) (by decide) rfl (Nat.le_of_ble_eq_true rfl) (by decide +kernel) s14 h (q_fI fun r13 A12 h => ?_)
    show q_Wp _ _ _ _ 0 0 56 [some (.ref a0)] [.int r13] A12
    exact q_retI rfl (by decide) (by decide) (by decide +kernel) ⟨_, rfl, h⟩
  · have h := h.2 c7
    refine q_blk (pc' := 37) (lo' := [some (.ref a0)]) (st' := [.ref a0, .int (nI 8)]) [.bipush 8, .aload_n 0] (by decide +kernel) rfl ?_
    obtain ⟨s15, h⟩ := h
    refine q_getI fl_X11_124 rfl (by decide) (by decide +kernel) s15 ?_
    refine q_blk (pc' := 42) (lo' := [some (.ref a0)]) (st' := [.ref a0, .int ((nI 8) * (q_I A4 a0 19))]) [.imul, .aload_n 0] (by decide +kernel) rfl ?_
    refine q_getI fl_X11_121 rfl (by decide) (by decide +kernel) s15 ?_
    refine q_blk (pc' := 47) (lo' := [some (.ref a0)]) (st' := [.int (-(((nI 8) * (q_I A4 a0 19)) + (q_I A4 a0 18)))]) [.iadd, .ineg] (by decide +kernel) rfl ?_
    exact q_retI rfl (by decide) (by decide) (by decide +kernel) ⟨_, rfl, h⟩
theorem f_X11_find {G : q_G} {X : String → q_H → Prop} {f : Int32 → q_H → Prop} {A : q_H} {a0 : Nat} (h : q_sh A a0 = (12, 0) ∧ q_Wc G M_X11_isIn [.long ((q_I (q_setI A a0 0 (nI 0)) a0 12).toInt64), .long (lN 1), .long (lN 6)] (q_setI (q_setI A a0 0 (nI 0)) a0 12 (nI 0)) (q_KB fun b3 A2 => q_Wp G M_X11_find (q_KI f) X 0 0 27 [some (.ref a0), some (.int (q_I (q_setI A a0 0 (nI 0)) a0 12)), some (.int (q_i b3)), some (.int (nI 0))] [] A2) q_nX) : q_Wc G M_X11_find [.ref a0] A (q_KI f) X := by
  refine q_Wc.of [some (.ref a0), none, none, none] mo_X11_find.2.2.2.2.2 rfl (Nat.le_of_ble_eq_true rfl) rfl ?_
  refine q_blk (pc' := 2) (lo' := [some (.ref a0), none, none, none]) (st' := [.int (nI 0), .ref a0]) [.aload_n 0, .iconst 0] (by decide +kernel) rfl ?_
  obtain ⟨s1, h⟩ := h
  refine q_putI fw_X11_1 rfl (by decide) (by decide +kernel) s1 ?_
  refine q_blk (pc' := 6) (lo' := [some (.ref a0), none, none, none]) (st' := [.ref a0]) [.aload_n 0] (by decide +kernel) rfl ?_
  refine q_getI fl_X11_64 rfl (by decide) (by decide +kernel) s1 ?_
  refine q_blk (pc' := 12) (lo' := [some (.ref a0), some (.int (q_I (q_setI A a0 0 (nI 0)) a0 12)), none, none]) (st' := [.int (nI 0), .ref a0]) [.istore_n 1, .aload_n 0, .iconst 0] (by decide +kernel) rfl ?_
  refine q_putI fw_X11_64 rfl (by decide) (by decide +kernel) s1 ?_
  refine q_blk (pc' := 18) (lo' := [some (.ref a0), some (.int (q_I (q_setI A a0 0 (nI 0)) a0 12)), none, none]) (st' := [.long (lN 1), .long ((q_I (q_setI A a0 0 (nI 0)) a0 12).toInt64)]) [.iload_n 1, .i2l, .lconst 1] (by decide +kernel) rfl ?_
  refine q_ldc2 (v := 6) c2_X11_185 (by decide +kernel) ?_
  refine q_callS (Mc := M_X11_isIn) (z := 3) (As := [.long ((q_I (q_setI A a0 0 (nI 0)) a0 12).toInt64), .long (lN 1), .long (lN 6)]) (st := []) mo_X11_isIn ms_X11_isIn ml_X11_71_X11_isIn rfl rfl (by decide) (by decide) rfl (Nat.le_of_ble_eq_true rfl) (by decide +kernel) h (q_fB fun b3 A2 h => ?_)
  show q_Wp _ _ _ _ 0 0 24 [some (.ref a0), some (.int (q_I (q_setI A a0 0 (nI 0)) a0 12)), none, none] [.int (q_i b3)] A2
  refine q_blk (pc' := 27) (lo' := [some (.ref a0), some (.int (q_I (q_setI A a0 0 (nI 0)) a0 12)), some (.int (q_i b3)), some (.int (nI 0))]) (st' := []) [.istore_n 2, .iconst 0, .istore_n 3] (by decide +kernel) rfl ?_
  exact h
theorem f_X11_find_27 {G : q_G} {X : String → q_H → Prop} {f : Int32 → q_H → Prop} {A : q_H} {a0 : Nat} {x1 : Int32} {y2 : Bool} {x3 : Int32} (h : ((x1 ≤ x3 → ((y2 = true → q_sh A a0 = (12, 0) ∧ q_Wc G M_X11_letters [.ref a0, .int (nI 0), .int x1] A (q_KL fun r5 A4 => q_sh A4 a0 = (12, 0) ∧ ∃ r8 : Nat, q_R A4 a0 4 = some r8 ∧ ∃ r10 : Nat, q_R A4 a0 2 = some r10 ∧ ∃ z13 : Nat, q_sh A4 r10 = (50, z13) ∧ z13 < 2147483648 ∧ 2 < z13 ∧ q_Wc G M_X11_buyerWith [.long r5, .ref r8, .int (q_I A4 r10 2)] A4 (q_KI fun r17 A16 => f r17 A16) q_nX) q_nX) ∧ (y2 = false → f (-1) A))) ∧ (¬ x1 ≤ x3 → ((y2 = true → q_sh A a0 = (12, 0) ∧ ∃ r21 : Nat, q_R A a0 11 = some r21 ∧ ∃ z24 : Nat, q_sh A r21 = (50, z24) ∧ z24 < 2147483648 ∧ ∃ j26 : Nat, x3 = nI j26 ∧ j26 < z24 ∧ q_Wc G M_X11_isSmall [.int (q_I A r21 j26)] A (q_KB fun b30 A29 => ((b30 = true → q_Wp G M_X11_find (q_KI f) X 0 0 27 [some (.ref a0), some (.int x1), some (.int (q_i true)), some (.int (x3 + (nI 1)))] [] A29) ∧ (b30 = false → q_Wp G M_X11_find (q_KI f) X 0 0 27 [some (.ref a0), some (.int x1), some (.int (q_i false)), some (.int (x3 + (nI 1)))] [] A29))) q_nX) ∧ (y2 = false → q_Wp G M_X11_find (q_KI f) X 0 0 27 [some (.ref a0), some (.int x1), some (.int (q_i false)), some (.int (x3 + (nI 1)))] [] A))))) : q_Wp G M_X11_find (q_KI f) X 0 0 27 [some (.ref a0), some (.int x1), some (.int (q_i y2)), some (.int x3)] [] A := by
  refine q_blk (pc' := 29) (lo' := [some (.ref a0), some (.int x1), some (.int (q_i y2)), some (.int x3)]) (st' := [.int x1, .int x3]) [.iload_n 3, .iload_n 1] (by decide +kernel) rfl ?_
  refine q_icmp_ge 60 (off := 31) (by decide +kernel) (by decide) (fun c1 => ?_) (fun c1 => ?_)
  · have h := h.1 c1
    refine q_blk (pc' := 61) (lo' := [some (.ref a0), some (.int x1), some (.int (q_i y2)), some (.int x3)]) (st' := [.int (q_i y2)]) [.iload_n 2] (by decide +kernel) rfl ?_
    refine q_ifB_eq 86 (off := 25) (by decide +kernel) (by decide) (fun c2 => ?_) (fun c2 => ?_)
    · have h := h.2 c2
      refine q_blk (pc' := 87) (lo' := [some (.ref a0), some (.int x1), some (.int (q_i y2)), some (.int x3)]) (st' := [.int (-1)]) [.iconst (-1)] (by decide +kernel) rfl ?_
      exact q_retI rfl (by decide) (by decide) (by decide +kernel) ⟨_, rfl, h⟩
    · have h := h.1 c2
      refine q_blk (pc' := 67) (lo' := [some (.ref a0), some (.int x1), some (.int (q_i y2)), some (.int x3)]) (st' := [.int x1, .int (nI 0), .ref a0]) [.aload_n 0, .iconst 0, .iload_n 1] (by decide +kernel) rfl ?_
      obtain ⟨s6, h⟩ := h
      refine q_callV (ci := 11) (Mc := M_X11_letters) (z := 2) (b := a0) (As := [.int (nI 0), .int x1]) (st := []) mo_X11_letters mi_X11_letters ml_X11_152_X11_letters rfl rfl (by decide) rfl (by decide) (by decide) rfl (Nat.le_of_ble_eq_true rfl) (by decide +kernel) s6 h (q_fL fun r5 A4 h => ?_)
      show q_Wp _ _ _ _ 0 0 70 [some (.ref a0), some (.int x1), some (.int (q_i y2)), some (.int x3)] [.long r5] A4
      refine q_blk (pc' := 71) (lo' := [some (.ref a0), some (.int x1), some (.int (q_i y2)), some (.int x3)]) (st' := [.ref a0, .long r5]) [.aload_n 0] (by decide +kernel) rfl ?_
      obtain ⟨s7, h⟩ := h
      obtain ⟨r8, e9, h⟩ := h
      refine q_getR fl_X11_23 rfl (by decide) (by decide +kernel) s7 e9 ?_
      refine q_blk (pc' := 75) (lo' := [some (.ref a0), some (.int x1), some (.int (q_i y2)), some (.int x3)]) (st' := [.ref a0, .ref r8, .long r5]) [.aload_n 0] (by decide +kernel) rfl ?_
      obtain ⟨r10, e11, h⟩ := h
      refine q_getR fl_X11_17 rfl (by decide) (by decide +kernel) s7 e11 ?_
      refine q_blk (pc' := 79) (lo' := [some (.ref a0), some (.int x1), some (.int (q_i y2)), some (.int x3)]) (st' := [.int (nI 2), .ref r10, .ref r8, .long r5]) [.iconst 2] (by decide +kernel) rfl ?_
      obtain ⟨z13, s12, b14, h⟩ := h
      obtain ⟨l15, h⟩ := h
      refine q_iald rfl (by decide +kernel) s12 l15 b14 ?_
      refine q_callS (Mc := M_X11_buyerWith) (z := 3) (As := [.long r5, .ref r8, .int (q_I A4 r10 2)]) (st := []) mo_X11_buyerWith ms_X11_buyerWith ml_X11_156_X11_buyerWith rfl rfl (by decide) (by decide) rfl (Nat.le_of_ble_eq_true rfl) (by decide +kernel) h (q_fI fun r17 A16 h => ?_)
      show q_Wp _ _ _ _ 0 0 83 [some (.ref a0), some (.int x1), some (.int (q_i y2)), some (.int x3)] [.int r17] A16
      refine q_goto 87 (off := 4) (by decide +kernel) (by decide) ?_
      exact q_retI rfl (by decide) (by decide) (by decide +kernel) ⟨_, rfl, h⟩
  · have h := h.2 c1
    refine q_blk (pc' := 33) (lo' := [some (.ref a0), some (.int x1), some (.int (q_i y2)), some (.int x3)]) (st' := [.int (q_i y2)]) [.iload_n 2] (by decide +kernel) rfl ?_
    refine q_ifB_eq 52 (off := 19) (by decide +kernel) (by decide) (fun c18 => ?_) (fun c18 => ?_)
    · have h := h.2 c18
      refine q_blk (pc' := 57) (lo' := [some (.ref a0), some (.int x1), some (.int (nI 0)), some (.int (x3 + (nI 1)))]) (st' := []) [.iconst 0, .istore_n 2, .iinc 3 1] (by decide +kernel) rfl ?_
      refine q_goto 27 (off := -30) (by decide +kernel) (by decide) ?_
      exact q_wk [some (.ref a0), some (.int x1), some (.int (q_i false)), some (.int (x3 + (nI 1)))] (And.intro rfl (And.intro rfl (And.intro rfl (And.intro rfl trivial)))) h
    · have h := h.1 c18
      refine q_blk (pc' := 37) (lo' := [some (.ref a0), some (.int x1), some (.int (q_i y2)), some (.int x3)]) (st' := [.ref a0]) [.aload_n 0] (by decide +kernel) rfl ?_
      obtain ⟨s20, h⟩ := h
      obtain ⟨r21, e22, h⟩ := h
      refine q_getR fl_X11_42 rfl (by decide) (by decide +kernel) s20 e22 ?_
      refine q_blk (pc' := 41) (lo' := [some (.ref a0), some (.int x1), some (.int (q_i y2)), some (.int x3)]) (st' := [.int x3, .ref r21]) [.iload_n 3] (by decide +kernel) rfl ?_
      obtain ⟨z24, s23, b25, h⟩ := h
      obtain ⟨j26, e27, h⟩ := h
      obtain ⟨l28, h⟩ := h
      refine q_iald e27 (by decide +kernel) s23 l28 b25 ?_
      refine q_callS (Mc := M_X11_isSmall) (z := 1) (As := [.int (q_I A r21 j26)]) (st := []) mo_X11_isSmall ms_X11_isSmall ml_X11_91_X11_isSmall rfl rfl (by decide) (by decide) rfl (Nat.le_of_ble_eq_true rfl) (by decide +kernel) h (q_fB fun b30 A29 h => ?_)
      show q_Wp _ _ _ _ 0 0 45 [some (.ref a0), some (.int x1), some (.int (q_i y2)), some (.int x3)] [.int (q_i b30)] A29
      refine q_ifB_eq 52 (off := 7) (by decide +kernel) (by decide) (fun c31 => ?_) (fun c31 => ?_)
      · have h := h.2 c31
        refine q_blk (pc' := 57) (lo' := [some (.ref a0), some (.int x1), some (.int (nI 0)), some (.int (x3 + (nI 1)))]) (st' := []) [.iconst 0, .istore_n 2, .iinc 3 1] (by decide +kernel) rfl ?_
        refine q_goto 27 (off := -30) (by decide +kernel) (by decide) ?_
        exact q_wk [some (.ref a0), some (.int x1), some (.int (q_i false)), some (.int (x3 + (nI 1)))] (And.intro rfl (And.intro rfl (And.intro rfl (And.intro rfl trivial)))) h
      · have h := h.1 c31
        refine q_blk (pc' := 49) (lo' := [some (.ref a0), some (.int x1), some (.int (q_i y2)), some (.int x3)]) (st' := [.int (nI 1)]) [.iconst 1] (by decide +kernel) rfl ?_
        refine q_goto 53 (off := 4) (by decide +kernel) (by decide) ?_
        refine q_blk (pc' := 57) (lo' := [some (.ref a0), some (.int x1), some (.int (nI 1)), some (.int (x3 + (nI 1)))]) (st' := []) [.istore_n 2, .iinc 3 1] (by decide +kernel) rfl ?_
        refine q_goto 27 (off := -30) (by decide +kernel) (by decide) ?_
        exact q_wk [some (.ref a0), some (.int x1), some (.int (q_i true)), some (.int (x3 + (nI 1)))] (And.intro rfl (And.intro rfl (And.intro rfl (And.intro rfl trivial)))) h
theorem f_X11_mostOf {G : q_G} {X : String → q_H → Prop} {f : Int32 → q_H → Prop} {A : q_H} {a0 : Nat} {x1 : Int32} {x2 : Int32} (h : q_Wp G M_X11_mostOf (q_KI f) X 0 0 5 [some (.ref a0), some (.int x1), some (.int x2), some (.int (-1)), some (.int (nI 0))] [] A) : q_Wc G M_X11_mostOf [.ref a0, .int x1, .int x2] A (q_KI f) X := by
  refine q_Wc.of [some (.ref a0), some (.int x1), some (.int x2), none, none] mo_X11_mostOf.2.2.2.2.2 rfl (Nat.le_of_ble_eq_true rfl) rfl ?_
  refine q_blk (pc' := 5) (lo' := [some (.ref a0), some (.int x1), some (.int x2), some (.int (-1)), some (.int (nI 0))]) (st' := []) [.iconst (-1), .istore_n 3, .iconst 0, .istore 4] (by decide +kernel) rfl ?_
  exact h
theorem f_X11_mostOf_5 {G : q_G} {X : String → q_H → Prop} {f : Int32 → q_H → Prop} {A : q_H} {a0 : Nat} {x1 : Int32} {x2 : Int32} {x3 : Int32} {x4 : Int32} (h : q_sh A a0 = (12, 0) ∧ q_Wc G M_X11_materials [.ref a0] A (q_KI fun r2 A1 => ((r2 ≤ x4 → f x3 A1) ∧ (¬ r2 ≤ x4 → ((x4 = x2 → q_Wp G M_X11_mostOf (q_KI f) X 0 0 5 [some (.ref a0), some (.int x1), some (.int x2), some (.int x3), some (.int (x4 + (nI 1)))] [] A1) ∧ (¬ x4 = x2 → ((x3 = (-1) → q_Wp G M_X11_mostOf (q_KI f) X 0 0 5 [some (.ref a0), some (.int x1), some (.int x2), some (.int x4), some (.int (x4 + (nI 1)))] [] A1) ∧ (¬ x3 = (-1) → q_sh A1 a0 = (12, 0) ∧ ∃ r8 : Nat, q_R A1 a0 6 = some r8 ∧ ∃ z11 : Nat, q_sh A1 r8 = (50, z11) ∧ z11 < 2147483648 ∧ ∃ j13 : Nat, (x1 + x4) = nI j13 ∧ j13 < z11 ∧ ∃ j16 : Nat, (x1 + x3) = nI j16 ∧ j16 < z11 ∧ (((q_I A1 r8 j13) ≤ (q_I A1 r8 j16) → q_Wp G M_X11_mostOf (q_KI f) X 0 0 5 [some (.ref a0), some (.int x1), some (.int x2), some (.int x3), some (.int (x4 + (nI 1)))] [] A1) ∧ (¬ (q_I A1 r8 j13) ≤ (q_I A1 r8 j16) → q_Wp G M_X11_mostOf (q_KI f) X 0 0 5 [some (.ref a0), some (.int x1), some (.int x2), some (.int x4), some (.int (x4 + (nI 1)))] [] A1))))))))) q_nX) : q_Wp G M_X11_mostOf (q_KI f) X 0 0 5 [some (.ref a0), some (.int x1), some (.int x2), some (.int x3), some (.int x4)] [] A := by
  refine q_blk (pc' := 8) (lo' := [some (.ref a0), some (.int x1), some (.int x2), some (.int x3), some (.int x4)]) (st' := [.ref a0, .int x4]) [.iload 4, .aload_n 0] (by decide +kernel) rfl ?_
  obtain ⟨s3, h⟩ := h
  refine q_callV (ci := 11) (Mc := M_X11_materials) (z := 0) (b := a0) (As := []) (st := [.int x4]) mo_X11_materials mi_X11_materials ml_X11_187_X11_materials rfl rfl (by decide) rfl (by decide) (by decide) rfl (Nat.le_of_ble_eq_true rfl) (by decide +kernel) s3 h (q_fI fun r2 A1 h => ?_)
  show q_Wp _ _ _ _ 0 0 11 [some (.ref a0), some (.int x1), some (.int x2), some (.int x3), some (.int x4)] [.int r2, .int x4] A1
  refine q_icmp_ge 54 (off := 43) (by decide +kernel) (by decide) (fun c4 => ?_) (fun c4 => ?_)
  · have h := h.1 c4
    refine q_blk (pc' := 55) (lo' := [some (.ref a0), some (.int x1), some (.int x2), some (.int x3), some (.int x4)]) (st' := [.int x3]) [.iload_n 3] (by decide +kernel) rfl ?_
    exact q_retI rfl (by decide) (by decide) (by decide +kernel) ⟨_, rfl, h⟩
  · have h := h.2 c4
    refine q_blk (pc' := 17) (lo' := [some (.ref a0), some (.int x1), some (.int x2), some (.int x3), some (.int x4)]) (st' := [.int x2, .int x4]) [.iload 4, .iload_n 2] (by decide +kernel) rfl ?_
    refine q_icmp_eq 48 (off := 31) (by decide +kernel) (by decide) (fun c5 => ?_) (fun c5 => ?_)
    · have h := h.1 c5
      refine q_blk (pc' := 51) (lo' := [some (.ref a0), some (.int x1), some (.int x2), some (.int x3), some (.int (x4 + (nI 1)))]) (st' := []) [.iinc 4 1] (by decide +kernel) rfl ?_
      refine q_goto 5 (off := -46) (by decide +kernel) (by decide) ?_
      exact h
    · have h := h.2 c5
      refine q_blk (pc' := 22) (lo' := [some (.ref a0), some (.int x1), some (.int x2), some (.int x3), some (.int x4)]) (st' := [.int (-1), .int x3]) [.iload_n 3, .iconst (-1)] (by decide +kernel) rfl ?_
      refine q_icmp_eq 45 (off := 23) (by decide +kernel) (by decide) (fun c6 => ?_) (fun c6 => ?_)
      · have h := h.1 c6
        refine q_blk (pc' := 51) (lo' := [some (.ref a0), some (.int x1), some (.int x2), some (.int x4), some (.int (x4 + (nI 1)))]) (st' := []) [.iload 4, .istore_n 3, .iinc 4 1] (by decide +kernel) rfl ?_
        refine q_goto 5 (off := -46) (by decide +kernel) (by decide) ?_
        exact h
      · have h := h.2 c6
        refine q_blk (pc' := 26) (lo' := [some (.ref a0), some (.int x1), some (.int x2), some (.int x3), some (.int x4)]) (st' := [.ref a0]) [.aload_n 0] (by decide +kernel) rfl ?_
        obtain ⟨s7, h⟩ := h
        obtain ⟨r8, e9, h⟩ := h
        refine q_getR fl_X11_30 rfl (by decide) (by decide +kernel) s7 e9 ?_
        refine q_blk (pc' := 33) (lo' := [some (.ref a0), some (.int x1), some (.int x2), some (.int x3), some (.int x4)]) (st' := [.int (x1 + x4), .ref r8]) [.iload_n 1, .iload 4, .iadd] (by decide +kernel) rfl ?_
        obtain ⟨z11, s10, b12, h⟩ := h
        obtain ⟨j13, e14, h⟩ := h
        obtain ⟨l15, h⟩ := h
        refine q_iald e14 (by decide +kernel) s10 l15 b12 ?_
        refine q_blk (pc' := 35) (lo' := [some (.ref a0), some (.int x1), some (.int x2), some (.int x3), some (.int x4)]) (st' := [.ref a0, .int (q_I A1 r8 j13)]) [.aload_n 0] (by decide +kernel) rfl ?_
        refine q_getR fl_X11_30 rfl (by decide) (by decide +kernel) s7 e9 ?_
        refine q_blk (pc' := 41) (lo' := [some (.ref a0), some (.int x1), some (.int x2), some (.int x3), some (.int x4)]) (st' := [.int (x1 + x3), .ref r8, .int (q_I A1 r8 j13)]) [.iload_n 1, .iload_n 3, .iadd] (by decide +kernel) rfl ?_
        obtain ⟨j16, e17, h⟩ := h
        obtain ⟨l18, h⟩ := h
        refine q_iald e17 (by decide +kernel) s10 l18 b12 ?_
        refine q_icmp_le 48 (off := 6) (by decide +kernel) (by decide) (fun c19 => ?_) (fun c19 => ?_)
        · have h := h.1 c19
          refine q_blk (pc' := 51) (lo' := [some (.ref a0), some (.int x1), some (.int x2), some (.int x3), some (.int (x4 + (nI 1)))]) (st' := []) [.iinc 4 1] (by decide +kernel) rfl ?_
          refine q_goto 5 (off := -46) (by decide +kernel) (by decide) ?_
          exact h
        · have h := h.2 c19
          refine q_blk (pc' := 51) (lo' := [some (.ref a0), some (.int x1), some (.int x2), some (.int x4), some (.int (x4 + (nI 1)))]) (st' := []) [.iload 4, .istore_n 3, .iinc 4 1] (by decide +kernel) rfl ?_
          refine q_goto 5 (off := -46) (by decide +kernel) (by decide) ?_
          exact h
theorem f_X11_takes {G : q_G} {X : String → q_H → Prop} {f : q_H → Prop} {A : q_H} {a0 : Nat} {x1 : Int32} {x2 : Int32} (h : q_sh A a0 = (12, 0) ∧ q_Wc G M_X11_total [.ref a0, .int x1] A (q_KI fun r2 A1 => q_Wp G M_X11_takes (q_KV f) X 0 0 19 [some (.ref a0), some (.int x1), some (.int x2), some (.long (r2.toInt64)), none, some (.int ((if (r2.toInt64) < (x2.toInt64) then (r2.toInt64) else (x2.toInt64)).toInt32)), some (.int (nI 0))] [] A1) q_nX) : q_Wc G M_X11_takes [.ref a0, .int x1, .int x2] A (q_KV f) X := by
  refine q_Wc.of [some (.ref a0), some (.int x1), some (.int x2), none, none, none, none] mo_X11_takes.2.2.2.2.2 rfl (Nat.le_of_ble_eq_true rfl) rfl ?_
  refine q_blk (pc' := 2) (lo' := [some (.ref a0), some (.int x1), some (.int x2), none, none, none, none]) (st' := [.int x1, .ref a0]) [.aload_n 0, .iload_n 1] (by decide +kernel) rfl ?_
  obtain ⟨s3, h⟩ := h
  refine q_callV (ci := 11) (Mc := M_X11_total) (z := 1) (b := a0) (As := [.int x1]) (st := []) mo_X11_total mi_X11_total ml_X11_189_X11_total rfl rfl (by decide) rfl (by decide) (by decide) rfl (Nat.le_of_ble_eq_true rfl) (by decide +kernel) s3 h (q_fI fun r2 A1 h => ?_)
  show q_Wp _ _ _ _ 0 0 5 [some (.ref a0), some (.int x1), some (.int x2), none, none, none, none] [.int r2] A1
  refine q_blk (pc' := 10) (lo' := [some (.ref a0), some (.int x1), some (.int x2), some (.long (r2.toInt64)), none, none, none]) (st' := [.long (r2.toInt64), .long (x2.toInt64)]) [.i2l, .lstore_n 3, .iload_n 2, .i2l, .lload_n 3] (by decide +kernel) rfl ?_
  refine q_lmin mm_X11_192_l.1 mm_X11_192_l.2.1 mm_X11_192_l.2.2.1 mm_X11_192_l.2.2.2 (by decide) (Nat.le_of_ble_eq_true rfl) (by decide) (by decide) (by decide +kernel) ?_
  refine q_blk (pc' := 19) (lo' := [some (.ref a0), some (.int x1), some (.int x2), some (.long (r2.toInt64)), none, some (.int ((if (r2.toInt64) < (x2.toInt64) then (r2.toInt64) else (x2.toInt64)).toInt32)), some (.int (nI 0))]) (st' := []) [.l2i, .istore 5, .iconst 0, .istore 6] (by decide +kernel) rfl ?_
  exact h
theorem f_X11_takes_19 {G : q_G} {X : String → q_H → Prop} {f : q_H → Prop} {A : q_H} {a0 : Nat} {x1 : Int32} {x2 : Int32} {w3 : Int64} {x5 : Int32} {x6 : Int32} (h : (((nI 6) ≤ x6 → q_Wp G M_X11_takes (q_KV f) X 0 0 89 [some (.ref a0), some (.int x1), none, none, none, some (.int x5), some (.int (nI 0))] [] A) ∧ (¬ (nI 6) ≤ x6 → q_sh A a0 = (12, 0) ∧ ∃ r3 : Nat, q_R A a0 21 = some r3 ∧ (((x2.toInt64) < w3 → ∃ r6 : Nat, q_R A a0 6 = some r6 ∧ ∃ z9 : Nat, q_sh A r6 = (50, z9) ∧ z9 < 2147483648 ∧ ∃ j11 : Nat, (x1 + x6) = nI j11 ∧ j11 < z9 ∧ (¬ w3 = lN 0) ∧ ∃ z16 : Nat, q_sh A r3 = (50, z16) ∧ z16 < 2147483648 ∧ ∃ j18 : Nat, x6 = nI j18 ∧ j18 < z16 ∧ q_Wp G M_X11_takes (q_KV f) X 0 0 19 [some (.ref a0), some (.int x1), some (.int x2), some (.long w3), none, some (.int (x5 - (q_I (q_setI A r3 j18 (((((q_I A r6 j11).toInt64) * (x2.toInt64)) / w3).toInt32)) r3 j18))), some (.int (x6 + (nI 1)))] [] (q_setI A r3 j18 (((((q_I A r6 j11).toInt64) * (x2.toInt64)) / w3).toInt32))) ∧ (¬ (x2.toInt64) < w3 → ∃ r21 : Nat, q_R A a0 6 = some r21 ∧ ∃ z24 : Nat, q_sh A r21 = (50, z24) ∧ z24 < 2147483648 ∧ ∃ j26 : Nat, (x1 + x6) = nI j26 ∧ j26 < z24 ∧ ∃ z30 : Nat, q_sh A r3 = (50, z30) ∧ z30 < 2147483648 ∧ ∃ j32 : Nat, x6 = nI j32 ∧ j32 < z30 ∧ q_Wp G M_X11_takes (q_KV f) X 0 0 19 [some (.ref a0), some (.int x1), some (.int x2), some (.long w3), none, some (.int (x5 - (q_I (q_setI A r3 j32 (q_I A r21 j26)) r3 j32))), some (.int (x6 + (nI 1)))] [] (q_setI A r3 j32 (q_I A r21 j26))))))) : q_Wp G M_X11_takes (q_KV f) X 0 0 19 [some (.ref a0), some (.int x1), some (.int x2), some (.long w3), none, some (.int x5), some (.int x6)] [] A := by
  refine q_blk (pc' := 23) (lo' := [some (.ref a0), some (.int x1), some (.int x2), some (.long w3), none, some (.int x5), some (.int x6)]) (st' := [.int (nI 6), .int x6]) [.iload 6, .bipush 6] (by decide +kernel) rfl ?_
  refine q_icmp_ge 86 (off := 63) (by decide +kernel) (by decide) (fun c1 => ?_) (fun c1 => ?_)
  · have h := h.1 c1
    refine q_blk (pc' := 89) (lo' := [some (.ref a0), some (.int x1), some (.int x2), some (.long w3), none, some (.int x5), some (.int (nI 0))]) (st' := []) [.iconst 0, .istore 6] (by decide +kernel) rfl ?_
    exact q_wk [some (.ref a0), some (.int x1), none, none, none, some (.int x5), some (.int (nI 0))] (And.intro rfl (And.intro rfl (And.intro rfl (And.intro rfl trivial)))) h
  · have h := h.2 c1
    refine q_blk (pc' := 27) (lo' := [some (.ref a0), some (.int x1), some (.int x2), some (.long w3), none, some (.int x5), some (.int x6)]) (st' := [.ref a0]) [.aload_n 0] (by decide +kernel) rfl ?_
    obtain ⟨s2, h⟩ := h
    obtain ⟨r3, e4, h⟩ := h
    refine q_getR fl_X11_48 rfl (by decide) (by decide +kernel) s2 e4 ?_
    refine q_blk (pc' := 36) (lo' := [some (.ref a0), some (.int x1), some (.int x2), some (.long w3), none, some (.int x5), some (.int x6)]) (st' := [.int (lg_cmp (x2.toInt64) w3), .int x6, .ref r3]) [.iload 6, .iload_n 2, .i2l, .lload_n 3, .lcmp] (by decide +kernel) rfl ?_
    refine q_if_lt 51 (off := 15) (by decide +kernel) (by decide) (fun c5 => ?_) (fun c5 => ?_)
    · have h := h.1 ((lg_cmp_lt (x2.toInt64) w3).mp c5)
      refine q_blk (pc' := 52) (lo' := [some (.ref a0), some (.int x1), some (.int x2), some (.long w3), none, some (.int x5), some (.int x6)]) (st' := [.ref a0, .int x6, .ref r3]) [.aload_n 0] (by decide +kernel) rfl ?_
      obtain ⟨r6, e7, h⟩ := h
      refine q_getR fl_X11_30 rfl (by decide) (by decide +kernel) s2 e7 ?_
      refine q_blk (pc' := 59) (lo' := [some (.ref a0), some (.int x1), some (.int x2), some (.long w3), none, some (.int x5), some (.int x6)]) (st' := [.int (x1 + x6), .ref r6, .int x6, .ref r3]) [.iload_n 1, .iload 6, .iadd] (by decide +kernel) rfl ?_
      obtain ⟨z9, s8, b10, h⟩ := h
      obtain ⟨j11, e12, h⟩ := h
      obtain ⟨l13, h⟩ := h
      refine q_iald e12 (by decide +kernel) s8 l13 b10 ?_
      refine q_blk (pc' := 65) (lo' := [some (.ref a0), some (.int x1), some (.int x2), some (.long w3), none, some (.int x5), some (.int x6)]) (st' := [.long w3, .long (((q_I A r6 j11).toInt64) * (x2.toInt64)), .int x6, .ref r3]) [.i2l, .iload_n 2, .i2l, .lmul, .lload_n 3] (by decide +kernel) rfl ?_
      obtain ⟨d14, h⟩ := h
      refine q_ldiv (by decide +kernel) d14 ?_
      refine q_blk (pc' := 67) (lo' := [some (.ref a0), some (.int x1), some (.int x2), some (.long w3), none, some (.int x5), some (.int x6)]) (st' := [.int (((((q_I A r6 j11).toInt64) * (x2.toInt64)) / w3).toInt32), .int x6, .ref r3]) [.l2i] (by decide +kernel) rfl ?_
      obtain ⟨z16, s15, b17, h⟩ := h
      obtain ⟨j18, e19, h⟩ := h
      obtain ⟨l20, h⟩ := h
      refine q_iast e19 (by decide +kernel) s15 l20 b17 ?_
      refine q_blk (pc' := 71) (lo' := [some (.ref a0), some (.int x1), some (.int x2), some (.long w3), none, some (.int x5), some (.int x6)]) (st' := [.ref a0, .int x5]) [.iload 5, .aload_n 0] (by decide +kernel) rfl ?_
      refine q_getR fl_X11_48 rfl (by decide) (by decide +kernel) s2 e4 ?_
      refine q_blk (pc' := 76) (lo' := [some (.ref a0), some (.int x1), some (.int x2), some (.long w3), none, some (.int x5), some (.int x6)]) (st' := [.int x6, .ref r3, .int x5]) [.iload 6] (by decide +kernel) rfl ?_
      refine q_iald e19 (by decide +kernel) s15 l20 b17 ?_
      refine q_blk (pc' := 83) (lo' := [some (.ref a0), some (.int x1), some (.int x2), some (.long w3), none, some (.int (x5 - (q_I (q_setI A r3 j18 (((((q_I A r6 j11).toInt64) * (x2.toInt64)) / w3).toInt32)) r3 j18))), some (.int (x6 + (nI 1)))]) (st' := []) [.isub, .istore 5, .iinc 6 1] (by decide +kernel) rfl ?_
      refine q_goto 19 (off := -64) (by decide +kernel) (by decide) ?_
      exact h
    · have h := h.2 (fun q9 => c5 ((lg_cmp_lt (x2.toInt64) w3).mpr q9))
      refine q_blk (pc' := 40) (lo' := [some (.ref a0), some (.int x1), some (.int x2), some (.long w3), none, some (.int x5), some (.int x6)]) (st' := [.ref a0, .int x6, .ref r3]) [.aload_n 0] (by decide +kernel) rfl ?_
      obtain ⟨r21, e22, h⟩ := h
      refine q_getR fl_X11_30 rfl (by decide) (by decide +kernel) s2 e22 ?_
      refine q_blk (pc' := 47) (lo' := [some (.ref a0), some (.int x1), some (.int x2), some (.long w3), none, some (.int x5), some (.int x6)]) (st' := [.int (x1 + x6), .ref r21, .int x6, .ref r3]) [.iload_n 1, .iload 6, .iadd] (by decide +kernel) rfl ?_
      obtain ⟨z24, s23, b25, h⟩ := h
      obtain ⟨j26, e27, h⟩ := h
      obtain ⟨l28, h⟩ := h
      refine q_iald e27 (by decide +kernel) s23 l28 b25 ?_
      refine q_goto 67 (off := 19) (by decide +kernel) (by decide) ?_
      obtain ⟨z30, s29, b31, h⟩ := h
      obtain ⟨j32, e33, h⟩ := h
      obtain ⟨l34, h⟩ := h
      refine q_iast e33 (by decide +kernel) s29 l34 b31 ?_
      refine q_blk (pc' := 71) (lo' := [some (.ref a0), some (.int x1), some (.int x2), some (.long w3), none, some (.int x5), some (.int x6)]) (st' := [.ref a0, .int x5]) [.iload 5, .aload_n 0] (by decide +kernel) rfl ?_
      refine q_getR fl_X11_48 rfl (by decide) (by decide +kernel) s2 e4 ?_
      refine q_blk (pc' := 76) (lo' := [some (.ref a0), some (.int x1), some (.int x2), some (.long w3), none, some (.int x5), some (.int x6)]) (st' := [.int x6, .ref r3, .int x5]) [.iload 6] (by decide +kernel) rfl ?_
      refine q_iald e33 (by decide +kernel) s29 l34 b31 ?_
      refine q_blk (pc' := 83) (lo' := [some (.ref a0), some (.int x1), some (.int x2), some (.long w3), none, some (.int (x5 - (q_I (q_setI A r3 j32 (q_I A r21 j26)) r3 j32))), some (.int (x6 + (nI 1)))]) (st' := []) [.isub, .istore 5, .iinc 6 1] (by decide +kernel) rfl ?_
      refine q_goto 19 (off := -64) (by decide +kernel) (by decide) ?_
      exact h
theorem f_X11_takes_89 {G : q_G} {X : String → q_H → Prop} {f : q_H → Prop} {A : q_H} {a0 : Nat} {x1 : Int32} {x5 : Int32} {x6 : Int32} (h : (((nI 6) ≤ x6 → q_Wp G M_X11_takes (q_KV f) X 0 0 121 [some (.ref a0), some (.int x1), none, none, none, some (.int x5), none] [] A) ∧ (¬ (nI 6) ≤ x6 → q_sh A a0 = (12, 0) ∧ ∃ r3 : Nat, q_R A a0 6 = some r3 ∧ ∃ z6 : Nat, q_sh A r3 = (50, z6) ∧ z6 < 2147483648 ∧ ∃ j8 : Nat, (x1 + x6) = nI j8 ∧ j8 < z6 ∧ ∃ r11 : Nat, q_R A a0 21 = some r11 ∧ ∃ z14 : Nat, q_sh A r11 = (50, z14) ∧ z14 < 2147483648 ∧ ∃ j16 : Nat, x6 = nI j16 ∧ j16 < z14 ∧ q_Wp G M_X11_takes (q_KV f) X 0 0 89 [some (.ref a0), some (.int x1), none, none, none, some (.int x5), some (.int (x6 + (nI 1)))] [] (q_setI A r3 j8 ((q_I A r3 j8) - (q_I A r11 j16)))))) : q_Wp G M_X11_takes (q_KV f) X 0 0 89 [some (.ref a0), some (.int x1), none, none, none, some (.int x5), some (.int x6)] [] A := by
  refine q_blk (pc' := 93) (lo' := [some (.ref a0), some (.int x1), none, none, none, some (.int x5), some (.int x6)]) (st' := [.int (nI 6), .int x6]) [.iload 6, .bipush 6] (by decide +kernel) rfl ?_
  refine q_icmp_ge 121 (off := 28) (by decide +kernel) (by decide) (fun c1 => ?_) (fun c1 => ?_)
  · have h := h.1 c1
    exact q_wk [some (.ref a0), some (.int x1), none, none, none, some (.int x5), none] (And.intro rfl (And.intro rfl (And.intro rfl trivial))) h
  · have h := h.2 c1
    refine q_blk (pc' := 97) (lo' := [some (.ref a0), some (.int x1), none, none, none, some (.int x5), some (.int x6)]) (st' := [.ref a0]) [.aload_n 0] (by decide +kernel) rfl ?_
    obtain ⟨s2, h⟩ := h
    obtain ⟨r3, e4, h⟩ := h
    refine q_getR fl_X11_30 rfl (by decide) (by decide +kernel) s2 e4 ?_
    refine q_blk (pc' := 105) (lo' := [some (.ref a0), some (.int x1), none, none, none, some (.int x5), some (.int x6)]) (st' := [.int (x1 + x6), .ref r3, .int (x1 + x6), .ref r3]) [.iload_n 1, .iload 6, .iadd, .dup2] (by decide +kernel) rfl ?_
    obtain ⟨z6, s5, b7, h⟩ := h
    obtain ⟨j8, e9, h⟩ := h
    obtain ⟨l10, h⟩ := h
    refine q_iald e9 (by decide +kernel) s5 l10 b7 ?_
    refine q_blk (pc' := 107) (lo' := [some (.ref a0), some (.int x1), none, none, none, some (.int x5), some (.int x6)]) (st' := [.ref a0, .int (q_I A r3 j8), .int (x1 + x6), .ref r3]) [.aload_n 0] (by decide +kernel) rfl ?_
    obtain ⟨r11, e12, h⟩ := h
    refine q_getR fl_X11_48 rfl (by decide) (by decide +kernel) s2 e12 ?_
    refine q_blk (pc' := 112) (lo' := [some (.ref a0), some (.int x1), none, none, none, some (.int x5), some (.int x6)]) (st' := [.int x6, .ref r11, .int (q_I A r3 j8), .int (x1 + x6), .ref r3]) [.iload 6] (by decide +kernel) rfl ?_
    obtain ⟨z14, s13, b15, h⟩ := h
    obtain ⟨j16, e17, h⟩ := h
    obtain ⟨l18, h⟩ := h
    refine q_iald e17 (by decide +kernel) s13 l18 b15 ?_
    refine q_blk (pc' := 114) (lo' := [some (.ref a0), some (.int x1), none, none, none, some (.int x5), some (.int x6)]) (st' := [.int ((q_I A r3 j8) - (q_I A r11 j16)), .int (x1 + x6), .ref r3]) [.isub] (by decide +kernel) rfl ?_
    refine q_iast e9 (by decide +kernel) s5 l10 b7 ?_
    refine q_blk (pc' := 118) (lo' := [some (.ref a0), some (.int x1), none, none, none, some (.int x5), some (.int (x6 + (nI 1)))]) (st' := []) [.iinc 6 1] (by decide +kernel) rfl ?_
    refine q_goto 89 (off := -29) (by decide +kernel) (by decide) ?_
    exact h
theorem f_X11_takes_121 {G : q_G} {X : String → q_H → Prop} {f : q_H → Prop} {A : q_H} {a0 : Nat} {x1 : Int32} {x5 : Int32} (h : ((x5 ≤ nI 0 → f A) ∧ (¬ x5 ≤ nI 0 → q_sh A a0 = (12, 0) ∧ q_Wc G M_X11_mostOf [.ref a0, .int x1, .int (-1)] A (q_KI fun r3 A2 => q_sh A2 a0 = (12, 0) ∧ ∃ r6 : Nat, q_R A2 a0 6 = some r6 ∧ ∃ z9 : Nat, q_sh A2 r6 = (50, z9) ∧ z9 < 2147483648 ∧ ∃ j11 : Nat, (x1 + r3) = nI j11 ∧ j11 < z9 ∧ ∃ r14 : Nat, q_R A2 a0 21 = some r14 ∧ ∃ z17 : Nat, q_sh A2 r14 = (50, z17) ∧ z17 < 2147483648 ∧ ∃ j19 : Nat, r3 = nI j19 ∧ j19 < z17 ∧ q_Wp G M_X11_takes (q_KV f) X 0 0 121 [some (.ref a0), some (.int x1), none, none, none, some (.int (x5 + Int32.ofInt (-1))), none] [] (q_setI (q_setI A2 r6 j11 ((q_I A2 r6 j11) - (nI 1))) r14 j19 ((q_I (q_setI A2 r6 j11 ((q_I A2 r6 j11) - (nI 1))) r14 j19) + (nI 1)))) q_nX))) : q_Wp G M_X11_takes (q_KV f) X 0 0 121 [some (.ref a0), some (.int x1), none, none, none, some (.int x5), none] [] A := by
  refine q_blk (pc' := 123) (lo' := [some (.ref a0), some (.int x1), none, none, none, some (.int x5), none]) (st' := [.int x5]) [.iload 5] (by decide +kernel) rfl ?_
  refine q_if_le 164 (off := 41) (by decide +kernel) (by decide) (fun c1 => ?_) (fun c1 => ?_)
  · have h := h.1 c1
    exact q_ret0 rfl (by decide) (by decide) (by decide +kernel) ⟨rfl, h⟩
  · have h := h.2 c1
    refine q_blk (pc' := 129) (lo' := [some (.ref a0), some (.int x1), none, none, none, some (.int x5), none]) (st' := [.int (-1), .int x1, .ref a0]) [.aload_n 0, .iload_n 1, .iconst (-1)] (by decide +kernel) rfl ?_
    obtain ⟨s4, h⟩ := h
    refine q_callV (ci := 11) (Mc := M_X11_mostOf) (z := 2) (b := a0) (As := [.int x1, .int (-1)]) (st := []) mo_X11_mostOf mi_X11_mostOf ml_X11_198_X11_mostOf rfl rfl (by decide) rfl (by decide) (by decide) rfl (Nat.le_of_ble_eq_true rfl) (by decide +kernel) s4 h (q_fI fun r3 A2 h => ?_)
    show q_Wp _ _ _ _ 0 0 132 [some (.ref a0), some (.int x1), none, none, none, some (.int x5), none] [.int r3] A2
    refine q_blk (pc' := 135) (lo' := [some (.ref a0), some (.int x1), none, none, none, some (.int x5), some (.int r3)]) (st' := [.ref a0]) [.istore 6, .aload_n 0] (by decide +kernel) rfl ?_
    obtain ⟨s5, h⟩ := h
    obtain ⟨r6, e7, h⟩ := h
    refine q_getR fl_X11_30 rfl (by decide) (by decide +kernel) s5 e7 ?_
    refine q_blk (pc' := 143) (lo' := [some (.ref a0), some (.int x1), none, none, none, some (.int x5), some (.int r3)]) (st' := [.int (x1 + r3), .ref r6, .int (x1 + r3), .ref r6]) [.iload_n 1, .iload 6, .iadd, .dup2] (by decide +kernel) rfl ?_
    obtain ⟨z9, s8, b10, h⟩ := h
    obtain ⟨j11, e12, h⟩ := h
    obtain ⟨l13, h⟩ := h
    refine q_iald e12 (by decide +kernel) s8 l13 b10 ?_
    refine q_blk (pc' := 146) (lo' := [some (.ref a0), some (.int x1), none, none, none, some (.int x5), some (.int r3)]) (st' := [.int ((q_I A2 r6 j11) - (nI 1)), .int (x1 + r3), .ref r6]) [.iconst 1, .isub] (by decide +kernel) rfl ?_
    refine q_iast e12 (by decide +kernel) s8 l13 b10 ?_
    refine q_blk (pc' := 148) (lo' := [some (.ref a0), some (.int x1), none, none, none, some (.int x5), some (.int r3)]) (st' := [.ref a0]) [.aload_n 0] (by decide +kernel) rfl ?_
    obtain ⟨r14, e15, h⟩ := h
    refine q_getR fl_X11_48 rfl (by decide) (by decide +kernel) s5 e15 ?_
    refine q_blk (pc' := 154) (lo' := [some (.ref a0), some (.int x1), none, none, none, some (.int x5), some (.int r3)]) (st' := [.int r3, .ref r14, .int r3, .ref r14]) [.iload 6, .dup2] (by decide +kernel) rfl ?_
    obtain ⟨z17, s16, b18, h⟩ := h
    obtain ⟨j19, e20, h⟩ := h
    obtain ⟨l21, h⟩ := h
    refine q_iald e20 (by decide +kernel) s16 l21 b18 ?_
    refine q_blk (pc' := 157) (lo' := [some (.ref a0), some (.int x1), none, none, none, some (.int x5), some (.int r3)]) (st' := [.int ((q_I (q_setI A2 r6 j11 ((q_I A2 r6 j11) - (nI 1))) r14 j19) + (nI 1)), .int r3, .ref r14]) [.iconst 1, .iadd] (by decide +kernel) rfl ?_
    refine q_iast e20 (by decide +kernel) s16 l21 b18 ?_
    refine q_blk (pc' := 161) (lo' := [some (.ref a0), some (.int x1), none, none, none, some (.int (x5 + Int32.ofInt (-1))), some (.int r3)]) (st' := []) [.iinc 5 (-1)] (by decide +kernel) rfl ?_
    refine q_goto 121 (off := -40) (by decide +kernel) (by decide) ?_
    exact q_wk [some (.ref a0), some (.int x1), none, none, none, some (.int (x5 + Int32.ofInt (-1))), none] (And.intro rfl (And.intro rfl (And.intro rfl trivial))) h
theorem f_X11_lays_ {G : q_G} {X : String → q_H → Prop} {f : q_H → Prop} {A : q_H} {a0 : Nat} {x1 : Int32} (h : q_Wp G M_X11_lays_ (q_KV f) X 0 0 2 [some (.ref a0), some (.int x1), some (.int (nI 0))] [] A) : q_Wc G M_X11_lays_ [.ref a0, .int x1] A (q_KV f) X := by
  refine q_Wc.of [some (.ref a0), some (.int x1), none] mo_X11_lays_.2.2.2.2.2 rfl (Nat.le_of_ble_eq_true rfl) rfl ?_
  refine q_blk (pc' := 2) (lo' := [some (.ref a0), some (.int x1), some (.int (nI 0))]) (st' := []) [.iconst 0, .istore_n 2] (by decide +kernel) rfl ?_
  exact h
theorem f_X11_lays__2 {G : q_G} {X : String → q_H → Prop} {f : q_H → Prop} {A : q_H} {a0 : Nat} {x1 : Int32} {x2 : Int32} (h : (((nI 6) ≤ x2 → f A) ∧ (¬ (nI 6) ≤ x2 → q_sh A a0 = (12, 0) ∧ ∃ r3 : Nat, q_R A a0 6 = some r3 ∧ ∃ r5 : Nat, q_R A a0 21 = some r5 ∧ ∃ z8 : Nat, q_sh A r5 = (50, z8) ∧ z8 < 2147483648 ∧ ∃ j10 : Nat, x2 = nI j10 ∧ j10 < z8 ∧ ∃ z14 : Nat, q_sh A r3 = (50, z14) ∧ z14 < 2147483648 ∧ ∃ j16 : Nat, (x1 + x2) = nI j16 ∧ j16 < z14 ∧ q_Wp G M_X11_lays_ (q_KV f) X 0 0 2 [some (.ref a0), some (.int x1), some (.int (x2 + (nI 1)))] [] (q_setI A r3 j16 (q_I A r5 j10))))) : q_Wp G M_X11_lays_ (q_KV f) X 0 0 2 [some (.ref a0), some (.int x1), some (.int x2)] [] A := by
  refine q_blk (pc' := 5) (lo' := [some (.ref a0), some (.int x1), some (.int x2)]) (st' := [.int (nI 6), .int x2]) [.iload_n 2, .bipush 6] (by decide +kernel) rfl ?_
  refine q_icmp_ge 28 (off := 23) (by decide +kernel) (by decide) (fun c1 => ?_) (fun c1 => ?_)
  · have h := h.1 c1
    exact q_ret0 rfl (by decide) (by decide) (by decide +kernel) ⟨rfl, h⟩
  · have h := h.2 c1
    refine q_blk (pc' := 9) (lo' := [some (.ref a0), some (.int x1), some (.int x2)]) (st' := [.ref a0]) [.aload_n 0] (by decide +kernel) rfl ?_
    obtain ⟨s2, h⟩ := h
    obtain ⟨r3, e4, h⟩ := h
    refine q_getR fl_X11_30 rfl (by decide) (by decide +kernel) s2 e4 ?_
    refine q_blk (pc' := 16) (lo' := [some (.ref a0), some (.int x1), some (.int x2)]) (st' := [.ref a0, .int (x1 + x2), .ref r3]) [.iload_n 1, .iload_n 2, .iadd, .aload_n 0] (by decide +kernel) rfl ?_
    obtain ⟨r5, e6, h⟩ := h
    refine q_getR fl_X11_48 rfl (by decide) (by decide +kernel) s2 e6 ?_
    refine q_blk (pc' := 20) (lo' := [some (.ref a0), some (.int x1), some (.int x2)]) (st' := [.int x2, .ref r5, .int (x1 + x2), .ref r3]) [.iload_n 2] (by decide +kernel) rfl ?_
    obtain ⟨z8, s7, b9, h⟩ := h
    obtain ⟨j10, e11, h⟩ := h
    obtain ⟨l12, h⟩ := h
    refine q_iald e11 (by decide +kernel) s7 l12 b9 ?_
    obtain ⟨z14, s13, b15, h⟩ := h
    obtain ⟨j16, e17, h⟩ := h
    obtain ⟨l18, h⟩ := h
    refine q_iast e17 (by decide +kernel) s13 l18 b15 ?_
    refine q_blk (pc' := 25) (lo' := [some (.ref a0), some (.int x1), some (.int (x2 + (nI 1)))]) (st' := []) [.iinc 2 1] (by decide +kernel) rfl ?_
    refine q_goto 2 (off := -23) (by decide +kernel) (by decide) ?_
    exact h
theorem f_X11_joins {G : q_G} {X : String → q_H → Prop} {f : q_H → Prop} {A : q_H} {a0 : Nat} {x1 : Int32} {x2 : Int32} (h : q_Wp G M_X11_joins (q_KV f) X 0 0 2 [some (.ref a0), some (.int x1), some (.int x2), some (.int (nI 0))] [] A) : q_Wc G M_X11_joins [.ref a0, .int x1, .int x2] A (q_KV f) X := by
  refine q_Wc.of [some (.ref a0), some (.int x1), some (.int x2), none] mo_X11_joins.2.2.2.2.2 rfl (Nat.le_of_ble_eq_true rfl) rfl ?_
  refine q_blk (pc' := 2) (lo' := [some (.ref a0), some (.int x1), some (.int x2), some (.int (nI 0))]) (st' := []) [.iconst 0, .istore_n 3] (by decide +kernel) rfl ?_
  exact h
theorem f_X11_joins_2 {G : q_G} {X : String → q_H → Prop} {f : q_H → Prop} {A : q_H} {a0 : Nat} {x1 : Int32} {x2 : Int32} {x3 : Int32} (h : (((nI 6) ≤ x3 → f A) ∧ (¬ (nI 6) ≤ x3 → q_sh A a0 = (12, 0) ∧ ∃ r3 : Nat, q_R A a0 6 = some r3 ∧ ∃ z6 : Nat, q_sh A r3 = (50, z6) ∧ z6 < 2147483648 ∧ ∃ j8 : Nat, (x1 + x3) = nI j8 ∧ j8 < z6 ∧ ∃ j11 : Nat, (x2 + x3) = nI j11 ∧ j11 < z6 ∧ q_Wp G M_X11_joins (q_KV f) X 0 0 2 [some (.ref a0), some (.int x1), some (.int x2), some (.int (x3 + (nI 1)))] [] (q_setI A r3 j8 ((q_I A r3 j8) + (q_I A r3 j11)))))) : q_Wp G M_X11_joins (q_KV f) X 0 0 2 [some (.ref a0), some (.int x1), some (.int x2), some (.int x3)] [] A := by
  refine q_blk (pc' := 5) (lo' := [some (.ref a0), some (.int x1), some (.int x2), some (.int x3)]) (st' := [.int (nI 6), .int x3]) [.iload_n 3, .bipush 6] (by decide +kernel) rfl ?_
  refine q_icmp_ge 33 (off := 28) (by decide +kernel) (by decide) (fun c1 => ?_) (fun c1 => ?_)
  · have h := h.1 c1
    exact q_ret0 rfl (by decide) (by decide) (by decide +kernel) ⟨rfl, h⟩
  · have h := h.2 c1
    refine q_blk (pc' := 9) (lo' := [some (.ref a0), some (.int x1), some (.int x2), some (.int x3)]) (st' := [.ref a0]) [.aload_n 0] (by decide +kernel) rfl ?_
    obtain ⟨s2, h⟩ := h
    obtain ⟨r3, e4, h⟩ := h
    refine q_getR fl_X11_30 rfl (by decide) (by decide +kernel) s2 e4 ?_
    refine q_blk (pc' := 16) (lo' := [some (.ref a0), some (.int x1), some (.int x2), some (.int x3)]) (st' := [.int (x1 + x3), .ref r3, .int (x1 + x3), .ref r3]) [.iload_n 1, .iload_n 3, .iadd, .dup2] (by decide +kernel) rfl ?_
    obtain ⟨z6, s5, b7, h⟩ := h
    obtain ⟨j8, e9, h⟩ := h
    obtain ⟨l10, h⟩ := h
    refine q_iald e9 (by decide +kernel) s5 l10 b7 ?_
    refine q_blk (pc' := 18) (lo' := [some (.ref a0), some (.int x1), some (.int x2), some (.int x3)]) (st' := [.ref a0, .int (q_I A r3 j8), .int (x1 + x3), .ref r3]) [.aload_n 0] (by decide +kernel) rfl ?_
    refine q_getR fl_X11_30 rfl (by decide) (by decide +kernel) s2 e4 ?_
    refine q_blk (pc' := 24) (lo' := [some (.ref a0), some (.int x1), some (.int x2), some (.int x3)]) (st' := [.int (x2 + x3), .ref r3, .int (q_I A r3 j8), .int (x1 + x3), .ref r3]) [.iload_n 2, .iload_n 3, .iadd] (by decide +kernel) rfl ?_
    obtain ⟨j11, e12, h⟩ := h
    obtain ⟨l13, h⟩ := h
    refine q_iald e12 (by decide +kernel) s5 l13 b7 ?_
    refine q_blk (pc' := 26) (lo' := [some (.ref a0), some (.int x1), some (.int x2), some (.int x3)]) (st' := [.int ((q_I A r3 j8) + (q_I A r3 j11)), .int (x1 + x3), .ref r3]) [.iadd] (by decide +kernel) rfl ?_
    refine q_iast e9 (by decide +kernel) s5 l10 b7 ?_
    refine q_blk (pc' := 30) (lo' := [some (.ref a0), some (.int x1), some (.int x2), some (.int (x3 + (nI 1)))]) (st' := []) [.iinc 3 1] (by decide +kernel) rfl ?_
    refine q_goto 2 (off := -28) (by decide +kernel) (by decide) ?_
    exact h
theorem f_X11_waits {G : q_G} {X : String → q_H → Prop} {f : q_H → Prop} {A : q_H} {a0 : Nat} {x1 : Int32} {x2 : Int32} (h : q_sh A a0 = (12, 0) ∧ ∃ r2 : Nat, q_R A a0 6 = some r2 ∧ ∃ z5 : Nat, q_sh A r2 = (50, z5) ∧ z5 < 2147483648 ∧ 9 < z5 ∧ q_Wc G M_X11_parcelAt [.int (q_I A r2 9)] A (q_KI fun r9 A8 => q_Wp G M_X11_waits (q_KV f) X 0 0 14 [some (.ref a0), some (.int x1), some (.int x2), some (.int r9), some (.int (nI 0))] [] A8) q_nX) : q_Wc G M_X11_waits [.ref a0, .int x1, .int x2] A (q_KV f) X := by
  refine q_Wc.of [some (.ref a0), some (.int x1), some (.int x2), none, none] mo_X11_waits.2.2.2.2.2 rfl (Nat.le_of_ble_eq_true rfl) rfl ?_
  refine q_blk (pc' := 1) (lo' := [some (.ref a0), some (.int x1), some (.int x2), none, none]) (st' := [.ref a0]) [.aload_n 0] (by decide +kernel) rfl ?_
  obtain ⟨s1, h⟩ := h
  obtain ⟨r2, e3, h⟩ := h
  refine q_getR fl_X11_30 rfl (by decide) (by decide +kernel) s1 e3 ?_
  refine q_blk (pc' := 6) (lo' := [some (.ref a0), some (.int x1), some (.int x2), none, none]) (st' := [.int (nI 9), .ref r2]) [.bipush 9] (by decide +kernel) rfl ?_
  obtain ⟨z5, s4, b6, h⟩ := h
  obtain ⟨l7, h⟩ := h
  refine q_iald rfl (by decide +kernel) s4 l7 b6 ?_
  refine q_callS (Mc := M_X11_parcelAt) (z := 1) (As := [.int (q_I A r2 9)]) (st := []) mo_X11_parcelAt ms_X11_parcelAt ml_X11_145_X11_parcelAt rfl rfl (by decide) (by decide) rfl (Nat.le_of_ble_eq_true rfl) (by decide +kernel) h (q_fI fun r9 A8 h => ?_)
  show q_Wp _ _ _ _ 0 0 10 [some (.ref a0), some (.int x1), some (.int x2), none, none] [.int r9] A8
  refine q_blk (pc' := 14) (lo' := [some (.ref a0), some (.int x1), some (.int x2), some (.int r9), some (.int (nI 0))]) (st' := []) [.istore_n 3, .iconst 0, .istore 4] (by decide +kernel) rfl ?_
  exact h
theorem f_X11_waits_14 {G : q_G} {X : String → q_H → Prop} {f : q_H → Prop} {A : q_H} {a0 : Nat} {x1 : Int32} {x2 : Int32} {x3 : Int32} {x4 : Int32} (h : (((nI 6) ≤ x4 → q_sh A a0 = (12, 0) ∧ ∃ r3 : Nat, q_R A a0 6 = some r3 ∧ ∃ z6 : Nat, q_sh A r3 = (50, z6) ∧ z6 < 2147483648 ∧ ∃ j8 : Nat, (x3 + (nI 6)) = nI j8 ∧ j8 < z6 ∧ 9 < z6 ∧ f (q_setI (q_setI A r3 j8 x2) r3 9 ((q_I (q_setI A r3 j8 x2) r3 9) + (nI 1)))) ∧ (¬ (nI 6) ≤ x4 → q_sh A a0 = (12, 0) ∧ ∃ r13 : Nat, q_R A a0 6 = some r13 ∧ ∃ z16 : Nat, q_sh A r13 = (50, z16) ∧ z16 < 2147483648 ∧ ∃ j18 : Nat, (x1 + x4) = nI j18 ∧ j18 < z16 ∧ ∃ j21 : Nat, (x3 + x4) = nI j21 ∧ j21 < z16 ∧ q_Wp G M_X11_waits (q_KV f) X 0 0 14 [some (.ref a0), some (.int x1), some (.int x2), some (.int x3), some (.int (x4 + (nI 1)))] [] (q_setI A r13 j21 (q_I A r13 j18))))) : q_Wp G M_X11_waits (q_KV f) X 0 0 14 [some (.ref a0), some (.int x1), some (.int x2), some (.int x3), some (.int x4)] [] A := by
  refine q_blk (pc' := 18) (lo' := [some (.ref a0), some (.int x1), some (.int x2), some (.int x3), some (.int x4)]) (st' := [.int (nI 6), .int x4]) [.iload 4, .bipush 6] (by decide +kernel) rfl ?_
  refine q_icmp_ge 45 (off := 27) (by decide +kernel) (by decide) (fun c1 => ?_) (fun c1 => ?_)
  · have h := h.1 c1
    refine q_blk (pc' := 46) (lo' := [some (.ref a0), some (.int x1), some (.int x2), some (.int x3), some (.int x4)]) (st' := [.ref a0]) [.aload_n 0] (by decide +kernel) rfl ?_
    obtain ⟨s2, h⟩ := h
    obtain ⟨r3, e4, h⟩ := h
    refine q_getR fl_X11_30 rfl (by decide) (by decide +kernel) s2 e4 ?_
    refine q_blk (pc' := 54) (lo' := [some (.ref a0), some (.int x1), some (.int x2), some (.int x3), some (.int x4)]) (st' := [.int x2, .int (x3 + (nI 6)), .ref r3]) [.iload_n 3, .bipush 6, .iadd, .iload_n 2] (by decide +kernel) rfl ?_
    obtain ⟨z6, s5, b7, h⟩ := h
    obtain ⟨j8, e9, h⟩ := h
    obtain ⟨l10, h⟩ := h
    refine q_iast e9 (by decide +kernel) s5 l10 b7 ?_
    refine q_blk (pc' := 56) (lo' := [some (.ref a0), some (.int x1), some (.int x2), some (.int x3), some (.int x4)]) (st' := [.ref a0]) [.aload_n 0] (by decide +kernel) rfl ?_
    refine q_getR fl_X11_30 rfl (by decide) (by decide +kernel) s2 e4 ?_
    refine q_blk (pc' := 62) (lo' := [some (.ref a0), some (.int x1), some (.int x2), some (.int x3), some (.int x4)]) (st' := [.int (nI 9), .ref r3, .int (nI 9), .ref r3]) [.bipush 9, .dup2] (by decide +kernel) rfl ?_
    obtain ⟨l11, h⟩ := h
    refine q_iald rfl (by decide +kernel) s5 l11 b7 ?_
    refine q_blk (pc' := 65) (lo' := [some (.ref a0), some (.int x1), some (.int x2), some (.int x3), some (.int x4)]) (st' := [.int ((q_I (q_setI A r3 j8 x2) r3 9) + (nI 1)), .int (nI 9), .ref r3]) [.iconst 1, .iadd] (by decide +kernel) rfl ?_
    refine q_iast rfl (by decide +kernel) s5 l11 b7 ?_
    exact q_ret0 rfl (by decide) (by decide) (by decide +kernel) ⟨rfl, h⟩
  · have h := h.2 c1
    refine q_blk (pc' := 22) (lo' := [some (.ref a0), some (.int x1), some (.int x2), some (.int x3), some (.int x4)]) (st' := [.ref a0]) [.aload_n 0] (by decide +kernel) rfl ?_
    obtain ⟨s12, h⟩ := h
    obtain ⟨r13, e14, h⟩ := h
    refine q_getR fl_X11_30 rfl (by decide) (by decide +kernel) s12 e14 ?_
    refine q_blk (pc' := 30) (lo' := [some (.ref a0), some (.int x1), some (.int x2), some (.int x3), some (.int x4)]) (st' := [.ref a0, .int (x3 + x4), .ref r13]) [.iload_n 3, .iload 4, .iadd, .aload_n 0] (by decide +kernel) rfl ?_
    refine q_getR fl_X11_30 rfl (by decide) (by decide +kernel) s12 e14 ?_
    refine q_blk (pc' := 37) (lo' := [some (.ref a0), some (.int x1), some (.int x2), some (.int x3), some (.int x4)]) (st' := [.int (x1 + x4), .ref r13, .int (x3 + x4), .ref r13]) [.iload_n 1, .iload 4, .iadd] (by decide +kernel) rfl ?_
    obtain ⟨z16, s15, b17, h⟩ := h
    obtain ⟨j18, e19, h⟩ := h
    obtain ⟨l20, h⟩ := h
    refine q_iald e19 (by decide +kernel) s15 l20 b17 ?_
    obtain ⟨j21, e22, h⟩ := h
    obtain ⟨l23, h⟩ := h
    refine q_iast e22 (by decide +kernel) s15 l23 b17 ?_
    refine q_blk (pc' := 42) (lo' := [some (.ref a0), some (.int x1), some (.int x2), some (.int x3), some (.int (x4 + (nI 1)))]) (st' := []) [.iinc 4 1] (by decide +kernel) rfl ?_
    refine q_goto 14 (off := -28) (by decide +kernel) (by decide) ?_
    exact h
theorem f_X11_isTarget {G : q_G} {X : String → q_H → Prop} {f : Bool → q_H → Prop} {A : q_H} {a0 : Nat} {x1 : Int32} (h : q_Wp G M_X11_isTarget (q_KB f) X 0 0 2 [some (.ref a0), some (.int x1), some (.int (nI 0))] [] A) : q_Wc G M_X11_isTarget [.ref a0, .int x1] A (q_KB f) X := by
  refine q_Wc.of [some (.ref a0), some (.int x1), none] mo_X11_isTarget.2.2.2.2.2 rfl (Nat.le_of_ble_eq_true rfl) rfl ?_
  refine q_blk (pc' := 2) (lo' := [some (.ref a0), some (.int x1), some (.int (nI 0))]) (st' := []) [.iconst 0, .istore_n 2] (by decide +kernel) rfl ?_
  exact h
theorem f_X11_isTarget_2 {G : q_G} {X : String → q_H → Prop} {f : Bool → q_H → Prop} {A : q_H} {a0 : Nat} {x1 : Int32} {x2 : Int32} (h : q_sh A a0 = (12, 0) ∧ q_Wc G M_X11_stations [.ref a0] A (q_KI fun r2 A1 => ((r2 ≤ x2 → f false A1) ∧ (¬ r2 ≤ x2 → q_sh A1 a0 = (12, 0) ∧ q_Wc G M_X11_targetOf [.ref a0, .int x2] A1 (q_KI fun r6 A5 => ((r6 = x1 → f true A5) ∧ (¬ r6 = x1 → q_Wp G M_X11_isTarget (q_KB f) X 0 0 2 [some (.ref a0), some (.int x1), some (.int (x2 + (nI 1)))] [] A5))) q_nX))) q_nX) : q_Wp G M_X11_isTarget (q_KB f) X 0 0 2 [some (.ref a0), some (.int x1), some (.int x2)] [] A := by
  refine q_blk (pc' := 4) (lo' := [some (.ref a0), some (.int x1), some (.int x2)]) (st' := [.ref a0, .int x2]) [.iload_n 2, .aload_n 0] (by decide +kernel) rfl ?_
  obtain ⟨s3, h⟩ := h
  refine q_callV (ci := 11) (Mc := M_X11_stations) (z := 0) (b := a0) (As := []) (st := [.int x2]) mo_X11_stations mi_X11_stations ml_X11_182_X11_stations rfl rfl (by decide) rfl (by decide) (by decide) rfl (Nat.le_of_ble_eq_true rfl) (by decide +kernel) s3 h (q_fI fun r2 A1 h => ?_)
  show q_Wp _ _ _ _ 0 0 7 [some (.ref a0), some (.int x1), some (.int x2)] [.int r2, .int x2] A1
  refine q_icmp_ge 27 (off := 20) (by decide +kernel) (by decide) (fun c4 => ?_) (fun c4 => ?_)
  · have h := h.1 c4
    refine q_blk (pc' := 28) (lo' := [some (.ref a0), some (.int x1), some (.int x2)]) (st' := [.int (nI 0)]) [.iconst 0] (by decide +kernel) rfl ?_
    exact q_retZ (r := q_i false) rfl (q_nz _) (by decide) (by decide) (by decide +kernel) ⟨false, rfl, h⟩
  · have h := h.2 c4
    refine q_blk (pc' := 12) (lo' := [some (.ref a0), some (.int x1), some (.int x2)]) (st' := [.int x2, .ref a0]) [.aload_n 0, .iload_n 2] (by decide +kernel) rfl ?_
    obtain ⟨s7, h⟩ := h
    refine q_callV (ci := 11) (Mc := M_X11_targetOf) (z := 1) (b := a0) (As := [.int x2]) (st := []) mo_X11_targetOf mi_X11_targetOf ml_X11_201_X11_targetOf rfl rfl (by decide) rfl (by decide) (by decide) rfl (Nat.le_of_ble_eq_true rfl) (by decide +kernel) s7 h (q_fI fun r6 A5 h => ?_)
    show q_Wp _ _ _ _ 0 0 15 [some (.ref a0), some (.int x1), some (.int x2)] [.int r6] A5
    refine q_blk (pc' := 16) (lo' := [some (.ref a0), some (.int x1), some (.int x2)]) (st' := [.int x1, .int r6]) [.iload_n 1] (by decide +kernel) rfl ?_
    refine q_icmp_ne 21 (off := 5) (by decide +kernel) (by decide) (fun c8 => ?_) (fun c8 => ?_)
    · have h := h.2 c8
      refine q_blk (pc' := 24) (lo' := [some (.ref a0), some (.int x1), some (.int (x2 + (nI 1)))]) (st' := []) [.iinc 2 1] (by decide +kernel) rfl ?_
      refine q_goto 2 (off := -22) (by decide +kernel) (by decide) ?_
      exact h
    · have h := h.1 c8
      refine q_blk (pc' := 20) (lo' := [some (.ref a0), some (.int x1), some (.int x2)]) (st' := [.int (nI 1)]) [.iconst 1] (by decide +kernel) rfl ?_
      exact q_retZ (r := q_i true) rfl (q_nz _) (by decide) (by decide) (by decide +kernel) ⟨true, rfl, h⟩
theorem f_X11_leaves {G : q_G} {X : String → q_H → Prop} {f : q_H → Prop} {A : q_H} {a0 : Nat} (h : q_sh A a0 = (12, 0) ∧ q_Wc G M_X11_stations [.ref a0] A (q_KI fun r2 A1 => q_Wc G M_X11_slotAt [.int (r2 - (nI 1))] A1 (q_KI fun r5 A4 => q_sh A4 a0 = (12, 0) ∧ ∃ r7 : Nat, q_R A4 a0 6 = some r7 ∧ ∃ z10 : Nat, q_sh A4 r7 = (50, z10) ∧ z10 < 2147483648 ∧ ∃ j12 : Nat, (r5 + (nI 6)) = nI j12 ∧ j12 < z10 ∧ (((q_I A4 r7 j12) = (-1) → f A4) ∧ (¬ (q_I A4 r7 j12) = (-1) → q_Wp G M_X11_leaves (q_KV f) X 0 0 28 [some (.ref a0), some (.int r5), some (.int (nI 0)), some (.int (nI 0))] [] A4))) q_nX) q_nX) : q_Wc G M_X11_leaves [.ref a0] A (q_KV f) X := by
  refine q_Wc.of [some (.ref a0), none, none, none] mo_X11_leaves.2.2.2.2.2 rfl (Nat.le_of_ble_eq_true rfl) rfl ?_
  refine q_blk (pc' := 1) (lo' := [some (.ref a0), none, none, none]) (st' := [.ref a0]) [.aload_n 0] (by decide +kernel) rfl ?_
  obtain ⟨s3, h⟩ := h
  refine q_callV (ci := 11) (Mc := M_X11_stations) (z := 0) (b := a0) (As := []) (st := []) mo_X11_stations mi_X11_stations ml_X11_182_X11_stations rfl rfl (by decide) rfl (by decide) (by decide) rfl (Nat.le_of_ble_eq_true rfl) (by decide +kernel) s3 h (q_fI fun r2 A1 h => ?_)
  show q_Wp _ _ _ _ 0 0 4 [some (.ref a0), none, none, none] [.int r2] A1
  refine q_blk (pc' := 6) (lo' := [some (.ref a0), none, none, none]) (st' := [.int (r2 - (nI 1))]) [.iconst 1, .isub] (by decide +kernel) rfl ?_
  refine q_callS (Mc := M_X11_slotAt) (z := 1) (As := [.int (r2 - (nI 1))]) (st := []) mo_X11_slotAt ms_X11_slotAt ml_X11_204_X11_slotAt rfl rfl (by decide) (by decide) rfl (Nat.le_of_ble_eq_true rfl) (by decide +kernel) h (q_fI fun r5 A4 h => ?_)
  show q_Wp _ _ _ _ 0 0 9 [some (.ref a0), none, none, none] [.int r5] A4
  refine q_blk (pc' := 11) (lo' := [some (.ref a0), some (.int r5), none, none]) (st' := [.ref a0]) [.istore_n 1, .aload_n 0] (by decide +kernel) rfl ?_
  obtain ⟨s6, h⟩ := h
  obtain ⟨r7, e8, h⟩ := h
  refine q_getR fl_X11_30 rfl (by decide) (by decide +kernel) s6 e8 ?_
  refine q_blk (pc' := 18) (lo' := [some (.ref a0), some (.int r5), none, none]) (st' := [.int (r5 + (nI 6)), .ref r7]) [.iload_n 1, .bipush 6, .iadd] (by decide +kernel) rfl ?_
  obtain ⟨z10, s9, b11, h⟩ := h
  obtain ⟨j12, e13, h⟩ := h
  obtain ⟨l14, h⟩ := h
  refine q_iald e13 (by decide +kernel) s9 l14 b11 ?_
  refine q_blk (pc' := 20) (lo' := [some (.ref a0), some (.int r5), none, none]) (st' := [.int (-1), .int (q_I A4 r7 j12)]) [.iconst (-1)] (by decide +kernel) rfl ?_
  refine q_icmp_ne 24 (off := 4) (by decide +kernel) (by decide) (fun c15 => ?_) (fun c15 => ?_)
  · have h := h.2 c15
    refine q_blk (pc' := 28) (lo' := [some (.ref a0), some (.int r5), some (.int (nI 0)), some (.int (nI 0))]) (st' := []) [.iconst 0, .istore_n 2, .iconst 0, .istore_n 3] (by decide +kernel) rfl ?_
    exact h
  · have h := h.1 c15
    exact q_ret0 rfl (by decide) (by decide) (by decide +kernel) ⟨rfl, h⟩
theorem f_X11_leaves_28 {G : q_G} {X : String → q_H → Prop} {f : q_H → Prop} {A : q_H} {a0 : Nat} {x1 : Int32} {x2 : Int32} {x3 : Int32} (h : q_sh A a0 = (12, 0) ∧ q_Wc G M_X11_materials [.ref a0] A (q_KI fun r2 A1 => ((r2 ≤ x3 → q_sh A1 a0 = (12, 0) ∧ q_Wc G M_X11_total [.ref a0, .int x1] A1 (q_KI fun r6 A5 => (¬ r6 = nI 0) ∧ q_sh A5 a0 = (12, 0) ∧ ∃ r10 : Nat, q_R A5 a0 6 = some r10 ∧ ∃ z13 : Nat, q_sh A5 r10 = (50, z13) ∧ z13 < 2147483648 ∧ 4 < z13 ∧ ((((x2 * (nI 100)) / r6) < (q_I A5 r10 4) → q_Wc G M_X11_joins [.ref a0, .int (nI 24), .int x1] A5 (q_KV fun A18 => q_sh A18 a0 = (12, 0) ∧ ∃ r21 : Nat, q_R A18 a0 6 = some r21 ∧ ∃ z24 : Nat, q_sh A18 r21 = (50, z24) ∧ z24 < 2147483648 ∧ ∃ j26 : Nat, (x1 + (nI 6)) = nI j26 ∧ j26 < z24 ∧ f (q_setI A18 r21 j26 (-1))) q_nX) ∧ (¬ ((x2 * (nI 100)) / r6) < (q_I A5 r10 4) → ((x2 ≤ nI 0 → q_Wc G M_X11_joins [.ref a0, .int (nI 24), .int x1] A5 (q_KV fun A31 => q_sh A31 a0 = (12, 0) ∧ ∃ r34 : Nat, q_R A31 a0 6 = some r34 ∧ ∃ z37 : Nat, q_sh A31 r34 = (50, z37) ∧ z37 < 2147483648 ∧ ∃ j39 : Nat, (x1 + (nI 6)) = nI j39 ∧ j39 < z37 ∧ f (q_setI A31 r34 j39 (-1))) q_nX) ∧ (¬ x2 ≤ nI 0 → ∃ j42 : Nat, (x1 + (nI 6)) = nI j42 ∧ j42 < z13 ∧ 5 < z13 ∧ (((q_I A5 r10 5) ≤ (q_I A5 r10 j42) → q_Wc G M_X11_joins [.ref a0, .int (nI 24), .int x1] A5 (q_KV fun A48 => q_sh A48 a0 = (12, 0) ∧ ∃ r51 : Nat, q_R A48 a0 6 = some r51 ∧ ∃ z54 : Nat, q_sh A48 r51 = (50, z54) ∧ z54 < 2147483648 ∧ j42 < z54 ∧ f (q_setI A48 r51 j42 (-1))) q_nX) ∧ (¬ (q_I A5 r10 5) ≤ (q_I A5 r10 j42) → 9 < z13 ∧ (((nI 30) ≤ (q_I A5 r10 9) → q_Wc G M_X11_joins [.ref a0, .int (nI 24), .int x1] A5 (q_KV fun A60 => q_sh A60 a0 = (12, 0) ∧ ∃ r63 : Nat, q_R A60 a0 6 = some r63 ∧ ∃ z66 : Nat, q_sh A60 r63 = (50, z66) ∧ z66 < 2147483648 ∧ j42 < z66 ∧ f (q_setI A60 r63 j42 (-1))) q_nX) ∧ (¬ (nI 30) ≤ (q_I A5 r10 9) → q_Wc G M_X11_waits [.ref a0, .int x1, .int ((q_I A5 r10 j42) + (nI 1))] A5 (q_KV fun A70 => q_sh A70 a0 = (12, 0) ∧ ∃ r73 : Nat, q_R A70 a0 6 = some r73 ∧ ∃ z76 : Nat, q_sh A70 r73 = (50, z76) ∧ z76 < 2147483648 ∧ 15 < z76 ∧ j42 < z76 ∧ f (q_setI (q_setI A70 r73 15 ((q_I A70 r73 15) + (nI 1))) r73 j42 (-1))) q_nX))))))))) q_nX) ∧ (¬ r2 ≤ x3 → q_sh A1 a0 = (12, 0) ∧ q_Wc G M_X11_isTarget [.ref a0, .int x3] A1 (q_KB fun b81 A80 => ((b81 = true → q_sh A80 a0 = (12, 0) ∧ ∃ r86 : Nat, q_R A80 a0 6 = some r86 ∧ ∃ z89 : Nat, q_sh A80 r86 = (50, z89) ∧ z89 < 2147483648 ∧ ∃ j91 : Nat, (x1 + x3) = nI j91 ∧ j91 < z89 ∧ q_Wp G M_X11_leaves (q_KV f) X 0 0 28 [some (.ref a0), some (.int x1), some (.int (x2 + (q_I A80 r86 j91))), some (.int (x3 + (nI 1)))] [] A80) ∧ (b81 = false → q_Wp G M_X11_leaves (q_KV f) X 0 0 28 [some (.ref a0), some (.int x1), some (.int (x2 + (nI 0))), some (.int (x3 + (nI 1)))] [] A80))) q_nX))) q_nX) : q_Wp G M_X11_leaves (q_KV f) X 0 0 28 [some (.ref a0), some (.int x1), some (.int x2), some (.int x3)] [] A := by
  refine q_blk (pc' := 30) (lo' := [some (.ref a0), some (.int x1), some (.int x2), some (.int x3)]) (st' := [.ref a0, .int x3]) [.iload_n 3, .aload_n 0] (by decide +kernel) rfl ?_
  obtain ⟨s3, h⟩ := h
  refine q_callV (ci := 11) (Mc := M_X11_materials) (z := 0) (b := a0) (As := []) (st := [.int x3]) mo_X11_materials mi_X11_materials ml_X11_187_X11_materials rfl rfl (by decide) rfl (by decide) (by decide) rfl (Nat.le_of_ble_eq_true rfl) (by decide +kernel) s3 h (q_fI fun r2 A1 h => ?_)
  show q_Wp _ _ _ _ 0 0 33 [some (.ref a0), some (.int x1), some (.int x2), some (.int x3)] [.int r2, .int x3] A1
  refine q_icmp_ge 65 (off := 32) (by decide +kernel) (by decide) (fun c4 => ?_) (fun c4 => ?_)
  · have h := h.1 c4
    refine q_blk (pc' := 71) (lo' := [some (.ref a0), some (.int x1), some (.int x2), some (.int x3)]) (st' := [.int x1, .ref a0, .int (x2 * (nI 100))]) [.iload_n 2, .bipush 100, .imul, .aload_n 0, .iload_n 1] (by decide +kernel) rfl ?_
    obtain ⟨s7, h⟩ := h
    refine q_callV (ci := 11) (Mc := M_X11_total) (z := 1) (b := a0) (As := [.int x1]) (st := [.int (x2 * (nI 100))]) mo_X11_total mi_X11_total ml_X11_189_X11_total rfl rfl (by decide) rfl (by decide) (by decide) rfl (Nat.le_of_ble_eq_true rfl) (by decide +kernel) s7 h (q_fI fun r6 A5 h => ?_)
    show q_Wp _ _ _ _ 0 0 74 [some (.ref a0), some (.int x1), some (.int x2), some (.int x3)] [.int r6, .int (x2 * (nI 100))] A5
    obtain ⟨d8, h⟩ := h
    refine q_idiv (by decide +kernel) d8 ?_
    refine q_blk (pc' := 76) (lo' := [some (.ref a0), some (.int x1), some (.int x2), some (.int x3)]) (st' := [.ref a0, .int ((x2 * (nI 100)) / r6)]) [.aload_n 0] (by decide +kernel) rfl ?_
    obtain ⟨s9, h⟩ := h
    obtain ⟨r10, e11, h⟩ := h
    refine q_getR fl_X11_30 rfl (by decide) (by decide +kernel) s9 e11 ?_
    refine q_blk (pc' := 80) (lo' := [some (.ref a0), some (.int x1), some (.int x2), some (.int x3)]) (st' := [.int (nI 4), .ref r10, .int ((x2 * (nI 100)) / r6)]) [.iconst 4] (by decide +kernel) rfl ?_
    obtain ⟨z13, s12, b14, h⟩ := h
    obtain ⟨l15, h⟩ := h
    refine q_iald rfl (by decide +kernel) s12 l15 b14 ?_
    refine q_icmp_lt 122 (off := 41) (by decide +kernel) (by decide) (fun c16 => ?_) (fun c16 => ?_)
    · have h := h.1 c16
      refine q_blk (pc' := 125) (lo' := [some (.ref a0), some (.int x1), some (.int x2), some (.int (nI 0))]) (st' := [.int (nI 0)]) [.iconst 0, .istore_n 3, .iload_n 3] (by decide +kernel) rfl ?_
      refine q_if_eq 158 (off := 33) (by decide +kernel) (by decide) (fun _ => ?_) (fun c9 => absurd (by decide) c9)
      refine q_blk (pc' := 162) (lo' := [some (.ref a0), some (.int x1), some (.int x2), some (.int (nI 0))]) (st' := [.int x1, .int (nI 24), .ref a0]) [.aload_n 0, .bipush 24, .iload_n 1] (by decide +kernel) rfl ?_
      refine q_callV (ci := 11) (Mc := M_X11_joins) (z := 2) (b := a0) (As := [.int (nI 24), .int x1]) (st := []) mo_X11_joins mi_X11_joins ml_X11_214_X11_joins rfl rfl (by decide) rfl (by decide) (by decide) rfl (Nat.le_of_ble_eq_true rfl) (by decide +kernel) s9 h (q_fV fun A18 h => ?_)
      show q_Wp _ _ _ _ 0 0 165 [some (.ref a0), some (.int x1), some (.int x2), some (.int (nI 0))] [] A18
      refine q_blk (pc' := 166) (lo' := [some (.ref a0), some (.int x1), some (.int x2), some (.int (nI 0))]) (st' := [.ref a0]) [.aload_n 0] (by decide +kernel) rfl ?_
      obtain ⟨s20, h⟩ := h
      obtain ⟨r21, e22, h⟩ := h
      refine q_getR fl_X11_30 rfl (by decide) (by decide +kernel) s20 e22 ?_
      refine q_blk (pc' := 174) (lo' := [some (.ref a0), some (.int x1), some (.int x2), some (.int (nI 0))]) (st' := [.int (-1), .int (x1 + (nI 6)), .ref r21]) [.iload_n 1, .bipush 6, .iadd, .iconst (-1)] (by decide +kernel) rfl ?_
      obtain ⟨z24, s23, b25, h⟩ := h
      obtain ⟨j26, e27, h⟩ := h
      obtain ⟨l28, h⟩ := h
      refine q_iast e27 (by decide +kernel) s23 l28 b25 ?_
      exact q_ret0 rfl (by decide) (by decide) (by decide +kernel) ⟨rfl, h⟩
    · have h := h.2 c16
      refine q_blk (pc' := 85) (lo' := [some (.ref a0), some (.int x1), some (.int x2), some (.int x3)]) (st' := [.int x2]) [.iload_n 2] (by decide +kernel) rfl ?_
      refine q_if_le 122 (off := 37) (by decide +kernel) (by decide) (fun c29 => ?_) (fun c29 => ?_)
      · have h := h.1 c29
        refine q_blk (pc' := 125) (lo' := [some (.ref a0), some (.int x1), some (.int x2), some (.int (nI 0))]) (st' := [.int (nI 0)]) [.iconst 0, .istore_n 3, .iload_n 3] (by decide +kernel) rfl ?_
        refine q_if_eq 158 (off := 33) (by decide +kernel) (by decide) (fun _ => ?_) (fun c9 => absurd (by decide) c9)
        refine q_blk (pc' := 162) (lo' := [some (.ref a0), some (.int x1), some (.int x2), some (.int (nI 0))]) (st' := [.int x1, .int (nI 24), .ref a0]) [.aload_n 0, .bipush 24, .iload_n 1] (by decide +kernel) rfl ?_
        refine q_callV (ci := 11) (Mc := M_X11_joins) (z := 2) (b := a0) (As := [.int (nI 24), .int x1]) (st := []) mo_X11_joins mi_X11_joins ml_X11_214_X11_joins rfl rfl (by decide) rfl (by decide) (by decide) rfl (Nat.le_of_ble_eq_true rfl) (by decide +kernel) s9 h (q_fV fun A31 h => ?_)
        show q_Wp _ _ _ _ 0 0 165 [some (.ref a0), some (.int x1), some (.int x2), some (.int (nI 0))] [] A31
        refine q_blk (pc' := 166) (lo' := [some (.ref a0), some (.int x1), some (.int x2), some (.int (nI 0))]) (st' := [.ref a0]) [.aload_n 0] (by decide +kernel) rfl ?_
        obtain ⟨s33, h⟩ := h
        obtain ⟨r34, e35, h⟩ := h
        refine q_getR fl_X11_30 rfl (by decide) (by decide +kernel) s33 e35 ?_
        refine q_blk (pc' := 174) (lo' := [some (.ref a0), some (.int x1), some (.int x2), some (.int (nI 0))]) (st' := [.int (-1), .int (x1 + (nI 6)), .ref r34]) [.iload_n 1, .bipush 6, .iadd, .iconst (-1)] (by decide +kernel) rfl ?_
        obtain ⟨z37, s36, b38, h⟩ := h
        obtain ⟨j39, e40, h⟩ := h
        obtain ⟨l41, h⟩ := h
        refine q_iast e40 (by decide +kernel) s36 l41 b38 ?_
        exact q_ret0 rfl (by decide) (by decide) (by decide +kernel) ⟨rfl, h⟩
      · have h := h.2 c29
        refine q_blk (pc' := 89) (lo' := [some (.ref a0), some (.int x1), some (.int x2), some (.int x3)]) (st' := [.ref a0]) [.aload_n 0] (by decide +kernel) rfl ?_
        refine q_getR fl_X11_30 rfl (by decide) (by decide +kernel) s9 e11 ?_
        refine q_blk (pc' := 96) (lo' := [some (.ref a0), some (.int x1), some (.int x2), some (.int x3)]) (st' := [.int (x1 + (nI 6)), .ref r10]) [.iload_n 1, .bipush 6, .iadd] (by decide +kernel) rfl ?_
        obtain ⟨j42, e43, h⟩ := h
        obtain ⟨l44, h⟩ := h
        refine q_iald e43 (by decide +kernel) s12 l44 b14 ?_
        refine q_blk (pc' := 98) (lo' := [some (.ref a0), some (.int x1), some (.int x2), some (.int x3)]) (st' := [.ref a0, .int (q_I A5 r10 j42)]) [.aload_n 0] (by decide +kernel) rfl ?_
        refine q_getR fl_X11_30 rfl (by decide) (by decide +kernel) s9 e11 ?_
        refine q_blk (pc' := 102) (lo' := [some (.ref a0), some (.int x1), some (.int x2), some (.int x3)]) (st' := [.int (nI 5), .ref r10, .int (q_I A5 r10 j42)]) [.iconst 5] (by decide +kernel) rfl ?_
        obtain ⟨l45, h⟩ := h
        refine q_iald rfl (by decide +kernel) s12 l45 b14 ?_
        refine q_icmp_ge 122 (off := 19) (by decide +kernel) (by decide) (fun c46 => ?_) (fun c46 => ?_)
        · have h := h.1 c46
          refine q_blk (pc' := 125) (lo' := [some (.ref a0), some (.int x1), some (.int x2), some (.int (nI 0))]) (st' := [.int (nI 0)]) [.iconst 0, .istore_n 3, .iload_n 3] (by decide +kernel) rfl ?_
          refine q_if_eq 158 (off := 33) (by decide +kernel) (by decide) (fun _ => ?_) (fun c9 => absurd (by decide) c9)
          refine q_blk (pc' := 162) (lo' := [some (.ref a0), some (.int x1), some (.int x2), some (.int (nI 0))]) (st' := [.int x1, .int (nI 24), .ref a0]) [.aload_n 0, .bipush 24, .iload_n 1] (by decide +kernel) rfl ?_
          refine q_callV (ci := 11) (Mc := M_X11_joins) (z := 2) (b := a0) (As := [.int (nI 24), .int x1]) (st := []) mo_X11_joins mi_X11_joins ml_X11_214_X11_joins rfl rfl (by decide) rfl (by decide) (by decide) rfl (Nat.le_of_ble_eq_true rfl) (by decide +kernel) s9 h (q_fV fun A48 h => ?_)
          show q_Wp _ _ _ _ 0 0 165 [some (.ref a0), some (.int x1), some (.int x2), some (.int (nI 0))] [] A48
          refine q_blk (pc' := 166) (lo' := [some (.ref a0), some (.int x1), some (.int x2), some (.int (nI 0))]) (st' := [.ref a0]) [.aload_n 0] (by decide +kernel) rfl ?_
          obtain ⟨s50, h⟩ := h
          obtain ⟨r51, e52, h⟩ := h
          refine q_getR fl_X11_30 rfl (by decide) (by decide +kernel) s50 e52 ?_
          refine q_blk (pc' := 174) (lo' := [some (.ref a0), some (.int x1), some (.int x2), some (.int (nI 0))]) (st' := [.int (-1), .int (x1 + (nI 6)), .ref r51]) [.iload_n 1, .bipush 6, .iadd, .iconst (-1)] (by decide +kernel) rfl ?_
          obtain ⟨z54, s53, b55, h⟩ := h
          obtain ⟨l56, h⟩ := h
          refine q_iast e43 (by decide +kernel) s53 l56 b55 ?_
          exact q_ret0 rfl (by decide) (by decide) (by decide +kernel) ⟨rfl, h⟩
        · have h := h.2 c46
          refine q_blk (pc' := 107) (lo' := [some (.ref a0), some (.int x1), some (.int x2), some (.int x3)]) (st' := [.ref a0]) [.aload_n 0] (by decide +kernel) rfl ?_
          refine q_getR fl_X11_30 rfl (by decide) (by decide +kernel) s9 e11 ?_
          refine q_blk (pc' := 112) (lo' := [some (.ref a0), some (.int x1), some (.int x2), some (.int x3)]) (st' := [.int (nI 9), .ref r10]) [.bipush 9] (by decide +kernel) rfl ?_
          obtain ⟨l57, h⟩ := h
          refine q_iald rfl (by decide +kernel) s12 l57 b14 ?_
          refine q_blk (pc' := 115) (lo' := [some (.ref a0), some (.int x1), some (.int x2), some (.int x3)]) (st' := [.int (nI 30), .int (q_I A5 r10 9)]) [.bipush 30] (by decide +kernel) rfl ?_
          refine q_icmp_ge 122 (off := 7) (by decide +kernel) (by decide) (fun c58 => ?_) (fun c58 => ?_)
          · have h := h.1 c58
            refine q_blk (pc' := 125) (lo' := [some (.ref a0), some (.int x1), some (.int x2), some (.int (nI 0))]) (st' := [.int (nI 0)]) [.iconst 0, .istore_n 3, .iload_n 3] (by decide +kernel) rfl ?_
            refine q_if_eq 158 (off := 33) (by decide +kernel) (by decide) (fun _ => ?_) (fun c9 => absurd (by decide) c9)
            refine q_blk (pc' := 162) (lo' := [some (.ref a0), some (.int x1), some (.int x2), some (.int (nI 0))]) (st' := [.int x1, .int (nI 24), .ref a0]) [.aload_n 0, .bipush 24, .iload_n 1] (by decide +kernel) rfl ?_
            refine q_callV (ci := 11) (Mc := M_X11_joins) (z := 2) (b := a0) (As := [.int (nI 24), .int x1]) (st := []) mo_X11_joins mi_X11_joins ml_X11_214_X11_joins rfl rfl (by decide) rfl (by decide) (by decide) rfl (Nat.le_of_ble_eq_true rfl) (by decide +kernel) s9 h (q_fV fun A60 h => ?_)
            show q_Wp _ _ _ _ 0 0 165 [some (.ref a0), some (.int x1), some (.int x2), some (.int (nI 0))] [] A60
            refine q_blk (pc' := 166) (lo' := [some (.ref a0), some (.int x1), some (.int x2), some (.int (nI 0))]) (st' := [.ref a0]) [.aload_n 0] (by decide +kernel) rfl ?_
            obtain ⟨s62, h⟩ := h
            obtain ⟨r63, e64, h⟩ := h
            refine q_getR fl_X11_30 rfl (by decide) (by decide +kernel) s62 e64 ?_
            refine q_blk (pc' := 174) (lo' := [some (.ref a0), some (.int x1), some (.int x2), some (.int (nI 0))]) (st' := [.int (-1), .int (x1 + (nI 6)), .ref r63]) [.iload_n 1, .bipush 6, .iadd, .iconst (-1)] (by decide +kernel) rfl ?_
            obtain ⟨z66, s65, b67, h⟩ := h
            obtain ⟨l68, h⟩ := h
            refine q_iast e43 (by decide +kernel) s65 l68 b67 ?_
            exact q_ret0 rfl (by decide) (by decide) (by decide +kernel) ⟨rfl, h⟩
          · have h := h.2 c58
            refine q_blk (pc' := 119) (lo' := [some (.ref a0), some (.int x1), some (.int x2), some (.int x3)]) (st' := [.int (nI 1)]) [.iconst 1] (by decide +kernel) rfl ?_
            refine q_goto 123 (off := 4) (by decide +kernel) (by decide) ?_
            refine q_blk (pc' := 125) (lo' := [some (.ref a0), some (.int x1), some (.int x2), some (.int (nI 1))]) (st' := [.int (nI 1)]) [.istore_n 3, .iload_n 3] (by decide +kernel) rfl ?_
            refine q_if_eq 158 (off := 33) (by decide +kernel) (by decide) (fun c9 => absurd c9 (by decide)) (fun _ => ?_)
            refine q_blk (pc' := 131) (lo' := [some (.ref a0), some (.int x1), some (.int x2), some (.int (nI 1))]) (st' := [.ref a0, .int x1, .ref a0]) [.aload_n 0, .iload_n 1, .aload_n 0] (by decide +kernel) rfl ?_
            refine q_getR fl_X11_30 rfl (by decide) (by decide +kernel) s9 e11 ?_
            refine q_blk (pc' := 138) (lo' := [some (.ref a0), some (.int x1), some (.int x2), some (.int (nI 1))]) (st' := [.int (x1 + (nI 6)), .ref r10, .int x1, .ref a0]) [.iload_n 1, .bipush 6, .iadd] (by decide +kernel) rfl ?_
            refine q_iald e43 (by decide +kernel) s12 l44 b14 ?_
            refine q_blk (pc' := 141) (lo' := [some (.ref a0), some (.int x1), some (.int x2), some (.int (nI 1))]) (st' := [.int ((q_I A5 r10 j42) + (nI 1)), .int x1, .ref a0]) [.iconst 1, .iadd] (by decide +kernel) rfl ?_
            refine q_callV (ci := 11) (Mc := M_X11_waits) (z := 2) (b := a0) (As := [.int x1, .int ((q_I A5 r10 j42) + (nI 1))]) (st := []) mo_X11_waits mi_X11_waits ml_X11_210_X11_waits rfl rfl (by decide) rfl (by decide) (by decide) rfl (Nat.le_of_ble_eq_true rfl) (by decide +kernel) s9 h (q_fV fun A70 h => ?_)
            show q_Wp _ _ _ _ 0 0 144 [some (.ref a0), some (.int x1), some (.int x2), some (.int (nI 1))] [] A70
            refine q_blk (pc' := 145) (lo' := [some (.ref a0), some (.int x1), some (.int x2), some (.int (nI 1))]) (st' := [.ref a0]) [.aload_n 0] (by decide +kernel) rfl ?_
            obtain ⟨s72, h⟩ := h
            obtain ⟨r73, e74, h⟩ := h
            refine q_getR fl_X11_30 rfl (by decide) (by decide +kernel) s72 e74 ?_
            refine q_blk (pc' := 151) (lo' := [some (.ref a0), some (.int x1), some (.int x2), some (.int (nI 1))]) (st' := [.int (nI 15), .ref r73, .int (nI 15), .ref r73]) [.bipush 15, .dup2] (by decide +kernel) rfl ?_
            obtain ⟨z76, s75, b77, h⟩ := h
            obtain ⟨l78, h⟩ := h
            refine q_iald rfl (by decide +kernel) s75 l78 b77 ?_
            refine q_blk (pc' := 154) (lo' := [some (.ref a0), some (.int x1), some (.int x2), some (.int (nI 1))]) (st' := [.int ((q_I A70 r73 15) + (nI 1)), .int (nI 15), .ref r73]) [.iconst 1, .iadd] (by decide +kernel) rfl ?_
            refine q_iast rfl (by decide +kernel) s75 l78 b77 ?_
            refine q_goto 165 (off := 10) (by decide +kernel) (by decide) ?_
            refine q_blk (pc' := 166) (lo' := [some (.ref a0), some (.int x1), some (.int x2), some (.int (nI 1))]) (st' := [.ref a0]) [.aload_n 0] (by decide +kernel) rfl ?_
            refine q_getR fl_X11_30 rfl (by decide) (by decide +kernel) s72 e74 ?_
            refine q_blk (pc' := 174) (lo' := [some (.ref a0), some (.int x1), some (.int x2), some (.int (nI 1))]) (st' := [.int (-1), .int (x1 + (nI 6)), .ref r73]) [.iload_n 1, .bipush 6, .iadd, .iconst (-1)] (by decide +kernel) rfl ?_
            obtain ⟨l79, h⟩ := h
            refine q_iast e43 (by decide +kernel) s75 l79 b77 ?_
            exact q_ret0 rfl (by decide) (by decide) (by decide +kernel) ⟨rfl, h⟩
  · have h := h.2 c4
    refine q_blk (pc' := 39) (lo' := [some (.ref a0), some (.int x1), some (.int x2), some (.int x3)]) (st' := [.int x3, .ref a0, .int x2]) [.iload_n 2, .aload_n 0, .iload_n 3] (by decide +kernel) rfl ?_
    obtain ⟨s82, h⟩ := h
    refine q_callV (ci := 11) (Mc := M_X11_isTarget) (z := 1) (b := a0) (As := [.int x3]) (st := [.int x2]) mo_X11_isTarget mi_X11_isTarget ml_X11_207_X11_isTarget rfl rfl (by decide) rfl (by decide) (by decide) rfl (Nat.le_of_ble_eq_true rfl) (by decide +kernel) s82 h (q_fB fun b81 A80 h => ?_)
    show q_Wp _ _ _ _ 0 0 42 [some (.ref a0), some (.int x1), some (.int x2), some (.int x3)] [.int (q_i b81), .int x2] A80
    refine q_ifB_eq 56 (off := 14) (by decide +kernel) (by decide) (fun c83 => ?_) (fun c83 => ?_)
    · have h := h.2 c83
      refine q_blk (pc' := 62) (lo' := [some (.ref a0), some (.int x1), some (.int (x2 + (nI 0))), some (.int (x3 + (nI 1)))]) (st' := []) [.iconst 0, .iadd, .istore_n 2, .iinc 3 1] (by decide +kernel) rfl ?_
      refine q_goto 28 (off := -34) (by decide +kernel) (by decide) ?_
      exact h
    · have h := h.1 c83
      refine q_blk (pc' := 46) (lo' := [some (.ref a0), some (.int x1), some (.int x2), some (.int x3)]) (st' := [.ref a0, .int x2]) [.aload_n 0] (by decide +kernel) rfl ?_
      obtain ⟨s85, h⟩ := h
      obtain ⟨r86, e87, h⟩ := h
      refine q_getR fl_X11_30 rfl (by decide) (by decide +kernel) s85 e87 ?_
      refine q_blk (pc' := 52) (lo' := [some (.ref a0), some (.int x1), some (.int x2), some (.int x3)]) (st' := [.int (x1 + x3), .ref r86, .int x2]) [.iload_n 1, .iload_n 3, .iadd] (by decide +kernel) rfl ?_
      obtain ⟨z89, s88, b90, h⟩ := h
      obtain ⟨j91, e92, h⟩ := h
      obtain ⟨l93, h⟩ := h
      refine q_iald e92 (by decide +kernel) s88 l93 b90 ?_
      refine q_goto 57 (off := 4) (by decide +kernel) (by decide) ?_
      refine q_blk (pc' := 62) (lo' := [some (.ref a0), some (.int x1), some (.int (x2 + (q_I A80 r86 j91))), some (.int (x3 + (nI 1)))]) (st' := []) [.iadd, .istore_n 2, .iinc 3 1] (by decide +kernel) rfl ?_
      refine q_goto 28 (off := -34) (by decide +kernel) (by decide) ?_
      exact h
theorem f_X11_moves {G : q_G} {X : String → q_H → Prop} {f : q_H → Prop} {A : q_H} {a0 : Nat} (h : q_sh A a0 = (12, 0) ∧ q_Wc G M_X11_stations [.ref a0] A (q_KI fun r2 A1 => q_Wp G M_X11_moves (q_KV f) X 0 0 7 [some (.ref a0), some (.int (r2 - (nI 1))), none] [] A1) q_nX) : q_Wc G M_X11_moves [.ref a0] A (q_KV f) X := by
  refine q_Wc.of [some (.ref a0), none, none] mo_X11_moves.2.2.2.2.2 rfl (Nat.le_of_ble_eq_true rfl) rfl ?_
  refine q_blk (pc' := 1) (lo' := [some (.ref a0), none, none]) (st' := [.ref a0]) [.aload_n 0] (by decide +kernel) rfl ?_
  obtain ⟨s3, h⟩ := h
  refine q_callV (ci := 11) (Mc := M_X11_stations) (z := 0) (b := a0) (As := []) (st := []) mo_X11_stations mi_X11_stations ml_X11_182_X11_stations rfl rfl (by decide) rfl (by decide) (by decide) rfl (Nat.le_of_ble_eq_true rfl) (by decide +kernel) s3 h (q_fI fun r2 A1 h => ?_)
  show q_Wp _ _ _ _ 0 0 4 [some (.ref a0), none, none] [.int r2] A1
  refine q_blk (pc' := 7) (lo' := [some (.ref a0), some (.int (r2 - (nI 1))), none]) (st' := []) [.iconst 1, .isub, .istore_n 1] (by decide +kernel) rfl ?_
  exact h
theorem f_X11_moves_7 {G : q_G} {X : String → q_H → Prop} {f : q_H → Prop} {A : q_H} {a0 : Nat} {x1 : Int32} (h : ((x1 ≤ nI 0 → q_sh A a0 = (12, 0) ∧ ∃ r3 : Nat, q_R A a0 6 = some r3 ∧ q_Wc G M_X11_slotAt [.int (nI 0)] A (q_KI fun r6 A5 => ∃ z8 : Nat, q_sh A5 r3 = (50, z8) ∧ z8 < 2147483648 ∧ ∃ j10 : Nat, (r6 + (nI 6)) = nI j10 ∧ j10 < z8 ∧ q_sh A5 a0 = (12, 0) ∧ ∃ r14 : Nat, q_R A5 a0 6 = some r14 ∧ ∃ z17 : Nat, q_sh A5 r14 = (50, z17) ∧ z17 < 2147483648 ∧ 9 < z17 ∧ (((q_I (q_setI A5 r3 j10 (-1)) r14 9) = nI 0 → f (q_setI A5 r3 j10 (-1))) ∧ (¬ (q_I (q_setI A5 r3 j10 (-1)) r14 9) = nI 0 → q_Wc G M_X11_parcelAt [.int (nI 0)] (q_setI A5 r3 j10 (-1)) (q_KI fun r22 A21 => q_sh A21 a0 = (12, 0) ∧ ∃ r24 : Nat, q_R A21 a0 6 = some r24 ∧ ∃ z27 : Nat, q_sh A21 r24 = (50, z27) ∧ z27 < 2147483648 ∧ 0 < z27 ∧ q_Wc G M_X11_takes [.ref a0, .int r22, .int (q_I A21 r24 0)] A21 (q_KV fun A30 => q_Wc G M_X11_slotAt [.int (nI 0)] A30 (q_KI fun r33 A32 => q_sh A32 a0 = (12, 0) ∧ q_Wc G M_X11_lays_ [.ref a0, .int r33] A32 (q_KV fun A34 => q_sh A34 a0 = (12, 0) ∧ ∃ r38 : Nat, q_R A34 a0 6 = some r38 ∧ q_Wc G M_X11_slotAt [.int (nI 0)] A34 (q_KI fun r41 A40 => q_sh A40 a0 = (12, 0) ∧ ∃ r43 : Nat, q_R A40 a0 6 = some r43 ∧ ∃ z46 : Nat, q_sh A40 r43 = (50, z46) ∧ z46 < 2147483648 ∧ ∃ j48 : Nat, (r22 + (nI 6)) = nI j48 ∧ j48 < z46 ∧ ∃ z52 : Nat, q_sh A40 r38 = (50, z52) ∧ z52 < 2147483648 ∧ ∃ j54 : Nat, (r41 + (nI 6)) = nI j54 ∧ j54 < z52 ∧ q_Wc G M_X11_total [.ref a0, .int r22] (q_setI A40 r38 j54 (q_I A40 r43 j48)) (q_KI fun r58 A57 => ((r58 ≤ nI 0 → q_sh A57 a0 = (12, 0) ∧ ∃ r61 : Nat, q_R A57 a0 6 = some r61 ∧ ∃ z64 : Nat, q_sh A57 r61 = (50, z64) ∧ z64 < 2147483648 ∧ 9 < z64 ∧ q_Wp G M_X11_moves (q_KV f) X 0 0 146 [some (.ref a0), none, some (.int r22)] [] (q_setI A57 r61 9 ((q_I A57 r61 9) - (nI 1)))) ∧ (¬ r58 ≤ nI 0 → f A57))) q_nX) q_nX) q_nX) q_nX) q_nX) q_nX))) q_nX) ∧ (¬ x1 ≤ nI 0 → q_Wp G M_X11_moves (q_KV f) X 0 0 13 [some (.ref a0), some (.int x1), some (.int (nI 0))] [] A))) : q_Wp G M_X11_moves (q_KV f) X 0 0 7 [some (.ref a0), some (.int x1), none] [] A := by
  refine q_blk (pc' := 8) (lo' := [some (.ref a0), some (.int x1), none]) (st' := [.int x1]) [.iload_n 1] (by decide +kernel) rfl ?_
  refine q_if_le 55 (off := 47) (by decide +kernel) (by decide) (fun c1 => ?_) (fun c1 => ?_)
  · have h := h.1 c1
    refine q_blk (pc' := 56) (lo' := [some (.ref a0), some (.int x1), none]) (st' := [.ref a0]) [.aload_n 0] (by decide +kernel) rfl ?_
    obtain ⟨s2, h⟩ := h
    obtain ⟨r3, e4, h⟩ := h
    refine q_getR fl_X11_30 rfl (by decide) (by decide +kernel) s2 e4 ?_
    refine q_blk (pc' := 60) (lo' := [some (.ref a0), some (.int x1), none]) (st' := [.int (nI 0), .ref r3]) [.iconst 0] (by decide +kernel) rfl ?_
    refine q_callS (Mc := M_X11_slotAt) (z := 1) (As := [.int (nI 0)]) (st := [.ref r3]) mo_X11_slotAt ms_X11_slotAt ml_X11_204_X11_slotAt rfl rfl (by decide) (by decide) rfl (Nat.le_of_ble_eq_true rfl) (by decide +kernel) h (q_fI fun r6 A5 h => ?_)
    show q_Wp _ _ _ _ 0 0 63 [some (.ref a0), some (.int x1), none] [.int r6, .ref r3] A5
    refine q_blk (pc' := 67) (lo' := [some (.ref a0), some (.int x1), none]) (st' := [.int (-1), .int (r6 + (nI 6)), .ref r3]) [.bipush 6, .iadd, .iconst (-1)] (by decide +kernel) rfl ?_
    obtain ⟨z8, s7, b9, h⟩ := h
    obtain ⟨j10, e11, h⟩ := h
    obtain ⟨l12, h⟩ := h
    refine q_iast e11 (by decide +kernel) s7 l12 b9 ?_
    refine q_blk (pc' := 69) (lo' := [some (.ref a0), some (.int x1), none]) (st' := [.ref a0]) [.aload_n 0] (by decide +kernel) rfl ?_
    obtain ⟨s13, h⟩ := h
    obtain ⟨r14, e15, h⟩ := h
    refine q_getR fl_X11_30 rfl (by decide) (by decide +kernel) s13 e15 ?_
    refine q_blk (pc' := 74) (lo' := [some (.ref a0), some (.int x1), none]) (st' := [.int (nI 9), .ref r14]) [.bipush 9] (by decide +kernel) rfl ?_
    obtain ⟨z17, s16, b18, h⟩ := h
    obtain ⟨l19, h⟩ := h
    refine q_iald rfl (by decide +kernel) s16 l19 b18 ?_
    refine q_if_ne 79 (off := 4) (by decide +kernel) (by decide) (fun c20 => ?_) (fun c20 => ?_)
    · have h := h.2 c20
      refine q_blk (pc' := 80) (lo' := [some (.ref a0), some (.int x1), none]) (st' := [.int (nI 0)]) [.iconst 0] (by decide +kernel) rfl ?_
      refine q_callS (Mc := M_X11_parcelAt) (z := 1) (As := [.int (nI 0)]) (st := []) mo_X11_parcelAt ms_X11_parcelAt ml_X11_145_X11_parcelAt rfl rfl (by decide) (by decide) rfl (Nat.le_of_ble_eq_true rfl) (by decide +kernel) h (q_fI fun r22 A21 h => ?_)
      show q_Wp _ _ _ _ 0 0 83 [some (.ref a0), some (.int x1), none] [.int r22] A21
      refine q_blk (pc' := 87) (lo' := [some (.ref a0), some (.int r22), none]) (st' := [.ref a0, .int r22, .ref a0]) [.istore_n 1, .aload_n 0, .iload_n 1, .aload_n 0] (by decide +kernel) rfl ?_
      obtain ⟨s23, h⟩ := h
      obtain ⟨r24, e25, h⟩ := h
      refine q_getR fl_X11_30 rfl (by decide) (by decide +kernel) s23 e25 ?_
      refine q_blk (pc' := 91) (lo' := [some (.ref a0), some (.int r22), none]) (st' := [.int (nI 0), .ref r24, .int r22, .ref a0]) [.iconst 0] (by decide +kernel) rfl ?_
      obtain ⟨z27, s26, b28, h⟩ := h
      obtain ⟨l29, h⟩ := h
      refine q_iald rfl (by decide +kernel) s26 l29 b28 ?_
      refine q_callV (ci := 11) (Mc := M_X11_takes) (z := 2) (b := a0) (As := [.int r22, .int (q_I A21 r24 0)]) (st := []) mo_X11_takes mi_X11_takes ml_X11_217_X11_takes rfl rfl (by decide) rfl (by decide) (by decide) rfl (Nat.le_of_ble_eq_true rfl) (by decide +kernel) s23 h (q_fV fun A30 h => ?_)
      show q_Wp _ _ _ _ 0 0 95 [some (.ref a0), some (.int r22), none] [] A30
      refine q_blk (pc' := 97) (lo' := [some (.ref a0), some (.int r22), none]) (st' := [.int (nI 0), .ref a0]) [.aload_n 0, .iconst 0] (by decide +kernel) rfl ?_
      refine q_callS (Mc := M_X11_slotAt) (z := 1) (As := [.int (nI 0)]) (st := [.ref a0]) mo_X11_slotAt ms_X11_slotAt ml_X11_204_X11_slotAt rfl rfl (by decide) (by decide) rfl (Nat.le_of_ble_eq_true rfl) (by decide +kernel) h (q_fI fun r33 A32 h => ?_)
      show q_Wp _ _ _ _ 0 0 100 [some (.ref a0), some (.int r22), none] [.int r33, .ref a0] A32
      obtain ⟨s36, h⟩ := h
      refine q_callV (ci := 11) (Mc := M_X11_lays_) (z := 1) (b := a0) (As := [.int r33]) (st := []) mo_X11_lays_ mi_X11_lays_ ml_X11_220_X11_lays_ rfl rfl (by decide) rfl (by decide) (by decide) rfl (Nat.le_of_ble_eq_true rfl) (by decide +kernel) s36 h (q_fV fun A34 h => ?_)
      show q_Wp _ _ _ _ 0 0 103 [some (.ref a0), some (.int r22), none] [] A34
      refine q_blk (pc' := 104) (lo' := [some (.ref a0), some (.int r22), none]) (st' := [.ref a0]) [.aload_n 0] (by decide +kernel) rfl ?_
      obtain ⟨s37, h⟩ := h
      obtain ⟨r38, e39, h⟩ := h
      refine q_getR fl_X11_30 rfl (by decide) (by decide +kernel) s37 e39 ?_
      refine q_blk (pc' := 108) (lo' := [some (.ref a0), some (.int r22), none]) (st' := [.int (nI 0), .ref r38]) [.iconst 0] (by decide +kernel) rfl ?_
      refine q_callS (Mc := M_X11_slotAt) (z := 1) (As := [.int (nI 0)]) (st := [.ref r38]) mo_X11_slotAt ms_X11_slotAt ml_X11_204_X11_slotAt rfl rfl (by decide) (by decide) rfl (Nat.le_of_ble_eq_true rfl) (by decide +kernel) h (q_fI fun r41 A40 h => ?_)
      show q_Wp _ _ _ _ 0 0 111 [some (.ref a0), some (.int r22), none] [.int r41, .ref r38] A40
      refine q_blk (pc' := 115) (lo' := [some (.ref a0), some (.int r22), none]) (st' := [.ref a0, .int (r41 + (nI 6)), .ref r38]) [.bipush 6, .iadd, .aload_n 0] (by decide +kernel) rfl ?_
      obtain ⟨s42, h⟩ := h
      obtain ⟨r43, e44, h⟩ := h
      refine q_getR fl_X11_30 rfl (by decide) (by decide +kernel) s42 e44 ?_
      refine q_blk (pc' := 122) (lo' := [some (.ref a0), some (.int r22), none]) (st' := [.int (r22 + (nI 6)), .ref r43, .int (r41 + (nI 6)), .ref r38]) [.iload_n 1, .bipush 6, .iadd] (by decide +kernel) rfl ?_
      obtain ⟨z46, s45, b47, h⟩ := h
      obtain ⟨j48, e49, h⟩ := h
      obtain ⟨l50, h⟩ := h
      refine q_iald e49 (by decide +kernel) s45 l50 b47 ?_
      obtain ⟨z52, s51, b53, h⟩ := h
      obtain ⟨j54, e55, h⟩ := h
      obtain ⟨l56, h⟩ := h
      refine q_iast e55 (by decide +kernel) s51 l56 b53 ?_
      refine q_blk (pc' := 126) (lo' := [some (.ref a0), some (.int r22), none]) (st' := [.int r22, .ref a0]) [.aload_n 0, .iload_n 1] (by decide +kernel) rfl ?_
      refine q_callV (ci := 11) (Mc := M_X11_total) (z := 1) (b := a0) (As := [.int r22]) (st := []) mo_X11_total mi_X11_total ml_X11_189_X11_total rfl rfl (by decide) rfl (by decide) (by decide) rfl (Nat.le_of_ble_eq_true rfl) (by decide +kernel) s42 h (q_fI fun r58 A57 h => ?_)
      show q_Wp _ _ _ _ 0 0 129 [some (.ref a0), some (.int r22), none] [.int r58] A57
      refine q_if_le 133 (off := 4) (by decide +kernel) (by decide) (fun c59 => ?_) (fun c59 => ?_)
      · have h := h.1 c59
        refine q_blk (pc' := 134) (lo' := [some (.ref a0), some (.int r22), none]) (st' := [.ref a0]) [.aload_n 0] (by decide +kernel) rfl ?_
        obtain ⟨s60, h⟩ := h
        obtain ⟨r61, e62, h⟩ := h
        refine q_getR fl_X11_30 rfl (by decide) (by decide +kernel) s60 e62 ?_
        refine q_blk (pc' := 140) (lo' := [some (.ref a0), some (.int r22), none]) (st' := [.int (nI 9), .ref r61, .int (nI 9), .ref r61]) [.bipush 9, .dup2] (by decide +kernel) rfl ?_
        obtain ⟨z64, s63, b65, h⟩ := h
        obtain ⟨l66, h⟩ := h
        refine q_iald rfl (by decide +kernel) s63 l66 b65 ?_
        refine q_blk (pc' := 143) (lo' := [some (.ref a0), some (.int r22), none]) (st' := [.int ((q_I A57 r61 9) - (nI 1)), .int (nI 9), .ref r61]) [.iconst 1, .isub] (by decide +kernel) rfl ?_
        refine q_iast rfl (by decide +kernel) s63 l66 b65 ?_
        refine q_blk (pc' := 146) (lo' := [some (.ref a0), some (.int r22), some (.int r22)]) (st' := []) [.iload_n 1, .istore_n 2] (by decide +kernel) rfl ?_
        exact q_wk [some (.ref a0), none, some (.int r22)] (And.intro rfl (And.intro rfl trivial)) h
      · have h := h.2 c59
        exact q_ret0 rfl (by decide) (by decide) (by decide +kernel) ⟨rfl, h⟩
    · have h := h.1 c20
      exact q_ret0 rfl (by decide) (by decide) (by decide +kernel) ⟨rfl, h⟩
  · have h := h.2 c1
    refine q_blk (pc' := 13) (lo' := [some (.ref a0), some (.int x1), some (.int (nI 0))]) (st' := []) [.iconst 0, .istore_n 2] (by decide +kernel) rfl ?_
    exact h
theorem f_X11_moves_146 {G : q_G} {X : String → q_H → Prop} {f : q_H → Prop} {A : q_H} {a0 : Nat} {x2 : Int32} (h : q_sh A a0 = (12, 0) ∧ ∃ r2 : Nat, q_R A a0 6 = some r2 ∧ ∃ z5 : Nat, q_sh A r2 = (50, z5) ∧ z5 < 2147483648 ∧ 9 < z5 ∧ q_Wc G M_X11_parcelAt [.int (q_I A r2 9)] A (q_KI fun r9 A8 => ((r9 ≤ x2 → f A8) ∧ (¬ r9 ≤ x2 → q_sh A8 a0 = (12, 0) ∧ ∃ r12 : Nat, q_R A8 a0 6 = some r12 ∧ ∃ z15 : Nat, q_sh A8 r12 = (50, z15) ∧ z15 < 2147483648 ∧ ∃ j17 : Nat, (x2 + (nI 7)) = nI j17 ∧ j17 < z15 ∧ ∃ j20 : Nat, x2 = nI j20 ∧ j20 < z15 ∧ q_Wp G M_X11_moves (q_KV f) X 0 0 146 [some (.ref a0), none, some (.int (x2 + (nI 1)))] [] (q_setI A8 r12 j20 (q_I A8 r12 j17))))) q_nX) : q_Wp G M_X11_moves (q_KV f) X 0 0 146 [some (.ref a0), none, some (.int x2)] [] A := by
  refine q_blk (pc' := 148) (lo' := [some (.ref a0), none, some (.int x2)]) (st' := [.ref a0, .int x2]) [.iload_n 2, .aload_n 0] (by decide +kernel) rfl ?_
  obtain ⟨s1, h⟩ := h
  obtain ⟨r2, e3, h⟩ := h
  refine q_getR fl_X11_30 rfl (by decide) (by decide +kernel) s1 e3 ?_
  refine q_blk (pc' := 153) (lo' := [some (.ref a0), none, some (.int x2)]) (st' := [.int (nI 9), .ref r2, .int x2]) [.bipush 9] (by decide +kernel) rfl ?_
  obtain ⟨z5, s4, b6, h⟩ := h
  obtain ⟨l7, h⟩ := h
  refine q_iald rfl (by decide +kernel) s4 l7 b6 ?_
  refine q_callS (Mc := M_X11_parcelAt) (z := 1) (As := [.int (q_I A r2 9)]) (st := [.int x2]) mo_X11_parcelAt ms_X11_parcelAt ml_X11_145_X11_parcelAt rfl rfl (by decide) (by decide) rfl (Nat.le_of_ble_eq_true rfl) (by decide +kernel) h (q_fI fun r9 A8 h => ?_)
  show q_Wp _ _ _ _ 0 0 157 [some (.ref a0), none, some (.int x2)] [.int r9, .int x2] A8
  refine q_icmp_ge 181 (off := 24) (by decide +kernel) (by decide) (fun c10 => ?_) (fun c10 => ?_)
  · have h := h.1 c10
    exact q_ret0 rfl (by decide) (by decide) (by decide +kernel) ⟨rfl, h⟩
  · have h := h.2 c10
    refine q_blk (pc' := 161) (lo' := [some (.ref a0), none, some (.int x2)]) (st' := [.ref a0]) [.aload_n 0] (by decide +kernel) rfl ?_
    obtain ⟨s11, h⟩ := h
    obtain ⟨r12, e13, h⟩ := h
    refine q_getR fl_X11_30 rfl (by decide) (by decide +kernel) s11 e13 ?_
    refine q_blk (pc' := 166) (lo' := [some (.ref a0), none, some (.int x2)]) (st' := [.ref a0, .int x2, .ref r12]) [.iload_n 2, .aload_n 0] (by decide +kernel) rfl ?_
    refine q_getR fl_X11_30 rfl (by decide) (by decide +kernel) s11 e13 ?_
    refine q_blk (pc' := 173) (lo' := [some (.ref a0), none, some (.int x2)]) (st' := [.int (x2 + (nI 7)), .ref r12, .int x2, .ref r12]) [.iload_n 2, .bipush 7, .iadd] (by decide +kernel) rfl ?_
    obtain ⟨z15, s14, b16, h⟩ := h
    obtain ⟨j17, e18, h⟩ := h
    obtain ⟨l19, h⟩ := h
    refine q_iald e18 (by decide +kernel) s14 l19 b16 ?_
    obtain ⟨j20, e21, h⟩ := h
    obtain ⟨l22, h⟩ := h
    refine q_iast e21 (by decide +kernel) s14 l22 b16 ?_
    refine q_blk (pc' := 178) (lo' := [some (.ref a0), none, some (.int (x2 + (nI 1)))]) (st' := []) [.iinc 2 1] (by decide +kernel) rfl ?_
    refine q_goto 146 (off := -32) (by decide +kernel) (by decide) ?_
    exact h
theorem f_X11_moves_13 {G : q_G} {X : String → q_H → Prop} {f : q_H → Prop} {A : q_H} {a0 : Nat} {x1 : Int32} {x2 : Int32} (h : (((nI 6) < x2 → q_Wp G M_X11_moves (q_KV f) X 0 0 7 [some (.ref a0), some (.int (x1 + Int32.ofInt (-1))), none] [] A) ∧ (¬ (nI 6) < x2 → q_sh A a0 = (12, 0) ∧ ∃ r3 : Nat, q_R A a0 6 = some r3 ∧ q_Wc G M_X11_slotAt [.int x1] A (q_KI fun r6 A5 => q_sh A5 a0 = (12, 0) ∧ ∃ r8 : Nat, q_R A5 a0 6 = some r8 ∧ q_Wc G M_X11_slotAt [.int (x1 - (nI 1))] A5 (q_KI fun r11 A10 => ∃ z13 : Nat, q_sh A10 r8 = (50, z13) ∧ z13 < 2147483648 ∧ ∃ j15 : Nat, (r11 + x2) = nI j15 ∧ j15 < z13 ∧ ∃ z19 : Nat, q_sh A10 r3 = (50, z19) ∧ z19 < 2147483648 ∧ ∃ j21 : Nat, (r6 + x2) = nI j21 ∧ j21 < z19 ∧ q_Wp G M_X11_moves (q_KV f) X 0 0 13 [some (.ref a0), some (.int x1), some (.int (x2 + (nI 1)))] [] (q_setI A10 r3 j21 (q_I A10 r8 j15))) q_nX) q_nX))) : q_Wp G M_X11_moves (q_KV f) X 0 0 13 [some (.ref a0), some (.int x1), some (.int x2)] [] A := by
  refine q_blk (pc' := 16) (lo' := [some (.ref a0), some (.int x1), some (.int x2)]) (st' := [.int (nI 6), .int x2]) [.iload_n 2, .bipush 6] (by decide +kernel) rfl ?_
  refine q_icmp_gt 49 (off := 33) (by decide +kernel) (by decide) (fun c1 => ?_) (fun c1 => ?_)
  · have h := h.1 c1
    refine q_blk (pc' := 52) (lo' := [some (.ref a0), some (.int (x1 + Int32.ofInt (-1))), some (.int x2)]) (st' := []) [.iinc 1 (-1)] (by decide +kernel) rfl ?_
    refine q_goto 7 (off := -45) (by decide +kernel) (by decide) ?_
    exact q_wk [some (.ref a0), some (.int (x1 + Int32.ofInt (-1))), none] (And.intro rfl (And.intro rfl trivial)) h
  · have h := h.2 c1
    refine q_blk (pc' := 20) (lo' := [some (.ref a0), some (.int x1), some (.int x2)]) (st' := [.ref a0]) [.aload_n 0] (by decide +kernel) rfl ?_
    obtain ⟨s2, h⟩ := h
    obtain ⟨r3, e4, h⟩ := h
    refine q_getR fl_X11_30 rfl (by decide) (by decide +kernel) s2 e4 ?_
    refine q_blk (pc' := 24) (lo' := [some (.ref a0), some (.int x1), some (.int x2)]) (st' := [.int x1, .ref r3]) [.iload_n 1] (by decide +kernel) rfl ?_
    refine q_callS (Mc := M_X11_slotAt) (z := 1) (As := [.int x1]) (st := [.ref r3]) mo_X11_slotAt ms_X11_slotAt ml_X11_204_X11_slotAt rfl rfl (by decide) (by decide) rfl (Nat.le_of_ble_eq_true rfl) (by decide +kernel) h (q_fI fun r6 A5 h => ?_)
    show q_Wp _ _ _ _ 0 0 27 [some (.ref a0), some (.int x1), some (.int x2)] [.int r6, .ref r3] A5
    refine q_blk (pc' := 30) (lo' := [some (.ref a0), some (.int x1), some (.int x2)]) (st' := [.ref a0, .int (r6 + x2), .ref r3]) [.iload_n 2, .iadd, .aload_n 0] (by decide +kernel) rfl ?_
    obtain ⟨s7, h⟩ := h
    obtain ⟨r8, e9, h⟩ := h
    refine q_getR fl_X11_30 rfl (by decide) (by decide +kernel) s7 e9 ?_
    refine q_blk (pc' := 36) (lo' := [some (.ref a0), some (.int x1), some (.int x2)]) (st' := [.int (x1 - (nI 1)), .ref r8, .int (r6 + x2), .ref r3]) [.iload_n 1, .iconst 1, .isub] (by decide +kernel) rfl ?_
    refine q_callS (Mc := M_X11_slotAt) (z := 1) (As := [.int (x1 - (nI 1))]) (st := [.ref r8, .int (r6 + x2), .ref r3]) mo_X11_slotAt ms_X11_slotAt ml_X11_204_X11_slotAt rfl rfl (by decide) (by decide) rfl (Nat.le_of_ble_eq_true rfl) (by decide +kernel) h (q_fI fun r11 A10 h => ?_)
    show q_Wp _ _ _ _ 0 0 39 [some (.ref a0), some (.int x1), some (.int x2)] [.int r11, .ref r8, .int (r6 + x2), .ref r3] A10
    refine q_blk (pc' := 41) (lo' := [some (.ref a0), some (.int x1), some (.int x2)]) (st' := [.int (r11 + x2), .ref r8, .int (r6 + x2), .ref r3]) [.iload_n 2, .iadd] (by decide +kernel) rfl ?_
    obtain ⟨z13, s12, b14, h⟩ := h
    obtain ⟨j15, e16, h⟩ := h
    obtain ⟨l17, h⟩ := h
    refine q_iald e16 (by decide +kernel) s12 l17 b14 ?_
    obtain ⟨z19, s18, b20, h⟩ := h
    obtain ⟨j21, e22, h⟩ := h
    obtain ⟨l23, h⟩ := h
    refine q_iast e22 (by decide +kernel) s18 l23 b20 ?_
    refine q_blk (pc' := 46) (lo' := [some (.ref a0), some (.int x1), some (.int (x2 + (nI 1)))]) (st' := []) [.iinc 2 1] (by decide +kernel) rfl ?_
    refine q_goto 13 (off := -33) (by decide +kernel) (by decide) ?_
    exact h
theorem f_X11_capacity {G : q_G} {X : String → q_H → Prop} {f : Int32 → q_H → Prop} {A : q_H} {a0 : Nat} {x1 : Int32} (h : q_sh A a0 = (12, 0) ∧ ∃ r2 : Nat, q_R A a0 6 = some r2 ∧ q_Wc G M_X11_placeAt [.int x1, .int (nI 0)] A (q_KI fun r5 A4 => ∃ z7 : Nat, q_sh A4 r2 = (50, z7) ∧ z7 < 2147483648 ∧ ∃ j9 : Nat, r5 = nI j9 ∧ j9 < z7 ∧ q_sh A4 a0 = (12, 0) ∧ ∃ r13 : Nat, q_R A4 a0 2 = some r13 ∧ ∃ z16 : Nat, q_sh A4 r13 = (50, z16) ∧ z16 < 2147483648 ∧ ∃ j18 : Nat, (((nI 3) + ((nI 3) * x1)) + (nI 1)) = nI j18 ∧ j18 < z16 ∧ ∃ r21 : Nat, q_R A4 a0 6 = some r21 ∧ q_Wc G M_X11_placeAt [.int x1, .int (nI 1)] A4 (q_KI fun r24 A23 => ∃ z26 : Nat, q_sh A23 r21 = (50, z26) ∧ z26 < 2147483648 ∧ ∃ j28 : Nat, r24 = nI j28 ∧ j28 < z26 ∧ f ((((q_I A4 r2 j9) * (q_I A4 r13 j18)) * ((nI 100) - (q_I A23 r21 j28))) / (nI 100)) A23) q_nX) q_nX) : q_Wc G M_X11_capacity [.ref a0, .int x1] A (q_KI f) X := by
  refine q_Wc.of [some (.ref a0), some (.int x1)] mo_X11_capacity.2.2.2.2.2 rfl (Nat.le_of_ble_eq_true rfl) rfl ?_
  refine q_blk (pc' := 1) (lo' := [some (.ref a0), some (.int x1)]) (st' := [.ref a0]) [.aload_n 0] (by decide +kernel) rfl ?_
  obtain ⟨s1, h⟩ := h
  obtain ⟨r2, e3, h⟩ := h
  refine q_getR fl_X11_30 rfl (by decide) (by decide +kernel) s1 e3 ?_
  refine q_blk (pc' := 6) (lo' := [some (.ref a0), some (.int x1)]) (st' := [.int (nI 0), .int x1, .ref r2]) [.iload_n 1, .iconst 0] (by decide +kernel) rfl ?_
  refine q_callS (Mc := M_X11_placeAt) (z := 2) (As := [.int x1, .int (nI 0)]) (st := [.ref r2]) mo_X11_placeAt ms_X11_placeAt ml_X11_141_X11_placeAt rfl rfl (by decide) (by decide) rfl (Nat.le_of_ble_eq_true rfl) (by decide +kernel) h (q_fI fun r5 A4 h => ?_)
  show q_Wp _ _ _ _ 0 0 9 [some (.ref a0), some (.int x1)] [.int r5, .ref r2] A4
  obtain ⟨z7, s6, b8, h⟩ := h
  obtain ⟨j9, e10, h⟩ := h
  obtain ⟨l11, h⟩ := h
  refine q_iald e10 (by decide +kernel) s6 l11 b8 ?_
  refine q_blk (pc' := 11) (lo' := [some (.ref a0), some (.int x1)]) (st' := [.ref a0, .int (q_I A4 r2 j9)]) [.aload_n 0] (by decide +kernel) rfl ?_
  obtain ⟨s12, h⟩ := h
  obtain ⟨r13, e14, h⟩ := h
  refine q_getR fl_X11_17 rfl (by decide) (by decide +kernel) s12 e14 ?_
  refine q_blk (pc' := 21) (lo' := [some (.ref a0), some (.int x1)]) (st' := [.int (((nI 3) + ((nI 3) * x1)) + (nI 1)), .ref r13, .int (q_I A4 r2 j9)]) [.iconst 3, .iconst 3, .iload_n 1, .imul, .iadd, .iconst 1, .iadd] (by decide +kernel) rfl ?_
  obtain ⟨z16, s15, b17, h⟩ := h
  obtain ⟨j18, e19, h⟩ := h
  obtain ⟨l20, h⟩ := h
  refine q_iald e19 (by decide +kernel) s15 l20 b17 ?_
  refine q_blk (pc' := 26) (lo' := [some (.ref a0), some (.int x1)]) (st' := [.ref a0, .int (nI 100), .int ((q_I A4 r2 j9) * (q_I A4 r13 j18))]) [.imul, .bipush 100, .aload_n 0] (by decide +kernel) rfl ?_
  obtain ⟨r21, e22, h⟩ := h
  refine q_getR fl_X11_30 rfl (by decide) (by decide +kernel) s12 e22 ?_
  refine q_blk (pc' := 31) (lo' := [some (.ref a0), some (.int x1)]) (st' := [.int (nI 1), .int x1, .ref r21, .int (nI 100), .int ((q_I A4 r2 j9) * (q_I A4 r13 j18))]) [.iload_n 1, .iconst 1] (by decide +kernel) rfl ?_
  refine q_callS (Mc := M_X11_placeAt) (z := 2) (As := [.int x1, .int (nI 1)]) (st := [.ref r21, .int (nI 100), .int ((q_I A4 r2 j9) * (q_I A4 r13 j18))]) mo_X11_placeAt ms_X11_placeAt ml_X11_141_X11_placeAt rfl rfl (by decide) (by decide) rfl (Nat.le_of_ble_eq_true rfl) (by decide +kernel) h (q_fI fun r24 A23 h => ?_)
  show q_Wp _ _ _ _ 0 0 34 [some (.ref a0), some (.int x1)] [.int r24, .ref r21, .int (nI 100), .int ((q_I A4 r2 j9) * (q_I A4 r13 j18))] A23
  obtain ⟨z26, s25, b27, h⟩ := h
  obtain ⟨j28, e29, h⟩ := h
  obtain ⟨l30, h⟩ := h
  refine q_iald e29 (by decide +kernel) s25 l30 b27 ?_
  refine q_blk (pc' := 39) (lo' := [some (.ref a0), some (.int x1)]) (st' := [.int (nI 100), .int (((q_I A4 r2 j9) * (q_I A4 r13 j18)) * ((nI 100) - (q_I A23 r21 j28)))]) [.isub, .imul, .bipush 100] (by decide +kernel) rfl ?_
  refine q_idiv (by decide +kernel) (by decide) ?_
  exact q_retI rfl (by decide) (by decide) (by decide +kernel) ⟨_, rfl, h⟩
theorem f_X11_goes {G : q_G} {X : String → q_H → Prop} {f : q_H → Prop} {A : q_H} {a0 : Nat} {x1 : Int32} {x2 : Int32} {x3 : Int32} (h : q_sh A a0 = (12, 0) ∧ ∃ r2 : Nat, q_R A a0 6 = some r2 ∧ q_Wc G M_X11_slotAt [.int x1] A (q_KI fun r5 A4 => ∃ z7 : Nat, q_sh A4 r2 = (50, z7) ∧ z7 < 2147483648 ∧ ∃ j9 : Nat, (r5 + x2) = nI j9 ∧ j9 < z7 ∧ q_sh A4 a0 = (12, 0) ∧ ∃ r13 : Nat, q_R A4 a0 6 = some r13 ∧ q_Wc G M_X11_placeAt [.int x1, .int (nI 4)] (q_setI A4 r2 j9 ((q_I A4 r2 j9) - x3)) (q_KI fun r16 A15 => ∃ z18 : Nat, q_sh A15 r13 = (50, z18) ∧ z18 < 2147483648 ∧ ∃ j20 : Nat, (r16 + x2) = nI j20 ∧ j20 < z18 ∧ q_sh A15 a0 = (12, 0) ∧ ∃ r24 : Nat, q_R A15 a0 6 = some r24 ∧ q_Wc G M_X11_placeAt [.int x1, .int (nI 3)] (q_setI A15 r13 j20 ((q_I A15 r13 j20) + x3)) (q_KI fun r27 A26 => ∃ z29 : Nat, q_sh A26 r24 = (50, z29) ∧ z29 < 2147483648 ∧ ∃ j31 : Nat, r27 = nI j31 ∧ j31 < z29 ∧ f (q_setI A26 r24 j31 ((q_I A26 r24 j31) + x3))) q_nX) q_nX) q_nX) : q_Wc G M_X11_goes [.ref a0, .int x1, .int x2, .int x3] A (q_KV f) X := by
  refine q_Wc.of [some (.ref a0), some (.int x1), some (.int x2), some (.int x3)] mo_X11_goes.2.2.2.2.2 rfl (Nat.le_of_ble_eq_true rfl) rfl ?_
  refine q_blk (pc' := 1) (lo' := [some (.ref a0), some (.int x1), some (.int x2), some (.int x3)]) (st' := [.ref a0]) [.aload_n 0] (by decide +kernel) rfl ?_
  obtain ⟨s1, h⟩ := h
  obtain ⟨r2, e3, h⟩ := h
  refine q_getR fl_X11_30 rfl (by decide) (by decide +kernel) s1 e3 ?_
  refine q_blk (pc' := 5) (lo' := [some (.ref a0), some (.int x1), some (.int x2), some (.int x3)]) (st' := [.int x1, .ref r2]) [.iload_n 1] (by decide +kernel) rfl ?_
  refine q_callS (Mc := M_X11_slotAt) (z := 1) (As := [.int x1]) (st := [.ref r2]) mo_X11_slotAt ms_X11_slotAt ml_X11_204_X11_slotAt rfl rfl (by decide) (by decide) rfl (Nat.le_of_ble_eq_true rfl) (by decide +kernel) h (q_fI fun r5 A4 h => ?_)
  show q_Wp _ _ _ _ 0 0 8 [some (.ref a0), some (.int x1), some (.int x2), some (.int x3)] [.int r5, .ref r2] A4
  refine q_blk (pc' := 11) (lo' := [some (.ref a0), some (.int x1), some (.int x2), some (.int x3)]) (st' := [.int (r5 + x2), .ref r2, .int (r5 + x2), .ref r2]) [.iload_n 2, .iadd, .dup2] (by decide +kernel) rfl ?_
  obtain ⟨z7, s6, b8, h⟩ := h
  obtain ⟨j9, e10, h⟩ := h
  obtain ⟨l11, h⟩ := h
  refine q_iald e10 (by decide +kernel) s6 l11 b8 ?_
  refine q_blk (pc' := 14) (lo' := [some (.ref a0), some (.int x1), some (.int x2), some (.int x3)]) (st' := [.int ((q_I A4 r2 j9) - x3), .int (r5 + x2), .ref r2]) [.iload_n 3, .isub] (by decide +kernel) rfl ?_
  refine q_iast e10 (by decide +kernel) s6 l11 b8 ?_
  refine q_blk (pc' := 16) (lo' := [some (.ref a0), some (.int x1), some (.int x2), some (.int x3)]) (st' := [.ref a0]) [.aload_n 0] (by decide +kernel) rfl ?_
  obtain ⟨s12, h⟩ := h
  obtain ⟨r13, e14, h⟩ := h
  refine q_getR fl_X11_30 rfl (by decide) (by decide +kernel) s12 e14 ?_
  refine q_blk (pc' := 21) (lo' := [some (.ref a0), some (.int x1), some (.int x2), some (.int x3)]) (st' := [.int (nI 4), .int x1, .ref r13]) [.iload_n 1, .iconst 4] (by decide +kernel) rfl ?_
  refine q_callS (Mc := M_X11_placeAt) (z := 2) (As := [.int x1, .int (nI 4)]) (st := [.ref r13]) mo_X11_placeAt ms_X11_placeAt ml_X11_141_X11_placeAt rfl rfl (by decide) (by decide) rfl (Nat.le_of_ble_eq_true rfl) (by decide +kernel) h (q_fI fun r16 A15 h => ?_)
  show q_Wp _ _ _ _ 0 0 24 [some (.ref a0), some (.int x1), some (.int x2), some (.int x3)] [.int r16, .ref r13] A15
  refine q_blk (pc' := 27) (lo' := [some (.ref a0), some (.int x1), some (.int x2), some (.int x3)]) (st' := [.int (r16 + x2), .ref r13, .int (r16 + x2), .ref r13]) [.iload_n 2, .iadd, .dup2] (by decide +kernel) rfl ?_
  obtain ⟨z18, s17, b19, h⟩ := h
  obtain ⟨j20, e21, h⟩ := h
  obtain ⟨l22, h⟩ := h
  refine q_iald e21 (by decide +kernel) s17 l22 b19 ?_
  refine q_blk (pc' := 30) (lo' := [some (.ref a0), some (.int x1), some (.int x2), some (.int x3)]) (st' := [.int ((q_I A15 r13 j20) + x3), .int (r16 + x2), .ref r13]) [.iload_n 3, .iadd] (by decide +kernel) rfl ?_
  refine q_iast e21 (by decide +kernel) s17 l22 b19 ?_
  refine q_blk (pc' := 32) (lo' := [some (.ref a0), some (.int x1), some (.int x2), some (.int x3)]) (st' := [.ref a0]) [.aload_n 0] (by decide +kernel) rfl ?_
  obtain ⟨s23, h⟩ := h
  obtain ⟨r24, e25, h⟩ := h
  refine q_getR fl_X11_30 rfl (by decide) (by decide +kernel) s23 e25 ?_
  refine q_blk (pc' := 37) (lo' := [some (.ref a0), some (.int x1), some (.int x2), some (.int x3)]) (st' := [.int (nI 3), .int x1, .ref r24]) [.iload_n 1, .iconst 3] (by decide +kernel) rfl ?_
  refine q_callS (Mc := M_X11_placeAt) (z := 2) (As := [.int x1, .int (nI 3)]) (st := [.ref r24]) mo_X11_placeAt ms_X11_placeAt ml_X11_141_X11_placeAt rfl rfl (by decide) (by decide) rfl (Nat.le_of_ble_eq_true rfl) (by decide +kernel) h (q_fI fun r27 A26 h => ?_)
  show q_Wp _ _ _ _ 0 0 40 [some (.ref a0), some (.int x1), some (.int x2), some (.int x3)] [.int r27, .ref r24] A26
  refine q_blk (pc' := 41) (lo' := [some (.ref a0), some (.int x1), some (.int x2), some (.int x3)]) (st' := [.int r27, .ref r24, .int r27, .ref r24]) [.dup2] (by decide +kernel) rfl ?_
  obtain ⟨z29, s28, b30, h⟩ := h
  obtain ⟨j31, e32, h⟩ := h
  obtain ⟨l33, h⟩ := h
  refine q_iald e32 (by decide +kernel) s28 l33 b30 ?_
  refine q_blk (pc' := 44) (lo' := [some (.ref a0), some (.int x1), some (.int x2), some (.int x3)]) (st' := [.int ((q_I A26 r24 j31) + x3), .int r27, .ref r24]) [.iload_n 3, .iadd] (by decide +kernel) rfl ?_
  refine q_iast e32 (by decide +kernel) s28 l33 b30 ?_
  exact q_ret0 rfl (by decide) (by decide) (by decide +kernel) ⟨rfl, h⟩
theorem f_X11_picks {G : q_G} {X : String → q_H → Prop} {f : q_H → Prop} {A : q_H} {a0 : Nat} {x1 : Int32} (h : q_Wc G M_X11_slotAt [.int x1] A (q_KI fun r2 A1 => q_sh A1 a0 = (12, 0) ∧ ∃ r4 : Nat, q_R A1 a0 6 = some r4 ∧ ∃ z7 : Nat, q_sh A1 r4 = (50, z7) ∧ z7 < 2147483648 ∧ ∃ j9 : Nat, (r2 + (nI 6)) = nI j9 ∧ j9 < z7 ∧ (((q_I A1 r4 j9) = (-1) → q_Wc G M_X11_placeAt [.int x1, .int (nI 1)] A1 (q_KI fun r14 A13 => q_sh A13 a0 = (12, 0) ∧ ∃ r16 : Nat, q_R A13 a0 6 = some r16 ∧ ∃ z20 : Nat, q_sh A13 r16 = (50, z20) ∧ z20 < 2147483648 ∧ ∃ j22 : Nat, r14 = nI j22 ∧ j22 < z20 ∧ f (q_setI A13 r16 j22 (if (nI 0) < ((q_I A13 r16 j22) - (nI 2)) then ((q_I A13 r16 j22) - (nI 2)) else (nI 0)))) q_nX) ∧ (¬ (q_I A1 r4 j9) = (-1) → q_Wc G M_X11_targetOf [.ref a0, .int x1] A1 (q_KI fun r26 A25 => ∃ z28 : Nat, q_sh A25 r4 = (50, z28) ∧ z28 < 2147483648 ∧ ∃ j30 : Nat, (r2 + r26) = nI j30 ∧ j30 < z28 ∧ q_sh A25 a0 = (12, 0) ∧ q_Wc G M_X11_capacity [.ref a0, .int x1] A25 (q_KI fun r34 A33 => q_sh A33 a0 = (12, 0) ∧ q_Wc G M_X11_targetOf [.ref a0, .int x1] A33 (q_KI fun r37 A36 => q_sh A36 a0 = (12, 0) ∧ q_Wc G M_X11_goes [.ref a0, .int x1, .int r37, .int (if r34 < (q_I A25 r4 j30) then r34 else (q_I A25 r4 j30))] A36 (q_KV fun A39 => q_sh A39 a0 = (12, 0) ∧ q_Wc G M_X11_targetOf [.ref a0, .int x1] A39 (q_KI fun r43 A42 => q_sh A42 a0 = (12, 0) ∧ q_Wc G M_X11_mostOf [.ref a0, .int r2, .int r43] A42 (q_KI fun r46 A45 => ((r46 = (-1) → q_sh A45 a0 = (12, 0) ∧ q_Wc G M_X11_total [.ref a0, .int r2] A45 (q_KI fun r50 A49 => ((r50 = nI 0 → q_sh A49 a0 = (12, 0) ∧ ∃ r73 : Nat, q_R A49 a0 6 = some r73 ∧ ∃ z76 : Nat, q_sh A49 r73 = (50, z76) ∧ z76 < 2147483648 ∧ j9 < z76 ∧ q_Wc G M_X11_placeAt [.int x1, .int (nI 1)] (q_setI A49 r73 j9 (-1)) (q_KI fun r80 A79 => q_sh A79 a0 = (12, 0) ∧ ∃ r82 : Nat, q_R A79 a0 6 = some r82 ∧ (((if r34 < (q_I A25 r4 j30) then r34 else (q_I A25 r4 j30)) ≤ nI 0 → ∃ z86 : Nat, q_sh A79 r82 = (50, z86) ∧ z86 < 2147483648 ∧ ∃ j88 : Nat, r80 = nI j88 ∧ j88 < z86 ∧ f (q_setI A79 r82 j88 (if (nI 0) < ((q_I A79 r82 j88) - (nI 2)) then ((q_I A79 r82 j88) - (nI 2)) else (nI 0)))) ∧ (¬ (if r34 < (q_I A25 r4 j30) then r34 else (q_I A25 r4 j30)) ≤ nI 0 → ∃ z92 : Nat, q_sh A79 r82 = (50, z92) ∧ z92 < 2147483648 ∧ ∃ j94 : Nat, r80 = nI j94 ∧ j94 < z92 ∧ 6 < z92 ∧ f (q_setI A79 r82 j94 (if ((q_I A79 r82 j94) + (q_I A79 r82 6)) < (nI 60) then ((q_I A79 r82 j94) + (q_I A79 r82 6)) else (nI 60)))))) q_nX) ∧ (¬ r50 = nI 0 → q_Wc G M_X11_placeAt [.int x1, .int (nI 1)] A49 (q_KI fun r54 A53 => q_sh A53 a0 = (12, 0) ∧ ∃ r56 : Nat, q_R A53 a0 6 = some r56 ∧ (((if r34 < (q_I A25 r4 j30) then r34 else (q_I A25 r4 j30)) ≤ nI 0 → ∃ z60 : Nat, q_sh A53 r56 = (50, z60) ∧ z60 < 2147483648 ∧ ∃ j62 : Nat, r54 = nI j62 ∧ j62 < z60 ∧ f (q_setI A53 r56 j62 (if (nI 0) < ((q_I A53 r56 j62) - (nI 2)) then ((q_I A53 r56 j62) - (nI 2)) else (nI 0)))) ∧ (¬ (if r34 < (q_I A25 r4 j30) then r34 else (q_I A25 r4 j30)) ≤ nI 0 → ∃ z66 : Nat, q_sh A53 r56 = (50, z66) ∧ z66 < 2147483648 ∧ ∃ j68 : Nat, r54 = nI j68 ∧ j68 < z66 ∧ 6 < z66 ∧ f (q_setI A53 r56 j68 (if ((q_I A53 r56 j68) + (q_I A53 r56 6)) < (nI 60) then ((q_I A53 r56 j68) + (q_I A53 r56 6)) else (nI 60)))))) q_nX))) q_nX) ∧ (¬ r46 = (-1) → q_sh A45 a0 = (12, 0) ∧ ∃ r99 : Nat, q_R A45 a0 6 = some r99 ∧ ∃ z102 : Nat, q_sh A45 r99 = (50, z102) ∧ z102 < 2147483648 ∧ ∃ j104 : Nat, (r2 + r46) = nI j104 ∧ j104 < z102 ∧ ∃ r107 : Nat, q_R A45 a0 2 = some r107 ∧ ∃ z110 : Nat, q_sh A45 r107 = (50, z110) ∧ z110 < 2147483648 ∧ ∃ j112 : Nat, (((nI 3) + ((nI 3) * x1)) + (nI 2)) = nI j112 ∧ j112 < z110 ∧ q_Wc G M_X11_goes [.ref a0, .int x1, .int r46, .int (if (((if r34 < (q_I A25 r4 j30) then r34 else (q_I A25 r4 j30)) * (q_I A45 r107 j112)) / (nI 100)) < (q_I A45 r99 j104) then (((if r34 < (q_I A25 r4 j30) then r34 else (q_I A25 r4 j30)) * (q_I A45 r107 j112)) / (nI 100)) else (q_I A45 r99 j104))] A45 (q_KV fun A115 => q_sh A115 a0 = (12, 0) ∧ q_Wc G M_X11_total [.ref a0, .int r2] A115 (q_KI fun r118 A117 => ((r118 = nI 0 → q_sh A117 a0 = (12, 0) ∧ ∃ r141 : Nat, q_R A117 a0 6 = some r141 ∧ ∃ z144 : Nat, q_sh A117 r141 = (50, z144) ∧ z144 < 2147483648 ∧ j9 < z144 ∧ q_Wc G M_X11_placeAt [.int x1, .int (nI 1)] (q_setI A117 r141 j9 (-1)) (q_KI fun r148 A147 => q_sh A147 a0 = (12, 0) ∧ ∃ r150 : Nat, q_R A147 a0 6 = some r150 ∧ (((if r34 < (q_I A25 r4 j30) then r34 else (q_I A25 r4 j30)) ≤ nI 0 → ∃ z154 : Nat, q_sh A147 r150 = (50, z154) ∧ z154 < 2147483648 ∧ ∃ j156 : Nat, r148 = nI j156 ∧ j156 < z154 ∧ f (q_setI A147 r150 j156 (if (nI 0) < ((q_I A147 r150 j156) - (nI 2)) then ((q_I A147 r150 j156) - (nI 2)) else (nI 0)))) ∧ (¬ (if r34 < (q_I A25 r4 j30) then r34 else (q_I A25 r4 j30)) ≤ nI 0 → ∃ z160 : Nat, q_sh A147 r150 = (50, z160) ∧ z160 < 2147483648 ∧ ∃ j162 : Nat, r148 = nI j162 ∧ j162 < z160 ∧ 6 < z160 ∧ f (q_setI A147 r150 j162 (if ((q_I A147 r150 j162) + (q_I A147 r150 6)) < (nI 60) then ((q_I A147 r150 j162) + (q_I A147 r150 6)) else (nI 60)))))) q_nX) ∧ (¬ r118 = nI 0 → q_Wc G M_X11_placeAt [.int x1, .int (nI 1)] A117 (q_KI fun r122 A121 => q_sh A121 a0 = (12, 0) ∧ ∃ r124 : Nat, q_R A121 a0 6 = some r124 ∧ (((if r34 < (q_I A25 r4 j30) then r34 else (q_I A25 r4 j30)) ≤ nI 0 → ∃ z128 : Nat, q_sh A121 r124 = (50, z128) ∧ z128 < 2147483648 ∧ ∃ j130 : Nat, r122 = nI j130 ∧ j130 < z128 ∧ f (q_setI A121 r124 j130 (if (nI 0) < ((q_I A121 r124 j130) - (nI 2)) then ((q_I A121 r124 j130) - (nI 2)) else (nI 0)))) ∧ (¬ (if r34 < (q_I A25 r4 j30) then r34 else (q_I A25 r4 j30)) ≤ nI 0 → ∃ z134 : Nat, q_sh A121 r124 = (50, z134) ∧ z134 < 2147483648 ∧ ∃ j136 : Nat, r122 = nI j136 ∧ j136 < z134 ∧ 6 < z134 ∧ f (q_setI A121 r124 j136 (if ((q_I A121 r124 j136) + (q_I A121 r124 6)) < (nI 60) then ((q_I A121 r124 j136) + (q_I A121 r124 6)) else (nI 60)))))) q_nX))) q_nX) q_nX))) q_nX) q_nX) q_nX) q_nX) q_nX) q_nX))) q_nX) : q_Wc G M_X11_picks [.ref a0, .int x1] A (q_KV f) X := by
  refine q_Wc.of [some (.ref a0), some (.int x1), none, none, none] mo_X11_picks.2.2.2.2.2 rfl (Nat.le_of_ble_eq_true rfl) rfl ?_
  refine q_blk (pc' := 1) (lo' := [some (.ref a0), some (.int x1), none, none, none]) (st' := [.int x1]) [.iload_n 1] (by decide +kernel) rfl ?_
  refine q_callS (Mc := M_X11_slotAt) (z := 1) (As := [.int x1]) (st := []) mo_X11_slotAt ms_X11_slotAt ml_X11_204_X11_slotAt rfl rfl (by decide) (by decide) rfl (Nat.le_of_ble_eq_true rfl) (by decide +kernel) h (q_fI fun r2 A1 h => ?_)
  show q_Wp _ _ _ _ 0 0 4 [some (.ref a0), some (.int x1), none, none, none] [.int r2] A1
  refine q_blk (pc' := 8) (lo' := [some (.ref a0), some (.int x1), some (.int r2), some (.int (nI 0)), none]) (st' := [.ref a0]) [.istore_n 2, .iconst 0, .istore_n 3, .aload_n 0] (by decide +kernel) rfl ?_
  obtain ⟨s3, h⟩ := h
  obtain ⟨r4, e5, h⟩ := h
  refine q_getR fl_X11_30 rfl (by decide) (by decide +kernel) s3 e5 ?_
  refine q_blk (pc' := 15) (lo' := [some (.ref a0), some (.int x1), some (.int r2), some (.int (nI 0)), none]) (st' := [.int (r2 + (nI 6)), .ref r4]) [.iload_n 2, .bipush 6, .iadd] (by decide +kernel) rfl ?_
  obtain ⟨z7, s6, b8, h⟩ := h
  obtain ⟨j9, e10, h⟩ := h
  obtain ⟨l11, h⟩ := h
  refine q_iald e10 (by decide +kernel) s6 l11 b8 ?_
  refine q_blk (pc' := 17) (lo' := [some (.ref a0), some (.int x1), some (.int r2), some (.int (nI 0)), none]) (st' := [.int (-1), .int (q_I A1 r4 j9)]) [.iconst (-1)] (by decide +kernel) rfl ?_
  refine q_icmp_eq 124 (off := 107) (by decide +kernel) (by decide) (fun c12 => ?_) (fun c12 => ?_)
  · have h := h.1 c12
    refine q_blk (pc' := 126) (lo' := [some (.ref a0), some (.int x1), some (.int r2), some (.int (nI 0)), none]) (st' := [.int (nI 1), .int x1]) [.iload_n 1, .iconst 1] (by decide +kernel) rfl ?_
    refine q_callS (Mc := M_X11_placeAt) (z := 2) (As := [.int x1, .int (nI 1)]) (st := []) mo_X11_placeAt ms_X11_placeAt ml_X11_141_X11_placeAt rfl rfl (by decide) (by decide) rfl (Nat.le_of_ble_eq_true rfl) (by decide +kernel) h (q_fI fun r14 A13 h => ?_)
    show q_Wp _ _ _ _ 0 0 129 [some (.ref a0), some (.int x1), some (.int r2), some (.int (nI 0)), none] [.int r14] A13
    refine q_blk (pc' := 132) (lo' := [some (.ref a0), some (.int x1), some (.int r2), some (.int (nI 0)), some (.int r14)]) (st' := [.ref a0]) [.istore 4, .aload_n 0] (by decide +kernel) rfl ?_
    obtain ⟨s15, h⟩ := h
    obtain ⟨r16, e17, h⟩ := h
    refine q_getR fl_X11_30 rfl (by decide) (by decide +kernel) s15 e17 ?_
    refine q_blk (pc' := 138) (lo' := [some (.ref a0), some (.int x1), some (.int r2), some (.int (nI 0)), some (.int r14)]) (st' := [.int (nI 0), .int r14, .ref r16]) [.iload 4, .iload_n 3] (by decide +kernel) rfl ?_
    refine q_if_le 164 (off := 26) (by decide +kernel) (by decide) (fun _ => ?_) (fun c9 => absurd (by decide) c9)
    refine q_blk (pc' := 166) (lo' := [some (.ref a0), some (.int x1), some (.int r2), some (.int (nI 0)), some (.int r14)]) (st' := [.ref a0, .int (nI 0), .int r14, .ref r16]) [.iconst 0, .aload_n 0] (by decide +kernel) rfl ?_
    refine q_getR fl_X11_30 rfl (by decide) (by decide +kernel) s15 e17 ?_
    refine q_blk (pc' := 171) (lo' := [some (.ref a0), some (.int x1), some (.int r2), some (.int (nI 0)), some (.int r14)]) (st' := [.int r14, .ref r16, .int (nI 0), .int r14, .ref r16]) [.iload 4] (by decide +kernel) rfl ?_
    obtain ⟨z20, s19, b21, h⟩ := h
    obtain ⟨j22, e23, h⟩ := h
    obtain ⟨l24, h⟩ := h
    refine q_iald e23 (by decide +kernel) s19 l24 b21 ?_
    refine q_blk (pc' := 174) (lo' := [some (.ref a0), some (.int x1), some (.int r2), some (.int (nI 0)), some (.int r14)]) (st' := [.int ((q_I A13 r16 j22) - (nI 2)), .int (nI 0), .int r14, .ref r16]) [.iconst 2, .isub] (by decide +kernel) rfl ?_
    refine q_mmax mm_X11_231_a.1 mm_X11_231_a.2.1 mm_X11_231_a.2.2.1 mm_X11_231_a.2.2.2 (by decide) (Nat.le_of_ble_eq_true rfl) (by decide) (by decide) (by decide +kernel) ?_
    refine q_iast e23 (by decide +kernel) s19 l24 b21 ?_
    exact q_ret0 rfl (by decide) (by decide) (by decide +kernel) ⟨rfl, h⟩
  · have h := h.2 c12
    refine q_blk (pc' := 21) (lo' := [some (.ref a0), some (.int x1), some (.int r2), some (.int (nI 0)), none]) (st' := [.ref a0]) [.aload_n 0] (by decide +kernel) rfl ?_
    refine q_getR fl_X11_30 rfl (by decide) (by decide +kernel) s3 e5 ?_
    refine q_blk (pc' := 27) (lo' := [some (.ref a0), some (.int x1), some (.int r2), some (.int (nI 0)), none]) (st' := [.int x1, .ref a0, .int r2, .ref r4]) [.iload_n 2, .aload_n 0, .iload_n 1] (by decide +kernel) rfl ?_
    refine q_callV (ci := 11) (Mc := M_X11_targetOf) (z := 1) (b := a0) (As := [.int x1]) (st := [.int r2, .ref r4]) mo_X11_targetOf mi_X11_targetOf ml_X11_201_X11_targetOf rfl rfl (by decide) rfl (by decide) (by decide) rfl (Nat.le_of_ble_eq_true rfl) (by decide +kernel) s3 h (q_fI fun r26 A25 h => ?_)
    show q_Wp _ _ _ _ 0 0 30 [some (.ref a0), some (.int x1), some (.int r2), some (.int (nI 0)), none] [.int r26, .int r2, .ref r4] A25
    refine q_blk (pc' := 31) (lo' := [some (.ref a0), some (.int x1), some (.int r2), some (.int (nI 0)), none]) (st' := [.int (r2 + r26), .ref r4]) [.iadd] (by decide +kernel) rfl ?_
    obtain ⟨z28, s27, b29, h⟩ := h
    obtain ⟨j30, e31, h⟩ := h
    obtain ⟨l32, h⟩ := h
    refine q_iald e31 (by decide +kernel) s27 l32 b29 ?_
    refine q_blk (pc' := 34) (lo' := [some (.ref a0), some (.int x1), some (.int r2), some (.int (nI 0)), none]) (st' := [.int x1, .ref a0, .int (q_I A25 r4 j30)]) [.aload_n 0, .iload_n 1] (by decide +kernel) rfl ?_
    obtain ⟨s35, h⟩ := h
    refine q_callV (ci := 11) (Mc := M_X11_capacity) (z := 1) (b := a0) (As := [.int x1]) (st := [.int (q_I A25 r4 j30)]) mo_X11_capacity mi_X11_capacity ml_X11_222_X11_capacity rfl rfl (by decide) rfl (by decide) (by decide) rfl (Nat.le_of_ble_eq_true rfl) (by decide +kernel) s35 h (q_fI fun r34 A33 h => ?_)
    show q_Wp _ _ _ _ 0 0 37 [some (.ref a0), some (.int x1), some (.int r2), some (.int (nI 0)), none] [.int r34, .int (q_I A25 r4 j30)] A33
    refine q_mmin mm_X11_225_i.1 mm_X11_225_i.2.1 mm_X11_225_i.2.2.1 mm_X11_225_i.2.2.2 (by decide) (Nat.le_of_ble_eq_true rfl) (by decide) (by decide) (by decide +kernel) ?_
    refine q_blk (pc' := 45) (lo' := [some (.ref a0), some (.int x1), some (.int r2), some (.int (if r34 < (q_I A25 r4 j30) then r34 else (q_I A25 r4 j30))), none]) (st' := [.int x1, .ref a0, .int x1, .ref a0]) [.istore_n 3, .aload_n 0, .iload_n 1, .aload_n 0, .iload_n 1] (by decide +kernel) rfl ?_
    obtain ⟨s38, h⟩ := h
    refine q_callV (ci := 11) (Mc := M_X11_targetOf) (z := 1) (b := a0) (As := [.int x1]) (st := [.int x1, .ref a0]) mo_X11_targetOf mi_X11_targetOf ml_X11_201_X11_targetOf rfl rfl (by decide) rfl (by decide) (by decide) rfl (Nat.le_of_ble_eq_true rfl) (by decide +kernel) s38 h (q_fI fun r37 A36 h => ?_)
    show q_Wp _ _ _ _ 0 0 48 [some (.ref a0), some (.int x1), some (.int r2), some (.int (if r34 < (q_I A25 r4 j30) then r34 else (q_I A25 r4 j30))), none] [.int r37, .int x1, .ref a0] A36
    refine q_blk (pc' := 49) (lo' := [some (.ref a0), some (.int x1), some (.int r2), some (.int (if r34 < (q_I A25 r4 j30) then r34 else (q_I A25 r4 j30))), none]) (st' := [.int (if r34 < (q_I A25 r4 j30) then r34 else (q_I A25 r4 j30)), .int r37, .int x1, .ref a0]) [.iload_n 3] (by decide +kernel) rfl ?_
    obtain ⟨s41, h⟩ := h
    refine q_callV (ci := 11) (Mc := M_X11_goes) (z := 3) (b := a0) (As := [.int x1, .int r37, .int (if r34 < (q_I A25 r4 j30) then r34 else (q_I A25 r4 j30))]) (st := []) mo_X11_goes mi_X11_goes ml_X11_227_X11_goes rfl rfl (by decide) rfl (by decide) (by decide) rfl (Nat.le_of_ble_eq_true rfl) (by decide +kernel) s41 h (q_fV fun A39 h => ?_)
    show q_Wp _ _ _ _ 0 0 52 [some (.ref a0), some (.int x1), some (.int r2), some (.int (if r34 < (q_I A25 r4 j30) then r34 else (q_I A25 r4 j30))), none] [] A39
    refine q_blk (pc' := 56) (lo' := [some (.ref a0), some (.int x1), some (.int r2), some (.int (if r34 < (q_I A25 r4 j30) then r34 else (q_I A25 r4 j30))), none]) (st' := [.int x1, .ref a0, .int r2, .ref a0]) [.aload_n 0, .iload_n 2, .aload_n 0, .iload_n 1] (by decide +kernel) rfl ?_
    obtain ⟨s44, h⟩ := h
    refine q_callV (ci := 11) (Mc := M_X11_targetOf) (z := 1) (b := a0) (As := [.int x1]) (st := [.int r2, .ref a0]) mo_X11_targetOf mi_X11_targetOf ml_X11_201_X11_targetOf rfl rfl (by decide) rfl (by decide) (by decide) rfl (Nat.le_of_ble_eq_true rfl) (by decide +kernel) s44 h (q_fI fun r43 A42 h => ?_)
    show q_Wp _ _ _ _ 0 0 59 [some (.ref a0), some (.int x1), some (.int r2), some (.int (if r34 < (q_I A25 r4 j30) then r34 else (q_I A25 r4 j30))), none] [.int r43, .int r2, .ref a0] A42
    obtain ⟨s47, h⟩ := h
    refine q_callV (ci := 11) (Mc := M_X11_mostOf) (z := 2) (b := a0) (As := [.int r2, .int r43]) (st := []) mo_X11_mostOf mi_X11_mostOf ml_X11_198_X11_mostOf rfl rfl (by decide) rfl (by decide) (by decide) rfl (Nat.le_of_ble_eq_true rfl) (by decide +kernel) s47 h (q_fI fun r46 A45 h => ?_)
    show q_Wp _ _ _ _ 0 0 62 [some (.ref a0), some (.int x1), some (.int r2), some (.int (if r34 < (q_I A25 r4 j30) then r34 else (q_I A25 r4 j30))), none] [.int r46] A45
    refine q_blk (pc' := 67) (lo' := [some (.ref a0), some (.int x1), some (.int r2), some (.int (if r34 < (q_I A25 r4 j30) then r34 else (q_I A25 r4 j30))), some (.int r46)]) (st' := [.int (-1), .int r46]) [.istore 4, .iload 4, .iconst (-1)] (by decide +kernel) rfl ?_
    refine q_icmp_eq 106 (off := 39) (by decide +kernel) (by decide) (fun c48 => ?_) (fun c48 => ?_)
    · have h := h.1 c48
      refine q_blk (pc' := 108) (lo' := [some (.ref a0), some (.int x1), some (.int r2), some (.int (if r34 < (q_I A25 r4 j30) then r34 else (q_I A25 r4 j30))), some (.int r46)]) (st' := [.int r2, .ref a0]) [.aload_n 0, .iload_n 2] (by decide +kernel) rfl ?_
      obtain ⟨s51, h⟩ := h
      refine q_callV (ci := 11) (Mc := M_X11_total) (z := 1) (b := a0) (As := [.int r2]) (st := []) mo_X11_total mi_X11_total ml_X11_189_X11_total rfl rfl (by decide) rfl (by decide) (by decide) rfl (Nat.le_of_ble_eq_true rfl) (by decide +kernel) s51 h (q_fI fun r50 A49 h => ?_)
      show q_Wp _ _ _ _ 0 0 111 [some (.ref a0), some (.int x1), some (.int r2), some (.int (if r34 < (q_I A25 r4 j30) then r34 else (q_I A25 r4 j30))), some (.int r46)] [.int r50] A49
      refine q_if_ne 124 (off := 13) (by decide +kernel) (by decide) (fun c52 => ?_) (fun c52 => ?_)
      · have h := h.2 c52
        refine q_blk (pc' := 126) (lo' := [some (.ref a0), some (.int x1), some (.int r2), some (.int (if r34 < (q_I A25 r4 j30) then r34 else (q_I A25 r4 j30))), some (.int r46)]) (st' := [.int (nI 1), .int x1]) [.iload_n 1, .iconst 1] (by decide +kernel) rfl ?_
        refine q_callS (Mc := M_X11_placeAt) (z := 2) (As := [.int x1, .int (nI 1)]) (st := []) mo_X11_placeAt ms_X11_placeAt ml_X11_141_X11_placeAt rfl rfl (by decide) (by decide) rfl (Nat.le_of_ble_eq_true rfl) (by decide +kernel) h (q_fI fun r54 A53 h => ?_)
        show q_Wp _ _ _ _ 0 0 129 [some (.ref a0), some (.int x1), some (.int r2), some (.int (if r34 < (q_I A25 r4 j30) then r34 else (q_I A25 r4 j30))), some (.int r46)] [.int r54] A53
        refine q_blk (pc' := 132) (lo' := [some (.ref a0), some (.int x1), some (.int r2), some (.int (if r34 < (q_I A25 r4 j30) then r34 else (q_I A25 r4 j30))), some (.int r54)]) (st' := [.ref a0]) [.istore 4, .aload_n 0] (by decide +kernel) rfl ?_
        obtain ⟨s55, h⟩ := h
        obtain ⟨r56, e57, h⟩ := h
        refine q_getR fl_X11_30 rfl (by decide) (by decide +kernel) s55 e57 ?_
        refine q_blk (pc' := 138) (lo' := [some (.ref a0), some (.int x1), some (.int r2), some (.int (if r34 < (q_I A25 r4 j30) then r34 else (q_I A25 r4 j30))), some (.int r54)]) (st' := [.int (if r34 < (q_I A25 r4 j30) then r34 else (q_I A25 r4 j30)), .int r54, .ref r56]) [.iload 4, .iload_n 3] (by decide +kernel) rfl ?_
        refine q_if_le 164 (off := 26) (by decide +kernel) (by decide) (fun c58 => ?_) (fun c58 => ?_)
        · have h := h.1 c58
          refine q_blk (pc' := 166) (lo' := [some (.ref a0), some (.int x1), some (.int r2), some (.int (if r34 < (q_I A25 r4 j30) then r34 else (q_I A25 r4 j30))), some (.int r54)]) (st' := [.ref a0, .int (nI 0), .int r54, .ref r56]) [.iconst 0, .aload_n 0] (by decide +kernel) rfl ?_
          refine q_getR fl_X11_30 rfl (by decide) (by decide +kernel) s55 e57 ?_
          refine q_blk (pc' := 171) (lo' := [some (.ref a0), some (.int x1), some (.int r2), some (.int (if r34 < (q_I A25 r4 j30) then r34 else (q_I A25 r4 j30))), some (.int r54)]) (st' := [.int r54, .ref r56, .int (nI 0), .int r54, .ref r56]) [.iload 4] (by decide +kernel) rfl ?_
          obtain ⟨z60, s59, b61, h⟩ := h
          obtain ⟨j62, e63, h⟩ := h
          obtain ⟨l64, h⟩ := h
          refine q_iald e63 (by decide +kernel) s59 l64 b61 ?_
          refine q_blk (pc' := 174) (lo' := [some (.ref a0), some (.int x1), some (.int r2), some (.int (if r34 < (q_I A25 r4 j30) then r34 else (q_I A25 r4 j30))), some (.int r54)]) (st' := [.int ((q_I A53 r56 j62) - (nI 2)), .int (nI 0), .int r54, .ref r56]) [.iconst 2, .isub] (by decide +kernel) rfl ?_
          refine q_mmax mm_X11_231_a.1 mm_X11_231_a.2.1 mm_X11_231_a.2.2.1 mm_X11_231_a.2.2.2 (by decide) (Nat.le_of_ble_eq_true rfl) (by decide) (by decide) (by decide +kernel) ?_
          refine q_iast e63 (by decide +kernel) s59 l64 b61 ?_
          exact q_ret0 rfl (by decide) (by decide) (by decide +kernel) ⟨rfl, h⟩
        · have h := h.2 c58
          refine q_blk (pc' := 144) (lo' := [some (.ref a0), some (.int x1), some (.int r2), some (.int (if r34 < (q_I A25 r4 j30) then r34 else (q_I A25 r4 j30))), some (.int r54)]) (st' := [.ref a0, .int (nI 60), .int r54, .ref r56]) [.bipush 60, .aload_n 0] (by decide +kernel) rfl ?_
          refine q_getR fl_X11_30 rfl (by decide) (by decide +kernel) s55 e57 ?_
          refine q_blk (pc' := 149) (lo' := [some (.ref a0), some (.int x1), some (.int r2), some (.int (if r34 < (q_I A25 r4 j30) then r34 else (q_I A25 r4 j30))), some (.int r54)]) (st' := [.int r54, .ref r56, .int (nI 60), .int r54, .ref r56]) [.iload 4] (by decide +kernel) rfl ?_
          obtain ⟨z66, s65, b67, h⟩ := h
          obtain ⟨j68, e69, h⟩ := h
          obtain ⟨l70, h⟩ := h
          refine q_iald e69 (by decide +kernel) s65 l70 b67 ?_
          refine q_blk (pc' := 151) (lo' := [some (.ref a0), some (.int x1), some (.int r2), some (.int (if r34 < (q_I A25 r4 j30) then r34 else (q_I A25 r4 j30))), some (.int r54)]) (st' := [.ref a0, .int (q_I A53 r56 j68), .int (nI 60), .int r54, .ref r56]) [.aload_n 0] (by decide +kernel) rfl ?_
          refine q_getR fl_X11_30 rfl (by decide) (by decide +kernel) s55 e57 ?_
          refine q_blk (pc' := 156) (lo' := [some (.ref a0), some (.int x1), some (.int r2), some (.int (if r34 < (q_I A25 r4 j30) then r34 else (q_I A25 r4 j30))), some (.int r54)]) (st' := [.int (nI 6), .ref r56, .int (q_I A53 r56 j68), .int (nI 60), .int r54, .ref r56]) [.bipush 6] (by decide +kernel) rfl ?_
          obtain ⟨l71, h⟩ := h
          refine q_iald rfl (by decide +kernel) s65 l71 b67 ?_
          refine q_blk (pc' := 158) (lo' := [some (.ref a0), some (.int x1), some (.int r2), some (.int (if r34 < (q_I A25 r4 j30) then r34 else (q_I A25 r4 j30))), some (.int r54)]) (st' := [.int ((q_I A53 r56 j68) + (q_I A53 r56 6)), .int (nI 60), .int r54, .ref r56]) [.iadd] (by decide +kernel) rfl ?_
          refine q_mmin mm_X11_225_i.1 mm_X11_225_i.2.1 mm_X11_225_i.2.2.1 mm_X11_225_i.2.2.2 (by decide) (Nat.le_of_ble_eq_true rfl) (by decide) (by decide) (by decide +kernel) ?_
          refine q_goto 177 (off := 16) (by decide +kernel) (by decide) ?_
          refine q_iast e69 (by decide +kernel) s65 l70 b67 ?_
          exact q_ret0 rfl (by decide) (by decide) (by decide +kernel) ⟨rfl, h⟩
      · have h := h.1 c52
        refine q_blk (pc' := 115) (lo' := [some (.ref a0), some (.int x1), some (.int r2), some (.int (if r34 < (q_I A25 r4 j30) then r34 else (q_I A25 r4 j30))), some (.int r46)]) (st' := [.ref a0]) [.aload_n 0] (by decide +kernel) rfl ?_
        obtain ⟨s72, h⟩ := h
        obtain ⟨r73, e74, h⟩ := h
        refine q_getR fl_X11_30 rfl (by decide) (by decide +kernel) s72 e74 ?_
        refine q_blk (pc' := 123) (lo' := [some (.ref a0), some (.int x1), some (.int r2), some (.int (if r34 < (q_I A25 r4 j30) then r34 else (q_I A25 r4 j30))), some (.int r46)]) (st' := [.int (-1), .int (r2 + (nI 6)), .ref r73]) [.iload_n 2, .bipush 6, .iadd, .iconst (-1)] (by decide +kernel) rfl ?_
        obtain ⟨z76, s75, b77, h⟩ := h
        obtain ⟨l78, h⟩ := h
        refine q_iast e10 (by decide +kernel) s75 l78 b77 ?_
        refine q_blk (pc' := 126) (lo' := [some (.ref a0), some (.int x1), some (.int r2), some (.int (if r34 < (q_I A25 r4 j30) then r34 else (q_I A25 r4 j30))), some (.int r46)]) (st' := [.int (nI 1), .int x1]) [.iload_n 1, .iconst 1] (by decide +kernel) rfl ?_
        refine q_callS (Mc := M_X11_placeAt) (z := 2) (As := [.int x1, .int (nI 1)]) (st := []) mo_X11_placeAt ms_X11_placeAt ml_X11_141_X11_placeAt rfl rfl (by decide) (by decide) rfl (Nat.le_of_ble_eq_true rfl) (by decide +kernel) h (q_fI fun r80 A79 h => ?_)
        show q_Wp _ _ _ _ 0 0 129 [some (.ref a0), some (.int x1), some (.int r2), some (.int (if r34 < (q_I A25 r4 j30) then r34 else (q_I A25 r4 j30))), some (.int r46)] [.int r80] A79
        refine q_blk (pc' := 132) (lo' := [some (.ref a0), some (.int x1), some (.int r2), some (.int (if r34 < (q_I A25 r4 j30) then r34 else (q_I A25 r4 j30))), some (.int r80)]) (st' := [.ref a0]) [.istore 4, .aload_n 0] (by decide +kernel) rfl ?_
        obtain ⟨s81, h⟩ := h
        obtain ⟨r82, e83, h⟩ := h
        refine q_getR fl_X11_30 rfl (by decide) (by decide +kernel) s81 e83 ?_
        refine q_blk (pc' := 138) (lo' := [some (.ref a0), some (.int x1), some (.int r2), some (.int (if r34 < (q_I A25 r4 j30) then r34 else (q_I A25 r4 j30))), some (.int r80)]) (st' := [.int (if r34 < (q_I A25 r4 j30) then r34 else (q_I A25 r4 j30)), .int r80, .ref r82]) [.iload 4, .iload_n 3] (by decide +kernel) rfl ?_
        refine q_if_le 164 (off := 26) (by decide +kernel) (by decide) (fun c84 => ?_) (fun c84 => ?_)
        · have h := h.1 c84
          refine q_blk (pc' := 166) (lo' := [some (.ref a0), some (.int x1), some (.int r2), some (.int (if r34 < (q_I A25 r4 j30) then r34 else (q_I A25 r4 j30))), some (.int r80)]) (st' := [.ref a0, .int (nI 0), .int r80, .ref r82]) [.iconst 0, .aload_n 0] (by decide +kernel) rfl ?_
          refine q_getR fl_X11_30 rfl (by decide) (by decide +kernel) s81 e83 ?_
          refine q_blk (pc' := 171) (lo' := [some (.ref a0), some (.int x1), some (.int r2), some (.int (if r34 < (q_I A25 r4 j30) then r34 else (q_I A25 r4 j30))), some (.int r80)]) (st' := [.int r80, .ref r82, .int (nI 0), .int r80, .ref r82]) [.iload 4] (by decide +kernel) rfl ?_
          obtain ⟨z86, s85, b87, h⟩ := h
          obtain ⟨j88, e89, h⟩ := h
          obtain ⟨l90, h⟩ := h
          refine q_iald e89 (by decide +kernel) s85 l90 b87 ?_
          refine q_blk (pc' := 174) (lo' := [some (.ref a0), some (.int x1), some (.int r2), some (.int (if r34 < (q_I A25 r4 j30) then r34 else (q_I A25 r4 j30))), some (.int r80)]) (st' := [.int ((q_I A79 r82 j88) - (nI 2)), .int (nI 0), .int r80, .ref r82]) [.iconst 2, .isub] (by decide +kernel) rfl ?_
          refine q_mmax mm_X11_231_a.1 mm_X11_231_a.2.1 mm_X11_231_a.2.2.1 mm_X11_231_a.2.2.2 (by decide) (Nat.le_of_ble_eq_true rfl) (by decide) (by decide) (by decide +kernel) ?_
          refine q_iast e89 (by decide +kernel) s85 l90 b87 ?_
          exact q_ret0 rfl (by decide) (by decide) (by decide +kernel) ⟨rfl, h⟩
        · have h := h.2 c84
          refine q_blk (pc' := 144) (lo' := [some (.ref a0), some (.int x1), some (.int r2), some (.int (if r34 < (q_I A25 r4 j30) then r34 else (q_I A25 r4 j30))), some (.int r80)]) (st' := [.ref a0, .int (nI 60), .int r80, .ref r82]) [.bipush 60, .aload_n 0] (by decide +kernel) rfl ?_
          refine q_getR fl_X11_30 rfl (by decide) (by decide +kernel) s81 e83 ?_
          refine q_blk (pc' := 149) (lo' := [some (.ref a0), some (.int x1), some (.int r2), some (.int (if r34 < (q_I A25 r4 j30) then r34 else (q_I A25 r4 j30))), some (.int r80)]) (st' := [.int r80, .ref r82, .int (nI 60), .int r80, .ref r82]) [.iload 4] (by decide +kernel) rfl ?_
          obtain ⟨z92, s91, b93, h⟩ := h
          obtain ⟨j94, e95, h⟩ := h
          obtain ⟨l96, h⟩ := h
          refine q_iald e95 (by decide +kernel) s91 l96 b93 ?_
          refine q_blk (pc' := 151) (lo' := [some (.ref a0), some (.int x1), some (.int r2), some (.int (if r34 < (q_I A25 r4 j30) then r34 else (q_I A25 r4 j30))), some (.int r80)]) (st' := [.ref a0, .int (q_I A79 r82 j94), .int (nI 60), .int r80, .ref r82]) [.aload_n 0] (by decide +kernel) rfl ?_
          refine q_getR fl_X11_30 rfl (by decide) (by decide +kernel) s81 e83 ?_
          refine q_blk (pc' := 156) (lo' := [some (.ref a0), some (.int x1), some (.int r2), some (.int (if r34 < (q_I A25 r4 j30) then r34 else (q_I A25 r4 j30))), some (.int r80)]) (st' := [.int (nI 6), .ref r82, .int (q_I A79 r82 j94), .int (nI 60), .int r80, .ref r82]) [.bipush 6] (by decide +kernel) rfl ?_
          obtain ⟨l97, h⟩ := h
          refine q_iald rfl (by decide +kernel) s91 l97 b93 ?_
          refine q_blk (pc' := 158) (lo' := [some (.ref a0), some (.int x1), some (.int r2), some (.int (if r34 < (q_I A25 r4 j30) then r34 else (q_I A25 r4 j30))), some (.int r80)]) (st' := [.int ((q_I A79 r82 j94) + (q_I A79 r82 6)), .int (nI 60), .int r80, .ref r82]) [.iadd] (by decide +kernel) rfl ?_
          refine q_mmin mm_X11_225_i.1 mm_X11_225_i.2.1 mm_X11_225_i.2.2.1 mm_X11_225_i.2.2.2 (by decide) (Nat.le_of_ble_eq_true rfl) (by decide) (by decide) (by decide +kernel) ?_
          refine q_goto 177 (off := 16) (by decide +kernel) (by decide) ?_
          refine q_iast e95 (by decide +kernel) s91 l96 b93 ?_
          exact q_ret0 rfl (by decide) (by decide) (by decide +kernel) ⟨rfl, h⟩
    · have h := h.2 c48
      refine q_blk (pc' := 75) (lo' := [some (.ref a0), some (.int x1), some (.int r2), some (.int (if r34 < (q_I A25 r4 j30) then r34 else (q_I A25 r4 j30))), some (.int r46)]) (st' := [.ref a0, .int r46, .int x1, .ref a0]) [.aload_n 0, .iload_n 1, .iload 4, .aload_n 0] (by decide +kernel) rfl ?_
      obtain ⟨s98, h⟩ := h
      obtain ⟨r99, e100, h⟩ := h
      refine q_getR fl_X11_30 rfl (by decide) (by decide +kernel) s98 e100 ?_
      refine q_blk (pc' := 82) (lo' := [some (.ref a0), some (.int x1), some (.int r2), some (.int (if r34 < (q_I A25 r4 j30) then r34 else (q_I A25 r4 j30))), some (.int r46)]) (st' := [.int (r2 + r46), .ref r99, .int r46, .int x1, .ref a0]) [.iload_n 2, .iload 4, .iadd] (by decide +kernel) rfl ?_
      obtain ⟨z102, s101, b103, h⟩ := h
      obtain ⟨j104, e105, h⟩ := h
      obtain ⟨l106, h⟩ := h
      refine q_iald e105 (by decide +kernel) s101 l106 b103 ?_
      refine q_blk (pc' := 85) (lo' := [some (.ref a0), some (.int x1), some (.int r2), some (.int (if r34 < (q_I A25 r4 j30) then r34 else (q_I A25 r4 j30))), some (.int r46)]) (st' := [.ref a0, .int (if r34 < (q_I A25 r4 j30) then r34 else (q_I A25 r4 j30)), .int (q_I A45 r99 j104), .int r46, .int x1, .ref a0]) [.iload_n 3, .aload_n 0] (by decide +kernel) rfl ?_
      obtain ⟨r107, e108, h⟩ := h
      refine q_getR fl_X11_17 rfl (by decide) (by decide +kernel) s98 e108 ?_
      refine q_blk (pc' := 95) (lo' := [some (.ref a0), some (.int x1), some (.int r2), some (.int (if r34 < (q_I A25 r4 j30) then r34 else (q_I A25 r4 j30))), some (.int r46)]) (st' := [.int (((nI 3) + ((nI 3) * x1)) + (nI 2)), .ref r107, .int (if r34 < (q_I A25 r4 j30) then r34 else (q_I A25 r4 j30)), .int (q_I A45 r99 j104), .int r46, .int x1, .ref a0]) [.iconst 3, .iconst 3, .iload_n 1, .imul, .iadd, .iconst 2, .iadd] (by decide +kernel) rfl ?_
      obtain ⟨z110, s109, b111, h⟩ := h
      obtain ⟨j112, e113, h⟩ := h
      obtain ⟨l114, h⟩ := h
      refine q_iald e113 (by decide +kernel) s109 l114 b111 ?_
      refine q_blk (pc' := 99) (lo' := [some (.ref a0), some (.int x1), some (.int r2), some (.int (if r34 < (q_I A25 r4 j30) then r34 else (q_I A25 r4 j30))), some (.int r46)]) (st' := [.int (nI 100), .int ((if r34 < (q_I A25 r4 j30) then r34 else (q_I A25 r4 j30)) * (q_I A45 r107 j112)), .int (q_I A45 r99 j104), .int r46, .int x1, .ref a0]) [.imul, .bipush 100] (by decide +kernel) rfl ?_
      refine q_idiv (by decide +kernel) (by decide) ?_
      refine q_mmin mm_X11_225_i.1 mm_X11_225_i.2.1 mm_X11_225_i.2.2.1 mm_X11_225_i.2.2.2 (by decide) (Nat.le_of_ble_eq_true rfl) (by decide) (by decide) (by decide +kernel) ?_
      refine q_callV (ci := 11) (Mc := M_X11_goes) (z := 3) (b := a0) (As := [.int x1, .int r46, .int (if (((if r34 < (q_I A25 r4 j30) then r34 else (q_I A25 r4 j30)) * (q_I A45 r107 j112)) / (nI 100)) < (q_I A45 r99 j104) then (((if r34 < (q_I A25 r4 j30) then r34 else (q_I A25 r4 j30)) * (q_I A45 r107 j112)) / (nI 100)) else (q_I A45 r99 j104))]) (st := []) mo_X11_goes mi_X11_goes ml_X11_227_X11_goes rfl rfl (by decide) rfl (by decide) (by decide) rfl (Nat.le_of_ble_eq_true rfl) (by decide +kernel) s98 h (q_fV fun A115 h => ?_)
      show q_Wp _ _ _ _ 0 0 106 [some (.ref a0), some (.int x1), some (.int r2), some (.int (if r34 < (q_I A25 r4 j30) then r34 else (q_I A25 r4 j30))), some (.int r46)] [] A115
      refine q_blk (pc' := 108) (lo' := [some (.ref a0), some (.int x1), some (.int r2), some (.int (if r34 < (q_I A25 r4 j30) then r34 else (q_I A25 r4 j30))), some (.int r46)]) (st' := [.int r2, .ref a0]) [.aload_n 0, .iload_n 2] (by decide +kernel) rfl ?_
      obtain ⟨s119, h⟩ := h
      refine q_callV (ci := 11) (Mc := M_X11_total) (z := 1) (b := a0) (As := [.int r2]) (st := []) mo_X11_total mi_X11_total ml_X11_189_X11_total rfl rfl (by decide) rfl (by decide) (by decide) rfl (Nat.le_of_ble_eq_true rfl) (by decide +kernel) s119 h (q_fI fun r118 A117 h => ?_)
      show q_Wp _ _ _ _ 0 0 111 [some (.ref a0), some (.int x1), some (.int r2), some (.int (if r34 < (q_I A25 r4 j30) then r34 else (q_I A25 r4 j30))), some (.int r46)] [.int r118] A117
      refine q_if_ne 124 (off := 13) (by decide +kernel) (by decide) (fun c120 => ?_) (fun c120 => ?_)
      · have h := h.2 c120
        refine q_blk (pc' := 126) (lo' := [some (.ref a0), some (.int x1), some (.int r2), some (.int (if r34 < (q_I A25 r4 j30) then r34 else (q_I A25 r4 j30))), some (.int r46)]) (st' := [.int (nI 1), .int x1]) [.iload_n 1, .iconst 1] (by decide +kernel) rfl ?_
        refine q_callS (Mc := M_X11_placeAt) (z := 2) (As := [.int x1, .int (nI 1)]) (st := []) mo_X11_placeAt ms_X11_placeAt ml_X11_141_X11_placeAt rfl rfl (by decide) (by decide) rfl (Nat.le_of_ble_eq_true rfl) (by decide +kernel) h (q_fI fun r122 A121 h => ?_)
        show q_Wp _ _ _ _ 0 0 129 [some (.ref a0), some (.int x1), some (.int r2), some (.int (if r34 < (q_I A25 r4 j30) then r34 else (q_I A25 r4 j30))), some (.int r46)] [.int r122] A121
        refine q_blk (pc' := 132) (lo' := [some (.ref a0), some (.int x1), some (.int r2), some (.int (if r34 < (q_I A25 r4 j30) then r34 else (q_I A25 r4 j30))), some (.int r122)]) (st' := [.ref a0]) [.istore 4, .aload_n 0] (by decide +kernel) rfl ?_
        obtain ⟨s123, h⟩ := h
        obtain ⟨r124, e125, h⟩ := h
        refine q_getR fl_X11_30 rfl (by decide) (by decide +kernel) s123 e125 ?_
        refine q_blk (pc' := 138) (lo' := [some (.ref a0), some (.int x1), some (.int r2), some (.int (if r34 < (q_I A25 r4 j30) then r34 else (q_I A25 r4 j30))), some (.int r122)]) (st' := [.int (if r34 < (q_I A25 r4 j30) then r34 else (q_I A25 r4 j30)), .int r122, .ref r124]) [.iload 4, .iload_n 3] (by decide +kernel) rfl ?_
        refine q_if_le 164 (off := 26) (by decide +kernel) (by decide) (fun c126 => ?_) (fun c126 => ?_)
        · have h := h.1 c126
          refine q_blk (pc' := 166) (lo' := [some (.ref a0), some (.int x1), some (.int r2), some (.int (if r34 < (q_I A25 r4 j30) then r34 else (q_I A25 r4 j30))), some (.int r122)]) (st' := [.ref a0, .int (nI 0), .int r122, .ref r124]) [.iconst 0, .aload_n 0] (by decide +kernel) rfl ?_
          refine q_getR fl_X11_30 rfl (by decide) (by decide +kernel) s123 e125 ?_
          refine q_blk (pc' := 171) (lo' := [some (.ref a0), some (.int x1), some (.int r2), some (.int (if r34 < (q_I A25 r4 j30) then r34 else (q_I A25 r4 j30))), some (.int r122)]) (st' := [.int r122, .ref r124, .int (nI 0), .int r122, .ref r124]) [.iload 4] (by decide +kernel) rfl ?_
          obtain ⟨z128, s127, b129, h⟩ := h
          obtain ⟨j130, e131, h⟩ := h
          obtain ⟨l132, h⟩ := h
          refine q_iald e131 (by decide +kernel) s127 l132 b129 ?_
          refine q_blk (pc' := 174) (lo' := [some (.ref a0), some (.int x1), some (.int r2), some (.int (if r34 < (q_I A25 r4 j30) then r34 else (q_I A25 r4 j30))), some (.int r122)]) (st' := [.int ((q_I A121 r124 j130) - (nI 2)), .int (nI 0), .int r122, .ref r124]) [.iconst 2, .isub] (by decide +kernel) rfl ?_
          refine q_mmax mm_X11_231_a.1 mm_X11_231_a.2.1 mm_X11_231_a.2.2.1 mm_X11_231_a.2.2.2 (by decide) (Nat.le_of_ble_eq_true rfl) (by decide) (by decide) (by decide +kernel) ?_
          refine q_iast e131 (by decide +kernel) s127 l132 b129 ?_
          exact q_ret0 rfl (by decide) (by decide) (by decide +kernel) ⟨rfl, h⟩
        · have h := h.2 c126
          refine q_blk (pc' := 144) (lo' := [some (.ref a0), some (.int x1), some (.int r2), some (.int (if r34 < (q_I A25 r4 j30) then r34 else (q_I A25 r4 j30))), some (.int r122)]) (st' := [.ref a0, .int (nI 60), .int r122, .ref r124]) [.bipush 60, .aload_n 0] (by decide +kernel) rfl ?_
          refine q_getR fl_X11_30 rfl (by decide) (by decide +kernel) s123 e125 ?_
          refine q_blk (pc' := 149) (lo' := [some (.ref a0), some (.int x1), some (.int r2), some (.int (if r34 < (q_I A25 r4 j30) then r34 else (q_I A25 r4 j30))), some (.int r122)]) (st' := [.int r122, .ref r124, .int (nI 60), .int r122, .ref r124]) [.iload 4] (by decide +kernel) rfl ?_
          obtain ⟨z134, s133, b135, h⟩ := h
          obtain ⟨j136, e137, h⟩ := h
          obtain ⟨l138, h⟩ := h
          refine q_iald e137 (by decide +kernel) s133 l138 b135 ?_
          refine q_blk (pc' := 151) (lo' := [some (.ref a0), some (.int x1), some (.int r2), some (.int (if r34 < (q_I A25 r4 j30) then r34 else (q_I A25 r4 j30))), some (.int r122)]) (st' := [.ref a0, .int (q_I A121 r124 j136), .int (nI 60), .int r122, .ref r124]) [.aload_n 0] (by decide +kernel) rfl ?_
          refine q_getR fl_X11_30 rfl (by decide) (by decide +kernel) s123 e125 ?_
          refine q_blk (pc' := 156) (lo' := [some (.ref a0), some (.int x1), some (.int r2), some (.int (if r34 < (q_I A25 r4 j30) then r34 else (q_I A25 r4 j30))), some (.int r122)]) (st' := [.int (nI 6), .ref r124, .int (q_I A121 r124 j136), .int (nI 60), .int r122, .ref r124]) [.bipush 6] (by decide +kernel) rfl ?_
          obtain ⟨l139, h⟩ := h
          refine q_iald rfl (by decide +kernel) s133 l139 b135 ?_
          refine q_blk (pc' := 158) (lo' := [some (.ref a0), some (.int x1), some (.int r2), some (.int (if r34 < (q_I A25 r4 j30) then r34 else (q_I A25 r4 j30))), some (.int r122)]) (st' := [.int ((q_I A121 r124 j136) + (q_I A121 r124 6)), .int (nI 60), .int r122, .ref r124]) [.iadd] (by decide +kernel) rfl ?_
          refine q_mmin mm_X11_225_i.1 mm_X11_225_i.2.1 mm_X11_225_i.2.2.1 mm_X11_225_i.2.2.2 (by decide) (Nat.le_of_ble_eq_true rfl) (by decide) (by decide) (by decide +kernel) ?_
          refine q_goto 177 (off := 16) (by decide +kernel) (by decide) ?_
          refine q_iast e137 (by decide +kernel) s133 l138 b135 ?_
          exact q_ret0 rfl (by decide) (by decide) (by decide +kernel) ⟨rfl, h⟩
      · have h := h.1 c120
        refine q_blk (pc' := 115) (lo' := [some (.ref a0), some (.int x1), some (.int r2), some (.int (if r34 < (q_I A25 r4 j30) then r34 else (q_I A25 r4 j30))), some (.int r46)]) (st' := [.ref a0]) [.aload_n 0] (by decide +kernel) rfl ?_
        obtain ⟨s140, h⟩ := h
        obtain ⟨r141, e142, h⟩ := h
        refine q_getR fl_X11_30 rfl (by decide) (by decide +kernel) s140 e142 ?_
        refine q_blk (pc' := 123) (lo' := [some (.ref a0), some (.int x1), some (.int r2), some (.int (if r34 < (q_I A25 r4 j30) then r34 else (q_I A25 r4 j30))), some (.int r46)]) (st' := [.int (-1), .int (r2 + (nI 6)), .ref r141]) [.iload_n 2, .bipush 6, .iadd, .iconst (-1)] (by decide +kernel) rfl ?_
        obtain ⟨z144, s143, b145, h⟩ := h
        obtain ⟨l146, h⟩ := h
        refine q_iast e10 (by decide +kernel) s143 l146 b145 ?_
        refine q_blk (pc' := 126) (lo' := [some (.ref a0), some (.int x1), some (.int r2), some (.int (if r34 < (q_I A25 r4 j30) then r34 else (q_I A25 r4 j30))), some (.int r46)]) (st' := [.int (nI 1), .int x1]) [.iload_n 1, .iconst 1] (by decide +kernel) rfl ?_
        refine q_callS (Mc := M_X11_placeAt) (z := 2) (As := [.int x1, .int (nI 1)]) (st := []) mo_X11_placeAt ms_X11_placeAt ml_X11_141_X11_placeAt rfl rfl (by decide) (by decide) rfl (Nat.le_of_ble_eq_true rfl) (by decide +kernel) h (q_fI fun r148 A147 h => ?_)
        show q_Wp _ _ _ _ 0 0 129 [some (.ref a0), some (.int x1), some (.int r2), some (.int (if r34 < (q_I A25 r4 j30) then r34 else (q_I A25 r4 j30))), some (.int r46)] [.int r148] A147
        refine q_blk (pc' := 132) (lo' := [some (.ref a0), some (.int x1), some (.int r2), some (.int (if r34 < (q_I A25 r4 j30) then r34 else (q_I A25 r4 j30))), some (.int r148)]) (st' := [.ref a0]) [.istore 4, .aload_n 0] (by decide +kernel) rfl ?_
        obtain ⟨s149, h⟩ := h
        obtain ⟨r150, e151, h⟩ := h
        refine q_getR fl_X11_30 rfl (by decide) (by decide +kernel) s149 e151 ?_
        refine q_blk (pc' := 138) (lo' := [some (.ref a0), some (.int x1), some (.int r2), some (.int (if r34 < (q_I A25 r4 j30) then r34 else (q_I A25 r4 j30))), some (.int r148)]) (st' := [.int (if r34 < (q_I A25 r4 j30) then r34 else (q_I A25 r4 j30)), .int r148, .ref r150]) [.iload 4, .iload_n 3] (by decide +kernel) rfl ?_
        refine q_if_le 164 (off := 26) (by decide +kernel) (by decide) (fun c152 => ?_) (fun c152 => ?_)
        · have h := h.1 c152
          refine q_blk (pc' := 166) (lo' := [some (.ref a0), some (.int x1), some (.int r2), some (.int (if r34 < (q_I A25 r4 j30) then r34 else (q_I A25 r4 j30))), some (.int r148)]) (st' := [.ref a0, .int (nI 0), .int r148, .ref r150]) [.iconst 0, .aload_n 0] (by decide +kernel) rfl ?_
          refine q_getR fl_X11_30 rfl (by decide) (by decide +kernel) s149 e151 ?_
          refine q_blk (pc' := 171) (lo' := [some (.ref a0), some (.int x1), some (.int r2), some (.int (if r34 < (q_I A25 r4 j30) then r34 else (q_I A25 r4 j30))), some (.int r148)]) (st' := [.int r148, .ref r150, .int (nI 0), .int r148, .ref r150]) [.iload 4] (by decide +kernel) rfl ?_
          obtain ⟨z154, s153, b155, h⟩ := h
          obtain ⟨j156, e157, h⟩ := h
          obtain ⟨l158, h⟩ := h
          refine q_iald e157 (by decide +kernel) s153 l158 b155 ?_
          refine q_blk (pc' := 174) (lo' := [some (.ref a0), some (.int x1), some (.int r2), some (.int (if r34 < (q_I A25 r4 j30) then r34 else (q_I A25 r4 j30))), some (.int r148)]) (st' := [.int ((q_I A147 r150 j156) - (nI 2)), .int (nI 0), .int r148, .ref r150]) [.iconst 2, .isub] (by decide +kernel) rfl ?_
          refine q_mmax mm_X11_231_a.1 mm_X11_231_a.2.1 mm_X11_231_a.2.2.1 mm_X11_231_a.2.2.2 (by decide) (Nat.le_of_ble_eq_true rfl) (by decide) (by decide) (by decide +kernel) ?_
          refine q_iast e157 (by decide +kernel) s153 l158 b155 ?_
          exact q_ret0 rfl (by decide) (by decide) (by decide +kernel) ⟨rfl, h⟩
        · have h := h.2 c152
          refine q_blk (pc' := 144) (lo' := [some (.ref a0), some (.int x1), some (.int r2), some (.int (if r34 < (q_I A25 r4 j30) then r34 else (q_I A25 r4 j30))), some (.int r148)]) (st' := [.ref a0, .int (nI 60), .int r148, .ref r150]) [.bipush 60, .aload_n 0] (by decide +kernel) rfl ?_
          refine q_getR fl_X11_30 rfl (by decide) (by decide +kernel) s149 e151 ?_
          refine q_blk (pc' := 149) (lo' := [some (.ref a0), some (.int x1), some (.int r2), some (.int (if r34 < (q_I A25 r4 j30) then r34 else (q_I A25 r4 j30))), some (.int r148)]) (st' := [.int r148, .ref r150, .int (nI 60), .int r148, .ref r150]) [.iload 4] (by decide +kernel) rfl ?_
          obtain ⟨z160, s159, b161, h⟩ := h
          obtain ⟨j162, e163, h⟩ := h
          obtain ⟨l164, h⟩ := h
          refine q_iald e163 (by decide +kernel) s159 l164 b161 ?_
          refine q_blk (pc' := 151) (lo' := [some (.ref a0), some (.int x1), some (.int r2), some (.int (if r34 < (q_I A25 r4 j30) then r34 else (q_I A25 r4 j30))), some (.int r148)]) (st' := [.ref a0, .int (q_I A147 r150 j162), .int (nI 60), .int r148, .ref r150]) [.aload_n 0] (by decide +kernel) rfl ?_
          refine q_getR fl_X11_30 rfl (by decide) (by decide +kernel) s149 e151 ?_
          refine q_blk (pc' := 156) (lo' := [some (.ref a0), some (.int x1), some (.int r2), some (.int (if r34 < (q_I A25 r4 j30) then r34 else (q_I A25 r4 j30))), some (.int r148)]) (st' := [.int (nI 6), .ref r150, .int (q_I A147 r150 j162), .int (nI 60), .int r148, .ref r150]) [.bipush 6] (by decide +kernel) rfl ?_
          obtain ⟨l165, h⟩ := h
          refine q_iald rfl (by decide +kernel) s159 l165 b161 ?_
          refine q_blk (pc' := 158) (lo' := [some (.ref a0), some (.int x1), some (.int r2), some (.int (if r34 < (q_I A25 r4 j30) then r34 else (q_I A25 r4 j30))), some (.int r148)]) (st' := [.int ((q_I A147 r150 j162) + (q_I A147 r150 6)), .int (nI 60), .int r148, .ref r150]) [.iadd] (by decide +kernel) rfl ?_
          refine q_mmin mm_X11_225_i.1 mm_X11_225_i.2.1 mm_X11_225_i.2.2.1 mm_X11_225_i.2.2.2 (by decide) (Nat.le_of_ble_eq_true rfl) (by decide) (by decide) (by decide +kernel) ?_
          refine q_goto 177 (off := 16) (by decide +kernel) (by decide) ?_
          refine q_iast e163 (by decide +kernel) s159 l164 b161 ?_
          exact q_ret0 rfl (by decide) (by decide) (by decide +kernel) ⟨rfl, h⟩
theorem f_X11_gradeOf {G : q_G} {X : String → q_H → Prop} {f : Int32 → q_H → Prop} {A : q_H} {a0 : Nat} {x1 : Int32} (h : q_sh A a0 = (12, 0) ∧ ∃ r2 : Nat, q_R A a0 6 = some r2 ∧ ∃ z5 : Nat, q_sh A r2 = (50, z5) ∧ z5 < 2147483648 ∧ 2 < z5 ∧ ((x1 < (q_I A r2 2) → 3 < z5 ∧ ((x1 < (q_I A r2 3) → f (nI 2) A) ∧ (¬ x1 < (q_I A r2 3) → f (nI 1) A))) ∧ (¬ x1 < (q_I A r2 2) → f (nI 0) A))) : q_Wc G M_X11_gradeOf [.ref a0, .int x1] A (q_KI f) X := by
  refine q_Wc.of [some (.ref a0), some (.int x1)] mo_X11_gradeOf.2.2.2.2.2 rfl (Nat.le_of_ble_eq_true rfl) rfl ?_
  refine q_blk (pc' := 2) (lo' := [some (.ref a0), some (.int x1)]) (st' := [.ref a0, .int x1]) [.iload_n 1, .aload_n 0] (by decide +kernel) rfl ?_
  obtain ⟨s1, h⟩ := h
  obtain ⟨r2, e3, h⟩ := h
  refine q_getR fl_X11_30 rfl (by decide) (by decide +kernel) s1 e3 ?_
  refine q_blk (pc' := 6) (lo' := [some (.ref a0), some (.int x1)]) (st' := [.int (nI 2), .ref r2, .int x1]) [.iconst 2] (by decide +kernel) rfl ?_
  obtain ⟨z5, s4, b6, h⟩ := h
  obtain ⟨l7, h⟩ := h
  refine q_iald rfl (by decide +kernel) s4 l7 b6 ?_
  refine q_icmp_lt 14 (off := 7) (by decide +kernel) (by decide) (fun c8 => ?_) (fun c8 => ?_)
  · have h := h.1 c8
    refine q_blk (pc' := 16) (lo' := [some (.ref a0), some (.int x1)]) (st' := [.ref a0, .int x1]) [.iload_n 1, .aload_n 0] (by decide +kernel) rfl ?_
    refine q_getR fl_X11_30 rfl (by decide) (by decide +kernel) s1 e3 ?_
    refine q_blk (pc' := 20) (lo' := [some (.ref a0), some (.int x1)]) (st' := [.int (nI 3), .ref r2, .int x1]) [.iconst 3] (by decide +kernel) rfl ?_
    obtain ⟨l9, h⟩ := h
    refine q_iald rfl (by decide +kernel) s4 l9 b6 ?_
    refine q_icmp_lt 28 (off := 7) (by decide +kernel) (by decide) (fun c10 => ?_) (fun c10 => ?_)
    · have h := h.1 c10
      refine q_blk (pc' := 29) (lo' := [some (.ref a0), some (.int x1)]) (st' := [.int (nI 2)]) [.iconst 2] (by decide +kernel) rfl ?_
      exact q_retI rfl (by decide) (by decide) (by decide +kernel) ⟨_, rfl, h⟩
    · have h := h.2 c10
      refine q_blk (pc' := 25) (lo' := [some (.ref a0), some (.int x1)]) (st' := [.int (nI 1)]) [.iconst 1] (by decide +kernel) rfl ?_
      refine q_goto 29 (off := 4) (by decide +kernel) (by decide) ?_
      exact q_retI rfl (by decide) (by decide) (by decide +kernel) ⟨_, rfl, h⟩
  · have h := h.2 c8
    refine q_blk (pc' := 11) (lo' := [some (.ref a0), some (.int x1)]) (st' := [.int (nI 0)]) [.iconst 0] (by decide +kernel) rfl ?_
    refine q_goto 29 (off := 18) (by decide +kernel) (by decide) ?_
    exact q_retI rfl (by decide) (by decide) (by decide +kernel) ⟨_, rfl, h⟩
theorem f_X11_presses {G : q_G} {X : String → q_H → Prop} {f : q_H → Prop} {A : q_H} {a0 : Nat} {x1 : Int32} (h : q_Wc G M_X11_placeAt [.int x1, .int (nI 4)] A (q_KI fun r2 A1 => q_sh A1 a0 = (12, 0) ∧ q_Wc G M_X11_targetOf [.ref a0, .int x1] A1 (q_KI fun r4 A3 => q_Wp G M_X11_presses (q_KV f) X 0 0 12 [some (.ref a0), some (.int x1), some (.int r2), some (.int r4), none, none] [] A3) q_nX) q_nX) : q_Wc G M_X11_presses [.ref a0, .int x1] A (q_KV f) X := by
  refine q_Wc.of [some (.ref a0), some (.int x1), none, none, none, none] mo_X11_presses.2.2.2.2.2 rfl (Nat.le_of_ble_eq_true rfl) rfl ?_
  refine q_blk (pc' := 2) (lo' := [some (.ref a0), some (.int x1), none, none, none, none]) (st' := [.int (nI 4), .int x1]) [.iload_n 1, .iconst 4] (by decide +kernel) rfl ?_
  refine q_callS (Mc := M_X11_placeAt) (z := 2) (As := [.int x1, .int (nI 4)]) (st := []) mo_X11_placeAt ms_X11_placeAt ml_X11_141_X11_placeAt rfl rfl (by decide) (by decide) rfl (Nat.le_of_ble_eq_true rfl) (by decide +kernel) h (q_fI fun r2 A1 h => ?_)
  show q_Wp _ _ _ _ 0 0 5 [some (.ref a0), some (.int x1), none, none, none, none] [.int r2] A1
  refine q_blk (pc' := 8) (lo' := [some (.ref a0), some (.int x1), some (.int r2), none, none, none]) (st' := [.int x1, .ref a0]) [.istore_n 2, .aload_n 0, .iload_n 1] (by decide +kernel) rfl ?_
  obtain ⟨s5, h⟩ := h
  refine q_callV (ci := 11) (Mc := M_X11_targetOf) (z := 1) (b := a0) (As := [.int x1]) (st := []) mo_X11_targetOf mi_X11_targetOf ml_X11_201_X11_targetOf rfl rfl (by decide) rfl (by decide) (by decide) rfl (Nat.le_of_ble_eq_true rfl) (by decide +kernel) s5 h (q_fI fun r4 A3 h => ?_)
  show q_Wp _ _ _ _ 0 0 11 [some (.ref a0), some (.int x1), some (.int r2), none, none, none] [.int r4] A3
  refine q_blk (pc' := 12) (lo' := [some (.ref a0), some (.int x1), some (.int r2), some (.int r4), none, none]) (st' := []) [.istore_n 3] (by decide +kernel) rfl ?_
  exact h
theorem f_X11_presses_12 {G : q_G} {X : String → q_H → Prop} {f : q_H → Prop} {A : q_H} {a0 : Nat} {x1 : Int32} {x2 : Int32} {x3 : Int32} (h : q_sh A a0 = (12, 0) ∧ q_Wc G M_X11_total [.ref a0, .int x2] A (q_KI fun r2 A1 => q_sh A1 a0 = (12, 0) ∧ ∃ r5 : Nat, q_R A1 a0 6 = some r5 ∧ ∃ z8 : Nat, q_sh A1 r5 = (50, z8) ∧ z8 < 2147483648 ∧ 1 < z8 ∧ ((r2 < (q_I A1 r5 1) → f A1) ∧ (¬ r2 < (q_I A1 r5 1) → 14 < z8 ∧ (((nI 40) ≤ (q_I A1 r5 14) → f A1) ∧ (¬ (nI 40) ≤ (q_I A1 r5 14) → q_Wc G M_X11_takes [.ref a0, .int x2, .int (q_I A1 r5 1)] A1 (q_KV fun A14 => q_Wc G M_X11_storedAt [.int (q_I A1 r5 14), .int (nI 4)] A14 (q_KI fun r17 A16 => q_sh A16 a0 = (12, 0) ∧ q_Wc G M_X11_lays_ [.ref a0, .int r17] A16 (q_KV fun A18 => q_sh A18 a0 = (12, 0) ∧ ∃ r22 : Nat, q_R A18 a0 21 = some r22 ∧ ∃ z25 : Nat, q_sh A18 r22 = (50, z25) ∧ z25 < 2147483648 ∧ ∃ j27 : Nat, x3 = nI j27 ∧ j27 < z25 ∧ ∃ r30 : Nat, q_R A18 a0 6 = some r30 ∧ ∃ z33 : Nat, q_sh A18 r30 = (50, z33) ∧ z33 < 2147483648 ∧ 1 < z33 ∧ (¬ (q_I A18 r30 1) = nI 0) ∧ q_Wc G M_X11_storedAt [.int (q_I A1 r5 14), .int (nI 0)] A18 (q_KI fun r38 A37 => q_sh A37 a0 = (12, 0) ∧ ∃ r40 : Nat, q_R A37 a0 6 = some r40 ∧ ∃ z43 : Nat, q_sh A37 r40 = (50, z43) ∧ z43 < 2147483648 ∧ 10 < z43 ∧ ∃ z47 : Nat, q_sh A37 r30 = (50, z47) ∧ z47 < 2147483648 ∧ ∃ j49 : Nat, r38 = nI j49 ∧ j49 < z47 ∧ q_Wc G M_X11_storedAt [.int (q_I A1 r5 14), .int (nI 1)] (q_setI A37 r30 j49 (q_I A37 r40 10)) (q_KI fun r53 A52 => ∃ z55 : Nat, q_sh A52 r40 = (50, z55) ∧ z55 < 2147483648 ∧ ∃ j57 : Nat, r53 = nI j57 ∧ j57 < z55 ∧ q_sh A52 a0 = (12, 0) ∧ ∃ r61 : Nat, q_R A52 a0 6 = some r61 ∧ q_Wc G M_X11_storedAt [.int (q_I A1 r5 14), .int (nI 2)] (q_setI A52 r40 j57 x3) (q_KI fun r64 A63 => ∃ z66 : Nat, q_sh A63 r61 = (50, z66) ∧ z66 < 2147483648 ∧ ∃ j68 : Nat, r64 = nI j68 ∧ j68 < z66 ∧ q_sh A63 a0 = (12, 0) ∧ ∃ r72 : Nat, q_R A63 a0 6 = some r72 ∧ q_Wc G M_X11_storedAt [.int (q_I A1 r5 14), .int (nI 3)] (q_setI A63 r61 j68 (((q_I A18 r22 j27) * (nI 100)) / (q_I A18 r30 1))) (q_KI fun r75 A74 => q_sh A74 a0 = (12, 0) ∧ q_Wc G M_X11_gradeOf [.ref a0, .int (((q_I A18 r22 j27) * (nI 100)) / (q_I A18 r30 1))] A74 (q_KI fun r77 A76 => ∃ z80 : Nat, q_sh A76 r72 = (50, z80) ∧ z80 < 2147483648 ∧ ∃ j82 : Nat, r75 = nI j82 ∧ j82 < z80 ∧ q_sh A76 a0 = (12, 0) ∧ ∃ r86 : Nat, q_R A76 a0 6 = some r86 ∧ ∃ z89 : Nat, q_sh A76 r86 = (50, z89) ∧ z89 < 2147483648 ∧ 14 < z89 ∧ 10 < z89 ∧ (∀ A93 : q_H, A93 = (q_setI (q_setI (q_setI A76 r72 j82 r77) r86 14 ((q_I (q_setI A76 r72 j82 r77) r86 14) + (nI 1))) r86 10 ((q_I (q_setI (q_setI A76 r72 j82 r77) r86 14 ((q_I (q_setI A76 r72 j82 r77) r86 14) + (nI 1))) r86 10) + (nI 1))) → 19 < z89 ∧ 1 < z89 ∧ ∃ j96 : Nat, ((nI 30) + x3) = nI j96 ∧ j96 < z89 ∧ ∃ r99 : Nat, q_R A76 a0 21 = some r99 ∧ ∃ z102 : Nat, q_sh A76 r99 = (50, z102) ∧ z102 < 2147483648 ∧ j27 < z102 ∧ (∀ A105 : q_H, A105 = (q_setI (q_setI A93 r86 19 ((q_I A93 r86 19) + (q_I A93 r86 1))) r86 j96 ((q_I (q_setI A93 r86 19 ((q_I A93 r86 19) + (q_I A93 r86 1))) r86 j96) + (q_I (q_setI A93 r86 19 ((q_I A93 r86 19) + (q_I A93 r86 1))) r99 j27))) → ∃ j106 : Nat, ((nI 36) + x3) = nI j106 ∧ j106 < z89 ∧ q_Wc G M_X11_placeAt [.int x1, .int (nI 2)] (q_setI A105 r86 j106 ((q_I A105 r86 j106) + (q_I A105 r86 1))) (q_KI fun r110 A109 => ∃ z112 : Nat, q_sh A109 r86 = (50, z112) ∧ z112 < 2147483648 ∧ ∃ j114 : Nat, r110 = nI j114 ∧ j114 < z112 ∧ q_sh A109 a0 = (12, 0) ∧ q_Wc G M_X11_gradeOf [.ref a0, .int (((q_I A18 r22 j27) * (nI 100)) / (q_I A18 r30 1))] (q_setI A109 r86 j114 ((q_I A109 r86 j114) + (nI 1))) (q_KI fun r119 A118 => ((r119 = nI 0 → q_sh A118 a0 = (12, 0) ∧ q_Wp G M_X11_presses (q_KV f) X 0 0 12 [some (.ref a0), some (.int x1), some (.int x2), some (.int x3), none, none] [] (q_setI A118 a0 22 ((q_I (q_setI A109 r86 j114 ((q_I A109 r86 j114) + (nI 1))) a0 22) + (nI 1)))) ∧ (¬ r119 = nI 0 → q_sh A118 a0 = (12, 0) ∧ q_Wp G M_X11_presses (q_KV f) X 0 0 12 [some (.ref a0), some (.int x1), some (.int x2), some (.int x3), none, none] [] (q_setI A118 a0 22 ((q_I (q_setI A109 r86 j114 ((q_I A109 r86 j114) + (nI 1))) a0 22) + (nI 0)))))) q_nX) q_nX))) q_nX) q_nX) q_nX) q_nX) q_nX) q_nX) q_nX) q_nX))))) q_nX) : q_Wp G M_X11_presses (q_KV f) X 0 0 12 [some (.ref a0), some (.int x1), some (.int x2), some (.int x3), none, none] [] A := by
  refine q_blk (pc' := 14) (lo' := [some (.ref a0), some (.int x1), some (.int x2), some (.int x3), none, none]) (st' := [.int x2, .ref a0]) [.aload_n 0, .iload_n 2] (by decide +kernel) rfl ?_
  obtain ⟨s3, h⟩ := h
  refine q_callV (ci := 11) (Mc := M_X11_total) (z := 1) (b := a0) (As := [.int x2]) (st := []) mo_X11_total mi_X11_total ml_X11_189_X11_total rfl rfl (by decide) rfl (by decide) (by decide) rfl (Nat.le_of_ble_eq_true rfl) (by decide +kernel) s3 h (q_fI fun r2 A1 h => ?_)
  show q_Wp _ _ _ _ 0 0 17 [some (.ref a0), some (.int x1), some (.int x2), some (.int x3), none, none] [.int r2] A1
  refine q_blk (pc' := 18) (lo' := [some (.ref a0), some (.int x1), some (.int x2), some (.int x3), none, none]) (st' := [.ref a0, .int r2]) [.aload_n 0] (by decide +kernel) rfl ?_
  obtain ⟨s4, h⟩ := h
  obtain ⟨r5, e6, h⟩ := h
  refine q_getR fl_X11_30 rfl (by decide) (by decide +kernel) s4 e6 ?_
  refine q_blk (pc' := 22) (lo' := [some (.ref a0), some (.int x1), some (.int x2), some (.int x3), none, none]) (st' := [.int (nI 1), .ref r5, .int r2]) [.iconst 1] (by decide +kernel) rfl ?_
  obtain ⟨z8, s7, b9, h⟩ := h
  obtain ⟨l10, h⟩ := h
  refine q_iald rfl (by decide +kernel) s7 l10 b9 ?_
  refine q_icmp_lt 260 (off := 237) (by decide +kernel) (by decide) (fun c11 => ?_) (fun c11 => ?_)
  · have h := h.1 c11
    exact q_ret0 rfl (by decide) (by decide) (by decide +kernel) ⟨rfl, h⟩
  · have h := h.2 c11
    refine q_blk (pc' := 27) (lo' := [some (.ref a0), some (.int x1), some (.int x2), some (.int x3), none, none]) (st' := [.ref a0]) [.aload_n 0] (by decide +kernel) rfl ?_
    refine q_getR fl_X11_30 rfl (by decide) (by decide +kernel) s4 e6 ?_
    refine q_blk (pc' := 32) (lo' := [some (.ref a0), some (.int x1), some (.int x2), some (.int x3), none, none]) (st' := [.int (nI 14), .ref r5]) [.bipush 14] (by decide +kernel) rfl ?_
    obtain ⟨l12, h⟩ := h
    refine q_iald rfl (by decide +kernel) s7 l12 b9 ?_
    refine q_blk (pc' := 35) (lo' := [some (.ref a0), some (.int x1), some (.int x2), some (.int x3), none, none]) (st' := [.int (nI 40), .int (q_I A1 r5 14)]) [.bipush 40] (by decide +kernel) rfl ?_
    refine q_icmp_ge 260 (off := 225) (by decide +kernel) (by decide) (fun c13 => ?_) (fun c13 => ?_)
    · have h := h.1 c13
      exact q_ret0 rfl (by decide) (by decide) (by decide +kernel) ⟨rfl, h⟩
    · have h := h.2 c13
      refine q_blk (pc' := 39) (lo' := [some (.ref a0), some (.int x1), some (.int x2), some (.int x3), none, none]) (st' := [.ref a0]) [.aload_n 0] (by decide +kernel) rfl ?_
      refine q_getR fl_X11_30 rfl (by decide) (by decide +kernel) s4 e6 ?_
      refine q_blk (pc' := 44) (lo' := [some (.ref a0), some (.int x1), some (.int x2), some (.int x3), none, none]) (st' := [.int (nI 14), .ref r5]) [.bipush 14] (by decide +kernel) rfl ?_
      refine q_iald rfl (by decide +kernel) s7 l12 b9 ?_
      refine q_blk (pc' := 50) (lo' := [some (.ref a0), some (.int x1), some (.int x2), some (.int x3), some (.int (q_I A1 r5 14)), none]) (st' := [.ref a0, .int x2, .ref a0]) [.istore 4, .aload_n 0, .iload_n 2, .aload_n 0] (by decide +kernel) rfl ?_
      refine q_getR fl_X11_30 rfl (by decide) (by decide +kernel) s4 e6 ?_
      refine q_blk (pc' := 54) (lo' := [some (.ref a0), some (.int x1), some (.int x2), some (.int x3), some (.int (q_I A1 r5 14)), none]) (st' := [.int (nI 1), .ref r5, .int x2, .ref a0]) [.iconst 1] (by decide +kernel) rfl ?_
      refine q_iald rfl (by decide +kernel) s7 l10 b9 ?_
      refine q_callV (ci := 11) (Mc := M_X11_takes) (z := 2) (b := a0) (As := [.int x2, .int (q_I A1 r5 1)]) (st := []) mo_X11_takes mi_X11_takes ml_X11_217_X11_takes rfl rfl (by decide) rfl (by decide) (by decide) rfl (Nat.le_of_ble_eq_true rfl) (by decide +kernel) s4 h (q_fV fun A14 h => ?_)
      show q_Wp _ _ _ _ 0 0 58 [some (.ref a0), some (.int x1), some (.int x2), some (.int x3), some (.int (q_I A1 r5 14)), none] [] A14
      refine q_blk (pc' := 62) (lo' := [some (.ref a0), some (.int x1), some (.int x2), some (.int x3), some (.int (q_I A1 r5 14)), none]) (st' := [.int (nI 4), .int (q_I A1 r5 14), .ref a0]) [.aload_n 0, .iload 4, .iconst 4] (by decide +kernel) rfl ?_
      refine q_callS (Mc := M_X11_storedAt) (z := 2) (As := [.int (q_I A1 r5 14), .int (nI 4)]) (st := [.ref a0]) mo_X11_storedAt ms_X11_storedAt ml_X11_234_X11_storedAt rfl rfl (by decide) (by decide) rfl (Nat.le_of_ble_eq_true rfl) (by decide +kernel) h (q_fI fun r17 A16 h => ?_)
      show q_Wp _ _ _ _ 0 0 65 [some (.ref a0), some (.int x1), some (.int x2), some (.int x3), some (.int (q_I A1 r5 14)), none] [.int r17, .ref a0] A16
      obtain ⟨s20, h⟩ := h
      refine q_callV (ci := 11) (Mc := M_X11_lays_) (z := 1) (b := a0) (As := [.int r17]) (st := []) mo_X11_lays_ mi_X11_lays_ ml_X11_220_X11_lays_ rfl rfl (by decide) rfl (by decide) (by decide) rfl (Nat.le_of_ble_eq_true rfl) (by decide +kernel) s20 h (q_fV fun A18 h => ?_)
      show q_Wp _ _ _ _ 0 0 68 [some (.ref a0), some (.int x1), some (.int x2), some (.int x3), some (.int (q_I A1 r5 14)), none] [] A18
      refine q_blk (pc' := 69) (lo' := [some (.ref a0), some (.int x1), some (.int x2), some (.int x3), some (.int (q_I A1 r5 14)), none]) (st' := [.ref a0]) [.aload_n 0] (by decide +kernel) rfl ?_
      obtain ⟨s21, h⟩ := h
      obtain ⟨r22, e23, h⟩ := h
      refine q_getR fl_X11_48 rfl (by decide) (by decide +kernel) s21 e23 ?_
      refine q_blk (pc' := 73) (lo' := [some (.ref a0), some (.int x1), some (.int x2), some (.int x3), some (.int (q_I A1 r5 14)), none]) (st' := [.int x3, .ref r22]) [.iload_n 3] (by decide +kernel) rfl ?_
      obtain ⟨z25, s24, b26, h⟩ := h
      obtain ⟨j27, e28, h⟩ := h
      obtain ⟨l29, h⟩ := h
      refine q_iald e28 (by decide +kernel) s24 l29 b26 ?_
      refine q_blk (pc' := 78) (lo' := [some (.ref a0), some (.int x1), some (.int x2), some (.int x3), some (.int (q_I A1 r5 14)), none]) (st' := [.ref a0, .int ((q_I A18 r22 j27) * (nI 100))]) [.bipush 100, .imul, .aload_n 0] (by decide +kernel) rfl ?_
      obtain ⟨r30, e31, h⟩ := h
      refine q_getR fl_X11_30 rfl (by decide) (by decide +kernel) s21 e31 ?_
      refine q_blk (pc' := 82) (lo' := [some (.ref a0), some (.int x1), some (.int x2), some (.int x3), some (.int (q_I A1 r5 14)), none]) (st' := [.int (nI 1), .ref r30, .int ((q_I A18 r22 j27) * (nI 100))]) [.iconst 1] (by decide +kernel) rfl ?_
      obtain ⟨z33, s32, b34, h⟩ := h
      obtain ⟨l35, h⟩ := h
      refine q_iald rfl (by decide +kernel) s32 l35 b34 ?_
      obtain ⟨d36, h⟩ := h
      refine q_idiv (by decide +kernel) d36 ?_
      refine q_blk (pc' := 87) (lo' := [some (.ref a0), some (.int x1), some (.int x2), some (.int x3), some (.int (q_I A1 r5 14)), some (.int (((q_I A18 r22 j27) * (nI 100)) / (q_I A18 r30 1)))]) (st' := [.ref a0]) [.istore 5, .aload_n 0] (by decide +kernel) rfl ?_
      refine q_getR fl_X11_30 rfl (by decide) (by decide +kernel) s21 e31 ?_
      refine q_blk (pc' := 93) (lo' := [some (.ref a0), some (.int x1), some (.int x2), some (.int x3), some (.int (q_I A1 r5 14)), some (.int (((q_I A18 r22 j27) * (nI 100)) / (q_I A18 r30 1)))]) (st' := [.int (nI 0), .int (q_I A1 r5 14), .ref r30]) [.iload 4, .iconst 0] (by decide +kernel) rfl ?_
      refine q_callS (Mc := M_X11_storedAt) (z := 2) (As := [.int (q_I A1 r5 14), .int (nI 0)]) (st := [.ref r30]) mo_X11_storedAt ms_X11_storedAt ml_X11_234_X11_storedAt rfl rfl (by decide) (by decide) rfl (Nat.le_of_ble_eq_true rfl) (by decide +kernel) h (q_fI fun r38 A37 h => ?_)
      show q_Wp _ _ _ _ 0 0 96 [some (.ref a0), some (.int x1), some (.int x2), some (.int x3), some (.int (q_I A1 r5 14)), some (.int (((q_I A18 r22 j27) * (nI 100)) / (q_I A18 r30 1)))] [.int r38, .ref r30] A37
      refine q_blk (pc' := 97) (lo' := [some (.ref a0), some (.int x1), some (.int x2), some (.int x3), some (.int (q_I A1 r5 14)), some (.int (((q_I A18 r22 j27) * (nI 100)) / (q_I A18 r30 1)))]) (st' := [.ref a0, .int r38, .ref r30]) [.aload_n 0] (by decide +kernel) rfl ?_
      obtain ⟨s39, h⟩ := h
      obtain ⟨r40, e41, h⟩ := h
      refine q_getR fl_X11_30 rfl (by decide) (by decide +kernel) s39 e41 ?_
      refine q_blk (pc' := 102) (lo' := [some (.ref a0), some (.int x1), some (.int x2), some (.int x3), some (.int (q_I A1 r5 14)), some (.int (((q_I A18 r22 j27) * (nI 100)) / (q_I A18 r30 1)))]) (st' := [.int (nI 10), .ref r40, .int r38, .ref r30]) [.bipush 10] (by decide +kernel) rfl ?_
      obtain ⟨z43, s42, b44, h⟩ := h
      obtain ⟨l45, h⟩ := h
      refine q_iald rfl (by decide +kernel) s42 l45 b44 ?_
      obtain ⟨z47, s46, b48, h⟩ := h
      obtain ⟨j49, e50, h⟩ := h
      obtain ⟨l51, h⟩ := h
      refine q_iast e50 (by decide +kernel) s46 l51 b48 ?_
      refine q_blk (pc' := 105) (lo' := [some (.ref a0), some (.int x1), some (.int x2), some (.int x3), some (.int (q_I A1 r5 14)), some (.int (((q_I A18 r22 j27) * (nI 100)) / (q_I A18 r30 1)))]) (st' := [.ref a0]) [.aload_n 0] (by decide +kernel) rfl ?_
      refine q_getR fl_X11_30 rfl (by decide) (by decide +kernel) s39 e41 ?_
      refine q_blk (pc' := 111) (lo' := [some (.ref a0), some (.int x1), some (.int x2), some (.int x3), some (.int (q_I A1 r5 14)), some (.int (((q_I A18 r22 j27) * (nI 100)) / (q_I A18 r30 1)))]) (st' := [.int (nI 1), .int (q_I A1 r5 14), .ref r40]) [.iload 4, .iconst 1] (by decide +kernel) rfl ?_
      refine q_callS (Mc := M_X11_storedAt) (z := 2) (As := [.int (q_I A1 r5 14), .int (nI 1)]) (st := [.ref r40]) mo_X11_storedAt ms_X11_storedAt ml_X11_234_X11_storedAt rfl rfl (by decide) (by decide) rfl (Nat.le_of_ble_eq_true rfl) (by decide +kernel) h (q_fI fun r53 A52 h => ?_)
      show q_Wp _ _ _ _ 0 0 114 [some (.ref a0), some (.int x1), some (.int x2), some (.int x3), some (.int (q_I A1 r5 14)), some (.int (((q_I A18 r22 j27) * (nI 100)) / (q_I A18 r30 1)))] [.int r53, .ref r40] A52
      refine q_blk (pc' := 115) (lo' := [some (.ref a0), some (.int x1), some (.int x2), some (.int x3), some (.int (q_I A1 r5 14)), some (.int (((q_I A18 r22 j27) * (nI 100)) / (q_I A18 r30 1)))]) (st' := [.int x3, .int r53, .ref r40]) [.iload_n 3] (by decide +kernel) rfl ?_
      obtain ⟨z55, s54, b56, h⟩ := h
      obtain ⟨j57, e58, h⟩ := h
      obtain ⟨l59, h⟩ := h
      refine q_iast e58 (by decide +kernel) s54 l59 b56 ?_
      refine q_blk (pc' := 117) (lo' := [some (.ref a0), some (.int x1), some (.int x2), some (.int x3), some (.int (q_I A1 r5 14)), some (.int (((q_I A18 r22 j27) * (nI 100)) / (q_I A18 r30 1)))]) (st' := [.ref a0]) [.aload_n 0] (by decide +kernel) rfl ?_
      obtain ⟨s60, h⟩ := h
      obtain ⟨r61, e62, h⟩ := h
      refine q_getR fl_X11_30 rfl (by decide) (by decide +kernel) s60 e62 ?_
      refine q_blk (pc' := 123) (lo' := [some (.ref a0), some (.int x1), some (.int x2), some (.int x3), some (.int (q_I A1 r5 14)), some (.int (((q_I A18 r22 j27) * (nI 100)) / (q_I A18 r30 1)))]) (st' := [.int (nI 2), .int (q_I A1 r5 14), .ref r61]) [.iload 4, .iconst 2] (by decide +kernel) rfl ?_
      refine q_callS (Mc := M_X11_storedAt) (z := 2) (As := [.int (q_I A1 r5 14), .int (nI 2)]) (st := [.ref r61]) mo_X11_storedAt ms_X11_storedAt ml_X11_234_X11_storedAt rfl rfl (by decide) (by decide) rfl (Nat.le_of_ble_eq_true rfl) (by decide +kernel) h (q_fI fun r64 A63 h => ?_)
      show q_Wp _ _ _ _ 0 0 126 [some (.ref a0), some (.int x1), some (.int x2), some (.int x3), some (.int (q_I A1 r5 14)), some (.int (((q_I A18 r22 j27) * (nI 100)) / (q_I A18 r30 1)))] [.int r64, .ref r61] A63
      refine q_blk (pc' := 128) (lo' := [some (.ref a0), some (.int x1), some (.int x2), some (.int x3), some (.int (q_I A1 r5 14)), some (.int (((q_I A18 r22 j27) * (nI 100)) / (q_I A18 r30 1)))]) (st' := [.int (((q_I A18 r22 j27) * (nI 100)) / (q_I A18 r30 1)), .int r64, .ref r61]) [.iload 5] (by decide +kernel) rfl ?_
      obtain ⟨z66, s65, b67, h⟩ := h
      obtain ⟨j68, e69, h⟩ := h
      obtain ⟨l70, h⟩ := h
      refine q_iast e69 (by decide +kernel) s65 l70 b67 ?_
      refine q_blk (pc' := 130) (lo' := [some (.ref a0), some (.int x1), some (.int x2), some (.int x3), some (.int (q_I A1 r5 14)), some (.int (((q_I A18 r22 j27) * (nI 100)) / (q_I A18 r30 1)))]) (st' := [.ref a0]) [.aload_n 0] (by decide +kernel) rfl ?_
      obtain ⟨s71, h⟩ := h
      obtain ⟨r72, e73, h⟩ := h
      refine q_getR fl_X11_30 rfl (by decide) (by decide +kernel) s71 e73 ?_
      refine q_blk (pc' := 136) (lo' := [some (.ref a0), some (.int x1), some (.int x2), some (.int x3), some (.int (q_I A1 r5 14)), some (.int (((q_I A18 r22 j27) * (nI 100)) / (q_I A18 r30 1)))]) (st' := [.int (nI 3), .int (q_I A1 r5 14), .ref r72]) [.iload 4, .iconst 3] (by decide +kernel) rfl ?_
      refine q_callS (Mc := M_X11_storedAt) (z := 2) (As := [.int (q_I A1 r5 14), .int (nI 3)]) (st := [.ref r72]) mo_X11_storedAt ms_X11_storedAt ml_X11_234_X11_storedAt rfl rfl (by decide) (by decide) rfl (Nat.le_of_ble_eq_true rfl) (by decide +kernel) h (q_fI fun r75 A74 h => ?_)
      show q_Wp _ _ _ _ 0 0 139 [some (.ref a0), some (.int x1), some (.int x2), some (.int x3), some (.int (q_I A1 r5 14)), some (.int (((q_I A18 r22 j27) * (nI 100)) / (q_I A18 r30 1)))] [.int r75, .ref r72] A74
      refine q_blk (pc' := 142) (lo' := [some (.ref a0), some (.int x1), some (.int x2), some (.int x3), some (.int (q_I A1 r5 14)), some (.int (((q_I A18 r22 j27) * (nI 100)) / (q_I A18 r30 1)))]) (st' := [.int (((q_I A18 r22 j27) * (nI 100)) / (q_I A18 r30 1)), .ref a0, .int r75, .ref r72]) [.aload_n 0, .iload 5] (by decide +kernel) rfl ?_
      obtain ⟨s78, h⟩ := h
      refine q_callV (ci := 11) (Mc := M_X11_gradeOf) (z := 1) (b := a0) (As := [.int (((q_I A18 r22 j27) * (nI 100)) / (q_I A18 r30 1))]) (st := [.int r75, .ref r72]) mo_X11_gradeOf mi_X11_gradeOf ml_X11_237_X11_gradeOf rfl rfl (by decide) rfl (by decide) (by decide) rfl (Nat.le_of_ble_eq_true rfl) (by decide +kernel) s78 h (q_fI fun r77 A76 h => ?_)
      show q_Wp _ _ _ _ 0 0 145 [some (.ref a0), some (.int x1), some (.int x2), some (.int x3), some (.int (q_I A1 r5 14)), some (.int (((q_I A18 r22 j27) * (nI 100)) / (q_I A18 r30 1)))] [.int r77, .int r75, .ref r72] A76
      obtain ⟨z80, s79, b81, h⟩ := h
      obtain ⟨j82, e83, h⟩ := h
      obtain ⟨l84, h⟩ := h
      refine q_iast e83 (by decide +kernel) s79 l84 b81 ?_
      refine q_blk (pc' := 147) (lo' := [some (.ref a0), some (.int x1), some (.int x2), some (.int x3), some (.int (q_I A1 r5 14)), some (.int (((q_I A18 r22 j27) * (nI 100)) / (q_I A18 r30 1)))]) (st' := [.ref a0]) [.aload_n 0] (by decide +kernel) rfl ?_
      obtain ⟨s85, h⟩ := h
      obtain ⟨r86, e87, h⟩ := h
      refine q_getR fl_X11_30 rfl (by decide) (by decide +kernel) s85 e87 ?_
      refine q_blk (pc' := 153) (lo' := [some (.ref a0), some (.int x1), some (.int x2), some (.int x3), some (.int (q_I A1 r5 14)), some (.int (((q_I A18 r22 j27) * (nI 100)) / (q_I A18 r30 1)))]) (st' := [.int (nI 14), .ref r86, .int (nI 14), .ref r86]) [.bipush 14, .dup2] (by decide +kernel) rfl ?_
      obtain ⟨z89, s88, b90, h⟩ := h
      obtain ⟨l91, h⟩ := h
      refine q_iald rfl (by decide +kernel) s88 l91 b90 ?_
      refine q_blk (pc' := 156) (lo' := [some (.ref a0), some (.int x1), some (.int x2), some (.int x3), some (.int (q_I A1 r5 14)), some (.int (((q_I A18 r22 j27) * (nI 100)) / (q_I A18 r30 1)))]) (st' := [.int ((q_I (q_setI A76 r72 j82 r77) r86 14) + (nI 1)), .int (nI 14), .ref r86]) [.iconst 1, .iadd] (by decide +kernel) rfl ?_
      refine q_iast rfl (by decide +kernel) s88 l91 b90 ?_
      refine q_blk (pc' := 158) (lo' := [some (.ref a0), some (.int x1), some (.int x2), some (.int x3), some (.int (q_I A1 r5 14)), some (.int (((q_I A18 r22 j27) * (nI 100)) / (q_I A18 r30 1)))]) (st' := [.ref a0]) [.aload_n 0] (by decide +kernel) rfl ?_
      refine q_getR fl_X11_30 rfl (by decide) (by decide +kernel) s85 e87 ?_
      refine q_blk (pc' := 164) (lo' := [some (.ref a0), some (.int x1), some (.int x2), some (.int x3), some (.int (q_I A1 r5 14)), some (.int (((q_I A18 r22 j27) * (nI 100)) / (q_I A18 r30 1)))]) (st' := [.int (nI 10), .ref r86, .int (nI 10), .ref r86]) [.bipush 10, .dup2] (by decide +kernel) rfl ?_
      obtain ⟨l92, h⟩ := h
      refine q_iald rfl (by decide +kernel) s88 l92 b90 ?_
      refine q_blk (pc' := 167) (lo' := [some (.ref a0), some (.int x1), some (.int x2), some (.int x3), some (.int (q_I A1 r5 14)), some (.int (((q_I A18 r22 j27) * (nI 100)) / (q_I A18 r30 1)))]) (st' := [.int ((q_I (q_setI (q_setI A76 r72 j82 r77) r86 14 ((q_I (q_setI A76 r72 j82 r77) r86 14) + (nI 1))) r86 10) + (nI 1)), .int (nI 10), .ref r86]) [.iconst 1, .iadd] (by decide +kernel) rfl ?_
      refine q_iast rfl (by decide +kernel) s88 l92 b90 ?_
      let A93 : q_H := (q_setI (q_setI (q_setI A76 r72 j82 r77) r86 14 ((q_I (q_setI A76 r72 j82 r77) r86 14) + (nI 1))) r86 10 ((q_I (q_setI (q_setI A76 r72 j82 r77) r86 14 ((q_I (q_setI A76 r72 j82 r77) r86 14) + (nI 1))) r86 10) + (nI 1)))
      have h := h A93 rfl
      show q_Wp _ _ _ _ 0 0 168 [some (.ref a0), some (.int x1), some (.int x2), some (.int x3), some (.int (q_I A1 r5 14)), some (.int (((q_I A18 r22 j27) * (nI 100)) / (q_I A18 r30 1)))] [] A93
      refine q_blk (pc' := 169) (lo' := [some (.ref a0), some (.int x1), some (.int x2), some (.int x3), some (.int (q_I A1 r5 14)), some (.int (((q_I A18 r22 j27) * (nI 100)) / (q_I A18 r30 1)))]) (st' := [.ref a0]) [.aload_n 0] (by decide +kernel) rfl ?_
      refine q_getR fl_X11_30 rfl (by decide) (by decide +kernel) s85 e87 ?_
      refine q_blk (pc' := 175) (lo' := [some (.ref a0), some (.int x1), some (.int x2), some (.int x3), some (.int (q_I A1 r5 14)), some (.int (((q_I A18 r22 j27) * (nI 100)) / (q_I A18 r30 1)))]) (st' := [.int (nI 19), .ref r86, .int (nI 19), .ref r86]) [.bipush 19, .dup2] (by decide +kernel) rfl ?_
      obtain ⟨l94, h⟩ := h
      refine q_iald rfl (by decide +kernel) s88 l94 b90 ?_
      refine q_blk (pc' := 177) (lo' := [some (.ref a0), some (.int x1), some (.int x2), some (.int x3), some (.int (q_I A1 r5 14)), some (.int (((q_I A18 r22 j27) * (nI 100)) / (q_I A18 r30 1)))]) (st' := [.ref a0, .int (q_I A93 r86 19), .int (nI 19), .ref r86]) [.aload_n 0] (by decide +kernel) rfl ?_
      refine q_getR fl_X11_30 rfl (by decide) (by decide +kernel) s85 e87 ?_
      refine q_blk (pc' := 181) (lo' := [some (.ref a0), some (.int x1), some (.int x2), some (.int x3), some (.int (q_I A1 r5 14)), some (.int (((q_I A18 r22 j27) * (nI 100)) / (q_I A18 r30 1)))]) (st' := [.int (nI 1), .ref r86, .int (q_I A93 r86 19), .int (nI 19), .ref r86]) [.iconst 1] (by decide +kernel) rfl ?_
      obtain ⟨l95, h⟩ := h
      refine q_iald rfl (by decide +kernel) s88 l95 b90 ?_
      refine q_blk (pc' := 183) (lo' := [some (.ref a0), some (.int x1), some (.int x2), some (.int x3), some (.int (q_I A1 r5 14)), some (.int (((q_I A18 r22 j27) * (nI 100)) / (q_I A18 r30 1)))]) (st' := [.int ((q_I A93 r86 19) + (q_I A93 r86 1)), .int (nI 19), .ref r86]) [.iadd] (by decide +kernel) rfl ?_
      refine q_iast rfl (by decide +kernel) s88 l94 b90 ?_
      refine q_blk (pc' := 185) (lo' := [some (.ref a0), some (.int x1), some (.int x2), some (.int x3), some (.int (q_I A1 r5 14)), some (.int (((q_I A18 r22 j27) * (nI 100)) / (q_I A18 r30 1)))]) (st' := [.ref a0]) [.aload_n 0] (by decide +kernel) rfl ?_
      refine q_getR fl_X11_30 rfl (by decide) (by decide +kernel) s85 e87 ?_
      refine q_blk (pc' := 193) (lo' := [some (.ref a0), some (.int x1), some (.int x2), some (.int x3), some (.int (q_I A1 r5 14)), some (.int (((q_I A18 r22 j27) * (nI 100)) / (q_I A18 r30 1)))]) (st' := [.int ((nI 30) + x3), .ref r86, .int ((nI 30) + x3), .ref r86]) [.bipush 30, .iload_n 3, .iadd, .dup2] (by decide +kernel) rfl ?_
      obtain ⟨j96, e97, h⟩ := h
      obtain ⟨l98, h⟩ := h
      refine q_iald e97 (by decide +kernel) s88 l98 b90 ?_
      refine q_blk (pc' := 195) (lo' := [some (.ref a0), some (.int x1), some (.int x2), some (.int x3), some (.int (q_I A1 r5 14)), some (.int (((q_I A18 r22 j27) * (nI 100)) / (q_I A18 r30 1)))]) (st' := [.ref a0, .int (q_I (q_setI A93 r86 19 ((q_I A93 r86 19) + (q_I A93 r86 1))) r86 j96), .int ((nI 30) + x3), .ref r86]) [.aload_n 0] (by decide +kernel) rfl ?_
      obtain ⟨r99, e100, h⟩ := h
      refine q_getR fl_X11_48 rfl (by decide) (by decide +kernel) s85 e100 ?_
      refine q_blk (pc' := 199) (lo' := [some (.ref a0), some (.int x1), some (.int x2), some (.int x3), some (.int (q_I A1 r5 14)), some (.int (((q_I A18 r22 j27) * (nI 100)) / (q_I A18 r30 1)))]) (st' := [.int x3, .ref r99, .int (q_I (q_setI A93 r86 19 ((q_I A93 r86 19) + (q_I A93 r86 1))) r86 j96), .int ((nI 30) + x3), .ref r86]) [.iload_n 3] (by decide +kernel) rfl ?_
      obtain ⟨z102, s101, b103, h⟩ := h
      obtain ⟨l104, h⟩ := h
      refine q_iald e28 (by decide +kernel) s101 l104 b103 ?_
      refine q_blk (pc' := 201) (lo' := [some (.ref a0), some (.int x1), some (.int x2), some (.int x3), some (.int (q_I A1 r5 14)), some (.int (((q_I A18 r22 j27) * (nI 100)) / (q_I A18 r30 1)))]) (st' := [.int ((q_I (q_setI A93 r86 19 ((q_I A93 r86 19) + (q_I A93 r86 1))) r86 j96) + (q_I (q_setI A93 r86 19 ((q_I A93 r86 19) + (q_I A93 r86 1))) r99 j27)), .int ((nI 30) + x3), .ref r86]) [.iadd] (by decide +kernel) rfl ?_
      refine q_iast e97 (by decide +kernel) s88 l98 b90 ?_
      let A105 : q_H := (q_setI (q_setI A93 r86 19 ((q_I A93 r86 19) + (q_I A93 r86 1))) r86 j96 ((q_I (q_setI A93 r86 19 ((q_I A93 r86 19) + (q_I A93 r86 1))) r86 j96) + (q_I (q_setI A93 r86 19 ((q_I A93 r86 19) + (q_I A93 r86 1))) r99 j27)))
      have h := h A105 rfl
      show q_Wp _ _ _ _ 0 0 202 [some (.ref a0), some (.int x1), some (.int x2), some (.int x3), some (.int (q_I A1 r5 14)), some (.int (((q_I A18 r22 j27) * (nI 100)) / (q_I A18 r30 1)))] [] A105
      refine q_blk (pc' := 203) (lo' := [some (.ref a0), some (.int x1), some (.int x2), some (.int x3), some (.int (q_I A1 r5 14)), some (.int (((q_I A18 r22 j27) * (nI 100)) / (q_I A18 r30 1)))]) (st' := [.ref a0]) [.aload_n 0] (by decide +kernel) rfl ?_
      refine q_getR fl_X11_30 rfl (by decide) (by decide +kernel) s85 e87 ?_
      refine q_blk (pc' := 211) (lo' := [some (.ref a0), some (.int x1), some (.int x2), some (.int x3), some (.int (q_I A1 r5 14)), some (.int (((q_I A18 r22 j27) * (nI 100)) / (q_I A18 r30 1)))]) (st' := [.int ((nI 36) + x3), .ref r86, .int ((nI 36) + x3), .ref r86]) [.bipush 36, .iload_n 3, .iadd, .dup2] (by decide +kernel) rfl ?_
      obtain ⟨j106, e107, h⟩ := h
      obtain ⟨l108, h⟩ := h
      refine q_iald e107 (by decide +kernel) s88 l108 b90 ?_
      refine q_blk (pc' := 213) (lo' := [some (.ref a0), some (.int x1), some (.int x2), some (.int x3), some (.int (q_I A1 r5 14)), some (.int (((q_I A18 r22 j27) * (nI 100)) / (q_I A18 r30 1)))]) (st' := [.ref a0, .int (q_I A105 r86 j106), .int ((nI 36) + x3), .ref r86]) [.aload_n 0] (by decide +kernel) rfl ?_
      refine q_getR fl_X11_30 rfl (by decide) (by decide +kernel) s85 e87 ?_
      refine q_blk (pc' := 217) (lo' := [some (.ref a0), some (.int x1), some (.int x2), some (.int x3), some (.int (q_I A1 r5 14)), some (.int (((q_I A18 r22 j27) * (nI 100)) / (q_I A18 r30 1)))]) (st' := [.int (nI 1), .ref r86, .int (q_I A105 r86 j106), .int ((nI 36) + x3), .ref r86]) [.iconst 1] (by decide +kernel) rfl ?_
      refine q_iald rfl (by decide +kernel) s88 l95 b90 ?_
      refine q_blk (pc' := 219) (lo' := [some (.ref a0), some (.int x1), some (.int x2), some (.int x3), some (.int (q_I A1 r5 14)), some (.int (((q_I A18 r22 j27) * (nI 100)) / (q_I A18 r30 1)))]) (st' := [.int ((q_I A105 r86 j106) + (q_I A105 r86 1)), .int ((nI 36) + x3), .ref r86]) [.iadd] (by decide +kernel) rfl ?_
      refine q_iast e107 (by decide +kernel) s88 l108 b90 ?_
      refine q_blk (pc' := 221) (lo' := [some (.ref a0), some (.int x1), some (.int x2), some (.int x3), some (.int (q_I A1 r5 14)), some (.int (((q_I A18 r22 j27) * (nI 100)) / (q_I A18 r30 1)))]) (st' := [.ref a0]) [.aload_n 0] (by decide +kernel) rfl ?_
      refine q_getR fl_X11_30 rfl (by decide) (by decide +kernel) s85 e87 ?_
      refine q_blk (pc' := 226) (lo' := [some (.ref a0), some (.int x1), some (.int x2), some (.int x3), some (.int (q_I A1 r5 14)), some (.int (((q_I A18 r22 j27) * (nI 100)) / (q_I A18 r30 1)))]) (st' := [.int (nI 2), .int x1, .ref r86]) [.iload_n 1, .iconst 2] (by decide +kernel) rfl ?_
      refine q_callS (Mc := M_X11_placeAt) (z := 2) (As := [.int x1, .int (nI 2)]) (st := [.ref r86]) mo_X11_placeAt ms_X11_placeAt ml_X11_141_X11_placeAt rfl rfl (by decide) (by decide) rfl (Nat.le_of_ble_eq_true rfl) (by decide +kernel) h (q_fI fun r110 A109 h => ?_)
      show q_Wp _ _ _ _ 0 0 229 [some (.ref a0), some (.int x1), some (.int x2), some (.int x3), some (.int (q_I A1 r5 14)), some (.int (((q_I A18 r22 j27) * (nI 100)) / (q_I A18 r30 1)))] [.int r110, .ref r86] A109
      refine q_blk (pc' := 230) (lo' := [some (.ref a0), some (.int x1), some (.int x2), some (.int x3), some (.int (q_I A1 r5 14)), some (.int (((q_I A18 r22 j27) * (nI 100)) / (q_I A18 r30 1)))]) (st' := [.int r110, .ref r86, .int r110, .ref r86]) [.dup2] (by decide +kernel) rfl ?_
      obtain ⟨z112, s111, b113, h⟩ := h
      obtain ⟨j114, e115, h⟩ := h
      obtain ⟨l116, h⟩ := h
      refine q_iald e115 (by decide +kernel) s111 l116 b113 ?_
      refine q_blk (pc' := 233) (lo' := [some (.ref a0), some (.int x1), some (.int x2), some (.int x3), some (.int (q_I A1 r5 14)), some (.int (((q_I A18 r22 j27) * (nI 100)) / (q_I A18 r30 1)))]) (st' := [.int ((q_I A109 r86 j114) + (nI 1)), .int r110, .ref r86]) [.iconst 1, .iadd] (by decide +kernel) rfl ?_
      refine q_iast e115 (by decide +kernel) s111 l116 b113 ?_
      refine q_blk (pc' := 236) (lo' := [some (.ref a0), some (.int x1), some (.int x2), some (.int x3), some (.int (q_I A1 r5 14)), some (.int (((q_I A18 r22 j27) * (nI 100)) / (q_I A18 r30 1)))]) (st' := [.ref a0, .ref a0]) [.aload_n 0, .dup] (by decide +kernel) rfl ?_
      obtain ⟨s117, h⟩ := h
      refine q_getI fl_X11_240 rfl (by decide) (by decide +kernel) s117 ?_
      refine q_blk (pc' := 242) (lo' := [some (.ref a0), some (.int x1), some (.int x2), some (.int x3), some (.int (q_I A1 r5 14)), some (.int (((q_I A18 r22 j27) * (nI 100)) / (q_I A18 r30 1)))]) (st' := [.int (((q_I A18 r22 j27) * (nI 100)) / (q_I A18 r30 1)), .ref a0, .int (q_I (q_setI A109 r86 j114 ((q_I A109 r86 j114) + (nI 1))) a0 22), .ref a0]) [.aload_n 0, .iload 5] (by decide +kernel) rfl ?_
      refine q_callV (ci := 11) (Mc := M_X11_gradeOf) (z := 1) (b := a0) (As := [.int (((q_I A18 r22 j27) * (nI 100)) / (q_I A18 r30 1))]) (st := [.int (q_I (q_setI A109 r86 j114 ((q_I A109 r86 j114) + (nI 1))) a0 22), .ref a0]) mo_X11_gradeOf mi_X11_gradeOf ml_X11_237_X11_gradeOf rfl rfl (by decide) rfl (by decide) (by decide) rfl (Nat.le_of_ble_eq_true rfl) (by decide +kernel) s117 h (q_fI fun r119 A118 h => ?_)
      show q_Wp _ _ _ _ 0 0 245 [some (.ref a0), some (.int x1), some (.int x2), some (.int x3), some (.int (q_I A1 r5 14)), some (.int (((q_I A18 r22 j27) * (nI 100)) / (q_I A18 r30 1)))] [.int r119, .int (q_I (q_setI A109 r86 j114 ((q_I A109 r86 j114) + (nI 1))) a0 22), .ref a0] A118
      refine q_if_ne 252 (off := 7) (by decide +kernel) (by decide) (fun c120 => ?_) (fun c120 => ?_)
      · have h := h.2 c120
        refine q_blk (pc' := 254) (lo' := [some (.ref a0), some (.int x1), some (.int x2), some (.int x3), some (.int (q_I A1 r5 14)), some (.int (((q_I A18 r22 j27) * (nI 100)) / (q_I A18 r30 1)))]) (st' := [.int ((q_I (q_setI A109 r86 j114 ((q_I A109 r86 j114) + (nI 1))) a0 22) + (nI 0)), .ref a0]) [.iconst 0, .iadd] (by decide +kernel) rfl ?_
        obtain ⟨s121, h⟩ := h
        refine q_putI fw_X11_240 rfl (by decide) (by decide +kernel) s121 ?_
        refine q_goto 12 (off := -245) (by decide +kernel) (by decide) ?_
        exact q_wk [some (.ref a0), some (.int x1), some (.int x2), some (.int x3), none, none] (And.intro rfl (And.intro rfl (And.intro rfl (And.intro rfl trivial)))) h
      · have h := h.1 c120
        refine q_blk (pc' := 249) (lo' := [some (.ref a0), some (.int x1), some (.int x2), some (.int x3), some (.int (q_I A1 r5 14)), some (.int (((q_I A18 r22 j27) * (nI 100)) / (q_I A18 r30 1)))]) (st' := [.int (nI 1), .int (q_I (q_setI A109 r86 j114 ((q_I A109 r86 j114) + (nI 1))) a0 22), .ref a0]) [.iconst 1] (by decide +kernel) rfl ?_
        refine q_goto 253 (off := 4) (by decide +kernel) (by decide) ?_
        refine q_blk (pc' := 254) (lo' := [some (.ref a0), some (.int x1), some (.int x2), some (.int x3), some (.int (q_I A1 r5 14)), some (.int (((q_I A18 r22 j27) * (nI 100)) / (q_I A18 r30 1)))]) (st' := [.int ((q_I (q_setI A109 r86 j114 ((q_I A109 r86 j114) + (nI 1))) a0 22) + (nI 1)), .ref a0]) [.iadd] (by decide +kernel) rfl ?_
        obtain ⟨s122, h⟩ := h
        refine q_putI fw_X11_240 rfl (by decide) (by decide +kernel) s122 ?_
        refine q_goto 12 (off := -245) (by decide +kernel) (by decide) ?_
        exact q_wk [some (.ref a0), some (.int x1), some (.int x2), some (.int x3), none, none] (And.intro rfl (And.intro rfl (And.intro rfl (And.intro rfl trivial)))) h
theorem f_X11_ticks {G : q_G} {X : String → q_H → Prop} {f : q_H → Prop} {A : q_H} {a0 : Nat} {x1 : Int32} (h : q_Wp G M_X11_ticks (q_KV f) X 0 0 2 [some (.ref a0), some (.int x1), some (.int (nI 0)), none] [] A) : q_Wc G M_X11_ticks [.ref a0, .int x1] A (q_KV f) X := by
  refine q_Wc.of [some (.ref a0), some (.int x1), none, none] mo_X11_ticks.2.2.2.2.2 rfl (Nat.le_of_ble_eq_true rfl) rfl ?_
  refine q_blk (pc' := 2) (lo' := [some (.ref a0), some (.int x1), some (.int (nI 0)), none]) (st' := []) [.iconst 0, .istore_n 2] (by decide +kernel) rfl ?_
  exact h
theorem f_X11_ticks_2 {G : q_G} {X : String → q_H → Prop} {f : q_H → Prop} {A : q_H} {a0 : Nat} {x1 : Int32} {x2 : Int32} (h : ((x1 ≤ x2 → f A) ∧ (¬ x1 ≤ x2 → q_sh A a0 = (12, 0) ∧ q_Wc G M_X11_leaves [.ref a0] A (q_KV fun A2 => q_sh A2 a0 = (12, 0) ∧ q_Wc G M_X11_moves [.ref a0] A2 (q_KV fun A5 => q_Wp G M_X11_ticks (q_KV f) X 0 0 17 [some (.ref a0), some (.int x1), some (.int x2), some (.int (nI 0))] [] A5) q_nX) q_nX))) : q_Wp G M_X11_ticks (q_KV f) X 0 0 2 [some (.ref a0), some (.int x1), some (.int x2), none] [] A := by
  refine q_blk (pc' := 4) (lo' := [some (.ref a0), some (.int x1), some (.int x2), none]) (st' := [.int x1, .int x2]) [.iload_n 2, .iload_n 1] (by decide +kernel) rfl ?_
  refine q_icmp_ge 74 (off := 70) (by decide +kernel) (by decide) (fun c1 => ?_) (fun c1 => ?_)
  · have h := h.1 c1
    exact q_ret0 rfl (by decide) (by decide) (by decide +kernel) ⟨rfl, h⟩
  · have h := h.2 c1
    refine q_blk (pc' := 8) (lo' := [some (.ref a0), some (.int x1), some (.int x2), none]) (st' := [.ref a0]) [.aload_n 0] (by decide +kernel) rfl ?_
    obtain ⟨s4, h⟩ := h
    refine q_callV (ci := 11) (Mc := M_X11_leaves) (z := 0) (b := a0) (As := []) (st := []) mo_X11_leaves mi_X11_leaves ml_X11_243_X11_leaves rfl rfl (by decide) rfl (by decide) (by decide) rfl (Nat.le_of_ble_eq_true rfl) (by decide +kernel) s4 h (q_fV fun A2 h => ?_)
    show q_Wp _ _ _ _ 0 0 11 [some (.ref a0), some (.int x1), some (.int x2), none] [] A2
    refine q_blk (pc' := 12) (lo' := [some (.ref a0), some (.int x1), some (.int x2), none]) (st' := [.ref a0]) [.aload_n 0] (by decide +kernel) rfl ?_
    obtain ⟨s7, h⟩ := h
    refine q_callV (ci := 11) (Mc := M_X11_moves) (z := 0) (b := a0) (As := []) (st := []) mo_X11_moves mi_X11_moves ml_X11_246_X11_moves rfl rfl (by decide) rfl (by decide) (by decide) rfl (Nat.le_of_ble_eq_true rfl) (by decide +kernel) s7 h (q_fV fun A5 h => ?_)
    show q_Wp _ _ _ _ 0 0 15 [some (.ref a0), some (.int x1), some (.int x2), none] [] A5
    refine q_blk (pc' := 17) (lo' := [some (.ref a0), some (.int x1), some (.int x2), some (.int (nI 0))]) (st' := []) [.iconst 0, .istore_n 3] (by decide +kernel) rfl ?_
    exact h
theorem f_X11_ticks_17 {G : q_G} {X : String → q_H → Prop} {f : q_H → Prop} {A : q_H} {a0 : Nat} {x1 : Int32} {x2 : Int32} {x3 : Int32} (h : q_sh A a0 = (12, 0) ∧ q_Wc G M_X11_stations [.ref a0] A (q_KI fun r2 A1 => ((r2 ≤ x3 → q_Wp G M_X11_ticks (q_KV f) X 0 0 38 [some (.ref a0), some (.int x1), some (.int x2), some (.int (nI 0))] [] A1) ∧ (¬ r2 ≤ x3 → q_sh A1 a0 = (12, 0) ∧ q_Wc G M_X11_picks [.ref a0, .int x3] A1 (q_KV fun A5 => q_Wp G M_X11_ticks (q_KV f) X 0 0 17 [some (.ref a0), some (.int x1), some (.int x2), some (.int (x3 + (nI 1)))] [] A5) q_nX))) q_nX) : q_Wp G M_X11_ticks (q_KV f) X 0 0 17 [some (.ref a0), some (.int x1), some (.int x2), some (.int x3)] [] A := by
  refine q_blk (pc' := 19) (lo' := [some (.ref a0), some (.int x1), some (.int x2), some (.int x3)]) (st' := [.ref a0, .int x3]) [.iload_n 3, .aload_n 0] (by decide +kernel) rfl ?_
  obtain ⟨s3, h⟩ := h
  refine q_callV (ci := 11) (Mc := M_X11_stations) (z := 0) (b := a0) (As := []) (st := [.int x3]) mo_X11_stations mi_X11_stations ml_X11_182_X11_stations rfl rfl (by decide) rfl (by decide) (by decide) rfl (Nat.le_of_ble_eq_true rfl) (by decide +kernel) s3 h (q_fI fun r2 A1 h => ?_)
  show q_Wp _ _ _ _ 0 0 22 [some (.ref a0), some (.int x1), some (.int x2), some (.int x3)] [.int r2, .int x3] A1
  refine q_icmp_ge 36 (off := 14) (by decide +kernel) (by decide) (fun c4 => ?_) (fun c4 => ?_)
  · have h := h.1 c4
    refine q_blk (pc' := 38) (lo' := [some (.ref a0), some (.int x1), some (.int x2), some (.int (nI 0))]) (st' := []) [.iconst 0, .istore_n 3] (by decide +kernel) rfl ?_
    exact h
  · have h := h.2 c4
    refine q_blk (pc' := 27) (lo' := [some (.ref a0), some (.int x1), some (.int x2), some (.int x3)]) (st' := [.int x3, .ref a0]) [.aload_n 0, .iload_n 3] (by decide +kernel) rfl ?_
    obtain ⟨s7, h⟩ := h
    refine q_callV (ci := 11) (Mc := M_X11_picks) (z := 1) (b := a0) (As := [.int x3]) (st := []) mo_X11_picks mi_X11_picks ml_X11_249_X11_picks rfl rfl (by decide) rfl (by decide) (by decide) rfl (Nat.le_of_ble_eq_true rfl) (by decide +kernel) s7 h (q_fV fun A5 h => ?_)
    show q_Wp _ _ _ _ 0 0 30 [some (.ref a0), some (.int x1), some (.int x2), some (.int x3)] [] A5
    refine q_blk (pc' := 33) (lo' := [some (.ref a0), some (.int x1), some (.int x2), some (.int (x3 + (nI 1)))]) (st' := []) [.iinc 3 1] (by decide +kernel) rfl ?_
    refine q_goto 17 (off := -16) (by decide +kernel) (by decide) ?_
    exact h
theorem f_X11_ticks_38 {G : q_G} {X : String → q_H → Prop} {f : q_H → Prop} {A : q_H} {a0 : Nat} {x1 : Int32} {x2 : Int32} {x3 : Int32} (h : q_sh A a0 = (12, 0) ∧ q_Wc G M_X11_stations [.ref a0] A (q_KI fun r2 A1 => ((r2 ≤ x3 → q_sh A1 a0 = (12, 0) ∧ ∃ r6 : Nat, q_R A1 a0 6 = some r6 ∧ ∃ z9 : Nat, q_sh A1 r6 = (50, z9) ∧ z9 < 2147483648 ∧ 8 < z9 ∧ q_Wp G M_X11_ticks (q_KV f) X 0 0 2 [some (.ref a0), some (.int x1), some (.int (x2 + (nI 1))), none] [] (q_setI A1 r6 8 ((q_I A1 r6 8) + (nI 1)))) ∧ (¬ r2 ≤ x3 → q_sh A1 a0 = (12, 0) ∧ q_Wc G M_X11_presses [.ref a0, .int x3] A1 (q_KV fun A12 => q_Wp G M_X11_ticks (q_KV f) X 0 0 38 [some (.ref a0), some (.int x1), some (.int x2), some (.int (x3 + (nI 1)))] [] A12) q_nX))) q_nX) : q_Wp G M_X11_ticks (q_KV f) X 0 0 38 [some (.ref a0), some (.int x1), some (.int x2), some (.int x3)] [] A := by
  refine q_blk (pc' := 40) (lo' := [some (.ref a0), some (.int x1), some (.int x2), some (.int x3)]) (st' := [.ref a0, .int x3]) [.iload_n 3, .aload_n 0] (by decide +kernel) rfl ?_
  obtain ⟨s3, h⟩ := h
  refine q_callV (ci := 11) (Mc := M_X11_stations) (z := 0) (b := a0) (As := []) (st := [.int x3]) mo_X11_stations mi_X11_stations ml_X11_182_X11_stations rfl rfl (by decide) rfl (by decide) (by decide) rfl (Nat.le_of_ble_eq_true rfl) (by decide +kernel) s3 h (q_fI fun r2 A1 h => ?_)
  show q_Wp _ _ _ _ 0 0 43 [some (.ref a0), some (.int x1), some (.int x2), some (.int x3)] [.int r2, .int x3] A1
  refine q_icmp_ge 57 (off := 14) (by decide +kernel) (by decide) (fun c4 => ?_) (fun c4 => ?_)
  · have h := h.1 c4
    refine q_blk (pc' := 58) (lo' := [some (.ref a0), some (.int x1), some (.int x2), some (.int x3)]) (st' := [.ref a0]) [.aload_n 0] (by decide +kernel) rfl ?_
    obtain ⟨s5, h⟩ := h
    obtain ⟨r6, e7, h⟩ := h
    refine q_getR fl_X11_30 rfl (by decide) (by decide +kernel) s5 e7 ?_
    refine q_blk (pc' := 64) (lo' := [some (.ref a0), some (.int x1), some (.int x2), some (.int x3)]) (st' := [.int (nI 8), .ref r6, .int (nI 8), .ref r6]) [.bipush 8, .dup2] (by decide +kernel) rfl ?_
    obtain ⟨z9, s8, b10, h⟩ := h
    obtain ⟨l11, h⟩ := h
    refine q_iald rfl (by decide +kernel) s8 l11 b10 ?_
    refine q_blk (pc' := 67) (lo' := [some (.ref a0), some (.int x1), some (.int x2), some (.int x3)]) (st' := [.int ((q_I A1 r6 8) + (nI 1)), .int (nI 8), .ref r6]) [.iconst 1, .iadd] (by decide +kernel) rfl ?_
    refine q_iast rfl (by decide +kernel) s8 l11 b10 ?_
    refine q_blk (pc' := 71) (lo' := [some (.ref a0), some (.int x1), some (.int (x2 + (nI 1))), some (.int x3)]) (st' := []) [.iinc 2 1] (by decide +kernel) rfl ?_
    refine q_goto 2 (off := -69) (by decide +kernel) (by decide) ?_
    exact q_wk [some (.ref a0), some (.int x1), some (.int (x2 + (nI 1))), none] (And.intro rfl (And.intro rfl (And.intro rfl trivial))) h
  · have h := h.2 c4
    refine q_blk (pc' := 48) (lo' := [some (.ref a0), some (.int x1), some (.int x2), some (.int x3)]) (st' := [.int x3, .ref a0]) [.aload_n 0, .iload_n 3] (by decide +kernel) rfl ?_
    obtain ⟨s14, h⟩ := h
    refine q_callV (ci := 11) (Mc := M_X11_presses) (z := 1) (b := a0) (As := [.int x3]) (st := []) mo_X11_presses mi_X11_presses ml_X11_252_X11_presses rfl rfl (by decide) rfl (by decide) (by decide) rfl (Nat.le_of_ble_eq_true rfl) (by decide +kernel) s14 h (q_fV fun A12 h => ?_)
    show q_Wp _ _ _ _ 0 0 51 [some (.ref a0), some (.int x1), some (.int x2), some (.int x3)] [] A12
    refine q_blk (pc' := 54) (lo' := [some (.ref a0), some (.int x1), some (.int x2), some (.int (x3 + (nI 1)))]) (st' := []) [.iinc 3 1] (by decide +kernel) rfl ?_
    refine q_goto 38 (off := -16) (by decide +kernel) (by decide) ?_
    exact h
theorem f_X11_isStation {G : q_G} {X : String → q_H → Prop} {f : Bool → q_H → Prop} {A : q_H} {a0 : Nat} {x1 : Int32} (h : q_sh A a0 = (12, 0) ∧ q_Wc G M_X11_stations [.ref a0] A (q_KI fun r2 A1 => q_Wc G M_X11_isIn [.long (x1.toInt64), .long (lN 0), .long ((r2 - (nI 1)).toInt64)] A1 (q_KB fun b5 A4 => f b5 A4) q_nX) q_nX) : q_Wc G M_X11_isStation [.ref a0, .int x1] A (q_KB f) X := by
  refine q_Wc.of [some (.ref a0), some (.int x1)] mo_X11_isStation.2.2.2.2.2 rfl (Nat.le_of_ble_eq_true rfl) rfl ?_
  refine q_blk (pc' := 4) (lo' := [some (.ref a0), some (.int x1)]) (st' := [.ref a0, .long (lN 0), .long (x1.toInt64)]) [.iload_n 1, .i2l, .lconst 0, .aload_n 0] (by decide +kernel) rfl ?_
  obtain ⟨s3, h⟩ := h
  refine q_callV (ci := 11) (Mc := M_X11_stations) (z := 0) (b := a0) (As := []) (st := [.long (lN 0), .long (x1.toInt64)]) mo_X11_stations mi_X11_stations ml_X11_182_X11_stations rfl rfl (by decide) rfl (by decide) (by decide) rfl (Nat.le_of_ble_eq_true rfl) (by decide +kernel) s3 h (q_fI fun r2 A1 h => ?_)
  show q_Wp _ _ _ _ 0 0 7 [some (.ref a0), some (.int x1)] [.int r2, .long (lN 0), .long (x1.toInt64)] A1
  refine q_blk (pc' := 10) (lo' := [some (.ref a0), some (.int x1)]) (st' := [.long ((r2 - (nI 1)).toInt64), .long (lN 0), .long (x1.toInt64)]) [.iconst 1, .isub, .i2l] (by decide +kernel) rfl ?_
  refine q_callS (Mc := M_X11_isIn) (z := 3) (As := [.long (x1.toInt64), .long (lN 0), .long ((r2 - (nI 1)).toInt64)]) (st := []) mo_X11_isIn ms_X11_isIn ml_X11_71_X11_isIn rfl rfl (by decide) (by decide) rfl (Nat.le_of_ble_eq_true rfl) (by decide +kernel) h (q_fB fun b5 A4 h => ?_)
  show q_Wp _ _ _ _ 0 0 13 [some (.ref a0), some (.int x1)] [.int (q_i b5)] A4
  exact q_retZ (r := q_i b5) rfl (q_nz _) (by decide) (by decide) (by decide +kernel) ⟨b5, rfl, h⟩
theorem f_X11_isMaterial {G : q_G} {X : String → q_H → Prop} {f : Bool → q_H → Prop} {A : q_H} {a0 : Nat} {x1 : Int32} (h : q_sh A a0 = (12, 0) ∧ q_Wc G M_X11_materials [.ref a0] A (q_KI fun r2 A1 => q_Wc G M_X11_isIn [.long (x1.toInt64), .long (lN 0), .long ((r2 - (nI 1)).toInt64)] A1 (q_KB fun b5 A4 => f b5 A4) q_nX) q_nX) : q_Wc G M_X11_isMaterial [.ref a0, .int x1] A (q_KB f) X := by
  refine q_Wc.of [some (.ref a0), some (.int x1)] mo_X11_isMaterial.2.2.2.2.2 rfl (Nat.le_of_ble_eq_true rfl) rfl ?_
  refine q_blk (pc' := 4) (lo' := [some (.ref a0), some (.int x1)]) (st' := [.ref a0, .long (lN 0), .long (x1.toInt64)]) [.iload_n 1, .i2l, .lconst 0, .aload_n 0] (by decide +kernel) rfl ?_
  obtain ⟨s3, h⟩ := h
  refine q_callV (ci := 11) (Mc := M_X11_materials) (z := 0) (b := a0) (As := []) (st := [.long (lN 0), .long (x1.toInt64)]) mo_X11_materials mi_X11_materials ml_X11_187_X11_materials rfl rfl (by decide) rfl (by decide) (by decide) rfl (Nat.le_of_ble_eq_true rfl) (by decide +kernel) s3 h (q_fI fun r2 A1 h => ?_)
  show q_Wp _ _ _ _ 0 0 7 [some (.ref a0), some (.int x1)] [.int r2, .long (lN 0), .long (x1.toInt64)] A1
  refine q_blk (pc' := 10) (lo' := [some (.ref a0), some (.int x1)]) (st' := [.long ((r2 - (nI 1)).toInt64), .long (lN 0), .long (x1.toInt64)]) [.iconst 1, .isub, .i2l] (by decide +kernel) rfl ?_
  refine q_callS (Mc := M_X11_isIn) (z := 3) (As := [.long (x1.toInt64), .long (lN 0), .long ((r2 - (nI 1)).toInt64)]) (st := []) mo_X11_isIn ms_X11_isIn ml_X11_71_X11_isIn rfl rfl (by decide) (by decide) rfl (Nat.le_of_ble_eq_true rfl) (by decide +kernel) h (q_fB fun b5 A4 h => ?_)
  show q_Wp _ _ _ _ 0 0 13 [some (.ref a0), some (.int x1)] [.int (q_i b5)] A4
  exact q_retZ (r := q_i b5) rfl (q_nz _) (by decide) (by decide) (by decide +kernel) ⟨b5, rfl, h⟩
theorem f_X11_isBale {G : q_G} {X : String → q_H → Prop} {f : Bool → q_H → Prop} {A : q_H} {a0 : Nat} {x1 : Int32} (h : q_sh A a0 = (12, 0) ∧ ∃ r2 : Nat, q_R A a0 6 = some r2 ∧ ∃ z5 : Nat, q_sh A r2 = (50, z5) ∧ z5 < 2147483648 ∧ 14 < z5 ∧ q_Wc G M_X11_isIn [.long (x1.toInt64), .long (lN 0), .long (((q_I A r2 14) - (nI 1)).toInt64)] A (q_KB fun b9 A8 => f b9 A8) q_nX) : q_Wc G M_X11_isBale [.ref a0, .int x1] A (q_KB f) X := by
  refine q_Wc.of [some (.ref a0), some (.int x1)] mo_X11_isBale.2.2.2.2.2 rfl (Nat.le_of_ble_eq_true rfl) rfl ?_
  refine q_blk (pc' := 4) (lo' := [some (.ref a0), some (.int x1)]) (st' := [.ref a0, .long (lN 0), .long (x1.toInt64)]) [.iload_n 1, .i2l, .lconst 0, .aload_n 0] (by decide +kernel) rfl ?_
  obtain ⟨s1, h⟩ := h
  obtain ⟨r2, e3, h⟩ := h
  refine q_getR fl_X11_30 rfl (by decide) (by decide +kernel) s1 e3 ?_
  refine q_blk (pc' := 9) (lo' := [some (.ref a0), some (.int x1)]) (st' := [.int (nI 14), .ref r2, .long (lN 0), .long (x1.toInt64)]) [.bipush 14] (by decide +kernel) rfl ?_
  obtain ⟨z5, s4, b6, h⟩ := h
  obtain ⟨l7, h⟩ := h
  refine q_iald rfl (by decide +kernel) s4 l7 b6 ?_
  refine q_blk (pc' := 13) (lo' := [some (.ref a0), some (.int x1)]) (st' := [.long (((q_I A r2 14) - (nI 1)).toInt64), .long (lN 0), .long (x1.toInt64)]) [.iconst 1, .isub, .i2l] (by decide +kernel) rfl ?_
  refine q_callS (Mc := M_X11_isIn) (z := 3) (As := [.long (x1.toInt64), .long (lN 0), .long (((q_I A r2 14) - (nI 1)).toInt64)]) (st := []) mo_X11_isIn ms_X11_isIn ml_X11_71_X11_isIn rfl rfl (by decide) (by decide) rfl (Nat.le_of_ble_eq_true rfl) (by decide +kernel) h (q_fB fun b9 A8 h => ?_)
  show q_Wp _ _ _ _ 0 0 16 [some (.ref a0), some (.int x1)] [.int (q_i b9)] A8
  exact q_retZ (r := q_i b9) rfl (q_nz _) (by decide) (by decide) (by decide +kernel) ⟨b9, rfl, h⟩
theorem f_X11_isBuyer {G : q_G} {X : String → q_H → Prop} {f : Bool → q_H → Prop} {A : q_H} {a0 : Nat} {x1 : Int32} (h : q_sh A a0 = (12, 0) ∧ ∃ r2 : Nat, q_R A a0 2 = some r2 ∧ ∃ z5 : Nat, q_sh A r2 = (50, z5) ∧ z5 < 2147483648 ∧ 2 < z5 ∧ q_Wc G M_X11_isIn [.long (x1.toInt64), .long (lN 0), .long (((q_I A r2 2) - (nI 1)).toInt64)] A (q_KB fun b9 A8 => f b9 A8) q_nX) : q_Wc G M_X11_isBuyer [.ref a0, .int x1] A (q_KB f) X := by
  refine q_Wc.of [some (.ref a0), some (.int x1)] mo_X11_isBuyer.2.2.2.2.2 rfl (Nat.le_of_ble_eq_true rfl) rfl ?_
  refine q_blk (pc' := 4) (lo' := [some (.ref a0), some (.int x1)]) (st' := [.ref a0, .long (lN 0), .long (x1.toInt64)]) [.iload_n 1, .i2l, .lconst 0, .aload_n 0] (by decide +kernel) rfl ?_
  obtain ⟨s1, h⟩ := h
  obtain ⟨r2, e3, h⟩ := h
  refine q_getR fl_X11_17 rfl (by decide) (by decide +kernel) s1 e3 ?_
  refine q_blk (pc' := 8) (lo' := [some (.ref a0), some (.int x1)]) (st' := [.int (nI 2), .ref r2, .long (lN 0), .long (x1.toInt64)]) [.iconst 2] (by decide +kernel) rfl ?_
  obtain ⟨z5, s4, b6, h⟩ := h
  obtain ⟨l7, h⟩ := h
  refine q_iald rfl (by decide +kernel) s4 l7 b6 ?_
  refine q_blk (pc' := 12) (lo' := [some (.ref a0), some (.int x1)]) (st' := [.long (((q_I A r2 2) - (nI 1)).toInt64), .long (lN 0), .long (x1.toInt64)]) [.iconst 1, .isub, .i2l] (by decide +kernel) rfl ?_
  refine q_callS (Mc := M_X11_isIn) (z := 3) (As := [.long (x1.toInt64), .long (lN 0), .long (((q_I A r2 2) - (nI 1)).toInt64)]) (st := []) mo_X11_isIn ms_X11_isIn ml_X11_71_X11_isIn rfl rfl (by decide) (by decide) rfl (Nat.le_of_ble_eq_true rfl) (by decide +kernel) h (q_fB fun b9 A8 h => ?_)
  show q_Wp _ _ _ _ 0 0 15 [some (.ref a0), some (.int x1)] [.int (q_i b9)] A8
  exact q_retZ (r := q_i b9) rfl (q_nz _) (by decide) (by decide) (by decide +kernel) ⟨b9, rfl, h⟩
theorem f_X11_onBelt {G : q_G} {X : String → q_H → Prop} {f : Int32 → q_H → Prop} {A : q_H} {a0 : Nat} (h : q_Wp G M_X11_onBelt (q_KI f) X 0 0 4 [some (.ref a0), some (.int (nI 0)), some (.int (nI 0))] [] A) : q_Wc G M_X11_onBelt [.ref a0] A (q_KI f) X := by
  refine q_Wc.of [some (.ref a0), none, none] mo_X11_onBelt.2.2.2.2.2 rfl (Nat.le_of_ble_eq_true rfl) rfl ?_
  refine q_blk (pc' := 4) (lo' := [some (.ref a0), some (.int (nI 0)), some (.int (nI 0))]) (st' := []) [.iconst 0, .istore_n 1, .iconst 0, .istore_n 2] (by decide +kernel) rfl ?_
  exact h
theorem f_X11_onBelt_4 {G : q_G} {X : String → q_H → Prop} {f : Int32 → q_H → Prop} {A : q_H} {a0 : Nat} {x1 : Int32} {x2 : Int32} (h : q_sh A a0 = (12, 0) ∧ q_Wc G M_X11_stations [.ref a0] A (q_KI fun r2 A1 => ((r2 ≤ x2 → f x1 A1) ∧ (¬ r2 ≤ x2 → q_sh A1 a0 = (12, 0) ∧ ∃ r6 : Nat, q_R A1 a0 6 = some r6 ∧ q_Wc G M_X11_slotAt [.int x2] A1 (q_KI fun r9 A8 => ∃ z11 : Nat, q_sh A8 r6 = (50, z11) ∧ z11 < 2147483648 ∧ ∃ j13 : Nat, (r9 + (nI 6)) = nI j13 ∧ j13 < z11 ∧ (((q_I A8 r6 j13) = (-1) → q_Wp G M_X11_onBelt (q_KI f) X 0 0 4 [some (.ref a0), some (.int (x1 + (nI 0))), some (.int (x2 + (nI 1)))] [] A8) ∧ (¬ (q_I A8 r6 j13) = (-1) → q_Wp G M_X11_onBelt (q_KI f) X 0 0 4 [some (.ref a0), some (.int (x1 + (nI 1))), some (.int (x2 + (nI 1)))] [] A8))) q_nX))) q_nX) : q_Wp G M_X11_onBelt (q_KI f) X 0 0 4 [some (.ref a0), some (.int x1), some (.int x2)] [] A := by
  refine q_blk (pc' := 6) (lo' := [some (.ref a0), some (.int x1), some (.int x2)]) (st' := [.ref a0, .int x2]) [.iload_n 2, .aload_n 0] (by decide +kernel) rfl ?_
  obtain ⟨s3, h⟩ := h
  refine q_callV (ci := 11) (Mc := M_X11_stations) (z := 0) (b := a0) (As := []) (st := [.int x2]) mo_X11_stations mi_X11_stations ml_X11_182_X11_stations rfl rfl (by decide) rfl (by decide) (by decide) rfl (Nat.le_of_ble_eq_true rfl) (by decide +kernel) s3 h (q_fI fun r2 A1 h => ?_)
  show q_Wp _ _ _ _ 0 0 9 [some (.ref a0), some (.int x1), some (.int x2)] [.int r2, .int x2] A1
  refine q_icmp_ge 42 (off := 33) (by decide +kernel) (by decide) (fun c4 => ?_) (fun c4 => ?_)
  · have h := h.1 c4
    refine q_blk (pc' := 43) (lo' := [some (.ref a0), some (.int x1), some (.int x2)]) (st' := [.int x1]) [.iload_n 1] (by decide +kernel) rfl ?_
    exact q_retI rfl (by decide) (by decide) (by decide +kernel) ⟨_, rfl, h⟩
  · have h := h.2 c4
    refine q_blk (pc' := 14) (lo' := [some (.ref a0), some (.int x1), some (.int x2)]) (st' := [.ref a0, .int x1]) [.iload_n 1, .aload_n 0] (by decide +kernel) rfl ?_
    obtain ⟨s5, h⟩ := h
    obtain ⟨r6, e7, h⟩ := h
    refine q_getR fl_X11_30 rfl (by decide) (by decide +kernel) s5 e7 ?_
    refine q_blk (pc' := 18) (lo' := [some (.ref a0), some (.int x1), some (.int x2)]) (st' := [.int x2, .ref r6, .int x1]) [.iload_n 2] (by decide +kernel) rfl ?_
    refine q_callS (Mc := M_X11_slotAt) (z := 1) (As := [.int x2]) (st := [.ref r6, .int x1]) mo_X11_slotAt ms_X11_slotAt ml_X11_204_X11_slotAt rfl rfl (by decide) (by decide) rfl (Nat.le_of_ble_eq_true rfl) (by decide +kernel) h (q_fI fun r9 A8 h => ?_)
    show q_Wp _ _ _ _ 0 0 21 [some (.ref a0), some (.int x1), some (.int x2)] [.int r9, .ref r6, .int x1] A8
    refine q_blk (pc' := 24) (lo' := [some (.ref a0), some (.int x1), some (.int x2)]) (st' := [.int (r9 + (nI 6)), .ref r6, .int x1]) [.bipush 6, .iadd] (by decide +kernel) rfl ?_
    obtain ⟨z11, s10, b12, h⟩ := h
    obtain ⟨j13, e14, h⟩ := h
    obtain ⟨l15, h⟩ := h
    refine q_iald e14 (by decide +kernel) s10 l15 b12 ?_
    refine q_blk (pc' := 26) (lo' := [some (.ref a0), some (.int x1), some (.int x2)]) (st' := [.int (-1), .int (q_I A8 r6 j13), .int x1]) [.iconst (-1)] (by decide +kernel) rfl ?_
    refine q_icmp_ne 33 (off := 7) (by decide +kernel) (by decide) (fun c16 => ?_) (fun c16 => ?_)
    · have h := h.2 c16
      refine q_blk (pc' := 39) (lo' := [some (.ref a0), some (.int (x1 + (nI 1))), some (.int (x2 + (nI 1)))]) (st' := []) [.iconst 1, .iadd, .istore_n 1, .iinc 2 1] (by decide +kernel) rfl ?_
      refine q_goto 4 (off := -35) (by decide +kernel) (by decide) ?_
      exact h
    · have h := h.1 c16
      refine q_blk (pc' := 30) (lo' := [some (.ref a0), some (.int x1), some (.int x2)]) (st' := [.int (nI 0), .int x1]) [.iconst 0] (by decide +kernel) rfl ?_
      refine q_goto 34 (off := 4) (by decide +kernel) (by decide) ?_
      refine q_blk (pc' := 39) (lo' := [some (.ref a0), some (.int (x1 + (nI 0))), some (.int (x2 + (nI 1)))]) (st' := []) [.iadd, .istore_n 1, .iinc 2 1] (by decide +kernel) rfl ?_
      refine q_goto 4 (off := -35) (by decide +kernel) (by decide) ?_
      exact h
theorem f_X11_line {G : q_G} {X : String → q_H → Prop} {f : Int32 → q_H → Prop} {A : q_H} {a0 : Nat} {x1 : Int32} (h : q_sh A a0 = (12, 0) ∧ ((x1 = nI 0 → q_Wc G M_X11_materials [.ref a0] (q_setI A a0 0 (nI 0)) (q_KI fun r4 A3 => f r4 A3) q_nX) ∧ (x1 = nI 1 → q_Wc G M_X11_stations [.ref a0] (q_setI A a0 0 (nI 0)) (q_KI fun r6 A5 => f r6 A5) q_nX) ∧ (x1 = nI 2 → ∃ r7 : Nat, q_R A a0 2 = some r7 ∧ ∃ z10 : Nat, q_sh A r7 = (50, z10) ∧ z10 < 2147483648 ∧ 2 < z10 ∧ f (q_I (q_setI A a0 0 (nI 0)) r7 2) (q_setI A a0 0 (nI 0))) ∧ (x1 = nI 3 → ∃ r13 : Nat, q_R A a0 6 = some r13 ∧ ∃ z16 : Nat, q_sh A r13 = (50, z16) ∧ z16 < 2147483648 ∧ 8 < z16 ∧ f (q_I (q_setI A a0 0 (nI 0)) r13 8) (q_setI A a0 0 (nI 0))) ∧ (x1 = nI 4 → ∃ r19 : Nat, q_R A a0 6 = some r19 ∧ ∃ z22 : Nat, q_sh A r19 = (50, z22) ∧ z22 < 2147483648 ∧ 9 < z22 ∧ f (q_I (q_setI A a0 0 (nI 0)) r19 9) (q_setI A a0 0 (nI 0))) ∧ (x1 = nI 5 → q_Wc G M_X11_onBelt [.ref a0] (q_setI A a0 0 (nI 0)) (q_KI fun r26 A25 => f r26 A25) q_nX) ∧ (x1 = nI 6 → ∃ r27 : Nat, q_R A a0 6 = some r27 ∧ ∃ z30 : Nat, q_sh A r27 = (50, z30) ∧ z30 < 2147483648 ∧ 14 < z30 ∧ f (q_I (q_setI A a0 0 (nI 0)) r27 14) (q_setI A a0 0 (nI 0))) ∧ (x1 = nI 7 → ∃ r33 : Nat, q_R A a0 6 = some r33 ∧ ∃ z36 : Nat, q_sh A r33 = (50, z36) ∧ z36 < 2147483648 ∧ 10 < z36 ∧ f (q_I (q_setI A a0 0 (nI 0)) r33 10) (q_setI A a0 0 (nI 0))) ∧ (x1 = nI 8 → ∃ r39 : Nat, q_R A a0 6 = some r39 ∧ ∃ z42 : Nat, q_sh A r39 = (50, z42) ∧ z42 < 2147483648 ∧ 11 < z42 ∧ f (q_I (q_setI A a0 0 (nI 0)) r39 11) (q_setI A a0 0 (nI 0))) ∧ (x1 = nI 9 → ∃ r45 : Nat, q_R A a0 6 = some r45 ∧ ∃ z48 : Nat, q_sh A r45 = (50, z48) ∧ z48 < 2147483648 ∧ 12 < z48 ∧ f (q_I (q_setI A a0 0 (nI 0)) r45 12) (q_setI A a0 0 (nI 0))) ∧ (x1 = nI 10 → ∃ r51 : Nat, q_R A a0 6 = some r51 ∧ ∃ z54 : Nat, q_sh A r51 = (50, z54) ∧ z54 < 2147483648 ∧ 13 < z54 ∧ f (q_I (q_setI A a0 0 (nI 0)) r51 13) (q_setI A a0 0 (nI 0))) ∧ ((∀ j, j < 11 → ¬ x1 = nI j) → f (-1) (q_setI A a0 0 (nI 0))))) : q_Wc G M_X11_line [.ref a0, .int x1] A (q_KI f) X := by
  refine q_Wc.of [some (.ref a0), some (.int x1)] mo_X11_line.2.2.2.2.2 rfl (Nat.le_of_ble_eq_true rfl) rfl ?_
  refine q_blk (pc' := 2) (lo' := [some (.ref a0), some (.int x1)]) (st' := [.int (nI 0), .ref a0]) [.aload_n 0, .iconst 0] (by decide +kernel) rfl ?_
  obtain ⟨s1, h⟩ := h
  refine q_putI fw_X11_1 rfl (by decide) (by decide +kernel) s1 ?_
  refine q_blk (pc' := 6) (lo' := [some (.ref a0), some (.int x1)]) (st' := [.int x1]) [.iload_n 1] (by decide +kernel) rfl ?_
  have hd6 := sw_X11_line_6
  refine q_tsw [64, 69, 74, 81, 89, 97, 102, 110, 118, 126, 134] 142 (hd6) (by rfl) (by decide) (by rfl) (by decide) (And.intro (fun c2 => ?_) (And.intro (fun c2 => ?_) (And.intro (fun c2 => ?_) (And.intro (fun c2 => ?_) (And.intro (fun c2 => ?_) (And.intro (fun c2 => ?_) (And.intro (fun c2 => ?_) (And.intro (fun c2 => ?_) (And.intro (fun c2 => ?_) (And.intro (fun c2 => ?_) (And.intro (fun c2 => ?_) trivial))))))))))) (fun c2 => ?_)
  · have h := h.1 c2
    refine q_blk (pc' := 65) (lo' := [some (.ref a0), some (.int x1)]) (st' := [.ref a0]) [.aload_n 0] (by decide +kernel) rfl ?_
    refine q_callV (ci := 11) (Mc := M_X11_materials) (z := 0) (b := a0) (As := []) (st := []) mo_X11_materials mi_X11_materials ml_X11_187_X11_materials rfl rfl (by decide) rfl (by decide) (by decide) rfl (Nat.le_of_ble_eq_true rfl) (by decide +kernel) s1 h (q_fI fun r4 A3 h => ?_)
    show q_Wp _ _ _ _ 0 0 68 [some (.ref a0), some (.int x1)] [.int r4] A3
    exact q_retI rfl (by decide) (by decide) (by decide +kernel) ⟨_, rfl, h⟩
  · have h := h.2.1 c2
    refine q_blk (pc' := 70) (lo' := [some (.ref a0), some (.int x1)]) (st' := [.ref a0]) [.aload_n 0] (by decide +kernel) rfl ?_
    refine q_callV (ci := 11) (Mc := M_X11_stations) (z := 0) (b := a0) (As := []) (st := []) mo_X11_stations mi_X11_stations ml_X11_182_X11_stations rfl rfl (by decide) rfl (by decide) (by decide) rfl (Nat.le_of_ble_eq_true rfl) (by decide +kernel) s1 h (q_fI fun r6 A5 h => ?_)
    show q_Wp _ _ _ _ 0 0 73 [some (.ref a0), some (.int x1)] [.int r6] A5
    exact q_retI rfl (by decide) (by decide) (by decide +kernel) ⟨_, rfl, h⟩
  · have h := h.2.2.1 c2
    refine q_blk (pc' := 75) (lo' := [some (.ref a0), some (.int x1)]) (st' := [.ref a0]) [.aload_n 0] (by decide +kernel) rfl ?_
    obtain ⟨r7, e8, h⟩ := h
    refine q_getR fl_X11_17 rfl (by decide) (by decide +kernel) s1 e8 ?_
    refine q_blk (pc' := 79) (lo' := [some (.ref a0), some (.int x1)]) (st' := [.int (nI 2), .ref r7]) [.iconst 2] (by decide +kernel) rfl ?_
    obtain ⟨z10, s9, b11, h⟩ := h
    obtain ⟨l12, h⟩ := h
    refine q_iald rfl (by decide +kernel) s9 l12 b11 ?_
    exact q_retI rfl (by decide) (by decide) (by decide +kernel) ⟨_, rfl, h⟩
  · have h := h.2.2.2.1 c2
    refine q_blk (pc' := 82) (lo' := [some (.ref a0), some (.int x1)]) (st' := [.ref a0]) [.aload_n 0] (by decide +kernel) rfl ?_
    obtain ⟨r13, e14, h⟩ := h
    refine q_getR fl_X11_30 rfl (by decide) (by decide +kernel) s1 e14 ?_
    refine q_blk (pc' := 87) (lo' := [some (.ref a0), some (.int x1)]) (st' := [.int (nI 8), .ref r13]) [.bipush 8] (by decide +kernel) rfl ?_
    obtain ⟨z16, s15, b17, h⟩ := h
    obtain ⟨l18, h⟩ := h
    refine q_iald rfl (by decide +kernel) s15 l18 b17 ?_
    exact q_retI rfl (by decide) (by decide) (by decide +kernel) ⟨_, rfl, h⟩
  · have h := h.2.2.2.2.1 c2
    refine q_blk (pc' := 90) (lo' := [some (.ref a0), some (.int x1)]) (st' := [.ref a0]) [.aload_n 0] (by decide +kernel) rfl ?_
    obtain ⟨r19, e20, h⟩ := h
    refine q_getR fl_X11_30 rfl (by decide) (by decide +kernel) s1 e20 ?_
    refine q_blk (pc' := 95) (lo' := [some (.ref a0), some (.int x1)]) (st' := [.int (nI 9), .ref r19]) [.bipush 9] (by decide +kernel) rfl ?_
    obtain ⟨z22, s21, b23, h⟩ := h
    obtain ⟨l24, h⟩ := h
    refine q_iald rfl (by decide +kernel) s21 l24 b23 ?_
    exact q_retI rfl (by decide) (by decide) (by decide +kernel) ⟨_, rfl, h⟩
  · have h := h.2.2.2.2.2.1 c2
    refine q_blk (pc' := 98) (lo' := [some (.ref a0), some (.int x1)]) (st' := [.ref a0]) [.aload_n 0] (by decide +kernel) rfl ?_
    refine q_callV (ci := 11) (Mc := M_X11_onBelt) (z := 0) (b := a0) (As := []) (st := []) mo_X11_onBelt mi_X11_onBelt ml_X11_255_X11_onBelt rfl rfl (by decide) rfl (by decide) (by decide) rfl (Nat.le_of_ble_eq_true rfl) (by decide +kernel) s1 h (q_fI fun r26 A25 h => ?_)
    show q_Wp _ _ _ _ 0 0 101 [some (.ref a0), some (.int x1)] [.int r26] A25
    exact q_retI rfl (by decide) (by decide) (by decide +kernel) ⟨_, rfl, h⟩
  · have h := h.2.2.2.2.2.2.1 c2
    refine q_blk (pc' := 103) (lo' := [some (.ref a0), some (.int x1)]) (st' := [.ref a0]) [.aload_n 0] (by decide +kernel) rfl ?_
    obtain ⟨r27, e28, h⟩ := h
    refine q_getR fl_X11_30 rfl (by decide) (by decide +kernel) s1 e28 ?_
    refine q_blk (pc' := 108) (lo' := [some (.ref a0), some (.int x1)]) (st' := [.int (nI 14), .ref r27]) [.bipush 14] (by decide +kernel) rfl ?_
    obtain ⟨z30, s29, b31, h⟩ := h
    obtain ⟨l32, h⟩ := h
    refine q_iald rfl (by decide +kernel) s29 l32 b31 ?_
    exact q_retI rfl (by decide) (by decide) (by decide +kernel) ⟨_, rfl, h⟩
  · have h := h.2.2.2.2.2.2.2.1 c2
    refine q_blk (pc' := 111) (lo' := [some (.ref a0), some (.int x1)]) (st' := [.ref a0]) [.aload_n 0] (by decide +kernel) rfl ?_
    obtain ⟨r33, e34, h⟩ := h
    refine q_getR fl_X11_30 rfl (by decide) (by decide +kernel) s1 e34 ?_
    refine q_blk (pc' := 116) (lo' := [some (.ref a0), some (.int x1)]) (st' := [.int (nI 10), .ref r33]) [.bipush 10] (by decide +kernel) rfl ?_
    obtain ⟨z36, s35, b37, h⟩ := h
    obtain ⟨l38, h⟩ := h
    refine q_iald rfl (by decide +kernel) s35 l38 b37 ?_
    exact q_retI rfl (by decide) (by decide) (by decide +kernel) ⟨_, rfl, h⟩
  · have h := h.2.2.2.2.2.2.2.2.1 c2
    refine q_blk (pc' := 119) (lo' := [some (.ref a0), some (.int x1)]) (st' := [.ref a0]) [.aload_n 0] (by decide +kernel) rfl ?_
    obtain ⟨r39, e40, h⟩ := h
    refine q_getR fl_X11_30 rfl (by decide) (by decide +kernel) s1 e40 ?_
    refine q_blk (pc' := 124) (lo' := [some (.ref a0), some (.int x1)]) (st' := [.int (nI 11), .ref r39]) [.bipush 11] (by decide +kernel) rfl ?_
    obtain ⟨z42, s41, b43, h⟩ := h
    obtain ⟨l44, h⟩ := h
    refine q_iald rfl (by decide +kernel) s41 l44 b43 ?_
    exact q_retI rfl (by decide) (by decide) (by decide +kernel) ⟨_, rfl, h⟩
  · have h := h.2.2.2.2.2.2.2.2.2.1 c2
    refine q_blk (pc' := 127) (lo' := [some (.ref a0), some (.int x1)]) (st' := [.ref a0]) [.aload_n 0] (by decide +kernel) rfl ?_
    obtain ⟨r45, e46, h⟩ := h
    refine q_getR fl_X11_30 rfl (by decide) (by decide +kernel) s1 e46 ?_
    refine q_blk (pc' := 132) (lo' := [some (.ref a0), some (.int x1)]) (st' := [.int (nI 12), .ref r45]) [.bipush 12] (by decide +kernel) rfl ?_
    obtain ⟨z48, s47, b49, h⟩ := h
    obtain ⟨l50, h⟩ := h
    refine q_iald rfl (by decide +kernel) s47 l50 b49 ?_
    exact q_retI rfl (by decide) (by decide) (by decide +kernel) ⟨_, rfl, h⟩
  · have h := h.2.2.2.2.2.2.2.2.2.2.1 c2
    refine q_blk (pc' := 135) (lo' := [some (.ref a0), some (.int x1)]) (st' := [.ref a0]) [.aload_n 0] (by decide +kernel) rfl ?_
    obtain ⟨r51, e52, h⟩ := h
    refine q_getR fl_X11_30 rfl (by decide) (by decide +kernel) s1 e52 ?_
    refine q_blk (pc' := 140) (lo' := [some (.ref a0), some (.int x1)]) (st' := [.int (nI 13), .ref r51]) [.bipush 13] (by decide +kernel) rfl ?_
    obtain ⟨z54, s53, b55, h⟩ := h
    obtain ⟨l56, h⟩ := h
    refine q_iald rfl (by decide +kernel) s53 l56 b55 ?_
    exact q_retI rfl (by decide) (by decide) (by decide +kernel) ⟨_, rfl, h⟩
  · have h := h.2.2.2.2.2.2.2.2.2.2.2 c2
    refine q_blk (pc' := 143) (lo' := [some (.ref a0), some (.int x1)]) (st' := [.int (-1)]) [.iconst (-1)] (by decide +kernel) rfl ?_
    exact q_retI rfl (by decide) (by decide) (by decide +kernel) ⟨_, rfl, h⟩
theorem f_X11_setting {G : q_G} {X : String → q_H → Prop} {f : Int32 → q_H → Prop} {A : q_H} {a0 : Nat} {x1 : Int32} (h : q_Wc G M_X11_isIn [.long (x1.toInt64), .long (lN 0), .long (lN 7)] A (q_KB fun b2 A1 => ((b2 = true → q_Wp G M_X11_setting (q_KI f) X 0 0 20 [some (.ref a0), some (.int x1)] [.int (q_i false), .int (q_i false), .int (q_i false), .ref a0] A1) ∧ (b2 = false → q_Wp G M_X11_setting (q_KI f) X 0 0 20 [some (.ref a0), some (.int x1)] [.int (q_i false), .int (q_i false), .int (q_i true), .ref a0] A1))) q_nX) : q_Wc G M_X11_setting [.ref a0, .int x1] A (q_KI f) X := by
  refine q_Wc.of [some (.ref a0), some (.int x1)] mo_X11_setting.2.2.2.2.2 rfl (Nat.le_of_ble_eq_true rfl) rfl ?_
  refine q_blk (pc' := 4) (lo' := [some (.ref a0), some (.int x1)]) (st' := [.long (lN 0), .long (x1.toInt64), .ref a0]) [.aload_n 0, .iload_n 1, .i2l, .lconst 0] (by decide +kernel) rfl ?_
  refine q_ldc2 (v := 7) c2_X11_258 (by decide +kernel) ?_
  refine q_callS (Mc := M_X11_isIn) (z := 3) (As := [.long (x1.toInt64), .long (lN 0), .long (lN 7)]) (st := [.ref a0]) mo_X11_isIn ms_X11_isIn ml_X11_71_X11_isIn rfl rfl (by decide) (by decide) rfl (Nat.le_of_ble_eq_true rfl) (by decide +kernel) h (q_fB fun b2 A1 h => ?_)
  show q_Wp _ _ _ _ 0 0 10 [some (.ref a0), some (.int x1)] [.int (q_i b2), .ref a0] A1
  refine q_ifB_ne 17 (off := 7) (by decide +kernel) (by decide) (fun c3 => ?_) (fun c3 => ?_)
  · have h := h.1 c3
    refine q_blk (pc' := 20) (lo' := [some (.ref a0), some (.int x1)]) (st' := [.int (nI 0), .int (nI 0), .int (nI 0), .ref a0]) [.iconst 0, .iconst 0, .iconst 0] (by decide +kernel) rfl ?_
    exact h
  · have h := h.2 c3
    refine q_blk (pc' := 14) (lo' := [some (.ref a0), some (.int x1)]) (st' := [.int (nI 1), .ref a0]) [.iconst 1] (by decide +kernel) rfl ?_
    refine q_goto 18 (off := 4) (by decide +kernel) (by decide) ?_
    refine q_blk (pc' := 20) (lo' := [some (.ref a0), some (.int x1)]) (st' := [.int (nI 0), .int (nI 0), .int (nI 1), .ref a0]) [.iconst 0, .iconst 0] (by decide +kernel) rfl ?_
    exact h
theorem f_X11_setting_20 {G : q_G} {X : String → q_H → Prop} {f : Int32 → q_H → Prop} {A : q_H} {a0 : Nat} {x1 : Int32} {p0 : Bool} {p1 : Bool} {p2 : Bool} {u3 : Nat} (h : q_sh A u3 = (12, 0) ∧ q_Wc G M_X11_fails [.ref u3, .int (q_i p2), .int (q_i p1), .int (q_i p0)] A (q_KB fun b2 A1 => ((b2 = true → f (nI 0) A1) ∧ (b2 = false → q_sh A1 a0 = (12, 0) ∧ ∃ r7 : Nat, q_R A1 a0 6 = some r7 ∧ ∃ z10 : Nat, q_sh A1 r7 = (50, z10) ∧ z10 < 2147483648 ∧ ∃ j12 : Nat, x1 = nI j12 ∧ j12 < z10 ∧ f (q_I A1 r7 j12) A1))) q_nX) : q_Wp G M_X11_setting (q_KI f) X 0 0 20 [some (.ref a0), some (.int x1)] [.int (q_i p0), .int (q_i p1), .int (q_i p2), .ref u3] A := by
  obtain ⟨s3, h⟩ := h
  refine q_callV (ci := 11) (Mc := M_X11_fails) (z := 3) (b := u3) (As := [.int (q_i p2), .int (q_i p1), .int (q_i p0)]) (st := []) mo_X11_fails mi_X11_fails ml_X11_260_X11_fails rfl rfl (by decide) rfl (by decide) (by decide) rfl (Nat.le_of_ble_eq_true rfl) (by decide +kernel) s3 h (q_fB fun b2 A1 h => ?_)
  show q_Wp _ _ _ _ 0 0 23 [some (.ref a0), some (.int x1)] [.int (q_i b2)] A1
  refine q_ifB_eq 30 (off := 7) (by decide +kernel) (by decide) (fun c4 => ?_) (fun c4 => ?_)
  · have h := h.2 c4
    refine q_blk (pc' := 31) (lo' := [some (.ref a0), some (.int x1)]) (st' := [.ref a0]) [.aload_n 0] (by decide +kernel) rfl ?_
    obtain ⟨s6, h⟩ := h
    obtain ⟨r7, e8, h⟩ := h
    refine q_getR fl_X11_30 rfl (by decide) (by decide +kernel) s6 e8 ?_
    refine q_blk (pc' := 35) (lo' := [some (.ref a0), some (.int x1)]) (st' := [.int x1, .ref r7]) [.iload_n 1] (by decide +kernel) rfl ?_
    obtain ⟨z10, s9, b11, h⟩ := h
    obtain ⟨j12, e13, h⟩ := h
    obtain ⟨l14, h⟩ := h
    refine q_iald e13 (by decide +kernel) s9 l14 b11 ?_
    exact q_retI rfl (by decide) (by decide) (by decide +kernel) ⟨_, rfl, h⟩
  · have h := h.1 c4
    refine q_blk (pc' := 27) (lo' := [some (.ref a0), some (.int x1)]) (st' := [.int (nI 0)]) [.iconst 0] (by decide +kernel) rfl ?_
    refine q_goto 36 (off := 9) (by decide +kernel) (by decide) ?_
    exact q_retI rfl (by decide) (by decide) (by decide +kernel) ⟨_, rfl, h⟩
theorem f_X11_hasParcel {G : q_G} {X : String → q_H → Prop} {f : Bool → q_H → Prop} {A : q_H} {a0 : Nat} {x1 : Int32} (h : q_sh A a0 = (12, 0) ∧ ∃ r2 : Nat, q_R A a0 6 = some r2 ∧ q_Wc G M_X11_slotAt [.int x1] A (q_KI fun r5 A4 => ∃ z7 : Nat, q_sh A4 r2 = (50, z7) ∧ z7 < 2147483648 ∧ ∃ j9 : Nat, (r5 + (nI 6)) = nI j9 ∧ j9 < z7 ∧ (((q_I A4 r2 j9) = (-1) → f false A4) ∧ (¬ (q_I A4 r2 j9) = (-1) → f true A4))) q_nX) : q_Wc G M_X11_hasParcel [.ref a0, .int x1] A (q_KB f) X := by
  refine q_Wc.of [some (.ref a0), some (.int x1)] mo_X11_hasParcel.2.2.2.2.2 rfl (Nat.le_of_ble_eq_true rfl) rfl ?_
  refine q_blk (pc' := 1) (lo' := [some (.ref a0), some (.int x1)]) (st' := [.ref a0]) [.aload_n 0] (by decide +kernel) rfl ?_
  obtain ⟨s1, h⟩ := h
  obtain ⟨r2, e3, h⟩ := h
  refine q_getR fl_X11_30 rfl (by decide) (by decide +kernel) s1 e3 ?_
  refine q_blk (pc' := 5) (lo' := [some (.ref a0), some (.int x1)]) (st' := [.int x1, .ref r2]) [.iload_n 1] (by decide +kernel) rfl ?_
  refine q_callS (Mc := M_X11_slotAt) (z := 1) (As := [.int x1]) (st := [.ref r2]) mo_X11_slotAt ms_X11_slotAt ml_X11_204_X11_slotAt rfl rfl (by decide) (by decide) rfl (Nat.le_of_ble_eq_true rfl) (by decide +kernel) h (q_fI fun r5 A4 h => ?_)
  show q_Wp _ _ _ _ 0 0 8 [some (.ref a0), some (.int x1)] [.int r5, .ref r2] A4
  refine q_blk (pc' := 11) (lo' := [some (.ref a0), some (.int x1)]) (st' := [.int (r5 + (nI 6)), .ref r2]) [.bipush 6, .iadd] (by decide +kernel) rfl ?_
  obtain ⟨z7, s6, b8, h⟩ := h
  obtain ⟨j9, e10, h⟩ := h
  obtain ⟨l11, h⟩ := h
  refine q_iald e10 (by decide +kernel) s6 l11 b8 ?_
  refine q_blk (pc' := 13) (lo' := [some (.ref a0), some (.int x1)]) (st' := [.int (-1), .int (q_I A4 r2 j9)]) [.iconst (-1)] (by decide +kernel) rfl ?_
  refine q_icmp_eq 20 (off := 7) (by decide +kernel) (by decide) (fun c12 => ?_) (fun c12 => ?_)
  · have h := h.1 c12
    refine q_blk (pc' := 21) (lo' := [some (.ref a0), some (.int x1)]) (st' := [.int (nI 0)]) [.iconst 0] (by decide +kernel) rfl ?_
    exact q_retZ (r := q_i false) rfl (q_nz _) (by decide) (by decide) (by decide +kernel) ⟨false, rfl, h⟩
  · have h := h.2 c12
    refine q_blk (pc' := 17) (lo' := [some (.ref a0), some (.int x1)]) (st' := [.int (nI 1)]) [.iconst 1] (by decide +kernel) rfl ?_
    refine q_goto 21 (off := 4) (by decide +kernel) (by decide) ?_
    exact q_retZ (r := q_i true) rfl (q_nz _) (by decide) (by decide) (by decide +kernel) ⟨true, rfl, h⟩
theorem f_X11_station {G : q_G} {X : String → q_H → Prop} {f : Int32 → q_H → Prop} {A : q_H} {a0 : Nat} {x1 : Int32} {x2 : Int32} (h : q_sh A a0 = (12, 0) ∧ q_Wc G M_X11_isStation [.ref a0, .int x1] A (q_KB fun b2 A1 => ((b2 = true → ((b2 = true → q_Wc G M_X11_isIn [.long (x2.toInt64), .long (lN 0), .long (lN 10)] A1 (q_KB fun b9 A8 => ((b9 = true → q_Wp G M_X11_station (q_KI f) X 0 0 38 [some (.ref a0), some (.int x1), some (.int x2), none] [.int (q_i false), .int (q_i false), .int (q_i false), .ref a0] A8) ∧ (b9 = false → q_Wp G M_X11_station (q_KI f) X 0 0 38 [some (.ref a0), some (.int x1), some (.int x2), none] [.int (q_i false), .int (q_i true), .int (q_i false), .ref a0] A8))) q_nX) ∧ (b2 = false → q_Wp G M_X11_station (q_KI f) X 0 0 38 [some (.ref a0), some (.int x1), some (.int x2), none] [.int (q_i false), .int (q_i false), .int (q_i false), .ref a0] A1))) ∧ (b2 = false → ((b2 = true → q_Wc G M_X11_isIn [.long (x2.toInt64), .long (lN 0), .long (lN 10)] A1 (q_KB fun b15 A14 => ((b15 = true → q_Wp G M_X11_station (q_KI f) X 0 0 38 [some (.ref a0), some (.int x1), some (.int x2), none] [.int (q_i false), .int (q_i false), .int (q_i true), .ref a0] A14) ∧ (b15 = false → q_Wp G M_X11_station (q_KI f) X 0 0 38 [some (.ref a0), some (.int x1), some (.int x2), none] [.int (q_i false), .int (q_i true), .int (q_i true), .ref a0] A14))) q_nX) ∧ (b2 = false → q_Wp G M_X11_station (q_KI f) X 0 0 38 [some (.ref a0), some (.int x1), some (.int x2), none] [.int (q_i false), .int (q_i false), .int (q_i true), .ref a0] A1))))) q_nX) : q_Wc G M_X11_station [.ref a0, .int x1, .int x2] A (q_KI f) X := by
  refine q_Wc.of [some (.ref a0), some (.int x1), some (.int x2), none] mo_X11_station.2.2.2.2.2 rfl (Nat.le_of_ble_eq_true rfl) rfl ?_
  refine q_blk (pc' := 2) (lo' := [some (.ref a0), some (.int x1), some (.int x2), none]) (st' := [.int x1, .ref a0]) [.aload_n 0, .iload_n 1] (by decide +kernel) rfl ?_
  obtain ⟨s3, h⟩ := h
  refine q_callV (ci := 11) (Mc := M_X11_isStation) (z := 1) (b := a0) (As := [.int x1]) (st := []) mo_X11_isStation mi_X11_isStation ml_X11_264_X11_isStation rfl rfl (by decide) rfl (by decide) (by decide) rfl (Nat.le_of_ble_eq_true rfl) (by decide +kernel) s3 h (q_fB fun b2 A1 h => ?_)
  show q_Wp _ _ _ _ 0 0 5 [some (.ref a0), some (.int x1), some (.int x2), none] [.int (q_i b2)] A1
  refine q_blk (pc' := 8) (lo' := [some (.ref a0), some (.int x1), some (.int x2), some (.int (q_i b2))]) (st' := [.int (q_i b2), .ref a0]) [.istore_n 3, .aload_n 0, .iload_n 3] (by decide +kernel) rfl ?_
  refine q_ifB_ne 15 (off := 7) (by decide +kernel) (by decide) (fun c4 => ?_) (fun c4 => ?_)
  · have h := h.1 c4
    refine q_blk (pc' := 17) (lo' := [some (.ref a0), some (.int x1), some (.int x2), some (.int (q_i b2))]) (st' := [.int (q_i b2), .int (nI 0), .ref a0]) [.iconst 0, .iload_n 3] (by decide +kernel) rfl ?_
    refine q_ifB_eq 36 (off := 19) (by decide +kernel) (by decide) (fun c6 => ?_) (fun c6 => ?_)
    · have h := h.2 c6
      refine q_blk (pc' := 38) (lo' := [some (.ref a0), some (.int x1), some (.int x2), some (.int (q_i b2))]) (st' := [.int (nI 0), .int (nI 0), .int (nI 0), .ref a0]) [.iconst 0, .iconst 0] (by decide +kernel) rfl ?_
      exact q_wk [some (.ref a0), some (.int x1), some (.int x2), none] (And.intro rfl (And.intro rfl (And.intro rfl trivial))) h
    · have h := h.1 c6
      refine q_blk (pc' := 23) (lo' := [some (.ref a0), some (.int x1), some (.int x2), some (.int (q_i b2))]) (st' := [.long (lN 0), .long (x2.toInt64), .int (nI 0), .ref a0]) [.iload_n 2, .i2l, .lconst 0] (by decide +kernel) rfl ?_
      refine q_ldc2 (v := 10) c2_X11_267 (by decide +kernel) ?_
      --
      refine q_callS (Mc := M_X11_isIn) (z := 3) (As := [.long (x2.toInt64), .long (lN 0), .long (lN 10)]) (st := [.int (nI 0), .ref a0]) mo_X11_isIn ms_X11_isIn ml_X11_71_X11_isIn rfl rfl (by decide) (by decide) rfl (Nat.le_of_ble_eq_true rfl) (by decide +kernel) h (q_fB fun b9 A8 h => ?_)
      show q_Wp _ _ _ _ 0 0 29 [some (.ref a0), some (.int x1), some (.int x2), some (.int (q_i b2))] [.int (q_i b9), .int (nI 0), .ref a0] A8
      refine q_ifB_ne 36 (off := 7) (by decide +kernel) (by decide) (fun c10 => ?_) (fun c10 => ?_)
      · have h := h.1 c10
        refine q_blk (pc' := 38) (lo' := [some (.ref a0), some (.int x1), some (.int x2), some (.int (q_i b2))]) (st' := [.int (nI 0), .int (nI 0), .int (nI 0), .ref a0]) [.iconst 0, .iconst 0] (by decide +kernel) rfl ?_
        exact q_wk [some (.ref a0), some (.int x1), some (.int x2), none] (And.intro rfl (And.intro rfl (And.intro rfl trivial))) h
      · have h := h.2 c10
        refine q_blk (pc' := 33) (lo' := [some (.ref a0), some (.int x1), some (.int x2), some (.int (q_i b2))]) (st' := [.int (nI 1), .int (nI 0), .ref a0]) [.iconst 1] (by decide +kernel) rfl ?_
        refine q_goto 37 (off := 4) (by decide +kernel) (by decide) ?_
        refine q_blk (pc' := 38) (lo' := [some (.ref a0), some (.int x1), some (.int x2), some (.int (q_i b2))]) (st' := [.int (nI 0), .int (nI 1), .int (nI 0), .ref a0]) [.iconst 0] (by decide +kernel) rfl ?_
        exact q_wk [some (.ref a0), some (.int x1), some (.int x2), none] (And.intro rfl (And.intro rfl (And.intro rfl trivial))) h
  · have h := h.2 c4
    refine q_blk (pc' := 12) (lo' := [some (.ref a0), some (.int x1), some (.int x2), some (.int (q_i b2))]) (st' := [.int (nI 1), .ref a0]) [.iconst 1] (by decide +kernel) rfl ?_
    refine q_goto 16 (off := 4) (by decide +kernel) (by decide) ?_
    refine q_blk (pc' := 17) (lo' := [some (.ref a0), some (.int x1), some (.int x2), some (.int (q_i b2))]) (st' := [.int (q_i b2), .int (nI 1), .ref a0]) [.iload_n 3] (by decide +kernel) rfl ?_
    refine q_ifB_eq 36 (off := 19) (by decide +kernel) (by decide) (fun c12 => ?_) (fun c12 => ?_)
    · have h := h.2 c12
      refine q_blk (pc' := 38) (lo' := [some (.ref a0), some (.int x1), some (.int x2), some (.int (q_i b2))]) (st' := [.int (nI 0), .int (nI 0), .int (nI 1), .ref a0]) [.iconst 0, .iconst 0] (by decide +kernel) rfl ?_
      exact q_wk [some (.ref a0), some (.int x1), some (.int x2), none] (And.intro rfl (And.intro rfl (And.intro rfl trivial))) h
    · have h := h.1 c12
      refine q_blk (pc' := 23) (lo' := [some (.ref a0), some (.int x1), some (.int x2), some (.int (q_i b2))]) (st' := [.long (lN 0), .long (x2.toInt64), .int (nI 1), .ref a0]) [.iload_n 2, .i2l, .lconst 0] (by decide +kernel) rfl ?_
      refine q_ldc2 (v := 10) c2_X11_267 (by decide +kernel) ?_
      --
      refine q_callS (Mc := M_X11_isIn) (z := 3) (As := [.long (x2.toInt64), .long (lN 0), .long (lN 10)]) (st := [.int (nI 1), .ref a0]) mo_X11_isIn ms_X11_isIn ml_X11_71_X11_isIn rfl rfl (by decide) (by decide) rfl (Nat.le_of_ble_eq_true rfl) (by decide +kernel) h (q_fB fun b15 A14 h => ?_)
      show q_Wp _ _ _ _ 0 0 29 [some (.ref a0), some (.int x1), some (.int x2), some (.int (q_i b2))] [.int (q_i b15), .int (nI 1), .ref a0] A14
      refine q_ifB_ne 36 (off := 7) (by decide +kernel) (by decide) (fun c16 => ?_) (fun c16 => ?_)
      · have h := h.1 c16
        refine q_blk (pc' := 38) (lo' := [some (.ref a0), some (.int x1), some (.int x2), some (.int (q_i b2))]) (st' := [.int (nI 0), .int (nI 0), .int (nI 1), .ref a0]) [.iconst 0, .iconst 0] (by decide +kernel) rfl ?_
        exact q_wk [some (.ref a0), some (.int x1), some (.int x2), none] (And.intro rfl (And.intro rfl (And.intro rfl trivial))) h
      · have h := h.2 c16
        refine q_blk (pc' := 33) (lo' := [some (.ref a0), some (.int x1), some (.int x2), some (.int (q_i b2))]) (st' := [.int (nI 1), .int (nI 1), .ref a0]) [.iconst 1] (by decide +kernel) rfl ?_
        refine q_goto 37 (off := 4) (by decide +kernel) (by decide) ?_
        refine q_blk (pc' := 38) (lo' := [some (.ref a0), some (.int x1), some (.int x2), some (.int (q_i b2))]) (st' := [.int (nI 0), .int (nI 1), .int (nI 1), .ref a0]) [.iconst 0] (by decide +kernel) rfl ?_
        exact q_wk [some (.ref a0), some (.int x1), some (.int x2), none] (And.intro rfl (And.intro rfl (And.intro rfl trivial))) h
theorem f_X11_station_38 {G : q_G} {X : String → q_H → Prop} {f : Int32 → q_H → Prop} {A : q_H} {a0 : Nat} {x1 : Int32} {x2 : Int32} {p0 : Bool} {p1 : Bool} {p2 : Bool} {u3 : Nat} (h : q_sh A u3 = (12, 0) ∧ q_Wc G M_X11_fails [.ref u3, .int (q_i p2), .int (q_i p1), .int (q_i p0)] A (q_KB fun b2 A1 => ((b2 = true → f (nI 0) A1) ∧ (b2 = false → ((x2 = nI 0 → q_sh A1 a0 = (12, 0) ∧ q_Wc G M_X11_targetOf [.ref a0, .int x1] A1 (q_KI fun r8 A7 => f r8 A7) q_nX) ∧ (x2 = nI 1 → q_sh A1 a0 = (12, 0) ∧ ∃ r11 : Nat, q_R A1 a0 6 = some r11 ∧ q_Wc G M_X11_placeAt [.int x1, .int (nI 0)] A1 (q_KI fun r14 A13 => ∃ z16 : Nat, q_sh A13 r11 = (50, z16) ∧ z16 < 2147483648 ∧ ∃ j18 : Nat, r14 = nI j18 ∧ j18 < z16 ∧ f (q_I A13 r11 j18) A13) q_nX) ∧ (x2 = nI 2 → q_sh A1 a0 = (12, 0) ∧ ∃ r22 : Nat, q_R A1 a0 2 = some r22 ∧ ∃ z25 : Nat, q_sh A1 r22 = (50, z25) ∧ z25 < 2147483648 ∧ ∃ j27 : Nat, (((nI 3) + ((nI 3) * x1)) + (nI 1)) = nI j27 ∧ j27 < z25 ∧ f (q_I A1 r22 j27) A1) ∧ (x2 = nI 3 → q_sh A1 a0 = (12, 0) ∧ ∃ r31 : Nat, q_R A1 a0 2 = some r31 ∧ ∃ z34 : Nat, q_sh A1 r31 = (50, z34) ∧ z34 < 2147483648 ∧ ∃ j36 : Nat, (((nI 3) + ((nI 3) * x1)) + (nI 2)) = nI j36 ∧ j36 < z34 ∧ f (q_I A1 r31 j36) A1) ∧ (x2 = nI 4 → q_sh A1 a0 = (12, 0) ∧ ∃ r40 : Nat, q_R A1 a0 6 = some r40 ∧ q_Wc G M_X11_placeAt [.int x1, .int (nI 1)] A1 (q_KI fun r43 A42 => ∃ z45 : Nat, q_sh A42 r40 = (50, z45) ∧ z45 < 2147483648 ∧ ∃ j47 : Nat, r43 = nI j47 ∧ j47 < z45 ∧ f (q_I A42 r40 j47) A42) q_nX) ∧ (x2 = nI 5 → q_sh A1 a0 = (12, 0) ∧ q_Wc G M_X11_capacity [.ref a0, .int x1] A1 (q_KI fun r51 A50 => f r51 A50) q_nX) ∧ (x2 = nI 6 → q_Wc G M_X11_placeAt [.int x1, .int (nI 4)] A1 (q_KI fun r54 A53 => q_sh A53 a0 = (12, 0) ∧ q_Wc G M_X11_total [.ref a0, .int r54] A53 (q_KI fun r56 A55 => f r56 A55) q_nX) q_nX) ∧ (x2 = nI 7 → q_sh A1 a0 = (12, 0) ∧ q_Wc G M_X11_hasParcel [.ref a0, .int x1] A1 (q_KB fun b59 A58 => ((b59 = true → q_Wc G M_X11_slotAt [.int x1] A58 (q_KI fun r64 A63 => q_sh A63 a0 = (12, 0) ∧ q_Wc G M_X11_total [.ref a0, .int r64] A63 (q_KI fun r66 A65 => f r66 A65) q_nX) q_nX) ∧ (b59 = false → f (nI 0) A58))) q_nX) ∧ (x2 = nI 8 → q_sh A1 a0 = (12, 0) ∧ ∃ r69 : Nat, q_R A1 a0 6 = some r69 ∧ q_Wc G M_X11_slotAt [.int x1] A1 (q_KI fun r72 A71 => ∃ z74 : Nat, q_sh A71 r69 = (50, z74) ∧ z74 < 2147483648 ∧ ∃ j76 : Nat, (r72 + (nI 6)) = nI j76 ∧ j76 < z74 ∧ f (q_I A71 r69 j76) A71) q_nX) ∧ (x2 = nI 9 → q_sh A1 a0 = (12, 0) ∧ ∃ r80 : Nat, q_R A1 a0 6 = some r80 ∧ q_Wc G M_X11_placeAt [.int x1, .int (nI 2)] A1 (q_KI fun r83 A82 => ∃ z85 : Nat, q_sh A82 r80 = (50, z85) ∧ z85 < 2147483648 ∧ ∃ j87 : Nat, r83 = nI j87 ∧ j87 < z85 ∧ f (q_I A82 r80 j87) A82) q_nX) ∧ ((∀ j, j < 10 → ¬ x2 = nI j) → q_sh A1 a0 = (12, 0) ∧ ∃ r91 : Nat, q_R A1 a0 6 = some r91 ∧ q_Wc G M_X11_placeAt [.int x1, .int (nI 3)] A1 (q_KI fun r94 A93 => ∃ z96 : Nat, q_sh A93 r91 = (50, z96) ∧ z96 < 2147483648 ∧ ∃ j98 : Nat, r94 = nI j98 ∧ j98 < z96 ∧ f (q_I A93 r91 j98) A93) q_nX))))) q_nX) : q_Wp G M_X11_station (q_KI f) X 0 0 38 [some (.ref a0), some (.int x1), some (.int x2), none] [.int (q_i p0), .int (q_i p1), .int (q_i p2), .ref u3] A := by
  obtain ⟨s3, h⟩ := h
  refine q_callV (ci := 11) (Mc := M_X11_fails) (z := 3) (b := u3) (As := [.int (q_i p2), .int (q_i p1), .int (q_i p0)]) (st := []) mo_X11_fails mi_X11_fails ml_X11_260_X11_fails rfl rfl (by decide) rfl (by decide) (by decide) rfl (Nat.le_of_ble_eq_true rfl) (by decide +kernel) s3 h (q_fB fun b2 A1 h => ?_)
  show q_Wp _ _ _ _ 0 0 41 [some (.ref a0), some (.int x1), some (.int x2), none] [.int (q_i b2)] A1
  refine q_ifB_eq 46 (off := 5) (by decide +kernel) (by decide) (fun c4 => ?_) (fun c4 => ?_)
  · have h := h.2 c4
    refine q_blk (pc' := 47) (lo' := [some (.ref a0), some (.int x1), some (.int x2), none]) (st' := [.int x2]) [.iload_n 2] (by decide +kernel) rfl ?_
    have hd47 := sw_X11_station_47
    refine q_tsw [100, 106, 117, 130, 143, 154, 160, 170, 191, 204] 215 (hd47) (by rfl) (by decide) (by rfl) (by decide) (And.intro (fun c6 => ?_) (And.intro (fun c6 => ?_) (And.intro (fun c6 => ?_) (And.intro (fun c6 => ?_) (And.intro (fun c6 => ?_) (And.intro (fun c6 => ?_) (And.intro (fun c6 => ?_) (And.intro (fun c6 => ?_) (And.intro (fun c6 => ?_) (And.intro (fun c6 => ?_) trivial)))))))))) (fun c6 => ?_)
    · have h := h.1 c6
      refine q_blk (pc' := 102) (lo' := [some (.ref a0), some (.int x1), some (.int x2), none]) (st' := [.int x1, .ref a0]) [.aload_n 0, .iload_n 1] (by decide +kernel) rfl ?_
      obtain ⟨s9, h⟩ := h
      refine q_callV (ci := 11) (Mc := M_X11_targetOf) (z := 1) (b := a0) (As := [.int x1]) (st := []) mo_X11_targetOf mi_X11_targetOf ml_X11_201_X11_targetOf rfl rfl (by decide) rfl (by decide) (by decide) rfl (Nat.le_of_ble_eq_true rfl) (by decide +kernel) s9 h (q_fI fun r8 A7 h => ?_)
      show q_Wp _ _ _ _ 0 0 105 [some (.ref a0), some (.int x1), some (.int x2), none] [.int r8] A7
      exact q_retI rfl (by decide) (by decide) (by decide +kernel) ⟨_, rfl, h⟩
    · have h := h.2.1 c6
      refine q_blk (pc' := 107) (lo' := [some (.ref a0), some (.int x1), some (.int x2), none]) (st' := [.ref a0]) [.aload_n 0] (by decide +kernel) rfl ?_
      obtain ⟨s10, h⟩ := h
      obtain ⟨r11, e12, h⟩ := h
      refine q_getR fl_X11_30 rfl (by decide) (by decide +kernel) s10 e12 ?_
      refine q_blk (pc' := 112) (lo' := [some (.ref a0), some (.int x1), some (.int x2), none]) (st' := [.int (nI 0), .int x1, .ref r11]) [.iload_n 1, .iconst 0] (by decide +kernel) rfl ?_
      refine q_callS (Mc := M_X11_placeAt) (z := 2) (As := [.int x1, .int (nI 0)]) (st := [.ref r11]) mo_X11_placeAt ms_X11_placeAt ml_X11_141_X11_placeAt rfl rfl (by decide) (by decide) rfl (Nat.le_of_ble_eq_true rfl) (by decide +kernel) h (q_fI fun r14 A13 h => ?_)
      show q_Wp _ _ _ _ 0 0 115 [some (.ref a0), some (.int x1), some (.int x2), none] [.int r14, .ref r11] A13
      obtain ⟨z16, s15, b17, h⟩ := h
      obtain ⟨j18, e19, h⟩ := h
      obtain ⟨l20, h⟩ := h
      refine q_iald e19 (by decide +kernel) s15 l20 b17 ?_
      exact q_retI rfl (by decide) (by decide) (by decide +kernel) ⟨_, rfl, h⟩
    · have h := h.2.2.1 c6
      refine q_blk (pc' := 118) (lo' := [some (.ref a0), some (.int x1), some (.int x2), none]) (st' := [.ref a0]) [.aload_n 0] (by decide +kernel) rfl ?_
      obtain ⟨s21, h⟩ := h
      obtain ⟨r22, e23, h⟩ := h
      refine q_getR fl_X11_17 rfl (by decide) (by decide +kernel) s21 e23 ?_
      refine q_blk (pc' := 128) (lo' := [some (.ref a0), some (.int x1), some (.int x2), none]) (st' := [.int (((nI 3) + ((nI 3) * x1)) + (nI 1)), .ref r22]) [.iconst 3, .iconst 3, .iload_n 1, .imul, .iadd, .iconst 1, .iadd] (by decide +kernel) rfl ?_
      obtain ⟨z25, s24, b26, h⟩ := h
      obtain ⟨j27, e28, h⟩ := h
      obtain ⟨l29, h⟩ := h
      refine q_iald e28 (by decide +kernel) s24 l29 b26 ?_
      exact q_retI rfl (by decide) (by decide) (by decide +kernel) ⟨_, rfl, h⟩
    · have h := h.2.2.2.1 c6
      refine q_blk (pc' := 131) (lo' := [some (.ref a0), some (.int x1), some (.int x2), none]) (st' := [.ref a0]) [.aload_n 0] (by decide +kernel) rfl ?_
      obtain ⟨s30, h⟩ := h
      obtain ⟨r31, e32, h⟩ := h
      refine q_getR fl_X11_17 rfl (by decide) (by decide +kernel) s30 e32 ?_
      refine q_blk (pc' := 141) (lo' := [some (.ref a0), some (.int x1), some (.int x2), none]) (st' := [.int (((nI 3) + ((nI 3) * x1)) + (nI 2)), .ref r31]) [.iconst 3, .iconst 3, .iload_n 1, .imul, .iadd, .iconst 2, .iadd] (by decide +kernel) rfl ?_
      obtain ⟨z34, s33, b35, h⟩ := h
      obtain ⟨j36, e37, h⟩ := h
      obtain ⟨l38, h⟩ := h
      refine q_iald e37 (by decide +kernel) s33 l38 b35 ?_
      exact q_retI rfl (by decide) (by decide) (by decide +kernel) ⟨_, rfl, h⟩
    · have h := h.2.2.2.2.1 c6
      refine q_blk (pc' := 144) (lo' := [some (.ref a0), some (.int x1), some (.int x2), none]) (st' := [.ref a0]) [.aload_n 0] (by decide +kernel) rfl ?_
      obtain ⟨s39, h⟩ := h
      obtain ⟨r40, e41, h⟩ := h
      refine q_getR fl_X11_30 rfl (by decide) (by decide +kernel) s39 e41 ?_
      refine q_blk (pc' := 149) (lo' := [some (.ref a0), some (.int x1), some (.int x2), none]) (st' := [.int (nI 1), .int x1, .ref r40]) [.iload_n 1, .iconst 1] (by decide +kernel) rfl ?_
      refine q_callS (Mc := M_X11_placeAt) (z := 2) (As := [.int x1, .int (nI 1)]) (st := [.ref r40]) mo_X11_placeAt ms_X11_placeAt ml_X11_141_X11_placeAt rfl rfl (by decide) (by decide) rfl (Nat.le_of_ble_eq_true rfl) (by decide +kernel) h (q_fI fun r43 A42 h => ?_)
      show q_Wp _ _ _ _ 0 0 152 [some (.ref a0), some (.int x1), some (.int x2), none] [.int r43, .ref r40] A42
      obtain ⟨z45, s44, b46, h⟩ := h
      obtain ⟨j47, e48, h⟩ := h
      obtain ⟨l49, h⟩ := h
      refine q_iald e48 (by decide +kernel) s44 l49 b46 ?_
      exact q_retI rfl (by decide) (by decide) (by decide +kernel) ⟨_, rfl, h⟩
    · have h := h.2.2.2.2.2.1 c6
      refine q_blk (pc' := 156) (lo' := [some (.ref a0), some (.int x1), some (.int x2), none]) (st' := [.int x1, .ref a0]) [.aload_n 0, .iload_n 1] (by decide +kernel) rfl ?_
      obtain ⟨s52, h⟩ := h
      refine q_callV (ci := 11) (Mc := M_X11_capacity) (z := 1) (b := a0) (As := [.int x1]) (st := []) mo_X11_capacity mi_X11_capacity ml_X11_222_X11_capacity rfl rfl (by decide) rfl (by decide) (by decide) rfl (Nat.le_of_ble_eq_true rfl) (by decide +kernel) s52 h (q_fI fun r51 A50 h => ?_)
      show q_Wp _ _ _ _ 0 0 159 [some (.ref a0), some (.int x1), some (.int x2), none] [.int r51] A50
      exact q_retI rfl (by decide) (by decide) (by decide +kernel) ⟨_, rfl, h⟩
    · have h := h.2.2.2.2.2.2.1 c6
      refine q_blk (pc' := 163) (lo' := [some (.ref a0), some (.int x1), some (.int x2), none]) (st' := [.int (nI 4), .int x1, .ref a0]) [.aload_n 0, .iload_n 1, .iconst 4] (by decide +kernel) rfl ?_
      refine q_callS (Mc := M_X11_placeAt) (z := 2) (As := [.int x1, .int (nI 4)]) (st := [.ref a0]) mo_X11_placeAt ms_X11_placeAt ml_X11_141_X11_placeAt rfl rfl (by decide) (by decide) rfl (Nat.le_of_ble_eq_true rfl) (by decide +kernel) h (q_fI fun r54 A53 h => ?_)
      show q_Wp _ _ _ _ 0 0 166 [some (.ref a0), some (.int x1), some (.int x2), none] [.int r54, .ref a0] A53
      obtain ⟨s57, h⟩ := h
      refine q_callV (ci := 11) (Mc := M_X11_total) (z := 1) (b := a0) (As := [.int r54]) (st := []) mo_X11_total mi_X11_total ml_X11_189_X11_total rfl rfl (by decide) rfl (by decide) (by decide) rfl (Nat.le_of_ble_eq_true rfl) (by decide +kernel) s57 h (q_fI fun r56 A55 h => ?_)
      show q_Wp _ _ _ _ 0 0 169 [some (.ref a0), some (.int x1), some (.int x2), none] [.int r56] A55
      exact q_retI rfl (by decide) (by decide) (by decide +kernel) ⟨_, rfl, h⟩
    · have h := h.2.2.2.2.2.2.2.1 c6
      refine q_blk (pc' := 172) (lo' := [some (.ref a0), some (.int x1), some (.int x2), none]) (st' := [.int x1, .ref a0]) [.aload_n 0, .iload_n 1] (by decide +kernel) rfl ?_
      obtain ⟨s60, h⟩ := h
      refine q_callV (ci := 11) (Mc := M_X11_hasParcel) (z := 1) (b := a0) (As := [.int x1]) (st := []) mo_X11_hasParcel mi_X11_hasParcel ml_X11_269_X11_hasParcel rfl rfl (by decide) rfl (by decide) (by decide) rfl (Nat.le_of_ble_eq_true rfl) (by decide +kernel) s60 h (q_fB fun b59 A58 h => ?_)
      show q_Wp _ _ _ _ 0 0 175 [some (.ref a0), some (.int x1), some (.int x2), none] [.int (q_i b59)] A58
      refine q_ifB_eq 189 (off := 14) (by decide +kernel) (by decide) (fun c61 => ?_) (fun c61 => ?_)
      · have h := h.2 c61
        refine q_blk (pc' := 190) (lo' := [some (.ref a0), some (.int x1), some (.int x2), none]) (st' := [.int (nI 0)]) [.iconst 0] (by decide +kernel) rfl ?_
        exact q_retI rfl (by decide) (by decide) (by decide +kernel) ⟨_, rfl, h⟩
      · have h := h.1 c61
        refine q_blk (pc' := 180) (lo' := [some (.ref a0), some (.int x1), some (.int x2), none]) (st' := [.int x1, .ref a0]) [.aload_n 0, .iload_n 1] (by decide +kernel) rfl ?_
        refine q_callS (Mc := M_X11_slotAt) (z := 1) (As := [.int x1]) (st := [.ref a0]) mo_X11_slotAt ms_X11_slotAt ml_X11_204_X11_slotAt rfl rfl (by decide) (by decide) rfl (Nat.le_of_ble_eq_true rfl) (by decide +kernel) h (q_fI fun r64 A63 h => ?_)
        show q_Wp _ _ _ _ 0 0 183 [some (.ref a0), some (.int x1), some (.int x2), none] [.int r64, .ref a0] A63
        obtain ⟨s67, h⟩ := h
        refine q_callV (ci := 11) (Mc := M_X11_total) (z := 1) (b := a0) (As := [.int r64]) (st := []) mo_X11_total mi_X11_total ml_X11_189_X11_total rfl rfl (by decide) rfl (by decide) (by decide) rfl (Nat.le_of_ble_eq_true rfl) (by decide +kernel) s67 h (q_fI fun r66 A65 h => ?_)
        show q_Wp _ _ _ _ 0 0 186 [some (.ref a0), some (.int x1), some (.int x2), none] [.int r66] A65
        refine q_goto 190 (off := 4) (by decide +kernel) (by decide) ?_
        exact q_retI rfl (by decide) (by decide) (by decide +kernel) ⟨_, rfl, h⟩
    · have h := h.2.2.2.2.2.2.2.2.1 c6
      refine q_blk (pc' := 192) (lo' := [some (.ref a0), some (.int x1), some (.int x2), none]) (st' := [.ref a0]) [.aload_n 0] (by decide +kernel) rfl ?_
      obtain ⟨s68, h⟩ := h
      obtain ⟨r69, e70, h⟩ := h
      refine q_getR fl_X11_30 rfl (by decide) (by decide +kernel) s68 e70 ?_
      refine q_blk (pc' := 196) (lo' := [some (.ref a0), some (.int x1), some (.int x2), none]) (st' := [.int x1, .ref r69]) [.iload_n 1] (by decide +kernel) rfl ?_
      refine q_callS (Mc := M_X11_slotAt) (z := 1) (As := [.int x1]) (st := [.ref r69]) mo_X11_slotAt ms_X11_slotAt ml_X11_204_X11_slotAt rfl rfl (by decide) (by decide) rfl (Nat.le_of_ble_eq_true rfl) (by decide +kernel) h (q_fI fun r72 A71 h => ?_)
      show q_Wp _ _ _ _ 0 0 199 [some (.ref a0), some (.int x1), some (.int x2), none] [.int r72, .ref r69] A71
      refine q_blk (pc' := 202) (lo' := [some (.ref a0), some (.int x1), some (.int x2), none]) (st' := [.int (r72 + (nI 6)), .ref r69]) [.bipush 6, .iadd] (by decide +kernel) rfl ?_
      obtain ⟨z74, s73, b75, h⟩ := h
      obtain ⟨j76, e77, h⟩ := h
      obtain ⟨l78, h⟩ := h
      refine q_iald e77 (by decide +kernel) s73 l78 b75 ?_
      exact q_retI rfl (by decide) (by decide) (by decide +kernel) ⟨_, rfl, h⟩
    · have h := h.2.2.2.2.2.2.2.2.2.1 c6
      refine q_blk (pc' := 205) (lo' := [some (.ref a0), some (.int x1), some (.int x2), none]) (st' := [.ref a0]) [.aload_n 0] (by decide +kernel) rfl ?_
      obtain ⟨s79, h⟩ := h
      obtain ⟨r80, e81, h⟩ := h
      refine q_getR fl_X11_30 rfl (by decide) (by decide +kernel) s79 e81 ?_
      refine q_blk (pc' := 210) (lo' := [some (.ref a0), some (.int x1), some (.int x2), none]) (st' := [.int (nI 2), .int x1, .ref r80]) [.iload_n 1, .iconst 2] (by decide +kernel) rfl ?_
      refine q_callS (Mc := M_X11_placeAt) (z := 2) (As := [.int x1, .int (nI 2)]) (st := [.ref r80]) mo_X11_placeAt ms_X11_placeAt ml_X11_141_X11_placeAt rfl rfl (by decide) (by decide) rfl (Nat.le_of_ble_eq_true rfl) (by decide +kernel) h (q_fI fun r83 A82 h => ?_)
      show q_Wp _ _ _ _ 0 0 213 [some (.ref a0), some (.int x1), some (.int x2), none] [.int r83, .ref r80] A82
      obtain ⟨z85, s84, b86, h⟩ := h
      obtain ⟨j87, e88, h⟩ := h
      obtain ⟨l89, h⟩ := h
      refine q_iald e88 (by decide +kernel) s84 l89 b86 ?_
      exact q_retI rfl (by decide) (by decide) (by decide +kernel) ⟨_, rfl, h⟩
    · have h := h.2.2.2.2.2.2.2.2.2.2 c6
      refine q_blk (pc' := 216) (lo' := [some (.ref a0), some (.int x1), some (.int x2), none]) (st' := [.ref a0]) [.aload_n 0] (by decide +kernel) rfl ?_
      obtain ⟨s90, h⟩ := h
      obtain ⟨r91, e92, h⟩ := h
      refine q_getR fl_X11_30 rfl (by decide) (by decide +kernel) s90 e92 ?_
      refine q_blk (pc' := 221) (lo' := [some (.ref a0), some (.int x1), some (.int x2), none]) (st' := [.int (nI 3), .int x1, .ref r91]) [.iload_n 1, .iconst 3] (by decide +kernel) rfl ?_
      refine q_callS (Mc := M_X11_placeAt) (z := 2) (As := [.int x1, .int (nI 3)]) (st := [.ref r91]) mo_X11_placeAt ms_X11_placeAt ml_X11_141_X11_placeAt rfl rfl (by decide) (by decide) rfl (Nat.le_of_ble_eq_true rfl) (by decide +kernel) h (q_fI fun r94 A93 h => ?_)
      show q_Wp _ _ _ _ 0 0 224 [some (.ref a0), some (.int x1), some (.int x2), none] [.int r94, .ref r91] A93
      obtain ⟨z96, s95, b97, h⟩ := h
      obtain ⟨j98, e99, h⟩ := h
      obtain ⟨l100, h⟩ := h
      refine q_iald e99 (by decide +kernel) s95 l100 b97 ?_
      exact q_retI rfl (by decide) (by decide) (by decide +kernel) ⟨_, rfl, h⟩
  · have h := h.1 c4
    refine q_blk (pc' := 45) (lo' := [some (.ref a0), some (.int x1), some (.int x2), none]) (st' := [.int (nI 0)]) [.iconst 0] (by decide +kernel) rfl ?_
    exact q_retI rfl (by decide) (by decide) (by decide +kernel) ⟨_, rfl, h⟩
theorem f_X11_mass {G : q_G} {X : String → q_H → Prop} {f : Int32 → q_H → Prop} {A : q_H} {a0 : Nat} {x1 : Int32} {x2 : Int32} (h : q_Wc G M_X11_isIn [.long (x1.toInt64), .long (lN 0), .long (lN 46)] A (q_KB fun b2 A1 => ((b2 = true → ((b2 = true → q_sh A1 a0 = (12, 0) ∧ q_Wc G M_X11_isMaterial [.ref a0, .int x2] A1 (q_KB fun b8 A7 => ((b8 = true → q_Wp G M_X11_mass (q_KI f) X 0 0 38 [some (.ref a0), some (.int x1), some (.int x2), none] [.int (q_i false), .int (q_i false), .int (q_i false), .ref a0] A7) ∧ (b8 = false → q_Wp G M_X11_mass (q_KI f) X 0 0 38 [some (.ref a0), some (.int x1), some (.int x2), none] [.int (q_i false), .int (q_i true), .int (q_i false), .ref a0] A7))) q_nX) ∧ (b2 = false → q_Wp G M_X11_mass (q_KI f) X 0 0 38 [some (.ref a0), some (.int x1), some (.int x2), none] [.int (q_i false), .int (q_i false), .int (q_i false), .ref a0] A1))) ∧ (b2 = false → ((b2 = true → q_sh A1 a0 = (12, 0) ∧ q_Wc G M_X11_isMaterial [.ref a0, .int x2] A1 (q_KB fun b15 A14 => ((b15 = true → q_Wp G M_X11_mass (q_KI f) X 0 0 38 [some (.ref a0), some (.int x1), some (.int x2), none] [.int (q_i false), .int (q_i false), .int (q_i true), .ref a0] A14) ∧ (b15 = false → q_Wp G M_X11_mass (q_KI f) X 0 0 38 [some (.ref a0), some (.int x1), some (.int x2), none] [.int (q_i false), .int (q_i true), .int (q_i true), .ref a0] A14))) q_nX) ∧ (b2 = false → q_Wp G M_X11_mass (q_KI f) X 0 0 38 [some (.ref a0), some (.int x1), some (.int x2), none] [.int (q_i false), .int (q_i false), .int (q_i true), .ref a0] A1))))) q_nX) : q_Wc G M_X11_mass [.ref a0, .int x1, .int x2] A (q_KI f) X := by
  refine q_Wc.of [some (.ref a0), some (.int x1), some (.int x2), none] mo_X11_mass.2.2.2.2.2 rfl (Nat.le_of_ble_eq_true rfl) rfl ?_
  refine q_blk (pc' := 3) (lo' := [some (.ref a0), some (.int x1), some (.int x2), none]) (st' := [.long (lN 0), .long (x1.toInt64)]) [.iload_n 1, .i2l, .lconst 0] (by decide +kernel) rfl ?_
  refine q_ldc2 (v := 46) c2_X11_272 (by decide +kernel) ?_
  refine q_callS (Mc := M_X11_isIn) (z := 3) (As := [.long (x1.toInt64), .long (lN 0), .long (lN 46)]) (st := []) mo_X11_isIn ms_X11_isIn ml_X11_71_X11_isIn rfl rfl (by decide) (by decide) rfl (Nat.le_of_ble_eq_true rfl) (by decide +kernel) h (q_fB fun b2 A1 h => ?_)
  show q_Wp _ _ _ _ 0 0 9 [some (.ref a0), some (.int x1), some (.int x2), none] [.int (q_i b2)] A1
  refine q_blk (pc' := 12) (lo' := [some (.ref a0), some (.int x1), some (.int x2), some (.int (q_i b2))]) (st' := [.int (q_i b2), .ref a0]) [.istore_n 3, .aload_n 0, .iload_n 3] (by decide +kernel) rfl ?_
  refine q_ifB_ne 19 (off := 7) (by decide +kernel) (by decide) (fun c3 => ?_) (fun c3 => ?_)
  · have h := h.1 c3
    refine q_blk (pc' := 21) (lo' := [some (.ref a0), some (.int x1), some (.int x2), some (.int (q_i b2))]) (st' := [.int (q_i b2), .int (nI 0), .ref a0]) [.iconst 0, .iload_n 3] (by decide +kernel) rfl ?_
    refine q_ifB_eq 36 (off := 15) (by decide +kernel) (by decide) (fun c5 => ?_) (fun c5 => ?_)
    · have h := h.2 c5
      refine q_blk (pc' := 38) (lo' := [some (.ref a0), some (.int x1), some (.int x2), some (.int (q_i b2))]) (st' := [.int (nI 0), .int (nI 0), .int (nI 0), .ref a0]) [.iconst 0, .iconst 0] (by decide +kernel) rfl ?_
      exact q_wk [some (.ref a0), some (.int x1), some (.int x2), none] (And.intro rfl (And.intro rfl (And.intro rfl trivial))) h
    · have h := h.1 c5
      refine q_blk (pc' := 26) (lo' := [some (.ref a0), some (.int x1), some (.int x2), some (.int (q_i b2))]) (st' := [.int x2, .ref a0, .int (nI 0), .ref a0]) [.aload_n 0, .iload_n 2] (by decide +kernel) rfl ?_
      obtain ⟨s9, h⟩ := h
      refine q_callV (ci := 11) (Mc := M_X11_isMaterial) (z := 1) (b := a0) (As := [.int x2]) (st := [.int (nI 0), .ref a0]) mo_X11_isMaterial mi_X11_isMaterial ml_X11_274_X11_isMaterial rfl rfl (by decide) rfl (by decide) (by decide) rfl (Nat.le_of_ble_eq_true rfl) (by decide +kernel) s9 h (q_fB fun b8 A7 h => ?_)
      show q_Wp _ _ _ _ 0 0 29 [some (.ref a0), some (.int x1), some (.int x2), some (.int (q_i b2))] [.int (q_i b8), .int (nI 0), .ref a0] A7
      refine q_ifB_ne 36 (off := 7) (by decide +kernel) (by decide) (fun c10 => ?_) (fun c10 => ?_)
      · have h := h.1 c10
        refine q_blk (pc' := 38) (lo' := [some (.ref a0), some (.int x1), some (.int x2), some (.int (q_i b2))]) (st' := [.int (nI 0), .int (nI 0), .int (nI 0), .ref a0]) [.iconst 0, .iconst 0] (by decide +kernel) rfl ?_
        exact q_wk [some (.ref a0), some (.int x1), some (.int x2), none] (And.intro rfl (And.intro rfl (And.intro rfl trivial))) h
      · have h := h.2 c10
        refine q_blk (pc' := 33) (lo' := [some (.ref a0), some (.int x1), some (.int x2), some (.int (q_i b2))]) (st' := [.int (nI 1), .int (nI 0), .ref a0]) [.iconst 1] (by decide +kernel) rfl ?_
        refine q_goto 37 (off := 4) (by decide +kernel) (by decide) ?_
        refine q_blk (pc' := 38) (lo' := [some (.ref a0), some (.int x1), some (.int x2), some (.int (q_i b2))]) (st' := [.int (nI 0), .int (nI 1), .int (nI 0), .ref a0]) [.iconst 0] (by decide +kernel) rfl ?_
        exact q_wk [some (.ref a0), some (.int x1), some (.int x2), none] (And.intro rfl (And.intro rfl (And.intro rfl trivial))) h
  · have h := h.2 c3
    refine q_blk (pc' := 16) (lo' := [some (.ref a0), some (.int x1), some (.int x2), some (.int (q_i b2))]) (st' := [.int (nI 1), .ref a0]) [.iconst 1] (by decide +kernel) rfl ?_
    refine q_goto 20 (off := 4) (by decide +kernel) (by decide) ?_
    refine q_blk (pc' := 21) (lo' := [some (.ref a0), some (.int x1), some (.int x2), some (.int (q_i b2))]) (st' := [.int (q_i b2), .int (nI 1), .ref a0]) [.iload_n 3] (by decide +kernel) rfl ?_
    refine q_ifB_eq 36 (off := 15) (by decide +kernel) (by decide) (fun c12 => ?_) (fun c12 => ?_)
    · have h := h.2 c12
      refine q_blk (pc' := 38) (lo' := [some (.ref a0), some (.int x1), some (.int x2), some (.int (q_i b2))]) (st' := [.int (nI 0), .int (nI 0), .int (nI 1), .ref a0]) [.iconst 0, .iconst 0] (by decide +kernel) rfl ?_
      exact q_wk [some (.ref a0), some (.int x1), some (.int x2), none] (And.intro rfl (And.intro rfl (And.intro rfl trivial))) h
    · have h := h.1 c12
      refine q_blk (pc' := 26) (lo' := [some (.ref a0), some (.int x1), some (.int x2), some (.int (q_i b2))]) (st' := [.int x2, .ref a0, .int (nI 1), .ref a0]) [.aload_n 0, .iload_n 2] (by decide +kernel) rfl ?_
      obtain ⟨s16, h⟩ := h
      refine q_callV (ci := 11) (Mc := M_X11_isMaterial) (z := 1) (b := a0) (As := [.int x2]) (st := [.int (nI 1), .ref a0]) mo_X11_isMaterial mi_X11_isMaterial ml_X11_274_X11_isMaterial rfl rfl (by decide) rfl (by decide) (by decide) rfl (Nat.le_of_ble_eq_true rfl) (by decide +kernel) s16 h (q_fB fun b15 A14 h => ?_)
      show q_Wp _ _ _ _ 0 0 29 [some (.ref a0), some (.int x1), some (.int x2), some (.int (q_i b2))] [.int (q_i b15), .int (nI 1), .ref a0] A14
      refine q_ifB_ne 36 (off := 7) (by decide +kernel) (by decide) (fun c17 => ?_) (fun c17 => ?_)
      · have h := h.1 c17
        refine q_blk (pc' := 38) (lo' := [some (.ref a0), some (.int x1), some (.int x2), some (.int (q_i b2))]) (st' := [.int (nI 0), .int (nI 0), .int (nI 1), .ref a0]) [.iconst 0, .iconst 0] (by decide +kernel) rfl ?_
        exact q_wk [some (.ref a0), some (.int x1), some (.int x2), none] (And.intro rfl (And.intro rfl (And.intro rfl trivial))) h
      · have h := h.2 c17
        refine q_blk (pc' := 33) (lo' := [some (.ref a0), some (.int x1), some (.int x2), some (.int (q_i b2))]) (st' := [.int (nI 1), .int (nI 1), .ref a0]) [.iconst 1] (by decide +kernel) rfl ?_
        refine q_goto 37 (off := 4) (by decide +kernel) (by decide) ?_
        refine q_blk (pc' := 38) (lo' := [some (.ref a0), some (.int x1), some (.int x2), some (.int (q_i b2))]) (st' := [.int (nI 0), .int (nI 1), .int (nI 1), .ref a0]) [.iconst 0] (by decide +kernel) rfl ?_
        exact q_wk [some (.ref a0), some (.int x1), some (.int x2), none] (And.intro rfl (And.intro rfl (And.intro rfl trivial))) h
theorem f_X11_mass_38 {G : q_G} {X : String → q_H → Prop} {f : Int32 → q_H → Prop} {A : q_H} {a0 : Nat} {x1 : Int32} {x2 : Int32} {p0 : Bool} {p1 : Bool} {p2 : Bool} {u3 : Nat} (h : q_sh A u3 = (12, 0) ∧ q_Wc G M_X11_fails [.ref u3, .int (q_i p2), .int (q_i p1), .int (q_i p0)] A (q_KB fun b2 A1 => ((b2 = true → f (nI 0) A1) ∧ (b2 = false → ((x1 = (nI 46) → q_sh A1 a0 = (12, 0) ∧ ∃ r61 : Nat, q_R A1 a0 6 = some r61 ∧ ∃ z64 : Nat, q_sh A1 r61 = (50, z64) ∧ z64 < 2147483648 ∧ ∃ j66 : Nat, ((nI 24) + x2) = nI j66 ∧ j66 < z64 ∧ f (q_I A1 r61 j66) A1) ∧ (¬ x1 = (nI 46) → ((x1 ≤ (nI 15) → ((x1 ≤ (nI 7) → q_sh A1 a0 = (12, 0) ∧ q_Wc G M_X11_stations [.ref a0] A1 (q_KI fun r10 A9 => ((r10 ≤ x1 → f (nI 0) A9) ∧ (¬ r10 ≤ x1 → q_sh A9 a0 = (12, 0) ∧ ∃ r14 : Nat, q_R A9 a0 6 = some r14 ∧ q_Wc G M_X11_placeAt [.int x1, .int (nI 4)] A9 (q_KI fun r17 A16 => ∃ z19 : Nat, q_sh A16 r14 = (50, z19) ∧ z19 < 2147483648 ∧ ∃ j21 : Nat, (r17 + x2) = nI j21 ∧ j21 < z19 ∧ f (q_I A16 r14 j21) A16) q_nX))) q_nX) ∧ (¬ x1 ≤ (nI 7) → q_sh A1 a0 = (12, 0) ∧ q_Wc G M_X11_stations [.ref a0] A1 (q_KI fun r25 A24 => ((r25 ≤ (x1 - (nI 8)) → f (nI 0) A24) ∧ (¬ r25 ≤ (x1 - (nI 8)) → q_sh A24 a0 = (12, 0) ∧ q_Wc G M_X11_hasParcel [.ref a0, .int (x1 - (nI 8))] A24 (q_KB fun b29 A28 => ((b29 = true → q_sh A28 a0 = (12, 0) ∧ ∃ r34 : Nat, q_R A28 a0 6 = some r34 ∧ q_Wc G M_X11_slotAt [.int (x1 - (nI 8))] A28 (q_KI fun r37 A36 => ∃ z39 : Nat, q_sh A36 r34 = (50, z39) ∧ z39 < 2147483648 ∧ ∃ j41 : Nat, (r37 + x2) = nI j41 ∧ j41 < z39 ∧ f (q_I A36 r34 j41) A36) q_nX) ∧ (b29 = false → f (nI 0) A28))) q_nX))) q_nX))) ∧ (¬ x1 ≤ (nI 15) → q_sh A1 a0 = (12, 0) ∧ ∃ r45 : Nat, q_R A1 a0 6 = some r45 ∧ ∃ z48 : Nat, q_sh A1 r45 = (50, z48) ∧ z48 < 2147483648 ∧ 9 < z48 ∧ (((q_I A1 r45 9) ≤ (x1 - (nI 16)) → f (nI 0) A1) ∧ (¬ (q_I A1 r45 9) ≤ (x1 - (nI 16)) → q_Wc G M_X11_parcelAt [.int (x1 - (nI 16))] A1 (q_KI fun r53 A52 => ∃ z55 : Nat, q_sh A52 r45 = (50, z55) ∧ z55 < 2147483648 ∧ ∃ j57 : Nat, (r53 + x2) = nI j57 ∧ j57 < z55 ∧ f (q_I A52 r45 j57) A52) q_nX))))))))) q_nX) : q_Wp G M_X11_mass (q_KI f) X 0 0 38 [some (.ref a0), some (.int x1), some (.int x2), none] [.int (q_i p0), .int (q_i p1), .int (q_i p2), .ref u3] A := by
  obtain ⟨s3, h⟩ := h
  refine q_callV (ci := 11) (Mc := M_X11_fails) (z := 3) (b := u3) (As := [.int (q_i p2), .int (q_i p1), .int (q_i p0)]) (st := []) mo_X11_fails mi_X11_fails ml_X11_260_X11_fails rfl rfl (by decide) rfl (by decide) (by decide) rfl (Nat.le_of_ble_eq_true rfl) (by decide +kernel) s3 h (q_fB fun b2 A1 h => ?_)
  show q_Wp _ _ _ _ 0 0 41 [some (.ref a0), some (.int x1), some (.int x2), none] [.int (q_i b2)] A1
  refine q_ifB_eq 46 (off := 5) (by decide +kernel) (by decide) (fun c4 => ?_) (fun c4 => ?_)
  · have h := h.2 c4
    refine q_blk (pc' := 49) (lo' := [some (.ref a0), some (.int x1), some (.int x2), none]) (st' := [.int (nI 46), .int x1]) [.iload_n 1, .bipush 46] (by decide +kernel) rfl ?_
    refine q_icmp_ne 62 (off := 13) (by decide +kernel) (by decide) (fun c6 => ?_) (fun c6 => ?_)
    · have h := h.2 c6
      refine q_blk (pc' := 65) (lo' := [some (.ref a0), some (.int x1), some (.int x2), none]) (st' := [.int (nI 15), .int x1]) [.iload_n 1, .bipush 15] (by decide +kernel) rfl ?_
      refine q_icmp_le 101 (off := 36) (by decide +kernel) (by decide) (fun c7 => ?_) (fun c7 => ?_)
      · have h := h.1 c7
        refine q_blk (pc' := 104) (lo' := [some (.ref a0), some (.int x1), some (.int x2), none]) (st' := [.int (nI 7), .int x1]) [.iload_n 1, .bipush 7] (by decide +kernel) rfl ?_
        refine q_icmp_le 148 (off := 44) (by decide +kernel) (by decide) (fun c8 => ?_) (fun c8 => ?_)
        · have h := h.1 c8
          refine q_blk (pc' := 150) (lo' := [some (.ref a0), some (.int x1), some (.int x2), none]) (st' := [.ref a0, .int x1]) [.iload_n 1, .aload_n 0] (by decide +kernel) rfl ?_
          obtain ⟨s11, h⟩ := h
          refine q_callV (ci := 11) (Mc := M_X11_stations) (z := 0) (b := a0) (As := []) (st := [.int x1]) mo_X11_stations mi_X11_stations ml_X11_182_X11_stations rfl rfl (by decide) rfl (by decide) (by decide) rfl (Nat.le_of_ble_eq_true rfl) (by decide +kernel) s11 h (q_fI fun r10 A9 h => ?_)
          show q_Wp _ _ _ _ 0 0 153 [some (.ref a0), some (.int x1), some (.int x2), none] [.int r10, .int x1] A9
          refine q_icmp_ge 171 (off := 18) (by decide +kernel) (by decide) (fun c12 => ?_) (fun c12 => ?_)
          · have h := h.1 c12
            refine q_blk (pc' := 172) (lo' := [some (.ref a0), some (.int x1), some (.int x2), none]) (st' := [.int (nI 0)]) [.iconst 0] (by decide +kernel) rfl ?_
            exact q_retI rfl (by decide) (by decide) (by decide +kernel) ⟨_, rfl, h⟩
          · have h := h.2 c12
            refine q_blk (pc' := 157) (lo' := [some (.ref a0), some (.int x1), some (.int x2), none]) (st' := [.ref a0]) [.aload_n 0] (by decide +kernel) rfl ?_
            obtain ⟨s13, h⟩ := h
            obtain ⟨r14, e15, h⟩ := h
            refine q_getR fl_X11_30 rfl (by decide) (by decide +kernel) s13 e15 ?_
            refine q_blk (pc' := 162) (lo' := [some (.ref a0), some (.int x1), some (.int x2), none]) (st' := [.int (nI 4), .int x1, .ref r14]) [.iload_n 1, .iconst 4] (by decide +kernel) rfl ?_
            refine q_callS (Mc := M_X11_placeAt) (z := 2) (As := [.int x1, .int (nI 4)]) (st := [.ref r14]) mo_X11_placeAt ms_X11_placeAt ml_X11_141_X11_placeAt rfl rfl (by decide) (by decide) rfl (Nat.le_of_ble_eq_true rfl) (by decide +kernel) h (q_fI fun r17 A16 h => ?_)
            show q_Wp _ _ _ _ 0 0 165 [some (.ref a0), some (.int x1), some (.int x2), none] [.int r17, .ref r14] A16
            refine q_blk (pc' := 167) (lo' := [some (.ref a0), some (.int x1), some (.int x2), none]) (st' := [.int (r17 + x2), .ref r14]) [.iload_n 2, .iadd] (by decide +kernel) rfl ?_
            obtain ⟨z19, s18, b20, h⟩ := h
            obtain ⟨j21, e22, h⟩ := h
            obtain ⟨l23, h⟩ := h
            refine q_iald e22 (by decide +kernel) s18 l23 b20 ?_
            refine q_goto 172 (off := 4) (by decide +kernel) (by decide) ?_
            exact q_retI rfl (by decide) (by decide) (by decide +kernel) ⟨_, rfl, h⟩
        · have h := h.2 c8
          refine q_blk (pc' := 112) (lo' := [some (.ref a0), some (.int x1), some (.int x2), none]) (st' := [.ref a0, .int (x1 - (nI 8))]) [.iload_n 1, .bipush 8, .isub, .aload_n 0] (by decide +kernel) rfl ?_
          obtain ⟨s26, h⟩ := h
          refine q_callV (ci := 11) (Mc := M_X11_stations) (z := 0) (b := a0) (As := []) (st := [.int (x1 - (nI 8))]) mo_X11_stations mi_X11_stations ml_X11_182_X11_stations rfl rfl (by decide) rfl (by decide) (by decide) rfl (Nat.le_of_ble_eq_true rfl) (by decide +kernel) s26 h (q_fI fun r25 A24 h => ?_)
          show q_Wp _ _ _ _ 0 0 115 [some (.ref a0), some (.int x1), some (.int x2), none] [.int r25, .int (x1 - (nI 8))] A24
          refine q_icmp_ge 146 (off := 31) (by decide +kernel) (by decide) (fun c27 => ?_) (fun c27 => ?_)
          · have h := h.1 c27
            refine q_blk (pc' := 147) (lo' := [some (.ref a0), some (.int x1), some (.int x2), none]) (st' := [.int (nI 0)]) [.iconst 0] (by decide +kernel) rfl ?_
            exact q_retI rfl (by decide) (by decide) (by decide +kernel) ⟨_, rfl, h⟩
          · have h := h.2 c27
            refine q_blk (pc' := 123) (lo' := [some (.ref a0), some (.int x1), some (.int x2), none]) (st' := [.int (x1 - (nI 8)), .ref a0]) [.aload_n 0, .iload_n 1, .bipush 8, .isub] (by decide +kernel) rfl ?_
            obtain ⟨s30, h⟩ := h
            refine q_callV (ci := 11) (Mc := M_X11_hasParcel) (z := 1) (b := a0) (As := [.int (x1 - (nI 8))]) (st := []) mo_X11_hasParcel mi_X11_hasParcel ml_X11_269_X11_hasParcel rfl rfl (by decide) rfl (by decide) (by decide) rfl (Nat.le_of_ble_eq_true rfl) (by decide +kernel) s30 h (q_fB fun b29 A28 h => ?_)
            show q_Wp _ _ _ _ 0 0 126 [some (.ref a0), some (.int x1), some (.int x2), none] [.int (q_i b29)] A28
            refine q_ifB_eq 146 (off := 20) (by decide +kernel) (by decide) (fun c31 => ?_) (fun c31 => ?_)
            · have h := h.2 c31
              refine q_blk (pc' := 147) (lo' := [some (.ref a0), some (.int x1), some (.int x2), none]) (st' := [.int (nI 0)]) [.iconst 0] (by decide +kernel) rfl ?_
              exact q_retI rfl (by decide) (by decide) (by decide +kernel) ⟨_, rfl, h⟩
            · have h := h.1 c31
              refine q_blk (pc' := 130) (lo' := [some (.ref a0), some (.int x1), some (.int x2), none]) (st' := [.ref a0]) [.aload_n 0] (by decide +kernel) rfl ?_
              obtain ⟨s33, h⟩ := h
              obtain ⟨r34, e35, h⟩ := h
              refine q_getR fl_X11_30 rfl (by decide) (by decide +kernel) s33 e35 ?_
              refine q_blk (pc' := 137) (lo' := [some (.ref a0), some (.int x1), some (.int x2), none]) (st' := [.int (x1 - (nI 8)), .ref r34]) [.iload_n 1, .bipush 8, .isub] (by decide +kernel) rfl ?_
              refine q_callS (Mc := M_X11_slotAt) (z := 1) (As := [.int (x1 - (nI 8))]) (st := [.ref r34]) mo_X11_slotAt ms_X11_slotAt ml_X11_204_X11_slotAt rfl rfl (by decide) (by decide) rfl (Nat.le_of_ble_eq_true rfl) (by decide +kernel) h (q_fI fun r37 A36 h => ?_)
              show q_Wp _ _ _ _ 0 0 140 [some (.ref a0), some (.int x1), some (.int x2), none] [.int r37, .ref r34] A36
              refine q_blk (pc' := 142) (lo' := [some (.ref a0), some (.int x1), some (.int x2), none]) (st' := [.int (r37 + x2), .ref r34]) [.iload_n 2, .iadd] (by decide +kernel) rfl ?_
              obtain ⟨z39, s38, b40, h⟩ := h
              obtain ⟨j41, e42, h⟩ := h
              obtain ⟨l43, h⟩ := h
              refine q_iald e42 (by decide +kernel) s38 l43 b40 ?_
              refine q_goto 147 (off := 4) (by decide +kernel) (by decide) ?_
              exact q_retI rfl (by decide) (by decide) (by decide +kernel) ⟨_, rfl, h⟩
      · have h := h.2 c7
        refine q_blk (pc' := 73) (lo' := [some (.ref a0), some (.int x1), some (.int x2), none]) (st' := [.ref a0, .int (x1 - (nI 16))]) [.iload_n 1, .bipush 16, .isub, .aload_n 0] (by decide +kernel) rfl ?_
        obtain ⟨s44, h⟩ := h
        obtain ⟨r45, e46, h⟩ := h
        refine q_getR fl_X11_30 rfl (by decide) (by decide +kernel) s44 e46 ?_
        refine q_blk (pc' := 78) (lo' := [some (.ref a0), some (.int x1), some (.int x2), none]) (st' := [.int (nI 9), .ref r45, .int (x1 - (nI 16))]) [.bipush 9] (by decide +kernel) rfl ?_
        obtain ⟨z48, s47, b49, h⟩ := h
        obtain ⟨l50, h⟩ := h
        refine q_iald rfl (by decide +kernel) s47 l50 b49 ?_
        refine q_icmp_ge 99 (off := 20) (by decide +kernel) (by decide) (fun c51 => ?_) (fun c51 => ?_)
        · have h := h.1 c51
          refine q_blk (pc' := 100) (lo' := [some (.ref a0), some (.int x1), some (.int x2), none]) (st' := [.int (nI 0)]) [.iconst 0] (by decide +kernel) rfl ?_
          exact q_retI rfl (by decide) (by decide) (by decide +kernel) ⟨_, rfl, h⟩
        · have h := h.2 c51
          refine q_blk (pc' := 83) (lo' := [some (.ref a0), some (.int x1), some (.int x2), none]) (st' := [.ref a0]) [.aload_n 0] (by decide +kernel) rfl ?_
          refine q_getR fl_X11_30 rfl (by decide) (by decide +kernel) s44 e46 ?_
          refine q_blk (pc' := 90) (lo' := [some (.ref a0), some (.int x1), some (.int x2), none]) (st' := [.int (x1 - (nI 16)), .ref r45]) [.iload_n 1, .bipush 16, .isub] (by decide +kernel) rfl ?_
          refine q_callS (Mc := M_X11_parcelAt) (z := 1) (As := [.int (x1 - (nI 16))]) (st := [.ref r45]) mo_X11_parcelAt ms_X11_parcelAt ml_X11_145_X11_parcelAt rfl rfl (by decide) (by decide) rfl (Nat.le_of_ble_eq_true rfl) (by decide +kernel) h (q_fI fun r53 A52 h => ?_)
          show q_Wp _ _ _ _ 0 0 93 [some (.ref a0), some (.int x1), some (.int x2), none] [.int r53, .ref r45] A52
          refine q_blk (pc' := 95) (lo' := [some (.ref a0), some (.int x1), some (.int x2), none]) (st' := [.int (r53 + x2), .ref r45]) [.iload_n 2, .iadd] (by decide +kernel) rfl ?_
          obtain ⟨z55, s54, b56, h⟩ := h
          obtain ⟨j57, e58, h⟩ := h
          obtain ⟨l59, h⟩ := h
          refine q_iald e58 (by decide +kernel) s54 l59 b56 ?_
          refine q_goto 100 (off := 4) (by decide +kernel) (by decide) ?_
          exact q_retI rfl (by decide) (by decide) (by decide +kernel) ⟨_, rfl, h⟩
    · have h := h.1 c6
      refine q_blk (pc' := 53) (lo' := [some (.ref a0), some (.int x1), some (.int x2), none]) (st' := [.ref a0]) [.aload_n 0] (by decide +kernel) rfl ?_
      obtain ⟨s60, h⟩ := h
      obtain ⟨r61, e62, h⟩ := h
      refine q_getR fl_X11_30 rfl (by decide) (by decide +kernel) s60 e62 ?_
      refine q_blk (pc' := 60) (lo' := [some (.ref a0), some (.int x1), some (.int x2), none]) (st' := [.int ((nI 24) + x2), .ref r61]) [.bipush 24, .iload_n 2, .iadd] (by decide +kernel) rfl ?_
      obtain ⟨z64, s63, b65, h⟩ := h
      obtain ⟨j66, e67, h⟩ := h
      obtain ⟨l68, h⟩ := h
      refine q_iald e67 (by decide +kernel) s63 l68 b65 ?_
      exact q_retI rfl (by decide) (by decide) (by decide +kernel) ⟨_, rfl, h⟩
  · have h := h.1 c4
    refine q_blk (pc' := 45) (lo' := [some (.ref a0), some (.int x1), some (.int x2), none]) (st' := [.int (nI 0)]) [.iconst 0] (by decide +kernel) rfl ?_
    exact q_retI rfl (by decide) (by decide) (by decide +kernel) ⟨_, rfl, h⟩
theorem f_X11_bale {G : q_G} {X : String → q_H → Prop} {f : Int32 → q_H → Prop} {A : q_H} {a0 : Nat} {x1 : Int32} {x2 : Int32} (h : q_sh A a0 = (12, 0) ∧ q_Wc G M_X11_isBale [.ref a0, .int x1] A (q_KB fun b2 A1 => ((b2 = true → ((b2 = true → q_sh A1 a0 = (12, 0) ∧ q_Wc G M_X11_materials [.ref a0] A1 (q_KI fun r9 A8 => q_Wc G M_X11_isIn [.long (x2.toInt64), .long (lN 0), .long (((nI 4) + r9).toInt64)] A8 (q_KB fun b12 A11 => ((b12 = true → q_Wp G M_X11_bale (q_KI f) X 0 0 42 [some (.ref a0), some (.int x1), some (.int x2), none] [.int (q_i false), .int (q_i false), .int (q_i false), .ref a0] A11) ∧ (b12 = false → q_Wp G M_X11_bale (q_KI f) X 0 0 42 [some (.ref a0), some (.int x1), some (.int x2), none] [.int (q_i false), .int (q_i true), .int (q_i false), .ref a0] A11))) q_nX) q_nX) ∧ (b2 = false → q_Wp G M_X11_bale (q_KI f) X 0 0 42 [some (.ref a0), some (.int x1), some (.int x2), none] [.int (q_i false), .int (q_i false), .int (q_i false), .ref a0] A1))) ∧ (b2 = false → ((b2 = true → q_sh A1 a0 = (12, 0) ∧ q_Wc G M_X11_materials [.ref a0] A1 (q_KI fun r18 A17 => q_Wc G M_X11_isIn [.long (x2.toInt64), .long (lN 0), .long (((nI 4) + r18).toInt64)] A17 (q_KB fun b21 A20 => ((b21 = true → q_Wp G M_X11_bale (q_KI f) X 0 0 42 [some (.ref a0), some (.int x1), some (.int x2), none] [.int (q_i false), .int (q_i false), .int (q_i true), .ref a0] A20) ∧ (b21 = false → q_Wp G M_X11_bale (q_KI f) X 0 0 42 [some (.ref a0), some (.int x1), some (.int x2), none] [.int (q_i false), .int (q_i true), .int (q_i true), .ref a0] A20))) q_nX) q_nX) ∧ (b2 = false → q_Wp G M_X11_bale (q_KI f) X 0 0 42 [some (.ref a0), some (.int x1), some (.int x2), none] [.int (q_i false), .int (q_i false), .int (q_i true), .ref a0] A1))))) q_nX) : q_Wc G M_X11_bale [.ref a0, .int x1, .int x2] A (q_KI f) X := by
  refine q_Wc.of [some (.ref a0), some (.int x1), some (.int x2), none] mo_X11_bale.2.2.2.2.2 rfl (Nat.le_of_ble_eq_true rfl) rfl ?_
  refine q_blk (pc' := 2) (lo' := [some (.ref a0), some (.int x1), some (.int x2), none]) (st' := [.int x1, .ref a0]) [.aload_n 0, .iload_n 1] (by decide +kernel) rfl ?_
  obtain ⟨s3, h⟩ := h
  refine q_callV (ci := 11) (Mc := M_X11_isBale) (z := 1) (b := a0) (As := [.int x1]) (st := []) mo_X11_isBale mi_X11_isBale ml_X11_277_X11_isBale rfl rfl (by decide) rfl (by decide) (by decide) rfl (Nat.le_of_ble_eq_true rfl) (by decide +kernel) s3 h (q_fB fun b2 A1 h => ?_)
  show q_Wp _ _ _ _ 0 0 5 [some (.ref a0), some (.int x1), some (.int x2), none] [.int (q_i b2)] A1
  refine q_blk (pc' := 8) (lo' := [some (.ref a0), some (.int x1), some (.int x2), some (.int (q_i b2))]) (st' := [.int (q_i b2), .ref a0]) [.istore_n 3, .aload_n 0, .iload_n 3] (by decide +kernel) rfl ?_
  refine q_ifB_ne 15 (off := 7) (by decide +kernel) (by decide) (fun c4 => ?_) (fun c4 => ?_)
  · have h := h.1 c4
    refine q_blk (pc' := 17) (lo' := [some (.ref a0), some (.int x1), some (.int x2), some (.int (q_i b2))]) (st' := [.int (q_i b2), .int (nI 0), .ref a0]) [.iconst 0, .iload_n 3] (by decide +kernel) rfl ?_
    refine q_ifB_eq 40 (off := 23) (by decide +kernel) (by decide) (fun c6 => ?_) (fun c6 => ?_)
    · have h := h.2 c6
      refine q_blk (pc' := 42) (lo' := [some (.ref a0), some (.int x1), some (.int x2), some (.int (q_i b2))]) (st' := [.int (nI 0), .int (nI 0), .int (nI 0), .ref a0]) [.iconst 0, .iconst 0] (by decide +kernel) rfl ?_
      exact q_wk [some (.ref a0), some (.int x1), some (.int x2), none] (And.intro rfl (And.intro rfl (And.intro rfl trivial))) h
    · have h := h.1 c6
      refine q_blk (pc' := 25) (lo' := [some (.ref a0), some (.int x1), some (.int x2), some (.int (q_i b2))]) (st' := [.ref a0, .int (nI 4), .long (lN 0), .long (x2.toInt64), .int (nI 0), .ref a0]) [.iload_n 2, .i2l, .lconst 0, .iconst 4, .aload_n 0] (by decide +kernel) rfl ?_
      obtain ⟨s10, h⟩ := h
      refine q_callV (ci := 11) (Mc := M_X11_materials) (z := 0) (b := a0) (As := []) (st := [.int (nI 4), .long (lN 0), .long (x2.toInt64), .int (nI 0), .ref a0]) mo_X11_materials mi_X11_materials ml_X11_187_X11_materials rfl rfl (by decide) rfl (by decide) (by decide) rfl (Nat.le_of_ble_eq_true rfl) (by decide +kernel) s10 h (q_fI fun r9 A8 h => ?_)
      show q_Wp _ _ _ _ 0 0 28 [some (.ref a0), some (.int x1), some (.int x2), some (.int (q_i b2))] [.int r9, .int (nI 4), .long (lN 0), .long (x2.toInt64), .int (nI 0), .ref a0] A8
      refine q_blk (pc' := 30) (lo' := [some (.ref a0), some (.int x1), some (.int x2), some (.int (q_i b2))]) (st' := [.long (((nI 4) + r9).toInt64), .long (lN 0), .long (x2.toInt64), .int (nI 0), .ref a0]) [.iadd, .i2l] (by decide +kernel) rfl ?_
      refine q_callS (Mc := M_X11_isIn) (z := 3) (As := [.long (x2.toInt64), .long (lN 0), .long (((nI 4) + r9).toInt64)]) (st := [.int (nI 0), .ref a0]) mo_X11_isIn ms_X11_isIn ml_X11_71_X11_isIn rfl rfl (by decide) (by decide) rfl (Nat.le_of_ble_eq_true rfl) (by decide +kernel) h (q_fB fun b12 A11 h => ?_)
      show q_Wp _ _ _ _ 0 0 33 [some (.ref a0), some (.int x1), some (.int x2), some (.int (q_i b2))] [.int (q_i b12), .int (nI 0), .ref a0] A11
      refine q_ifB_ne 40 (off := 7) (by decide +kernel) (by decide) (fun c13 => ?_) (fun c13 => ?_)
      · have h := h.1 c13
        refine q_blk (pc' := 42) (lo' := [some (.ref a0), some (.int x1), some (.int x2), some (.int (q_i b2))]) (st' := [.int (nI 0), .int (nI 0), .int (nI 0), .ref a0]) [.iconst 0, .iconst 0] (by decide +kernel) rfl ?_
        exact q_wk [some (.ref a0), some (.int x1), some (.int x2), none] (And.intro rfl (And.intro rfl (And.intro rfl trivial))) h
      · have h := h.2 c13
        refine q_blk (pc' := 37) (lo' := [some (.ref a0), some (.int x1), some (.int x2), some (.int (q_i b2))]) (st' := [.int (nI 1), .int (nI 0), .ref a0]) [.iconst 1] (by decide +kernel) rfl ?_
        refine q_goto 41 (off := 4) (by decide +kernel) (by decide) ?_
        refine q_blk (pc' := 42) (lo' := [some (.ref a0), some (.int x1), some (.int x2), some (.int (q_i b2))]) (st' := [.int (nI 0), .int (nI 1), .int (nI 0), .ref a0]) [.iconst 0] (by decide +kernel) rfl ?_
        exact q_wk [some (.ref a0), some (.int x1), some (.int x2), none] (And.intro rfl (And.intro rfl (And.intro rfl trivial))) h
  · have h := h.2 c4
    refine q_blk (pc' := 12) (lo' := [some (.ref a0), some (.int x1), some (.int x2), some (.int (q_i b2))]) (st' := [.int (nI 1), .ref a0]) [.iconst 1] (by decide +kernel) rfl ?_
    refine q_goto 16 (off := 4) (by decide +kernel) (by decide) ?_
    refine q_blk (pc' := 17) (lo' := [some (.ref a0), some (.int x1), some (.int x2), some (.int (q_i b2))]) (st' := [.int (q_i b2), .int (nI 1), .ref a0]) [.iload_n 3] (by decide +kernel) rfl ?_
    refine q_ifB_eq 40 (off := 23) (by decide +kernel) (by decide) (fun c15 => ?_) (fun c15 => ?_)
    · have h := h.2 c15
      refine q_blk (pc' := 42) (lo' := [some (.ref a0), some (.int x1), some (.int x2), some (.int (q_i b2))]) (st' := [.int (nI 0), .int (nI 0), .int (nI 1), .ref a0]) [.iconst 0, .iconst 0] (by decide +kernel) rfl ?_
      exact q_wk [some (.ref a0), some (.int x1), some (.int x2), none] (And.intro rfl (And.intro rfl (And.intro rfl trivial))) h
    · have h := h.1 c15
      refine q_blk (pc' := 25) (lo' := [some (.ref a0), some (.int x1), some (.int x2), some (.int (q_i b2))]) (st' := [.ref a0, .int (nI 4), .long (lN 0), .long (x2.toInt64), .int (nI 1), .ref a0]) [.iload_n 2, .i2l, .lconst 0, .iconst 4, .aload_n 0] (by decide +kernel) rfl ?_
      obtain ⟨s19, h⟩ := h
      refine q_callV (ci := 11) (Mc := M_X11_materials) (z := 0) (b := a0) (As := []) (st := [.int (nI 4), .long (lN 0), .long (x2.toInt64), .int (nI 1), .ref a0]) mo_X11_materials mi_X11_materials ml_X11_187_X11_materials rfl rfl (by decide) rfl (by decide) (by decide) rfl (Nat.le_of_ble_eq_true rfl) (by decide +kernel) s19 h (q_fI fun r18 A17 h => ?_)
      show q_Wp _ _ _ _ 0 0 28 [some (.ref a0), some (.int x1), some (.int x2), some (.int (q_i b2))] [.int r18, .int (nI 4), .long (lN 0), .long (x2.toInt64), .int (nI 1), .ref a0] A17
      refine q_blk (pc' := 30) (lo' := [some (.ref a0), some (.int x1), some (.int x2), some (.int (q_i b2))]) (st' := [.long (((nI 4) + r18).toInt64), .long (lN 0), .long (x2.toInt64), .int (nI 1), .ref a0]) [.iadd, .i2l] (by decide +kernel) rfl ?_
      refine q_callS (Mc := M_X11_isIn) (z := 3) (As := [.long (x2.toInt64), .long (lN 0), .long (((nI 4) + r18).toInt64)]) (st := [.int (nI 1), .ref a0]) mo_X11_isIn ms_X11_isIn ml_X11_71_X11_isIn rfl rfl (by decide) (by decide) rfl (Nat.le_of_ble_eq_true rfl) (by decide +kernel) h (q_fB fun b21 A20 h => ?_)
      show q_Wp _ _ _ _ 0 0 33 [some (.ref a0), some (.int x1), some (.int x2), some (.int (q_i b2))] [.int (q_i b21), .int (nI 1), .ref a0] A20
      refine q_ifB_ne 40 (off := 7) (by decide +kernel) (by decide) (fun c22 => ?_) (fun c22 => ?_)
      · have h := h.1 c22
        refine q_blk (pc' := 42) (lo' := [some (.ref a0), some (.int x1), some (.int x2), some (.int (q_i b2))]) (st' := [.int (nI 0), .int (nI 0), .int (nI 1), .ref a0]) [.iconst 0, .iconst 0] (by decide +kernel) rfl ?_
        exact q_wk [some (.ref a0), some (.int x1), some (.int x2), none] (And.intro rfl (And.intro rfl (And.intro rfl trivial))) h
      · have h := h.2 c22
        refine q_blk (pc' := 37) (lo' := [some (.ref a0), some (.int x1), some (.int x2), some (.int (q_i b2))]) (st' := [.int (nI 1), .int (nI 1), .ref a0]) [.iconst 1] (by decide +kernel) rfl ?_
        refine q_goto 41 (off := 4) (by decide +kernel) (by decide) ?_
        refine q_blk (pc' := 42) (lo' := [some (.ref a0), some (.int x1), some (.int x2), some (.int (q_i b2))]) (st' := [.int (nI 0), .int (nI 1), .int (nI 1), .ref a0]) [.iconst 0] (by decide +kernel) rfl ?_
        exact q_wk [some (.ref a0), some (.int x1), some (.int x2), none] (And.intro rfl (And.intro rfl (And.intro rfl trivial))) h
theorem f_X11_bale_42 {G : q_G} {X : String → q_H → Prop} {f : Int32 → q_H → Prop} {A : q_H} {a0 : Nat} {x1 : Int32} {x2 : Int32} {p0 : Bool} {p1 : Bool} {p2 : Bool} {u3 : Nat} (h : q_sh A u3 = (12, 0) ∧ q_Wc G M_X11_fails [.ref u3, .int (q_i p2), .int (q_i p1), .int (q_i p0)] A (q_KB fun b2 A1 => ((b2 = true → f (nI 0) A1) ∧ (b2 = false → ((x2 = nI 0 → q_sh A1 a0 = (12, 0) ∧ ∃ r8 : Nat, q_R A1 a0 6 = some r8 ∧ q_Wc G M_X11_storedAt [.int x1, .int (nI 0)] A1 (q_KI fun r11 A10 => ∃ z13 : Nat, q_sh A10 r8 = (50, z13) ∧ z13 < 2147483648 ∧ ∃ j15 : Nat, r11 = nI j15 ∧ j15 < z13 ∧ f (q_I A10 r8 j15) A10) q_nX) ∧ (x2 = nI 1 → q_sh A1 a0 = (12, 0) ∧ ∃ r19 : Nat, q_R A1 a0 6 = some r19 ∧ q_Wc G M_X11_storedAt [.int x1, .int (nI 1)] A1 (q_KI fun r22 A21 => ∃ z24 : Nat, q_sh A21 r19 = (50, z24) ∧ z24 < 2147483648 ∧ ∃ j26 : Nat, r22 = nI j26 ∧ j26 < z24 ∧ f (q_I A21 r19 j26) A21) q_nX) ∧ (x2 = nI 2 → q_Wc G M_X11_storedAt [.int x1, .int (nI 4)] A1 (q_KI fun r30 A29 => q_sh A29 a0 = (12, 0) ∧ q_Wc G M_X11_total [.ref a0, .int r30] A29 (q_KI fun r32 A31 => f r32 A31) q_nX) q_nX) ∧ (x2 = nI 3 → q_sh A1 a0 = (12, 0) ∧ ∃ r35 : Nat, q_R A1 a0 6 = some r35 ∧ q_Wc G M_X11_storedAt [.int x1, .int (nI 2)] A1 (q_KI fun r38 A37 => ∃ z40 : Nat, q_sh A37 r35 = (50, z40) ∧ z40 < 2147483648 ∧ ∃ j42 : Nat, r38 = nI j42 ∧ j42 < z40 ∧ f (q_I A37 r35 j42) A37) q_nX) ∧ (x2 = nI 4 → q_sh A1 a0 = (12, 0) ∧ ∃ r46 : Nat, q_R A1 a0 6 = some r46 ∧ q_Wc G M_X11_storedAt [.int x1, .int (nI 3)] A1 (q_KI fun r49 A48 => ∃ z51 : Nat, q_sh A48 r46 = (50, z51) ∧ z51 < 2147483648 ∧ ∃ j53 : Nat, r49 = nI j53 ∧ j53 < z51 ∧ f (q_I A48 r46 j53) A48) q_nX) ∧ ((∀ j, j < 5 → ¬ x2 = nI j) → q_sh A1 a0 = (12, 0) ∧ ∃ r57 : Nat, q_R A1 a0 6 = some r57 ∧ q_Wc G M_X11_storedAt [.int x1, .int (nI 4)] A1 (q_KI fun r60 A59 => ∃ z62 : Nat, q_sh A59 r57 = (50, z62) ∧ z62 < 2147483648 ∧ ∃ j64 : Nat, ((r60 + x2) - (nI 5)) = nI j64 ∧ j64 < z62 ∧ f (q_I A59 r57 j64) A59) q_nX))))) q_nX) : q_Wp G M_X11_bale (q_KI f) X 0 0 42 [some (.ref a0), some (.int x1), some (.int x2), none] [.int (q_i p0), .int (q_i p1), .int (q_i p2), .ref u3] A := by
  obtain ⟨s3, h⟩ := h
  refine q_callV (ci := 11) (Mc := M_X11_fails) (z := 3) (b := u3) (As := [.int (q_i p2), .int (q_i p1), .int (q_i p0)]) (st := []) mo_X11_fails mi_X11_fails ml_X11_260_X11_fails rfl rfl (by decide) rfl (by decide) (by decide) rfl (Nat.le_of_ble_eq_true rfl) (by decide +kernel) s3 h (q_fB fun b2 A1 h => ?_)
  show q_Wp _ _ _ _ 0 0 45 [some (.ref a0), some (.int x1), some (.int x2), none] [.int (q_i b2)] A1
  refine q_ifB_eq 50 (off := 5) (by decide +kernel) (by decide) (fun c4 => ?_) (fun c4 => ?_)
  · have h := h.2 c4
    refine q_blk (pc' := 51) (lo' := [some (.ref a0), some (.int x1), some (.int x2), none]) (st' := [.int x2]) [.iload_n 2] (by decide +kernel) rfl ?_
    have hd51 := sw_X11_bale_51
    refine q_tsw [84, 95, 106, 116, 127] 138 (hd51) (by rfl) (by decide) (by rfl) (by decide) (And.intro (fun c6 => ?_) (And.intro (fun c6 => ?_) (And.intro (fun c6 => ?_) (And.intro (fun c6 => ?_) (And.intro (fun c6 => ?_) trivial))))) (fun c6 => ?_)
    · have h := h.1 c6
      refine q_blk (pc' := 85) (lo' := [some (.ref a0), some (.int x1), some (.int x2), none]) (st' := [.ref a0]) [.aload_n 0] (by decide +kernel) rfl ?_
      obtain ⟨s7, h⟩ := h
      obtain ⟨r8, e9, h⟩ := h
      refine q_getR fl_X11_30 rfl (by decide) (by decide +kernel) s7 e9 ?_
      refine q_blk (pc' := 90) (lo' := [some (.ref a0), some (.int x1), some (.int x2), none]) (st' := [.int (nI 0), .int x1, .ref r8]) [.iload_n 1, .iconst 0] (by decide +kernel) rfl ?_
      refine q_callS (Mc := M_X11_storedAt) (z := 2) (As := [.int x1, .int (nI 0)]) (st := [.ref r8]) mo_X11_storedAt ms_X11_storedAt ml_X11_234_X11_storedAt rfl rfl (by decide) (by decide) rfl (Nat.le_of_ble_eq_true rfl) (by decide +kernel) h (q_fI fun r11 A10 h => ?_)
      show q_Wp _ _ _ _ 0 0 93 [some (.ref a0), some (.int x1), some (.int x2), none] [.int r11, .ref r8] A10
      obtain ⟨z13, s12, b14, h⟩ := h
      obtain ⟨j15, e16, h⟩ := h
      obtain ⟨l17, h⟩ := h
      refine q_iald e16 (by decide +kernel) s12 l17 b14 ?_
      exact q_retI rfl (by decide) (by decide) (by decide +kernel) ⟨_, rfl, h⟩
    · have h := h.2.1 c6
      refine q_blk (pc' := 96) (lo' := [some (.ref a0), some (.int x1), some (.int x2), none]) (st' := [.ref a0]) [.aload_n 0] (by decide +kernel) rfl ?_
      obtain ⟨s18, h⟩ := h
      obtain ⟨r19, e20, h⟩ := h
      refine q_getR fl_X11_30 rfl (by decide) (by decide +kernel) s18 e20 ?_
      refine q_blk (pc' := 101) (lo' := [some (.ref a0), some (.int x1), some (.int x2), none]) (st' := [.int (nI 1), .int x1, .ref r19]) [.iload_n 1, .iconst 1] (by decide +kernel) rfl ?_
      refine q_callS (Mc := M_X11_storedAt) (z := 2) (As := [.int x1, .int (nI 1)]) (st := [.ref r19]) mo_X11_storedAt ms_X11_storedAt ml_X11_234_X11_storedAt rfl rfl (by decide) (by decide) rfl (Nat.le_of_ble_eq_true rfl) (by decide +kernel) h (q_fI fun r22 A21 h => ?_)
      show q_Wp _ _ _ _ 0 0 104 [some (.ref a0), some (.int x1), some (.int x2), none] [.int r22, .ref r19] A21
      obtain ⟨z24, s23, b25, h⟩ := h
      obtain ⟨j26, e27, h⟩ := h
      obtain ⟨l28, h⟩ := h
      refine q_iald e27 (by decide +kernel) s23 l28 b25 ?_
      exact q_retI rfl (by decide) (by decide) (by decide +kernel) ⟨_, rfl, h⟩
    · have h := h.2.2.1 c6
      refine q_blk (pc' := 109) (lo' := [some (.ref a0), some (.int x1), some (.int x2), none]) (st' := [.int (nI 4), .int x1, .ref a0]) [.aload_n 0, .iload_n 1, .iconst 4] (by decide +kernel) rfl ?_
      refine q_callS (Mc := M_X11_storedAt) (z := 2) (As := [.int x1, .int (nI 4)]) (st := [.ref a0]) mo_X11_storedAt ms_X11_storedAt ml_X11_234_X11_storedAt rfl rfl (by decide) (by decide) rfl (Nat.le_of_ble_eq_true rfl) (by decide +kernel) h (q_fI fun r30 A29 h => ?_)
      show q_Wp _ _ _ _ 0 0 112 [some (.ref a0), some (.int x1), some (.int x2), none] [.int r30, .ref a0] A29
      obtain ⟨s33, h⟩ := h
      refine q_callV (ci := 11) (Mc := M_X11_total) (z := 1) (b := a0) (As := [.int r30]) (st := []) mo_X11_total mi_X11_total ml_X11_189_X11_total rfl rfl (by decide) rfl (by decide) (by decide) rfl (Nat.le_of_ble_eq_true rfl) (by decide +kernel) s33 h (q_fI fun r32 A31 h => ?_)
      show q_Wp _ _ _ _ 0 0 115 [some (.ref a0), some (.int x1), some (.int x2), none] [.int r32] A31
      exact q_retI rfl (by decide) (by decide) (by decide +kernel) ⟨_, rfl, h⟩
    · have h := h.2.2.2.1 c6
      refine q_blk (pc' := 117) (lo' := [some (.ref a0), some (.int x1), some (.int x2), none]) (st' := [.ref a0]) [.aload_n 0] (by decide +kernel) rfl ?_
      obtain ⟨s34, h⟩ := h
      obtain ⟨r35, e36, h⟩ := h
      refine q_getR fl_X11_30 rfl (by decide) (by decide +kernel) s34 e36 ?_
      refine q_blk (pc' := 122) (lo' := [some (.ref a0), some (.int x1), some (.int x2), none]) (st' := [.int (nI 2), .int x1, .ref r35]) [.iload_n 1, .iconst 2] (by decide +kernel) rfl ?_
      refine q_callS (Mc := M_X11_storedAt) (z := 2) (As := [.int x1, .int (nI 2)]) (st := [.ref r35]) mo_X11_storedAt ms_X11_storedAt ml_X11_234_X11_storedAt rfl rfl (by decide) (by decide) rfl (Nat.le_of_ble_eq_true rfl) (by decide +kernel) h (q_fI fun r38 A37 h => ?_)
      show q_Wp _ _ _ _ 0 0 125 [some (.ref a0), some (.int x1), some (.int x2), none] [.int r38, .ref r35] A37
      obtain ⟨z40, s39, b41, h⟩ := h
      obtain ⟨j42, e43, h⟩ := h
      obtain ⟨l44, h⟩ := h
      refine q_iald e43 (by decide +kernel) s39 l44 b41 ?_
      exact q_retI rfl (by decide) (by decide) (by decide +kernel) ⟨_, rfl, h⟩
    · have h := h.2.2.2.2.1 c6
      refine q_blk (pc' := 128) (lo' := [some (.ref a0), some (.int x1), some (.int x2), none]) (st' := [.ref a0]) [.aload_n 0] (by decide +kernel) rfl ?_
      obtain ⟨s45, h⟩ := h
      obtain ⟨r46, e47, h⟩ := h
      refine q_getR fl_X11_30 rfl (by decide) (by decide +kernel) s45 e47 ?_
      refine q_blk (pc' := 133) (lo' := [some (.ref a0), some (.int x1), some (.int x2), none]) (st' := [.int (nI 3), .int x1, .ref r46]) [.iload_n 1, .iconst 3] (by decide +kernel) rfl ?_
      refine q_callS (Mc := M_X11_storedAt) (z := 2) (As := [.int x1, .int (nI 3)]) (st := [.ref r46]) mo_X11_storedAt ms_X11_storedAt ml_X11_234_X11_storedAt rfl rfl (by decide) (by decide) rfl (Nat.le_of_ble_eq_true rfl) (by decide +kernel) h (q_fI fun r49 A48 h => ?_)
      show q_Wp _ _ _ _ 0 0 136 [some (.ref a0), some (.int x1), some (.int x2), none] [.int r49, .ref r46] A48
      obtain ⟨z51, s50, b52, h⟩ := h
      obtain ⟨j53, e54, h⟩ := h
      obtain ⟨l55, h⟩ := h
      refine q_iald e54 (by decide +kernel) s50 l55 b52 ?_
      exact q_retI rfl (by decide) (by decide) (by decide +kernel) ⟨_, rfl, h⟩
    · have h := h.2.2.2.2.2 c6
      refine q_blk (pc' := 139) (lo' := [some (.ref a0), some (.int x1), some (.int x2), none]) (st' := [.ref a0]) [.aload_n 0] (by decide +kernel) rfl ?_
      obtain ⟨s56, h⟩ := h
      obtain ⟨r57, e58, h⟩ := h
      refine q_getR fl_X11_30 rfl (by decide) (by decide +kernel) s56 e58 ?_
      refine q_blk (pc' := 144) (lo' := [some (.ref a0), some (.int x1), some (.int x2), none]) (st' := [.int (nI 4), .int x1, .ref r57]) [.iload_n 1, .iconst 4] (by decide +kernel) rfl ?_
      refine q_callS (Mc := M_X11_storedAt) (z := 2) (As := [.int x1, .int (nI 4)]) (st := [.ref r57]) mo_X11_storedAt ms_X11_storedAt ml_X11_234_X11_storedAt rfl rfl (by decide) (by decide) rfl (Nat.le_of_ble_eq_true rfl) (by decide +kernel) h (q_fI fun r60 A59 h => ?_)
      show q_Wp _ _ _ _ 0 0 147 [some (.ref a0), some (.int x1), some (.int x2), none] [.int r60, .ref r57] A59
      refine q_blk (pc' := 151) (lo' := [some (.ref a0), some (.int x1), some (.int x2), none]) (st' := [.int ((r60 + x2) - (nI 5)), .ref r57]) [.iload_n 2, .iadd, .iconst 5, .isub] (by decide +kernel) rfl ?_
      obtain ⟨z62, s61, b63, h⟩ := h
      obtain ⟨j64, e65, h⟩ := h
      obtain ⟨l66, h⟩ := h
      refine q_iald e65 (by decide +kernel) s61 l66 b63 ?_
      exact q_retI rfl (by decide) (by decide) (by decide +kernel) ⟨_, rfl, h⟩
  · have h := h.1 c4
    refine q_blk (pc' := 49) (lo' := [some (.ref a0), some (.int x1), some (.int x2), none]) (st' := [.int (nI 0)]) [.iconst 0] (by decide +kernel) rfl ?_
    exact q_retI rfl (by decide) (by decide) (by decide +kernel) ⟨_, rfl, h⟩
theorem f_X11_buyer {G : q_G} {X : String → q_H → Prop} {f : Int32 → q_H → Prop} {A : q_H} {a0 : Nat} {x1 : Int32} {x2 : Int32} (h : q_sh A a0 = (12, 0) ∧ q_Wc G M_X11_isBuyer [.ref a0, .int x1] A (q_KB fun b2 A1 => ((b2 = true → ((b2 = true → q_Wc G M_X11_isIn [.long (x2.toInt64), .long (lN 0), .long (lN 5)] A1 (q_KB fun b9 A8 => ((b9 = true → q_Wp G M_X11_buyer (q_KI f) X 0 0 38 [some (.ref a0), some (.int x1), some (.int x2), none] [.int (q_i false), .int (q_i false), .int (q_i false), .ref a0] A8) ∧ (b9 = false → q_Wp G M_X11_buyer (q_KI f) X 0 0 38 [some (.ref a0), some (.int x1), some (.int x2), none] [.int (q_i false), .int (q_i true), .int (q_i false), .ref a0] A8))) q_nX) ∧ (b2 = false → q_Wp G M_X11_buyer (q_KI f) X 0 0 38 [some (.ref a0), some (.int x1), some (.int x2), none] [.int (q_i false), .int (q_i false), .int (q_i false), .ref a0] A1))) ∧ (b2 = false → ((b2 = true → q_Wc G M_X11_isIn [.long (x2.toInt64), .long (lN 0), .long (lN 5)] A1 (q_KB fun b15 A14 => ((b15 = true → q_Wp G M_X11_buyer (q_KI f) X 0 0 38 [some (.ref a0), some (.int x1), some (.int x2), none] [.int (q_i false), .int (q_i false), .int (q_i true), .ref a0] A14) ∧ (b15 = false → q_Wp G M_X11_buyer (q_KI f) X 0 0 38 [some (.ref a0), some (.int x1), some (.int x2), none] [.int (q_i false), .int (q_i true), .int (q_i true), .ref a0] A14))) q_nX) ∧ (b2 = false → q_Wp G M_X11_buyer (q_KI f) X 0 0 38 [some (.ref a0), some (.int x1), some (.int x2), none] [.int (q_i false), .int (q_i false), .int (q_i true), .ref a0] A1))))) q_nX) : q_Wc G M_X11_buyer [.ref a0, .int x1, .int x2] A (q_KI f) X := by
  refine q_Wc.of [some (.ref a0), some (.int x1), some (.int x2), none] mo_X11_buyer.2.2.2.2.2 rfl (Nat.le_of_ble_eq_true rfl) rfl ?_
  refine q_blk (pc' := 2) (lo' := [some (.ref a0), some (.int x1), some (.int x2), none]) (st' := [.int x1, .ref a0]) [.aload_n 0, .iload_n 1] (by decide +kernel) rfl ?_
  obtain ⟨s3, h⟩ := h
  refine q_callV (ci := 11) (Mc := M_X11_isBuyer) (z := 1) (b := a0) (As := [.int x1]) (st := []) mo_X11_isBuyer mi_X11_isBuyer ml_X11_280_X11_isBuyer rfl rfl (by decide) rfl (by decide) (by decide) rfl (Nat.le_of_ble_eq_true rfl) (by decide +kernel) s3 h (q_fB fun b2 A1 h => ?_)
  show q_Wp _ _ _ _ 0 0 5 [some (.ref a0), some (.int x1), some (.int x2), none] [.int (q_i b2)] A1
  refine q_blk (pc' := 8) (lo' := [some (.ref a0), some (.int x1), some (.int x2), some (.int (q_i b2))]) (st' := [.int (q_i b2), .ref a0]) [.istore_n 3, .aload_n 0, .iload_n 3] (by decide +kernel) rfl ?_
  refine q_ifB_ne 15 (off := 7) (by decide +kernel) (by decide) (fun c4 => ?_) (fun c4 => ?_)
  · have h := h.1 c4
    refine q_blk (pc' := 17) (lo' := [some (.ref a0), some (.int x1), some (.int x2), some (.int (q_i b2))]) (st' := [.int (q_i b2), .int (nI 0), .ref a0]) [.iconst 0, .iload_n 3] (by decide +kernel) rfl ?_
    refine q_ifB_eq 36 (off := 19) (by decide +kernel) (by decide) (fun c6 => ?_) (fun c6 => ?_)
    · have h := h.2 c6
      refine q_blk (pc' := 38) (lo' := [some (.ref a0), some (.int x1), some (.int x2), some (.int (q_i b2))]) (st' := [.int (nI 0), .int (nI 0), .int (nI 0), .ref a0]) [.iconst 0, .iconst 0] (by decide +kernel) rfl ?_
      exact q_wk [some (.ref a0), some (.int x1), some (.int x2), none] (And.intro rfl (And.intro rfl (And.intro rfl trivial))) h
    · have h := h.1 c6
      refine q_blk (pc' := 23) (lo' := [some (.ref a0), some (.int x1), some (.int x2), some (.int (q_i b2))]) (st' := [.long (lN 0), .long (x2.toInt64), .int (nI 0), .ref a0]) [.iload_n 2, .i2l, .lconst 0] (by decide +kernel) rfl ?_
      refine q_ldc2 (v := 5) c2_X11_283 (by decide +kernel) ?_
      --
      refine q_callS (Mc := M_X11_isIn) (z := 3) (As := [.long (x2.toInt64), .long (lN 0), .long (lN 5)]) (st := [.int (nI 0), .ref a0]) mo_X11_isIn ms_X11_isIn ml_X11_71_X11_isIn rfl rfl (by decide) (by decide) rfl (Nat.le_of_ble_eq_true rfl) (by decide +kernel) h (q_fB fun b9 A8 h => ?_)
      show q_Wp _ _ _ _ 0 0 29 [some (.ref a0), some (.int x1), some (.int x2), some (.int (q_i b2))] [.int (q_i b9), .int (nI 0), .ref a0] A8
      refine q_ifB_ne 36 (off := 7) (by decide +kernel) (by decide) (fun c10 => ?_) (fun c10 => ?_)
      · have h := h.1 c10
        refine q_blk (pc' := 38) (lo' := [some (.ref a0), some (.int x1), some (.int x2), some (.int (q_i b2))]) (st' := [.int (nI 0), .int (nI 0), .int (nI 0), .ref a0]) [.iconst 0, .iconst 0] (by decide +kernel) rfl ?_
        exact q_wk [some (.ref a0), some (.int x1), some (.int x2), none] (And.intro rfl (And.intro rfl (And.intro rfl trivial))) h
      · have h := h.2 c10
        refine q_blk (pc' := 33) (lo' := [some (.ref a0), some (.int x1), some (.int x2), some (.int (q_i b2))]) (st' := [.int (nI 1), .int (nI 0), .ref a0]) [.iconst 1] (by decide +kernel) rfl ?_
        refine q_goto 37 (off := 4) (by decide +kernel) (by decide) ?_
        refine q_blk (pc' := 38) (lo' := [some (.ref a0), some (.int x1), some (.int x2), some (.int (q_i b2))]) (st' := [.int (nI 0), .int (nI 1), .int (nI 0), .ref a0]) [.iconst 0] (by decide +kernel) rfl ?_
        exact q_wk [some (.ref a0), some (.int x1), some (.int x2), none] (And.intro rfl (And.intro rfl (And.intro rfl trivial))) h
  · have h := h.2 c4
    refine q_blk (pc' := 12) (lo' := [some (.ref a0), some (.int x1), some (.int x2), some (.int (q_i b2))]) (st' := [.int (nI 1), .ref a0]) [.iconst 1] (by decide +kernel) rfl ?_
    refine q_goto 16 (off := 4) (by decide +kernel) (by decide) ?_
    refine q_blk (pc' := 17) (lo' := [some (.ref a0), some (.int x1), some (.int x2), some (.int (q_i b2))]) (st' := [.int (q_i b2), .int (nI 1), .ref a0]) [.iload_n 3] (by decide +kernel) rfl ?_
    refine q_ifB_eq 36 (off := 19) (by decide +kernel) (by decide) (fun c12 => ?_) (fun c12 => ?_)
    · have h := h.2 c12
      refine q_blk (pc' := 38) (lo' := [some (.ref a0), some (.int x1), some (.int x2), some (.int (q_i b2))]) (st' := [.int (nI 0), .int (nI 0), .int (nI 1), .ref a0]) [.iconst 0, .iconst 0] (by decide +kernel) rfl ?_
      exact q_wk [some (.ref a0), some (.int x1), some (.int x2), none] (And.intro rfl (And.intro rfl (And.intro rfl trivial))) h
    · have h := h.1 c12
      refine q_blk (pc' := 23) (lo' := [some (.ref a0), some (.int x1), some (.int x2), some (.int (q_i b2))]) (st' := [.long (lN 0), .long (x2.toInt64), .int (nI 1), .ref a0]) [.iload_n 2, .i2l, .lconst 0] (by decide +kernel) rfl ?_
      refine q_ldc2 (v := 5) c2_X11_283 (by decide +kernel) ?_
      --
      refine q_callS (Mc := M_X11_isIn) (z := 3) (As := [.long (x2.toInt64), .long (lN 0), .long (lN 5)]) (st := [.int (nI 1), .ref a0]) mo_X11_isIn ms_X11_isIn ml_X11_71_X11_isIn rfl rfl (by decide) (by decide) rfl (Nat.le_of_ble_eq_true rfl) (by decide +kernel) h (q_fB fun b15 A14 h => ?_)
      show q_Wp _ _ _ _ 0 0 29 [some (.ref a0), some (.int x1), some (.int x2), some (.int (q_i b2))] [.int (q_i b15), .int (nI 1), .ref a0] A14
      refine q_ifB_ne 36 (off := 7) (by decide +kernel) (by decide) (fun c16 => ?_) (fun c16 => ?_)
      · have h := h.1 c16
        refine q_blk (pc' := 38) (lo' := [some (.ref a0), some (.int x1), some (.int x2), some (.int (q_i b2))]) (st' := [.int (nI 0), .int (nI 0), .int (nI 1), .ref a0]) [.iconst 0, .iconst 0] (by decide +kernel) rfl ?_
        exact q_wk [some (.ref a0), some (.int x1), some (.int x2), none] (And.intro rfl (And.intro rfl (And.intro rfl trivial))) h
      · have h := h.2 c16
        refine q_blk (pc' := 33) (lo' := [some (.ref a0), some (.int x1), some (.int x2), some (.int (q_i b2))]) (st' := [.int (nI 1), .int (nI 1), .ref a0]) [.iconst 1] (by decide +kernel) rfl ?_
        refine q_goto 37 (off := 4) (by decide +kernel) (by decide) ?_
        refine q_blk (pc' := 38) (lo' := [some (.ref a0), some (.int x1), some (.int x2), some (.int (q_i b2))]) (st' := [.int (nI 0), .int (nI 1), .int (nI 1), .ref a0]) [.iconst 0] (by decide +kernel) rfl ?_
        exact q_wk [some (.ref a0), some (.int x1), some (.int x2), none] (And.intro rfl (And.intro rfl (And.intro rfl trivial))) h
theorem f_X11_buyer_38 {G : q_G} {X : String → q_H → Prop} {f : Int32 → q_H → Prop} {A : q_H} {a0 : Nat} {x1 : Int32} {x2 : Int32} {p0 : Bool} {p1 : Bool} {p2 : Bool} {u3 : Nat} (h : q_sh A u3 = (12, 0) ∧ q_Wc G M_X11_fails [.ref u3, .int (q_i p2), .int (q_i p1), .int (q_i p0)] A (q_KB fun b2 A1 => ((b2 = true → f (nI 0) A1) ∧ (b2 = false → ((x2 = (nI 5) → q_sh A1 a0 = (12, 0) ∧ ∃ r17 : Nat, q_R A1 a0 6 = some r17 ∧ ∃ z20 : Nat, q_sh A1 r17 = (50, z20) ∧ z20 < 2147483648 ∧ ∃ j22 : Nat, ((nI 20) + x1) = nI j22 ∧ j22 < z20 ∧ f (q_I A1 r17 j22) A1) ∧ (¬ x2 = (nI 5) → q_sh A1 a0 = (12, 0) ∧ ∃ r8 : Nat, q_R A1 a0 2 = some r8 ∧ ∃ z11 : Nat, q_sh A1 r8 = (50, z11) ∧ z11 < 2147483648 ∧ ∃ j13 : Nat, (((nI 27) + ((nI 5) * x1)) + x2) = nI j13 ∧ j13 < z11 ∧ f (q_I A1 r8 j13) A1))))) q_nX) : q_Wp G M_X11_buyer (q_KI f) X 0 0 38 [some (.ref a0), some (.int x1), some (.int x2), none] [.int (q_i p0), .int (q_i p1), .int (q_i p2), .ref u3] A := by
  obtain ⟨s3, h⟩ := h
  refine q_callV (ci := 11) (Mc := M_X11_fails) (z := 3) (b := u3) (As := [.int (q_i p2), .int (q_i p1), .int (q_i p0)]) (st := []) mo_X11_fails mi_X11_fails ml_X11_260_X11_fails rfl rfl (by decide) rfl (by decide) (by decide) rfl (Nat.le_of_ble_eq_true rfl) (by decide +kernel) s3 h (q_fB fun b2 A1 h => ?_)
  show q_Wp _ _ _ _ 0 0 41 [some (.ref a0), some (.int x1), some (.int x2), none] [.int (q_i b2)] A1
  refine q_ifB_eq 46 (off := 5) (by decide +kernel) (by decide) (fun c4 => ?_) (fun c4 => ?_)
  · have h := h.2 c4
    refine q_blk (pc' := 48) (lo' := [some (.ref a0), some (.int x1), some (.int x2), none]) (st' := [.int (nI 5), .int x2]) [.iload_n 2, .iconst 5] (by decide +kernel) rfl ?_
    refine q_icmp_ne 63 (off := 15) (by decide +kernel) (by decide) (fun c6 => ?_) (fun c6 => ?_)
    · have h := h.2 c6
      refine q_blk (pc' := 64) (lo' := [some (.ref a0), some (.int x1), some (.int x2), none]) (st' := [.ref a0]) [.aload_n 0] (by decide +kernel) rfl ?_
      obtain ⟨s7, h⟩ := h
      obtain ⟨r8, e9, h⟩ := h
      refine q_getR fl_X11_17 rfl (by decide) (by decide +kernel) s7 e9 ?_
      refine q_blk (pc' := 75) (lo' := [some (.ref a0), some (.int x1), some (.int x2), none]) (st' := [.int (((nI 27) + ((nI 5) * x1)) + x2), .ref r8]) [.bipush 27, .iconst 5, .iload_n 1, .imul, .iadd, .iload_n 2, .iadd] (by decide +kernel) rfl ?_
      obtain ⟨z11, s10, b12, h⟩ := h
      obtain ⟨j13, e14, h⟩ := h
      obtain ⟨l15, h⟩ := h
      refine q_iald e14 (by decide +kernel) s10 l15 b12 ?_
      exact q_retI rfl (by decide) (by decide) (by decide +kernel) ⟨_, rfl, h⟩
    · have h := h.1 c6
      refine q_blk (pc' := 52) (lo' := [some (.ref a0), some (.int x1), some (.int x2), none]) (st' := [.ref a0]) [.aload_n 0] (by decide +kernel) rfl ?_
      obtain ⟨s16, h⟩ := h
      obtain ⟨r17, e18, h⟩ := h
      refine q_getR fl_X11_30 rfl (by decide) (by decide +kernel) s16 e18 ?_
      refine q_blk (pc' := 59) (lo' := [some (.ref a0), some (.int x1), some (.int x2), none]) (st' := [.int ((nI 20) + x1), .ref r17]) [.bipush 20, .iload_n 1, .iadd] (by decide +kernel) rfl ?_
      obtain ⟨z20, s19, b21, h⟩ := h
      obtain ⟨j22, e23, h⟩ := h
      obtain ⟨l24, h⟩ := h
      refine q_iald e23 (by decide +kernel) s19 l24 b21 ?_
      refine q_goto 76 (off := 16) (by decide +kernel) (by decide) ?_
      exact q_retI rfl (by decide) (by decide) (by decide +kernel) ⟨_, rfl, h⟩
  · have h := h.1 c4
    refine q_blk (pc' := 45) (lo' := [some (.ref a0), some (.int x1), some (.int x2), none]) (st' := [.int (nI 0)]) [.iconst 0] (by decide +kernel) rfl ?_
    exact q_retI rfl (by decide) (by decide) (by decide +kernel) ⟨_, rfl, h⟩
theorem f_X11_balance {G : q_G} {X : String → q_H → Prop} {f : Int64 → q_H → Prop} {A : q_H} {a0 : Nat} {x1 : Int32} (h : q_sh A a0 = (12, 0) ∧ ((x1 = nI 0 → ∃ r3 : Nat, q_R A a0 6 = some r3 ∧ ∃ z6 : Nat, q_sh A r3 = (50, z6) ∧ z6 < 2147483648 ∧ 16 < z6 ∧ f ((q_I (q_setI A a0 0 (nI 0)) r3 16).toInt64) (q_setI A a0 0 (nI 0))) ∧ (x1 = nI 1 → q_Wp G M_X11_balance (q_KL f) X 0 0 68 [some (.ref a0), none, some (.long (lN 0)), none, some (.int (nI 0))] [] (q_setI A a0 0 (nI 0))) ∧ (x1 = nI 2 → q_Wp G M_X11_balance (q_KL f) X 0 0 104 [some (.ref a0), none, some (.long (lN 0)), none, some (.int (nI 0))] [] (q_setI A a0 0 (nI 0))) ∧ (x1 = nI 3 → q_Wp G M_X11_balance (q_KL f) X 0 0 150 [some (.ref a0), none, some (.long (lN 0)), none, some (.int (nI 0))] [] (q_setI A a0 0 (nI 0))) ∧ (x1 = nI 4 → q_Wp G M_X11_balance (q_KL f) X 0 0 184 [some (.ref a0), none, some (.long (lN 0)), none, some (.int (nI 0))] [] (q_setI A a0 0 (nI 0))) ∧ (x1 = nI 5 → ∃ r9 : Nat, q_R A a0 6 = some r9 ∧ ∃ z12 : Nat, q_sh A r9 = (50, z12) ∧ z12 < 2147483648 ∧ 17 < z12 ∧ f ((q_I (q_setI A a0 0 (nI 0)) r9 17).toInt64) (q_setI A a0 0 (nI 0))) ∧ (x1 = nI 6 → q_Wc G M_X11_total [.ref a0, .int (nI 24)] (q_setI A a0 0 (nI 0)) (q_KI fun r16 A15 => f (r16.toInt64) A15) q_nX) ∧ (x1 = nI 7 → ∃ r17 : Nat, q_R A a0 6 = some r17 ∧ ∃ z20 : Nat, q_sh A r17 = (50, z20) ∧ z20 < 2147483648 ∧ 18 < z20 ∧ f ((q_I (q_setI A a0 0 (nI 0)) r17 18).toInt64) (q_setI A a0 0 (nI 0))) ∧ ((∀ j, j < 8 → ¬ x1 = nI j) → f (-1) (q_setI A a0 0 (nI 0))))) : q_Wc G M_X11_balance [.ref a0, .int x1] A (q_KL f) X := by
  refine q_Wc.of [some (.ref a0), some (.int x1), none, none, none] mo_X11_balance.2.2.2.2.2 rfl (Nat.le_of_ble_eq_true rfl) rfl ?_
  refine q_blk (pc' := 2) (lo' := [some (.ref a0), some (.int x1), none, none, none]) (st' := [.int (nI 0), .ref a0]) [.aload_n 0, .iconst 0] (by decide +kernel) rfl ?_
  obtain ⟨s1, h⟩ := h
  refine q_putI fw_X11_1 rfl (by decide) (by decide +kernel) s1 ?_
  refine q_blk (pc' := 8) (lo' := [some (.ref a0), some (.int x1), some (.long (lN 0)), none, none]) (st' := [.int x1]) [.lconst 0, .lstore_n 2, .iload_n 1] (by decide +kernel) rfl ?_
  have hd8 := sw_X11_balance_8
  refine q_tsw [56, 65, 101, 147, 181, 218, 227, 235] 244 (hd8) (by rfl) (by decide) (by rfl) (by decide) (And.intro (fun c2 => ?_) (And.intro (fun c2 => ?_) (And.intro (fun c2 => ?_) (And.intro (fun c2 => ?_) (And.intro (fun c2 => ?_) (And.intro (fun c2 => ?_) (And.intro (fun c2 => ?_) (And.intro (fun c2 => ?_) trivial)))))))) (fun c2 => ?_)
  · have h := h.1 c2
    refine q_blk (pc' := 57) (lo' := [some (.ref a0), some (.int x1), some (.long (lN 0)), none, none]) (st' := [.ref a0]) [.aload_n 0] (by decide +kernel) rfl ?_
    obtain ⟨r3, e4, h⟩ := h
    refine q_getR fl_X11_30 rfl (by decide) (by decide +kernel) s1 e4 ?_
    refine q_blk (pc' := 62) (lo' := [some (.ref a0), some (.int x1), some (.long (lN 0)), none, none]) (st' := [.int (nI 16), .ref r3]) [.bipush 16] (by decide +kernel) rfl ?_
    obtain ⟨z6, s5, b7, h⟩ := h
    obtain ⟨l8, h⟩ := h
    refine q_iald rfl (by decide +kernel) s5 l8 b7 ?_
    refine q_blk (pc' := 64) (lo' := [some (.ref a0), some (.int x1), some (.long (lN 0)), none, none]) (st' := [.long ((q_I (q_setI A a0 0 (nI 0)) r3 16).toInt64)]) [.i2l] (by decide +kernel) rfl ?_
    exact q_retL rfl (by decide) (by decide) (by decide +kernel) ⟨_, rfl, h⟩
  · have h := h.2.1 c2
    refine q_blk (pc' := 68) (lo' := [some (.ref a0), some (.int x1), some (.long (lN 0)), none, some (.int (nI 0))]) (st' := []) [.iconst 0, .istore 4] (by decide +kernel) rfl ?_
    exact q_wk [some (.ref a0), none, some (.long (lN 0)), none, some (.int (nI 0))] (And.intro rfl (And.intro rfl (And.intro rfl trivial))) h
  · have h := h.2.2.1 c2
    refine q_blk (pc' := 104) (lo' := [some (.ref a0), some (.int x1), some (.long (lN 0)), none, some (.int (nI 0))]) (st' := []) [.iconst 0, .istore 4] (by decide +kernel) rfl ?_
    exact q_wk [some (.ref a0), none, some (.long (lN 0)), none, some (.int (nI 0))] (And.intro rfl (And.intro rfl (And.intro rfl trivial))) h
  · have h := h.2.2.2.1 c2
    refine q_blk (pc' := 150) (lo' := [some (.ref a0), some (.int x1), some (.long (lN 0)), none, some (.int (nI 0))]) (st' := []) [.iconst 0, .istore 4] (by decide +kernel) rfl ?_
    exact q_wk [some (.ref a0), none, some (.long (lN 0)), none, some (.int (nI 0))] (And.intro rfl (And.intro rfl (And.intro rfl trivial))) h
  · have h := h.2.2.2.2.1 c2
    refine q_blk (pc' := 184) (lo' := [some (.ref a0), some (.int x1), some (.long (lN 0)), none, some (.int (nI 0))]) (st' := []) [.iconst 0, .istore 4] (by decide +kernel) rfl ?_
    exact q_wk [some (.ref a0), none, some (.long (lN 0)), none, some (.int (nI 0))] (And.intro rfl (And.intro rfl (And.intro rfl trivial))) h
  · have h := h.2.2.2.2.2.1 c2
    refine q_blk (pc' := 219) (lo' := [some (.ref a0), some (.int x1), some (.long (lN 0)), none, none]) (st' := [.ref a0]) [.aload_n 0] (by decide +kernel) rfl ?_
    obtain ⟨r9, e10, h⟩ := h
    refine q_getR fl_X11_30 rfl (by decide) (by decide +kernel) s1 e10 ?_
    refine q_blk (pc' := 224) (lo' := [some (.ref a0), some (.int x1), some (.long (lN 0)), none, none]) (st' := [.int (nI 17), .ref r9]) [.bipush 17] (by decide +kernel) rfl ?_
    obtain ⟨z12, s11, b13, h⟩ := h
    obtain ⟨l14, h⟩ := h
    refine q_iald rfl (by decide +kernel) s11 l14 b13 ?_
    refine q_blk (pc' := 226) (lo' := [some (.ref a0), some (.int x1), some (.long (lN 0)), none, none]) (st' := [.long ((q_I (q_setI A a0 0 (nI 0)) r9 17).toInt64)]) [.i2l] (by decide +kernel) rfl ?_
    exact q_retL rfl (by decide) (by decide) (by decide +kernel) ⟨_, rfl, h⟩
  · have h := h.2.2.2.2.2.2.1 c2
    refine q_blk (pc' := 230) (lo' := [some (.ref a0), some (.int x1), some (.long (lN 0)), none, none]) (st' := [.int (nI 24), .ref a0]) [.aload_n 0, .bipush 24] (by decide +kernel) rfl ?_
    refine q_callV (ci := 11) (Mc := M_X11_total) (z := 1) (b := a0) (As := [.int (nI 24)]) (st := []) mo_X11_total mi_X11_total ml_X11_189_X11_total rfl rfl (by decide) rfl (by decide) (by decide) rfl (Nat.le_of_ble_eq_true rfl) (by decide +kernel) s1 h (q_fI fun r16 A15 h => ?_)
    show q_Wp _ _ _ _ 0 0 233 [some (.ref a0), some (.int x1), some (.long (lN 0)), none, none] [.int r16] A15
    refine q_blk (pc' := 234) (lo' := [some (.ref a0), some (.int x1), some (.long (lN 0)), none, none]) (st' := [.long (r16.toInt64)]) [.i2l] (by decide +kernel) rfl ?_
    exact q_retL rfl (by decide) (by decide) (by decide +kernel) ⟨_, rfl, h⟩
  · have h := h.2.2.2.2.2.2.2.1 c2
    refine q_blk (pc' := 236) (lo' := [some (.ref a0), some (.int x1), some (.long (lN 0)), none, none]) (st' := [.ref a0]) [.aload_n 0] (by decide +kernel) rfl ?_
    obtain ⟨r17, e18, h⟩ := h
    refine q_getR fl_X11_30 rfl (by decide) (by decide +kernel) s1 e18 ?_
    refine q_blk (pc' := 241) (lo' := [some (.ref a0), some (.int x1), some (.long (lN 0)), none, none]) (st' := [.int (nI 18), .ref r17]) [.bipush 18] (by decide +kernel) rfl ?_
    obtain ⟨z20, s19, b21, h⟩ := h
    obtain ⟨l22, h⟩ := h
    refine q_iald rfl (by decide +kernel) s19 l22 b21 ?_
    refine q_blk (pc' := 243) (lo' := [some (.ref a0), some (.int x1), some (.long (lN 0)), none, none]) (st' := [.long ((q_I (q_setI A a0 0 (nI 0)) r17 18).toInt64)]) [.i2l] (by decide +kernel) rfl ?_
    exact q_retL rfl (by decide) (by decide) (by decide +kernel) ⟨_, rfl, h⟩
  · have h := h.2.2.2.2.2.2.2.2 c2
    refine q_ldc2 (v := (-1)) c2_X11_285 (by decide +kernel) ?_
    --
    exact q_retL rfl (by decide) (by decide) (by decide +kernel) ⟨_, rfl, h⟩
theorem f_X11_balance_68 {G : q_G} {X : String → q_H → Prop} {f : Int64 → q_H → Prop} {A : q_H} {a0 : Nat} {w2 : Int64} {x4 : Int32} (h : q_sh A a0 = (12, 0) ∧ ∃ r2 : Nat, q_R A a0 6 = some r2 ∧ ∃ z5 : Nat, q_sh A r2 = (50, z5) ∧ z5 < 2147483648 ∧ 9 < z5 ∧ (((q_I A r2 9) ≤ x4 → f w2 A) ∧ (¬ (q_I A r2 9) ≤ x4 → q_Wc G M_X11_parcelAt [.int x4] A (q_KI fun r10 A9 => q_sh A9 a0 = (12, 0) ∧ q_Wc G M_X11_total [.ref a0, .int r10] A9 (q_KI fun r12 A11 => q_Wp G M_X11_balance (q_KL f) X 0 0 68 [some (.ref a0), none, some (.long (w2 + (r12.toInt64))), none, some (.int (x4 + (nI 1)))] [] A11) q_nX) q_nX))) : q_Wp G M_X11_balance (q_KL f) X 0 0 68 [some (.ref a0), none, some (.long w2), none, some (.int x4)] [] A := by
  refine q_blk (pc' := 71) (lo' := [some (.ref a0), none, some (.long w2), none, some (.int x4)]) (st' := [.ref a0, .int x4]) [.iload 4, .aload_n 0] (by decide +kernel) rfl ?_
  obtain ⟨s1, h⟩ := h
  obtain ⟨r2, e3, h⟩ := h
  refine q_getR fl_X11_30 rfl (by decide) (by decide +kernel) s1 e3 ?_
  refine q_blk (pc' := 76) (lo' := [some (.ref a0), none, some (.long w2), none, some (.int x4)]) (st' := [.int (nI 9), .ref r2, .int x4]) [.bipush 9] (by decide +kernel) rfl ?_
  obtain ⟨z5, s4, b6, h⟩ := h
  obtain ⟨l7, h⟩ := h
  refine q_iald rfl (by decide +kernel) s4 l7 b6 ?_
  refine q_icmp_ge 99 (off := 22) (by decide +kernel) (by decide) (fun c8 => ?_) (fun c8 => ?_)
  · have h := h.1 c8
    refine q_blk (pc' := 100) (lo' := [some (.ref a0), none, some (.long w2), none, some (.int x4)]) (st' := [.long w2]) [.lload_n 2] (by decide +kernel) rfl ?_
    exact q_retL rfl (by decide) (by decide) (by decide +kernel) ⟨_, rfl, h⟩
  · have h := h.2 c8
    refine q_blk (pc' := 84) (lo' := [some (.ref a0), none, some (.long w2), none, some (.int x4)]) (st' := [.int x4, .ref a0, .long w2]) [.lload_n 2, .aload_n 0, .iload 4] (by decide +kernel) rfl ?_
    refine q_callS (Mc := M_X11_parcelAt) (z := 1) (As := [.int x4]) (st := [.ref a0, .long w2]) mo_X11_parcelAt ms_X11_parcelAt ml_X11_145_X11_parcelAt rfl rfl (by decide) (by decide) rfl (Nat.le_of_ble_eq_true rfl) (by decide +kernel) h (q_fI fun r10 A9 h => ?_)
    show q_Wp _ _ _ _ 0 0 87 [some (.ref a0), none, some (.long w2), none, some (.int x4)] [.int r10, .ref a0, .long w2] A9
    obtain ⟨s13, h⟩ := h
    refine q_callV (ci := 11) (Mc := M_X11_total) (z := 1) (b := a0) (As := [.int r10]) (st := [.long w2]) mo_X11_total mi_X11_total ml_X11_189_X11_total rfl rfl (by decide) rfl (by decide) (by decide) rfl (Nat.le_of_ble_eq_true rfl) (by decide +kernel) s13 h (q_fI fun r12 A11 h => ?_)
    show q_Wp _ _ _ _ 0 0 90 [some (.ref a0), none, some (.long w2), none, some (.int x4)] [.int r12, .long w2] A11
    refine q_blk (pc' := 96) (lo' := [some (.ref a0), none, some (.long (w2 + (r12.toInt64))), none, some (.int (x4 + (nI 1)))]) (st' := []) [.i2l, .ladd, .lstore_n 2, .iinc 4 1] (by decide +kernel) rfl ?_
    refine q_goto 68 (off := -28) (by decide +kernel) (by decide) ?_
    exact h
theorem f_X11_balance_104 {G : q_G} {X : String → q_H → Prop} {f : Int64 → q_H → Prop} {A : q_H} {a0 : Nat} {w2 : Int64} {x4 : Int32} (h : q_sh A a0 = (12, 0) ∧ q_Wc G M_X11_stations [.ref a0] A (q_KI fun r2 A1 => ((r2 ≤ x4 → f w2 A1) ∧ (¬ r2 ≤ x4 → q_sh A1 a0 = (12, 0) ∧ q_Wc G M_X11_hasParcel [.ref a0, .int x4] A1 (q_KB fun b6 A5 => ((b6 = true → q_Wc G M_X11_slotAt [.int x4] A5 (q_KI fun r11 A10 => q_sh A10 a0 = (12, 0) ∧ q_Wc G M_X11_total [.ref a0, .int r11] A10 (q_KI fun r13 A12 => q_Wp G M_X11_balance (q_KL f) X 0 0 104 [some (.ref a0), none, some (.long (w2 + (r13.toInt64))), none, some (.int (x4 + (nI 1)))] [] A12) q_nX) q_nX) ∧ (b6 = false → q_Wp G M_X11_balance (q_KL f) X 0 0 104 [some (.ref a0), none, some (.long (w2 + (lN 0))), none, some (.int (x4 + (nI 1)))] [] A5))) q_nX))) q_nX) : q_Wp G M_X11_balance (q_KL f) X 0 0 104 [some (.ref a0), none, some (.long w2), none, some (.int x4)] [] A := by
  refine q_blk (pc' := 107) (lo' := [some (.ref a0), none, some (.long w2), none, some (.int x4)]) (st' := [.ref a0, .int x4]) [.iload 4, .aload_n 0] (by decide +kernel) rfl ?_
  obtain ⟨s3, h⟩ := h
  refine q_callV (ci := 11) (Mc := M_X11_stations) (z := 0) (b := a0) (As := []) (st := [.int x4]) mo_X11_stations mi_X11_stations ml_X11_182_X11_stations rfl rfl (by decide) rfl (by decide) (by decide) rfl (Nat.le_of_ble_eq_true rfl) (by decide +kernel) s3 h (q_fI fun r2 A1 h => ?_)
  show q_Wp _ _ _ _ 0 0 110 [some (.ref a0), none, some (.long w2), none, some (.int x4)] [.int r2, .int x4] A1
  refine q_icmp_ge 145 (off := 35) (by decide +kernel) (by decide) (fun c4 => ?_) (fun c4 => ?_)
  · have h := h.1 c4
    refine q_blk (pc' := 146) (lo' := [some (.ref a0), none, some (.long w2), none, some (.int x4)]) (st' := [.long w2]) [.lload_n 2] (by decide +kernel) rfl ?_
    exact q_retL rfl (by decide) (by decide) (by decide +kernel) ⟨_, rfl, h⟩
  · have h := h.2 c4
    refine q_blk (pc' := 117) (lo' := [some (.ref a0), none, some (.long w2), none, some (.int x4)]) (st' := [.int x4, .ref a0, .long w2]) [.lload_n 2, .aload_n 0, .iload 4] (by decide +kernel) rfl ?_
    obtain ⟨s7, h⟩ := h
    refine q_callV (ci := 11) (Mc := M_X11_hasParcel) (z := 1) (b := a0) (As := [.int x4]) (st := [.long w2]) mo_X11_hasParcel mi_X11_hasParcel ml_X11_269_X11_hasParcel rfl rfl (by decide) rfl (by decide) (by decide) rfl (Nat.le_of_ble_eq_true rfl) (by decide +kernel) s7 h (q_fB fun b6 A5 h => ?_)
    show q_Wp _ _ _ _ 0 0 120 [some (.ref a0), none, some (.long w2), none, some (.int x4)] [.int (q_i b6), .long w2] A5
    refine q_ifB_eq 136 (off := 16) (by decide +kernel) (by decide) (fun c8 => ?_) (fun c8 => ?_)
    · have h := h.2 c8
      refine q_blk (pc' := 142) (lo' := [some (.ref a0), none, some (.long (w2 + (lN 0))), none, some (.int (x4 + (nI 1)))]) (st' := []) [.lconst 0, .ladd, .lstore_n 2, .iinc 4 1] (by decide +kernel) rfl ?_
      refine q_goto 104 (off := -38) (by decide +kernel) (by decide) ?_
      exact h
    · have h := h.1 c8
      refine q_blk (pc' := 126) (lo' := [some (.ref a0), none, some (.long w2), none, some (.int x4)]) (st' := [.int x4, .ref a0, .long w2]) [.aload_n 0, .iload 4] (by decide +kernel) rfl ?_
      refine q_callS (Mc := M_X11_slotAt) (z := 1) (As := [.int x4]) (st := [.ref a0, .long w2]) mo_X11_slotAt ms_X11_slotAt ml_X11_204_X11_slotAt rfl rfl (by decide) (by decide) rfl (Nat.le_of_ble_eq_true rfl) (by decide +kernel) h (q_fI fun r11 A10 h => ?_)
      show q_Wp _ _ _ _ 0 0 129 [some (.ref a0), none, some (.long w2), none, some (.int x4)] [.int r11, .ref a0, .long w2] A10
      obtain ⟨s14, h⟩ := h
      refine q_callV (ci := 11) (Mc := M_X11_total) (z := 1) (b := a0) (As := [.int r11]) (st := [.long w2]) mo_X11_total mi_X11_total ml_X11_189_X11_total rfl rfl (by decide) rfl (by decide) (by decide) rfl (Nat.le_of_ble_eq_true rfl) (by decide +kernel) s14 h (q_fI fun r13 A12 h => ?_)
      show q_Wp _ _ _ _ 0 0 132 [some (.ref a0), none, some (.long w2), none, some (.int x4)] [.int r13, .long w2] A12
      refine q_blk (pc' := 133) (lo' := [some (.ref a0), none, some (.long w2), none, some (.int x4)]) (st' := [.long (r13.toInt64), .long w2]) [.i2l] (by decide +kernel) rfl ?_
      refine q_goto 137 (off := 4) (by decide +kernel) (by decide) ?_
      refine q_blk (pc' := 142) (lo' := [some (.ref a0), none, some (.long (w2 + (r13.toInt64))), none, some (.int (x4 + (nI 1)))]) (st' := []) [.ladd, .lstore_n 2, .iinc 4 1] (by decide +kernel) rfl ?_
      refine q_goto 104 (off := -38) (by decide +kernel) (by decide) ?_
      exact h
theorem f_X11_balance_150 {G : q_G} {X : String → q_H → Prop} {f : Int64 → q_H → Prop} {A : q_H} {a0 : Nat} {w2 : Int64} {x4 : Int32} (h : q_sh A a0 = (12, 0) ∧ q_Wc G M_X11_stations [.ref a0] A (q_KI fun r2 A1 => ((r2 ≤ x4 → f w2 A1) ∧ (¬ r2 ≤ x4 → q_Wc G M_X11_placeAt [.int x4, .int (nI 4)] A1 (q_KI fun r6 A5 => q_sh A5 a0 = (12, 0) ∧ q_Wc G M_X11_total [.ref a0, .int r6] A5 (q_KI fun r8 A7 => q_Wp G M_X11_balance (q_KL f) X 0 0 150 [some (.ref a0), none, some (.long (w2 + (r8.toInt64))), none, some (.int (x4 + (nI 1)))] [] A7) q_nX) q_nX))) q_nX) : q_Wp G M_X11_balance (q_KL f) X 0 0 150 [some (.ref a0), none, some (.long w2), none, some (.int x4)] [] A := by
  refine q_blk (pc' := 153) (lo' := [some (.ref a0), none, some (.long w2), none, some (.int x4)]) (st' := [.ref a0, .int x4]) [.iload 4, .aload_n 0] (by decide +kernel) rfl ?_
  obtain ⟨s3, h⟩ := h
  refine q_callV (ci := 11) (Mc := M_X11_stations) (z := 0) (b := a0) (As := []) (st := [.int x4]) mo_X11_stations mi_X11_stations ml_X11_182_X11_stations rfl rfl (by decide) rfl (by decide) (by decide) rfl (Nat.le_of_ble_eq_true rfl) (by decide +kernel) s3 h (q_fI fun r2 A1 h => ?_)
  show q_Wp _ _ _ _ 0 0 156 [some (.ref a0), none, some (.long w2), none, some (.int x4)] [.int r2, .int x4] A1
  refine q_icmp_ge 179 (off := 23) (by decide +kernel) (by decide) (fun c4 => ?_) (fun c4 => ?_)
  · have h := h.1 c4
    refine q_blk (pc' := 180) (lo' := [some (.ref a0), none, some (.long w2), none, some (.int x4)]) (st' := [.long w2]) [.lload_n 2] (by decide +kernel) rfl ?_
    exact q_retL rfl (by decide) (by decide) (by decide +kernel) ⟨_, rfl, h⟩
  · have h := h.2 c4
    refine q_blk (pc' := 164) (lo' := [some (.ref a0), none, some (.long w2), none, some (.int x4)]) (st' := [.int (nI 4), .int x4, .ref a0, .long w2]) [.lload_n 2, .aload_n 0, .iload 4, .iconst 4] (by decide +kernel) rfl ?_
    refine q_callS (Mc := M_X11_placeAt) (z := 2) (As := [.int x4, .int (nI 4)]) (st := [.ref a0, .long w2]) mo_X11_placeAt ms_X11_placeAt ml_X11_141_X11_placeAt rfl rfl (by decide) (by decide) rfl (Nat.le_of_ble_eq_true rfl) (by decide +kernel) h (q_fI fun r6 A5 h => ?_)
    show q_Wp _ _ _ _ 0 0 167 [some (.ref a0), none, some (.long w2), none, some (.int x4)] [.int r6, .ref a0, .long w2] A5
    obtain ⟨s9, h⟩ := h
    refine q_callV (ci := 11) (Mc := M_X11_total) (z := 1) (b := a0) (As := [.int r6]) (st := [.long w2]) mo_X11_total mi_X11_total ml_X11_189_X11_total rfl rfl (by decide) rfl (by decide) (by decide) rfl (Nat.le_of_ble_eq_true rfl) (by decide +kernel) s9 h (q_fI fun r8 A7 h => ?_)
    show q_Wp _ _ _ _ 0 0 170 [some (.ref a0), none, some (.long w2), none, some (.int x4)] [.int r8, .long w2] A7
    refine q_blk (pc' := 176) (lo' := [some (.ref a0), none, some (.long (w2 + (r8.toInt64))), none, some (.int (x4 + (nI 1)))]) (st' := []) [.i2l, .ladd, .lstore_n 2, .iinc 4 1] (by decide +kernel) rfl ?_
    refine q_goto 150 (off := -26) (by decide +kernel) (by decide) ?_
    exact h
theorem f_X11_balance_184 {G : q_G} {X : String → q_H → Prop} {f : Int64 → q_H → Prop} {A : q_H} {a0 : Nat} {w2 : Int64} {x4 : Int32} (h : q_sh A a0 = (12, 0) ∧ ∃ r2 : Nat, q_R A a0 6 = some r2 ∧ ∃ z5 : Nat, q_sh A r2 = (50, z5) ∧ z5 < 2147483648 ∧ 14 < z5 ∧ (((q_I A r2 14) ≤ x4 → f w2 A) ∧ (¬ (q_I A r2 14) ≤ x4 → q_Wc G M_X11_storedAt [.int x4, .int (nI 4)] A (q_KI fun r10 A9 => q_sh A9 a0 = (12, 0) ∧ q_Wc G M_X11_total [.ref a0, .int r10] A9 (q_KI fun r12 A11 => q_Wp G M_X11_balance (q_KL f) X 0 0 184 [some (.ref a0), none, some (.long (w2 + (r12.toInt64))), none, some (.int (x4 + (nI 1)))] [] A11) q_nX) q_nX))) : q_Wp G M_X11_balance (q_KL f) X 0 0 184 [some (.ref a0), none, some (.long w2), none, some (.int x4)] [] A := by
  refine q_blk (pc' := 187) (lo' := [some (.ref a0), none, some (.long w2), none, some (.int x4)]) (st' := [.ref a0, .int x4]) [.iload 4, .aload_n 0] (by decide +kernel) rfl ?_
  obtain ⟨s1, h⟩ := h
  obtain ⟨r2, e3, h⟩ := h
  refine q_getR fl_X11_30 rfl (by decide) (by decide +kernel) s1 e3 ?_
  refine q_blk (pc' := 192) (lo' := [some (.ref a0), none, some (.long w2), none, some (.int x4)]) (st' := [.int (nI 14), .ref r2, .int x4]) [.bipush 14] (by decide +kernel) rfl ?_
  obtain ⟨z5, s4, b6, h⟩ := h
  obtain ⟨l7, h⟩ := h
  refine q_iald rfl (by decide +kernel) s4 l7 b6 ?_
  refine q_icmp_ge 216 (off := 23) (by decide +kernel) (by decide) (fun c8 => ?_) (fun c8 => ?_)
  · have h := h.1 c8
    refine q_blk (pc' := 217) (lo' := [some (.ref a0), none, some (.long w2), none, some (.int x4)]) (st' := [.long w2]) [.lload_n 2] (by decide +kernel) rfl ?_
    exact q_retL rfl (by decide) (by decide) (by decide +kernel) ⟨_, rfl, h⟩
  · have h := h.2 c8
    refine q_blk (pc' := 201) (lo' := [some (.ref a0), none, some (.long w2), none, some (.int x4)]) (st' := [.int (nI 4), .int x4, .ref a0, .long w2]) [.lload_n 2, .aload_n 0, .iload 4, .iconst 4] (by decide +kernel) rfl ?_
    refine q_callS (Mc := M_X11_storedAt) (z := 2) (As := [.int x4, .int (nI 4)]) (st := [.ref a0, .long w2]) mo_X11_storedAt ms_X11_storedAt ml_X11_234_X11_storedAt rfl rfl (by decide) (by decide) rfl (Nat.le_of_ble_eq_true rfl) (by decide +kernel) h (q_fI fun r10 A9 h => ?_)
    show q_Wp _ _ _ _ 0 0 204 [some (.ref a0), none, some (.long w2), none, some (.int x4)] [.int r10, .ref a0, .long w2] A9
    obtain ⟨s13, h⟩ := h
    refine q_callV (ci := 11) (Mc := M_X11_total) (z := 1) (b := a0) (As := [.int r10]) (st := [.long w2]) mo_X11_total mi_X11_total ml_X11_189_X11_total rfl rfl (by decide) rfl (by decide) (by decide) rfl (Nat.le_of_ble_eq_true rfl) (by decide +kernel) s13 h (q_fI fun r12 A11 h => ?_)
    show q_Wp _ _ _ _ 0 0 207 [some (.ref a0), none, some (.long w2), none, some (.int x4)] [.int r12, .long w2] A11
    refine q_blk (pc' := 213) (lo' := [some (.ref a0), none, some (.long (w2 + (r12.toInt64))), none, some (.int (x4 + (nI 1)))]) (st' := []) [.i2l, .ladd, .lstore_n 2, .iinc 4 1] (by decide +kernel) rfl ?_
    refine q_goto 184 (off := -29) (by decide +kernel) (by decide) ?_
    exact h
theorem f_X11_purity {G : q_G} {X : String → q_H → Prop} {f : UInt64 → q_H → Prop} {A : q_H} {a0 : Nat} {x1 : Int32} (h : q_sh A a0 = (12, 0) ∧ q_Wc G M_X11_isMaterial [.ref a0, .int x1] A (q_KB fun b2 A1 => ((b2 = true → q_Wp G M_X11_purity (q_KD f) X 0 0 16 [some (.ref a0), some (.int x1)] [.int (q_i false), .int (q_i false), .int (q_i false), .ref a0] A1) ∧ (b2 = false → q_Wp G M_X11_purity (q_KD f) X 0 0 16 [some (.ref a0), some (.int x1)] [.int (q_i false), .int (q_i false), .int (q_i true), .ref a0] A1))) q_nX) : q_Wc G M_X11_purity [.ref a0, .int x1] A (q_KD f) X := by
  refine q_Wc.of [some (.ref a0), some (.int x1)] mo_X11_purity.2.2.2.2.2 rfl (Nat.le_of_ble_eq_true rfl) rfl ?_
  refine q_blk (pc' := 3) (lo' := [some (.ref a0), some (.int x1)]) (st' := [.int x1, .ref a0, .ref a0]) [.aload_n 0, .aload_n 0, .iload_n 1] (by decide +kernel) rfl ?_
  obtain ⟨s3, h⟩ := h
  refine q_callV (ci := 11) (Mc := M_X11_isMaterial) (z := 1) (b := a0) (As := [.int x1]) (st := [.ref a0]) mo_X11_isMaterial mi_X11_isMaterial ml_X11_274_X11_isMaterial rfl rfl (by decide) rfl (by decide) (by decide) rfl (Nat.le_of_ble_eq_true rfl) (by decide +kernel) s3 h (q_fB fun b2 A1 h => ?_)
  show q_Wp _ _ _ _ 0 0 6 [some (.ref a0), some (.int x1)] [.int (q_i b2), .ref a0] A1
  refine q_ifB_ne 13 (off := 7) (by decide +kernel) (by decide) (fun c4 => ?_) (fun c4 => ?_)
  · have h := h.1 c4
    refine q_blk (pc' := 16) (lo' := [some (.ref a0), some (.int x1)]) (st' := [.int (nI 0), .int (nI 0), .int (nI 0), .ref a0]) [.iconst 0, .iconst 0, .iconst 0] (by decide +kernel) rfl ?_
    exact h
  · have h := h.2 c4
    refine q_blk (pc' := 10) (lo' := [some (.ref a0), some (.int x1)]) (st' := [.int (nI 1), .ref a0]) [.iconst 1] (by decide +kernel) rfl ?_
    refine q_goto 14 (off := 4) (by decide +kernel) (by decide) ?_
    refine q_blk (pc' := 16) (lo' := [some (.ref a0), some (.int x1)]) (st' := [.int (nI 0), .int (nI 0), .int (nI 1), .ref a0]) [.iconst 0, .iconst 0] (by decide +kernel) rfl ?_
    exact h
theorem f_X11_purity_16 {G : q_G} {X : String → q_H → Prop} {f : UInt64 → q_H → Prop} {A : q_H} {a0 : Nat} {x1 : Int32} {p0 : Bool} {p1 : Bool} {p2 : Bool} {u3 : Nat} (h : q_sh A u3 = (12, 0) ∧ q_Wc G M_X11_fails [.ref u3, .int (q_i p2), .int (q_i p1), .int (q_i p0)] A (q_KB fun b2 A1 => ((b2 = true → f FP.dconst0 A1) ∧ (b2 = false → q_sh A1 a0 = (12, 0) ∧ ∃ r7 : Nat, q_R A1 a0 6 = some r7 ∧ ∃ z10 : Nat, q_sh A1 r7 = (50, z10) ∧ z10 < 2147483648 ∧ ∃ j12 : Nat, ((nI 36) + x1) = nI j12 ∧ j12 < z10 ∧ (((q_I A1 r7 j12) = nI 0 → f FP.dconst0 A1) ∧ (¬ (q_I A1 r7 j12) = nI 0 → ∃ j16 : Nat, ((nI 30) + x1) = nI j16 ∧ j16 < z10 ∧ vf_n64 (FP.ddiv (FP.i2d (q_I A1 r7 j16)) (FP.i2d (q_I A1 r7 j12))) ∧ f (FP.ddiv (FP.i2d (q_I A1 r7 j16)) (FP.i2d (q_I A1 r7 j12))) A1))))) q_nX) : q_Wp G M_X11_purity (q_KD f) X 0 0 16 [some (.ref a0), some (.int x1)] [.int (q_i p0), .int (q_i p1), .int (q_i p2), .ref u3] A := by
  obtain ⟨s3, h⟩ := h
  refine q_callV (ci := 11) (Mc := M_X11_fails) (z := 3) (b := u3) (As := [.int (q_i p2), .int (q_i p1), .int (q_i p0)]) (st := []) mo_X11_fails mi_X11_fails ml_X11_260_X11_fails rfl rfl (by decide) rfl (by decide) (by decide) rfl (Nat.le_of_ble_eq_true rfl) (by decide +kernel) s3 h (q_fB fun b2 A1 h => ?_)
  show q_Wp _ _ _ _ 0 0 19 [some (.ref a0), some (.int x1)] [.int (q_i b2)] A1
  refine q_ifB_eq 24 (off := 5) (by decide +kernel) (by decide) (fun c4 => ?_) (fun c4 => ?_)
  · have h := h.2 c4
    refine q_blk (pc' := 25) (lo' := [some (.ref a0), some (.int x1)]) (st' := [.ref a0]) [.aload_n 0] (by decide +kernel) rfl ?_
    obtain ⟨s6, h⟩ := h
    obtain ⟨r7, e8, h⟩ := h
    refine q_getR fl_X11_30 rfl (by decide) (by decide +kernel) s6 e8 ?_
    refine q_blk (pc' := 32) (lo' := [some (.ref a0), some (.int x1)]) (st' := [.int ((nI 36) + x1), .ref r7]) [.bipush 36, .iload_n 1, .iadd] (by decide +kernel) rfl ?_
    obtain ⟨z10, s9, b11, h⟩ := h
    obtain ⟨j12, e13, h⟩ := h
    obtain ⟨l14, h⟩ := h
    refine q_iald e13 (by decide +kernel) s9 l14 b11 ?_
    refine q_if_ne 40 (off := 7) (by decide +kernel) (by decide) (fun c15 => ?_) (fun c15 => ?_)
    · have h := h.2 c15
      refine q_blk (pc' := 41) (lo' := [some (.ref a0), some (.int x1)]) (st' := [.ref a0]) [.aload_n 0] (by decide +kernel) rfl ?_
      refine q_getR fl_X11_30 rfl (by decide) (by decide +kernel) s6 e8 ?_
      refine q_blk (pc' := 48) (lo' := [some (.ref a0), some (.int x1)]) (st' := [.int ((nI 30) + x1), .ref r7]) [.bipush 30, .iload_n 1, .iadd] (by decide +kernel) rfl ?_
      obtain ⟨j16, e17, h⟩ := h
      obtain ⟨l18, h⟩ := h
      refine q_iald e17 (by decide +kernel) s9 l18 b11 ?_
      refine q_blk (pc' := 51) (lo' := [some (.ref a0), some (.int x1)]) (st' := [.ref a0, .double (FP.i2d (q_I A1 r7 j16))]) [.i2d, .aload_n 0] (by decide +kernel) rfl ?_
      refine q_getR fl_X11_30 rfl (by decide) (by decide +kernel) s6 e8 ?_
      refine q_blk (pc' := 58) (lo' := [some (.ref a0), some (.int x1)]) (st' := [.int ((nI 36) + x1), .ref r7, .double (FP.i2d (q_I A1 r7 j16))]) [.bipush 36, .iload_n 1, .iadd] (by decide +kernel) rfl ?_
      refine q_iald e13 (by decide +kernel) s9 l14 b11 ?_
      refine q_blk (pc' := 60) (lo' := [some (.ref a0), some (.int x1)]) (st' := [.double (FP.i2d (q_I A1 r7 j12)), .double (FP.i2d (q_I A1 r7 j16))]) [.i2d] (by decide +kernel) rfl ?_
      obtain ⟨d19, h⟩ := h
      refine q_ddiv (by decide +kernel) d19 ?_
      exact q_retD rfl (by decide) (by decide) (by decide +kernel) ⟨_, rfl, h⟩
    · have h := h.1 c15
      refine q_dconst0 (by decide +kernel) ?_
      refine q_goto 61 (off := 24) (by decide +kernel) (by decide) ?_
      exact q_retD rfl (by decide) (by decide) (by decide +kernel) ⟨_, rfl, h⟩
  · have h := h.1 c4
    refine q_dconst0 (by decide +kernel) ?_
    exact q_retD rfl (by decide) (by decide) (by decide +kernel) ⟨_, rfl, h⟩
theorem f_X11_loss {G : q_G} {X : String → q_H → Prop} {f : UInt32 → q_H → Prop} {A : q_H} {a0 : Nat} (h : q_sh A a0 = (12, 0) ∧ q_Wc G M_X11_total [.ref a0, .int (nI 24)] (q_setI A a0 0 (nI 0)) (q_KI fun r3 A2 => q_sh A2 a0 = (12, 0) ∧ ∃ r5 : Nat, q_R A2 a0 6 = some r5 ∧ ∃ z8 : Nat, q_sh A2 r5 = (50, z8) ∧ z8 < 2147483648 ∧ 19 < z8 ∧ (((r3 + (q_I A2 r5 19)) = nI 0 → f FP.fconst0 A2) ∧ (¬ (r3 + (q_I A2 r5 19)) = nI 0 → vf_n32 (FP.fdiv (FP.i2f r3) (FP.i2f (r3 + (q_I A2 r5 19)))) ∧ f (FP.fdiv (FP.i2f r3) (FP.i2f (r3 + (q_I A2 r5 19)))) A2))) q_nX) : q_Wc G M_X11_loss [.ref a0] A (q_KF f) X := by
  refine q_Wc.of [some (.ref a0), none] mo_X11_loss.2.2.2.2.2 rfl (Nat.le_of_ble_eq_true rfl) rfl ?_
  refine q_blk (pc' := 2) (lo' := [some (.ref a0), none]) (st' := [.int (nI 0), .ref a0]) [.aload_n 0, .iconst 0] (by decide +kernel) rfl ?_
  obtain ⟨s1, h⟩ := h
  refine q_putI fw_X11_1 rfl (by decide) (by decide +kernel) s1 ?_
  refine q_blk (pc' := 8) (lo' := [some (.ref a0), none]) (st' := [.int (nI 24), .ref a0]) [.aload_n 0, .bipush 24] (by decide +kernel) rfl ?_
  refine q_callV (ci := 11) (Mc := M_X11_total) (z := 1) (b := a0) (As := [.int (nI 24)]) (st := []) mo_X11_total mi_X11_total ml_X11_189_X11_total rfl rfl (by decide) rfl (by decide) (by decide) rfl (Nat.le_of_ble_eq_true rfl) (by decide +kernel) s1 h (q_fI fun r3 A2 h => ?_)
  show q_Wp _ _ _ _ 0 0 11 [some (.ref a0), none] [.int r3] A2
  refine q_blk (pc' := 14) (lo' := [some (.ref a0), some (.int r3)]) (st' := [.ref a0, .int r3]) [.istore_n 1, .iload_n 1, .aload_n 0] (by decide +kernel) rfl ?_
  obtain ⟨s4, h⟩ := h
  obtain ⟨r5, e6, h⟩ := h
  refine q_getR fl_X11_30 rfl (by decide) (by decide +kernel) s4 e6 ?_
  refine q_blk (pc' := 19) (lo' := [some (.ref a0), some (.int r3)]) (st' := [.int (nI 19), .ref r5, .int r3]) [.bipush 19] (by decide +kernel) rfl ?_
  obtain ⟨z8, s7, b9, h⟩ := h
  obtain ⟨l10, h⟩ := h
  refine q_iald rfl (by decide +kernel) s7 l10 b9 ?_
  refine q_blk (pc' := 21) (lo' := [some (.ref a0), some (.int r3)]) (st' := [.int (r3 + (q_I A2 r5 19))]) [.iadd] (by decide +kernel) rfl ?_
  refine q_if_ne 28 (off := 7) (by decide +kernel) (by decide) (fun c11 => ?_) (fun c11 => ?_)
  · have h := h.2 c11
    refine q_blk (pc' := 32) (lo' := [some (.ref a0), some (.int r3)]) (st' := [.ref a0, .int r3, .float (FP.i2f r3)]) [.iload_n 1, .i2f, .iload_n 1, .aload_n 0] (by decide +kernel) rfl ?_
    refine q_getR fl_X11_30 rfl (by decide) (by decide +kernel) s4 e6 ?_
    refine q_blk (pc' := 37) (lo' := [some (.ref a0), some (.int r3)]) (st' := [.int (nI 19), .ref r5, .int r3, .float (FP.i2f r3)]) [.bipush 19] (by decide +kernel) rfl ?_
    refine q_iald rfl (by decide +kernel) s7 l10 b9 ?_
    refine q_blk (pc' := 40) (lo' := [some (.ref a0), some (.int r3)]) (st' := [.float (FP.i2f (r3 + (q_I A2 r5 19))), .float (FP.i2f r3)]) [.iadd, .i2f] (by decide +kernel) rfl ?_
    obtain ⟨d12, h⟩ := h
    refine q_fdiv (by decide +kernel) d12 ?_
    exact q_retF rfl (by decide) (by decide) (by decide +kernel) ⟨_, rfl, h⟩
  · have h := h.1 c11
    refine q_fconst0 (by decide +kernel) ?_
    refine q_goto 41 (off := 16) (by decide +kernel) (by decide) ?_
    exact q_retF rfl (by decide) (by decide) (by decide +kernel) ⟨_, rfl, h⟩
theorem f_X11_load {G : q_G} {X : String → q_H → Prop} {f : Int32 → q_H → Prop} {A : q_H} {a0 : Nat} {x1 : Int32} {x2 : Int32} (h : q_sh A a0 = (12, 0) ∧ q_Wc G M_X11_isMaterial [.ref a0, .int x1] A (q_KB fun b2 A1 => ((b2 = true → q_Wc G M_X11_isIn [.long (x2.toInt64), .long (lN 1), .long (lN 999)] A1 (q_KB fun b19 A18 => ((b19 = true → ((b2 = true → ((b2 = true → q_sh A18 a0 = (12, 0) ∧ ∃ r50 : Nat, q_R A18 a0 6 = some r50 ∧ ∃ z53 : Nat, q_sh A18 r50 = (50, z53) ∧ z53 < 2147483648 ∧ 9 < z53 ∧ (((q_I A18 r50 9) = (nI 30) → q_Wp G M_X11_load (q_KI f) X 0 0 75 [some (.ref a0), some (.int x1), some (.int x2), none, none, none, none] [.int (q_i true), .int (q_i false), .int (q_i false), .ref a0] A18) ∧ (¬ (q_I A18 r50 9) = (nI 30) → q_Wp G M_X11_load (q_KI f) X 0 0 75 [some (.ref a0), some (.int x1), some (.int x2), none, none, none, none] [.int (q_i false), .int (q_i false), .int (q_i false), .ref a0] A18))) ∧ (b2 = false → q_sh A18 a0 = (12, 0) ∧ ∃ r40 : Nat, q_R A18 a0 6 = some r40 ∧ ∃ z43 : Nat, q_sh A18 r40 = (50, z43) ∧ z43 < 2147483648 ∧ 9 < z43 ∧ (((q_I A18 r40 9) = (nI 30) → q_Wp G M_X11_load (q_KI f) X 0 0 75 [some (.ref a0), some (.int x1), some (.int x2), none, none, none, none] [.int (q_i true), .int (q_i false), .int (q_i false), .ref a0] A18) ∧ (¬ (q_I A18 r40 9) = (nI 30) → q_Wp G M_X11_load (q_KI f) X 0 0 75 [some (.ref a0), some (.int x1), some (.int x2), none, none, none, none] [.int (q_i false), .int (q_i false), .int (q_i false), .ref a0] A18))))) ∧ (b2 = false → ((b2 = true → q_sh A18 a0 = (12, 0) ∧ ∃ r71 : Nat, q_R A18 a0 6 = some r71 ∧ ∃ z74 : Nat, q_sh A18 r71 = (50, z74) ∧ z74 < 2147483648 ∧ 9 < z74 ∧ (((q_I A18 r71 9) = (nI 30) → q_Wp G M_X11_load (q_KI f) X 0 0 75 [some (.ref a0), some (.int x1), some (.int x2), none, none, none, none] [.int (q_i true), .int (q_i false), .int (q_i true), .ref a0] A18) ∧ (¬ (q_I A18 r71 9) = (nI 30) → q_Wp G M_X11_load (q_KI f) X 0 0 75 [some (.ref a0), some (.int x1), some (.int x2), none, none, none, none] [.int (q_i false), .int (q_i false), .int (q_i true), .ref a0] A18))) ∧ (b2 = false → q_sh A18 a0 = (12, 0) ∧ ∃ r61 : Nat, q_R A18 a0 6 = some r61 ∧ ∃ z64 : Nat, q_sh A18 r61 = (50, z64) ∧ z64 < 2147483648 ∧ 9 < z64 ∧ (((q_I A18 r61 9) = (nI 30) → q_Wp G M_X11_load (q_KI f) X 0 0 75 [some (.ref a0), some (.int x1), some (.int x2), none, none, none, none] [.int (q_i true), .int (q_i false), .int (q_i true), .ref a0] A18) ∧ (¬ (q_I A18 r61 9) = (nI 30) → q_Wp G M_X11_load (q_KI f) X 0 0 75 [some (.ref a0), some (.int x1), some (.int x2), none, none, none, none] [.int (q_i false), .int (q_i false), .int (q_i true), .ref a0] A18))))))) ∧ (b19 = false → ((b2 = true → ((b2 = true → q_Wp G M_X11_load (q_KI f) X 0 0 75 [some (.ref a0), some (.int x1), some (.int x2), none, none, none, none] [.int (q_i false), .int (q_i true), .int (q_i false), .ref a0] A18) ∧ (b2 = false → q_Wp G M_X11_load (q_KI f) X 0 0 75 [some (.ref a0), some (.int x1), some (.int x2), none, none, none, none] [.int (q_i false), .int (q_i false), .int (q_i false), .ref a0] A18))) ∧ (b2 = false → ((b2 = true → q_Wp G M_X11_load (q_KI f) X 0 0 75 [some (.ref a0), some (.int x1), some (.int x2), none, none, none, none] [.int (q_i false), .int (q_i true), .int (q_i true), .ref a0] A18) ∧ (b2 = false → q_Wp G M_X11_load (q_KI f) X 0 0 75 [some (.ref a0), some (.int x1), some (.int x2), none, none, none, none] [.int (q_i false), .int (q_i false), .int (q_i true), .ref a0] A18))))))) q_nX) ∧ (b2 = false → ((b2 = true → ((b2 = true → q_Wp G M_X11_load (q_KI f) X 0 0 75 [some (.ref a0), some (.int x1), some (.int x2), none, none, none, none] [.int (q_i false), .int (q_i true), .int (q_i false), .ref a0] A1) ∧ (b2 = false → q_Wp G M_X11_load (q_KI f) X 0 0 75 [some (.ref a0), some (.int x1), some (.int x2), none, none, none, none] [.int (q_i false), .int (q_i false), .int (q_i false), .ref a0] A1))) ∧ (b2 = false → ((b2 = true → q_Wp G M_X11_load (q_KI f) X 0 0 75 [some (.ref a0), some (.int x1), some (.int x2), none, none, none, none] [.int (q_i false), .int (q_i true), .int (q_i true), .ref a0] A1) ∧ (b2 = false → q_Wp G M_X11_load (q_KI f) X 0 0 75 [some (.ref a0), some (.int x1), some (.int x2), none, none, none, none] [.int (q_i false), .int (q_i false), .int (q_i true), .ref a0] A1))))))) q_nX) : q_Wc G M_X11_load [.ref a0, .int x1, .int x2] A (q_KI f) X := by
  refine q_Wc.of [some (.ref a0), some (.int x1), some (.int x2), none, none, none, none] mo_X11_load.2.2.2.2.2 rfl (Nat.le_of_ble_eq_true rfl) rfl ?_
  refine q_blk (pc' := 2) (lo' := [some (.ref a0), some (.int x1), some (.int x2), none, none, none, none]) (st' := [.int x1, .ref a0]) [.aload_n 0, .iload_n 1] (by decide +kernel) rfl ?_
  obtain ⟨s3, h⟩ := h
  refine q_callV (ci := 11) (Mc := M_X11_isMaterial) (z := 1) (b := a0) (As := [.int x1]) (st := []) mo_X11_isMaterial mi_X11_isMaterial ml_X11_274_X11_isMaterial rfl rfl (by decide) rfl (by decide) (by decide) rfl (Nat.le_of_ble_eq_true rfl) (by decide +kernel) s3 h (q_fB fun b2 A1 h => ?_)
  show q_Wp _ _ _ _ 0 0 5 [some (.ref a0), some (.int x1), some (.int x2), none, none, none, none] [.int (q_i b2)] A1
  refine q_blk (pc' := 7) (lo' := [some (.ref a0), some (.int x1), some (.int x2), some (.int (q_i b2)), none, none, none]) (st' := [.int (q_i b2)]) [.istore_n 3, .iload_n 3] (by decide +kernel) rfl ?_
  refine q_ifB_eq 26 (off := 19) (by decide +kernel) (by decide) (fun c4 => ?_) (fun c4 => ?_)
  · have h := h.2 c4
    refine q_blk (pc' := 31) (lo' := [some (.ref a0), some (.int x1), some (.int x2), some (.int (q_i b2)), some (.int (nI 0)), none, none]) (st' := [.int (q_i b2), .ref a0]) [.iconst 0, .istore 4, .aload_n 0, .iload_n 3] (by decide +kernel) rfl ?_
    refine q_ifB_ne 38 (off := 7) (by decide +kernel) (by decide) (fun c6 => ?_) (fun c6 => ?_)
    · have h := h.1 c6
      refine q_blk (pc' := 40) (lo' := [some (.ref a0), some (.int x1), some (.int x2), some (.int (q_i b2)), some (.int (nI 0)), none, none]) (st' := [.int (q_i b2), .int (nI 0), .ref a0]) [.iconst 0, .iload_n 3] (by decide +kernel) rfl ?_
      refine q_ifB_eq 52 (off := 12) (by decide +kernel) (by decide) (fun c8 => ?_) (fun c8 => ?_)
      · have h := h.2 c8
        refine q_blk (pc' := 55) (lo' := [some (.ref a0), some (.int x1), some (.int x2), some (.int (q_i b2)), some (.int (nI 0)), none, none]) (st' := [.int (nI 0), .int (nI 0), .int (nI 0), .ref a0]) [.iconst 0, .iload 4] (by decide +kernel) rfl ?_
        refine q_if_eq 74 (off := 19) (by decide +kernel) (by decide) (fun _ => ?_) (fun c9 => absurd (by decide) c9)
        refine q_blk (pc' := 75) (lo' := [some (.ref a0), some (.int x1), some (.int x2), some (.int (q_i b2)), some (.int (nI 0)), none, none]) (st' := [.int (nI 0), .int (nI 0), .int (nI 0), .ref a0]) [.iconst 0] (by decide +kernel) rfl ?_
        exact q_wk [some (.ref a0), some (.int x1), some (.int x2), none, none, none, none] (And.intro rfl (And.intro rfl (And.intro rfl trivial))) h
      · have h := h.1 c8
        refine q_blk (pc' := 45) (lo' := [some (.ref a0), some (.int x1), some (.int x2), some (.int (q_i b2)), some (.int (nI 0)), none, none]) (st' := [.int (nI 0), .int (nI 0), .ref a0]) [.iload 4] (by decide +kernel) rfl ?_
        refine q_if_ne 52 (off := 7) (by decide +kernel) (by decide) (fun c9 => absurd (by decide) c9) (fun _ => ?_)
        refine q_blk (pc' := 49) (lo' := [some (.ref a0), some (.int x1), some (.int x2), some (.int (q_i b2)), some (.int (nI 0)), none, none]) (st' := [.int (nI 1), .int (nI 0), .ref a0]) [.iconst 1] (by decide +kernel) rfl ?_
        refine q_goto 53 (off := 4) (by decide +kernel) (by decide) ?_
        refine q_blk (pc' := 55) (lo' := [some (.ref a0), some (.int x1), some (.int x2), some (.int (q_i b2)), some (.int (nI 0)), none, none]) (st' := [.int (nI 0), .int (nI 1), .int (nI 0), .ref a0]) [.iload 4] (by decide +kernel) rfl ?_
        refine q_if_eq 74 (off := 19) (by decide +kernel) (by decide) (fun _ => ?_) (fun c9 => absurd (by decide) c9)
        refine q_blk (pc' := 75) (lo' := [some (.ref a0), some (.int x1), some (.int x2), some (.int (q_i b2)), some (.int (nI 0)), none, none]) (st' := [.int (nI 0), .int (nI 1), .int (nI 0), .ref a0]) [.iconst 0] (by decide +kernel) rfl ?_
        exact q_wk [some (.ref a0), some (.int x1), some (.int x2), none, none, none, none] (And.intro rfl (And.intro rfl (And.intro rfl trivial))) h
    · have h := h.2 c6
      refine q_blk (pc' := 35) (lo' := [some (.ref a0), some (.int x1), some (.int x2), some (.int (q_i b2)), some (.int (nI 0)), none, none]) (st' := [.int (nI 1), .ref a0]) [.iconst 1] (by decide +kernel) rfl ?_
      refine q_goto 39 (off := 4) (by decide +kernel) (by decide) ?_
      refine q_blk (pc' := 40) (lo' := [some (.ref a0), some (.int x1), some (.int x2), some (.int (q_i b2)), some (.int (nI 0)), none, none]) (st' := [.int (q_i b2), .int (nI 1), .ref a0]) [.iload_n 3] (by decide +kernel) rfl ?_
      refine q_ifB_eq 52 (off := 12) (by decide +kernel) (by decide) (fun c13 => ?_) (fun c13 => ?_)
      · have h := h.2 c13
        refine q_blk (pc' := 55) (lo' := [some (.ref a0), some (.int x1), some (.int x2), some (.int (q_i b2)), some (.int (nI 0)), none, none]) (st' := [.int (nI 0), .int (nI 0), .int (nI 1), .ref a0]) [.iconst 0, .iload 4] (by decide +kernel) rfl ?_
        refine q_if_eq 74 (off := 19) (by decide +kernel) (by decide) (fun _ => ?_) (fun c9 => absurd (by decide) c9)
        refine q_blk (pc' := 75) (lo' := [some (.ref a0), some (.int x1), some (.int x2), some (.int (q_i b2)), some (.int (nI 0)), none, none]) (st' := [.int (nI 0), .int (nI 0), .int (nI 1), .ref a0]) [.iconst 0] (by decide +kernel) rfl ?_
        exact q_wk [some (.ref a0), some (.int x1), some (.int x2), none, none, none, none] (And.intro rfl (And.intro rfl (And.intro rfl trivial))) h
      · have h := h.1 c13
        refine q_blk (pc' := 45) (lo' := [some (.ref a0), some (.int x1), some (.int x2), some (.int (q_i b2)), some (.int (nI 0)), none, none]) (st' := [.int (nI 0), .int (nI 1), .ref a0]) [.iload 4] (by decide +kernel) rfl ?_
        refine q_if_ne 52 (off := 7) (by decide +kernel) (by decide) (fun c9 => absurd (by decide) c9) (fun _ => ?_)
        refine q_blk (pc' := 49) (lo' := [some (.ref a0), some (.int x1), some (.int x2), some (.int (q_i b2)), some (.int (nI 0)), none, none]) (st' := [.int (nI 1), .int (nI 1), .ref a0]) [.iconst 1] (by decide +kernel) rfl ?_
        refine q_goto 53 (off := 4) (by decide +kernel) (by decide) ?_
        refine q_blk (pc' := 55) (lo' := [some (.ref a0), some (.int x1), some (.int x2), some (.int (q_i b2)), some (.int (nI 0)), none, none]) (st' := [.int (nI 0), .int (nI 1), .int (nI 1), .ref a0]) [.iload 4] (by decide +kernel) rfl ?_
        refine q_if_eq 74 (off := 19) (by decide +kernel) (by decide) (fun _ => ?_) (fun c9 => absurd (by decide) c9)
        refine q_blk (pc' := 75) (lo' := [some (.ref a0), some (.int x1), some (.int x2), some (.int (q_i b2)), some (.int (nI 0)), none, none]) (st' := [.int (nI 0), .int (nI 1), .int (nI 1), .ref a0]) [.iconst 0] (by decide +kernel) rfl ?_
        exact q_wk [some (.ref a0), some (.int x1), some (.int x2), none, none, none, none] (And.intro rfl (And.intro rfl (And.intro rfl trivial))) h
  · have h := h.1 c4
    refine q_blk (pc' := 13) (lo' := [some (.ref a0), some (.int x1), some (.int x2), some (.int (q_i b2)), none, none, none]) (st' := [.long (lN 1), .long (x2.toInt64)]) [.iload_n 2, .i2l, .lconst 1] (by decide +kernel) rfl ?_
    refine q_ldc2 (v := 999) c2_X11_287 (by decide +kernel) ?_
    --
    refine q_callS (Mc := M_X11_isIn) (z := 3) (As := [.long (x2.toInt64), .long (lN 1), .long (lN 999)]) (st := []) mo_X11_isIn ms_X11_isIn ml_X11_71_X11_isIn rfl rfl (by decide) (by decide) rfl (Nat.le_of_ble_eq_true rfl) (by decide +kernel) h (q_fB fun b19 A18 h => ?_)
    show q_Wp _ _ _ _ 0 0 19 [some (.ref a0), some (.int x1), some (.int x2), some (.int (q_i b2)), none, none, none] [.int (q_i b19)] A18
    refine q_ifB_eq 26 (off := 7) (by decide +kernel) (by decide) (fun c20 => ?_) (fun c20 => ?_)
    · have h := h.2 c20
      refine q_blk (pc' := 31) (lo' := [some (.ref a0), some (.int x1), some (.int x2), some (.int (q_i b2)), some (.int (nI 0)), none, none]) (st' := [.int (q_i b2), .ref a0]) [.iconst 0, .istore 4, .aload_n 0, .iload_n 3] (by decide +kernel) rfl ?_
      refine q_ifB_ne 38 (off := 7) (by decide +kernel) (by decide) (fun c22 => ?_) (fun c22 => ?_)
      · have h := h.1 c22
        refine q_blk (pc' := 40) (lo' := [some (.ref a0), some (.int x1), some (.int x2), some (.int (q_i b2)), some (.int (nI 0)), none, none]) (st' := [.int (q_i b2), .int (nI 0), .ref a0]) [.iconst 0, .iload_n 3] (by decide +kernel) rfl ?_
        refine q_ifB_eq 52 (off := 12) (by decide +kernel) (by decide) (fun c24 => ?_) (fun c24 => ?_)
        · have h := h.2 c24
          refine q_blk (pc' := 55) (lo' := [some (.ref a0), some (.int x1), some (.int x2), some (.int (q_i b2)), some (.int (nI 0)), none, none]) (st' := [.int (nI 0), .int (nI 0), .int (nI 0), .ref a0]) [.iconst 0, .iload 4] (by decide +kernel) rfl ?_
          refine q_if_eq 74 (off := 19) (by decide +kernel) (by decide) (fun _ => ?_) (fun c9 => absurd (by decide) c9)
          refine q_blk (pc' := 75) (lo' := [some (.ref a0), some (.int x1), some (.int x2), some (.int (q_i b2)), some (.int (nI 0)), none, none]) (st' := [.int (nI 0), .int (nI 0), .int (nI 0), .ref a0]) [.iconst 0] (by decide +kernel) rfl ?_
          exact q_wk [some (.ref a0), some (.int x1), some (.int x2), none, none, none, none] (And.intro rfl (And.intro rfl (And.intro rfl trivial))) h
        · have h := h.1 c24
          refine q_blk (pc' := 45) (lo' := [some (.ref a0), some (.int x1), some (.int x2), some (.int (q_i b2)), some (.int (nI 0)), none, none]) (st' := [.int (nI 0), .int (nI 0), .ref a0]) [.iload 4] (by decide +kernel) rfl ?_
          refine q_if_ne 52 (off := 7) (by decide +kernel) (by decide) (fun c9 => absurd (by decide) c9) (fun _ => ?_)
          refine q_blk (pc' := 49) (lo' := [some (.ref a0), some (.int x1), some (.int x2), some (.int (q_i b2)), some (.int (nI 0)), none, none]) (st' := [.int (nI 1), .int (nI 0), .ref a0]) [.iconst 1] (by decide +kernel) rfl ?_
          refine q_goto 53 (off := 4) (by decide +kernel) (by decide) ?_
          refine q_blk (pc' := 55) (lo' := [some (.ref a0), some (.int x1), some (.int x2), some (.int (q_i b2)), some (.int (nI 0)), none, none]) (st' := [.int (nI 0), .int (nI 1), .int (nI 0), .ref a0]) [.iload 4] (by decide +kernel) rfl ?_
          refine q_if_eq 74 (off := 19) (by decide +kernel) (by decide) (fun _ => ?_) (fun c9 => absurd (by decide) c9)
          refine q_blk (pc' := 75) (lo' := [some (.ref a0), some (.int x1), some (.int x2), some (.int (q_i b2)), some (.int (nI 0)), none, none]) (st' := [.int (nI 0), .int (nI 1), .int (nI 0), .ref a0]) [.iconst 0] (by decide +kernel) rfl ?_
          exact q_wk [some (.ref a0), some (.int x1), some (.int x2), none, none, none, none] (And.intro rfl (And.intro rfl (And.intro rfl trivial))) h
      · have h := h.2 c22
        refine q_blk (pc' := 35) (lo' := [some (.ref a0), some (.int x1), some (.int x2), some (.int (q_i b2)), some (.int (nI 0)), none, none]) (st' := [.int (nI 1), .ref a0]) [.iconst 1] (by decide +kernel) rfl ?_
        refine q_goto 39 (off := 4) (by decide +kernel) (by decide) ?_
        refine q_blk (pc' := 40) (lo' := [some (.ref a0), some (.int x1), some (.int x2), some (.int (q_i b2)), some (.int (nI 0)), none, none]) (st' := [.int (q_i b2), .int (nI 1), .ref a0]) [.iload_n 3] (by decide +kernel) rfl ?_
        refine q_ifB_eq 52 (off := 12) (by decide +kernel) (by decide) (fun c29 => ?_) (fun c29 => ?_)
        · have h := h.2 c29
          refine q_blk (pc' := 55) (lo' := [some (.ref a0), some (.int x1), some (.int x2), some (.int (q_i b2)), some (.int (nI 0)), none, none]) (st' := [.int (nI 0), .int (nI 0), .int (nI 1), .ref a0]) [.iconst 0, .iload 4] (by decide +kernel) rfl ?_
          refine q_if_eq 74 (off := 19) (by decide +kernel) (by decide) (fun _ => ?_) (fun c9 => absurd (by decide) c9)
          refine q_blk (pc' := 75) (lo' := [some (.ref a0), some (.int x1), some (.int x2), some (.int (q_i b2)), some (.int (nI 0)), none, none]) (st' := [.int (nI 0), .int (nI 0), .int (nI 1), .ref a0]) [.iconst 0] (by decide +kernel) rfl ?_
          exact q_wk [some (.ref a0), some (.int x1), some (.int x2), none, none, none, none] (And.intro rfl (And.intro rfl (And.intro rfl trivial))) h
        · have h := h.1 c29
          refine q_blk (pc' := 45) (lo' := [some (.ref a0), some (.int x1), some (.int x2), some (.int (q_i b2)), some (.int (nI 0)), none, none]) (st' := [.int (nI 0), .int (nI 1), .ref a0]) [.iload 4] (by decide +kernel) rfl ?_
          refine q_if_ne 52 (off := 7) (by decide +kernel) (by decide) (fun c9 => absurd (by decide) c9) (fun _ => ?_)
          refine q_blk (pc' := 49) (lo' := [some (.ref a0), some (.int x1), some (.int x2), some (.int (q_i b2)), some (.int (nI 0)), none, none]) (st' := [.int (nI 1), .int (nI 1), .ref a0]) [.iconst 1] (by decide +kernel) rfl ?_
          refine q_goto 53 (off := 4) (by decide +kernel) (by decide) ?_
          refine q_blk (pc' := 55) (lo' := [some (.ref a0), some (.int x1), some (.int x2), some (.int (q_i b2)), some (.int (nI 0)), none, none]) (st' := [.int (nI 0), .int (nI 1), .int (nI 1), .ref a0]) [.iload 4] (by decide +kernel) rfl ?_
          refine q_if_eq 74 (off := 19) (by decide +kernel) (by decide) (fun _ => ?_) (fun c9 => absurd (by decide) c9)
          refine q_blk (pc' := 75) (lo' := [some (.ref a0), some (.int x1), some (.int x2), some (.int (q_i b2)), some (.int (nI 0)), none, none]) (st' := [.int (nI 0), .int (nI 1), .int (nI 1), .ref a0]) [.iconst 0] (by decide +kernel) rfl ?_
          exact q_wk [some (.ref a0), some (.int x1), some (.int x2), none, none, none, none] (And.intro rfl (And.intro rfl (And.intro rfl trivial))) h
    · have h := h.1 c20
      refine q_blk (pc' := 23) (lo' := [some (.ref a0), some (.int x1), some (.int x2), some (.int (q_i b2)), none, none, none]) (st' := [.int (nI 1)]) [.iconst 1] (by decide +kernel) rfl ?_
      refine q_goto 27 (off := 4) (by decide +kernel) (by decide) ?_
      refine q_blk (pc' := 31) (lo' := [some (.ref a0), some (.int x1), some (.int x2), some (.int (q_i b2)), some (.int (nI 1)), none, none]) (st' := [.int (q_i b2), .ref a0]) [.istore 4, .aload_n 0, .iload_n 3] (by decide +kernel) rfl ?_
      refine q_ifB_ne 38 (off := 7) (by decide +kernel) (by decide) (fun c34 => ?_) (fun c34 => ?_)
      · have h := h.1 c34
        refine q_blk (pc' := 40) (lo' := [some (.ref a0), some (.int x1), some (.int x2), some (.int (q_i b2)), some (.int (nI 1)), none, none]) (st' := [.int (q_i b2), .int (nI 0), .ref a0]) [.iconst 0, .iload_n 3] (by decide +kernel) rfl ?_
        refine q_ifB_eq 52 (off := 12) (by decide +kernel) (by decide) (fun c36 => ?_) (fun c36 => ?_)
        · have h := h.2 c36
          refine q_blk (pc' := 55) (lo' := [some (.ref a0), some (.int x1), some (.int x2), some (.int (q_i b2)), some (.int (nI 1)), none, none]) (st' := [.int (nI 1), .int (nI 0), .int (nI 0), .ref a0]) [.iconst 0, .iload 4] (by decide +kernel) rfl ?_
          refine q_if_eq 74 (off := 19) (by decide +kernel) (by decide) (fun c9 => absurd c9 (by decide)) (fun _ => ?_)
          refine q_blk (pc' := 59) (lo' := [some (.ref a0), some (.int x1), some (.int x2), some (.int (q_i b2)), some (.int (nI 1)), none, none]) (st' := [.ref a0, .int (nI 0), .int (nI 0), .ref a0]) [.aload_n 0] (by decide +kernel) rfl ?_
          obtain ⟨s39, h⟩ := h
          obtain ⟨r40, e41, h⟩ := h
          refine q_getR fl_X11_30 rfl (by decide) (by decide +kernel) s39 e41 ?_
          refine q_blk (pc' := 64) (lo' := [some (.ref a0), some (.int x1), some (.int x2), some (.int (q_i b2)), some (.int (nI 1)), none, none]) (st' := [.int (nI 9), .ref r40, .int (nI 0), .int (nI 0), .ref a0]) [.bipush 9] (by decide +kernel) rfl ?_
          obtain ⟨z43, s42, b44, h⟩ := h
          obtain ⟨l45, h⟩ := h
          refine q_iald rfl (by decide +kernel) s42 l45 b44 ?_
          refine q_blk (pc' := 67) (lo' := [some (.ref a0), some (.int x1), some (.int x2), some (.int (q_i b2)), some (.int (nI 1)), none, none]) (st' := [.int (nI 30), .int (q_I A18 r40 9), .int (nI 0), .int (nI 0), .ref a0]) [.bipush 30] (by decide +kernel) rfl ?_
          refine q_icmp_ne 74 (off := 7) (by decide +kernel) (by decide) (fun c46 => ?_) (fun c46 => ?_)
          · have h := h.2 c46
            refine q_blk (pc' := 75) (lo' := [some (.ref a0), some (.int x1), some (.int x2), some (.int (q_i b2)), some (.int (nI 1)), none, none]) (st' := [.int (nI 0), .int (nI 0), .int (nI 0), .ref a0]) [.iconst 0] (by decide +kernel) rfl ?_
            exact q_wk [some (.ref a0), some (.int x1), some (.int x2), none, none, none, none] (And.intro rfl (And.intro rfl (And.intro rfl trivial))) h
          · have h := h.1 c46
            refine q_blk (pc' := 71) (lo' := [some (.ref a0), some (.int x1), some (.int x2), some (.int (q_i b2)), some (.int (nI 1)), none, none]) (st' := [.int (nI 1), .int (nI 0), .int (nI 0), .ref a0]) [.iconst 1] (by decide +kernel) rfl ?_
            refine q_goto 75 (off := 4) (by decide +kernel) (by decide) ?_
            exact q_wk [some (.ref a0), some (.int x1), some (.int x2), none, none, none, none] (And.intro rfl (And.intro rfl (And.intro rfl trivial))) h
        · have h := h.1 c36
          refine q_blk (pc' := 45) (lo' := [some (.ref a0), some (.int x1), some (.int x2), some (.int (q_i b2)), some (.int (nI 1)), none, none]) (st' := [.int (nI 1), .int (nI 0), .ref a0]) [.iload 4] (by decide +kernel) rfl ?_
          refine q_if_ne 52 (off := 7) (by decide +kernel) (by decide) (fun _ => ?_) (fun c9 => absurd c9 (by decide))
          refine q_blk (pc' := 55) (lo' := [some (.ref a0), some (.int x1), some (.int x2), some (.int (q_i b2)), some (.int (nI 1)), none, none]) (st' := [.int (nI 1), .int (nI 0), .int (nI 0), .ref a0]) [.iconst 0, .iload 4] (by decide +kernel) rfl ?_
          refine q_if_eq 74 (off := 19) (by decide +kernel) (by decide) (fun c9 => absurd c9 (by decide)) (fun _ => ?_)
          refine q_blk (pc' := 59) (lo' := [some (.ref a0), some (.int x1), some (.int x2), some (.int (q_i b2)), some (.int (nI 1)), none, none]) (st' := [.ref a0, .int (nI 0), .int (nI 0), .ref a0]) [.aload_n 0] (by decide +kernel) rfl ?_
          obtain ⟨s49, h⟩ := h
          obtain ⟨r50, e51, h⟩ := h
          refine q_getR fl_X11_30 rfl (by decide) (by decide +kernel) s49 e51 ?_
          refine q_blk (pc' := 64) (lo' := [some (.ref a0), some (.int x1), some (.int x2), some (.int (q_i b2)), some (.int (nI 1)), none, none]) (st' := [.int (nI 9), .ref r50, .int (nI 0), .int (nI 0), .ref a0]) [.bipush 9] (by decide +kernel) rfl ?_
          obtain ⟨z53, s52, b54, h⟩ := h
          obtain ⟨l55, h⟩ := h
          refine q_iald rfl (by decide +kernel) s52 l55 b54 ?_
          refine q_blk (pc' := 67) (lo' := [some (.ref a0), some (.int x1), some (.int x2), some (.int (q_i b2)), some (.int (nI 1)), none, none]) (st' := [.int (nI 30), .int (q_I A18 r50 9), .int (nI 0), .int (nI 0), .ref a0]) [.bipush 30] (by decide +kernel) rfl ?_
          refine q_icmp_ne 74 (off := 7) (by decide +kernel) (by decide) (fun c56 => ?_) (fun c56 => ?_)
          · have h := h.2 c56
            refine q_blk (pc' := 75) (lo' := [some (.ref a0), some (.int x1), some (.int x2), some (.int (q_i b2)), some (.int (nI 1)), none, none]) (st' := [.int (nI 0), .int (nI 0), .int (nI 0), .ref a0]) [.iconst 0] (by decide +kernel) rfl ?_
            exact q_wk [some (.ref a0), some (.int x1), some (.int x2), none, none, none, none] (And.intro rfl (And.intro rfl (And.intro rfl trivial))) h
          · have h := h.1 c56
            refine q_blk (pc' := 71) (lo' := [some (.ref a0), some (.int x1), some (.int x2), some (.int (q_i b2)), some (.int (nI 1)), none, none]) (st' := [.int (nI 1), .int (nI 0), .int (nI 0), .ref a0]) [.iconst 1] (by decide +kernel) rfl ?_
            refine q_goto 75 (off := 4) (by decide +kernel) (by decide) ?_
            exact q_wk [some (.ref a0), some (.int x1), some (.int x2), none, none, none, none] (And.intro rfl (And.intro rfl (And.intro rfl trivial))) h
      · have h := h.2 c34
        refine q_blk (pc' := 35) (lo' := [some (.ref a0), some (.int x1), some (.int x2), some (.int (q_i b2)), some (.int (nI 1)), none, none]) (st' := [.int (nI 1), .ref a0]) [.iconst 1] (by decide +kernel) rfl ?_
        refine q_goto 39 (off := 4) (by decide +kernel) (by decide) ?_
        refine q_blk (pc' := 40) (lo' := [some (.ref a0), some (.int x1), some (.int x2), some (.int (q_i b2)), some (.int (nI 1)), none, none]) (st' := [.int (q_i b2), .int (nI 1), .ref a0]) [.iload_n 3] (by decide +kernel) rfl ?_
        refine q_ifB_eq 52 (off := 12) (by decide +kernel) (by decide) (fun c57 => ?_) (fun c57 => ?_)
        · have h := h.2 c57
          refine q_blk (pc' := 55) (lo' := [some (.ref a0), some (.int x1), some (.int x2), some (.int (q_i b2)), some (.int (nI 1)), none, none]) (st' := [.int (nI 1), .int (nI 0), .int (nI 1), .ref a0]) [.iconst 0, .iload 4] (by decide +kernel) rfl ?_
          refine q_if_eq 74 (off := 19) (by decide +kernel) (by decide) (fun c9 => absurd c9 (by decide)) (fun _ => ?_)
          refine q_blk (pc' := 59) (lo' := [some (.ref a0), some (.int x1), some (.int x2), some (.int (q_i b2)), some (.int (nI 1)), none, none]) (st' := [.ref a0, .int (nI 0), .int (nI 1), .ref a0]) [.aload_n 0] (by decide +kernel) rfl ?_
          obtain ⟨s60, h⟩ := h
          obtain ⟨r61, e62, h⟩ := h
          refine q_getR fl_X11_30 rfl (by decide) (by decide +kernel) s60 e62 ?_
          refine q_blk (pc' := 64) (lo' := [some (.ref a0), some (.int x1), some (.int x2), some (.int (q_i b2)), some (.int (nI 1)), none, none]) (st' := [.int (nI 9), .ref r61, .int (nI 0), .int (nI 1), .ref a0]) [.bipush 9] (by decide +kernel) rfl ?_
          obtain ⟨z64, s63, b65, h⟩ := h
          obtain ⟨l66, h⟩ := h
          refine q_iald rfl (by decide +kernel) s63 l66 b65 ?_
          refine q_blk (pc' := 67) (lo' := [some (.ref a0), some (.int x1), some (.int x2), some (.int (q_i b2)), some (.int (nI 1)), none, none]) (st' := [.int (nI 30), .int (q_I A18 r61 9), .int (nI 0), .int (nI 1), .ref a0]) [.bipush 30] (by decide +kernel) rfl ?_
          refine q_icmp_ne 74 (off := 7) (by decide +kernel) (by decide) (fun c67 => ?_) (fun c67 => ?_)
          · have h := h.2 c67
            refine q_blk (pc' := 75) (lo' := [some (.ref a0), some (.int x1), some (.int x2), some (.int (q_i b2)), some (.int (nI 1)), none, none]) (st' := [.int (nI 0), .int (nI 0), .int (nI 1), .ref a0]) [.iconst 0] (by decide +kernel) rfl ?_
            exact q_wk [some (.ref a0), some (.int x1), some (.int x2), none, none, none, none] (And.intro rfl (And.intro rfl (And.intro rfl trivial))) h
          · have h := h.1 c67
            refine q_blk (pc' := 71) (lo' := [some (.ref a0), some (.int x1), some (.int x2), some (.int (q_i b2)), some (.int (nI 1)), none, none]) (st' := [.int (nI 1), .int (nI 0), .int (nI 1), .ref a0]) [.iconst 1] (by decide +kernel) rfl ?_
            refine q_goto 75 (off := 4) (by decide +kernel) (by decide) ?_
            exact q_wk [some (.ref a0), some (.int x1), some (.int x2), none, none, none, none] (And.intro rfl (And.intro rfl (And.intro rfl trivial))) h
        · have h := h.1 c57
          refine q_blk (pc' := 45) (lo' := [some (.ref a0), some (.int x1), some (.int x2), some (.int (q_i b2)), some (.int (nI 1)), none, none]) (st' := [.int (nI 1), .int (nI 1), .ref a0]) [.iload 4] (by decide +kernel) rfl ?_
          refine q_if_ne 52 (off := 7) (by decide +kernel) (by decide) (fun _ => ?_) (fun c9 => absurd c9 (by decide))
          refine q_blk (pc' := 55) (lo' := [some (.ref a0), some (.int x1), some (.int x2), some (.int (q_i b2)), some (.int (nI 1)), none, none]) (st' := [.int (nI 1), .int (nI 0), .int (nI 1), .ref a0]) [.iconst 0, .iload 4] (by decide +kernel) rfl ?_
          refine q_if_eq 74 (off := 19) (by decide +kernel) (by decide) (fun c9 => absurd c9 (by decide)) (fun _ => ?_)
          refine q_blk (pc' := 59) (lo' := [some (.ref a0), some (.int x1), some (.int x2), some (.int (q_i b2)), some (.int (nI 1)), none, none]) (st' := [.ref a0, .int (nI 0), .int (nI 1), .ref a0]) [.aload_n 0] (by decide +kernel) rfl ?_
          obtain ⟨s70, h⟩ := h
          obtain ⟨r71, e72, h⟩ := h
          refine q_getR fl_X11_30 rfl (by decide) (by decide +kernel) s70 e72 ?_
          refine q_blk (pc' := 64) (lo' := [some (.ref a0), some (.int x1), some (.int x2), some (.int (q_i b2)), some (.int (nI 1)), none, none]) (st' := [.int (nI 9), .ref r71, .int (nI 0), .int (nI 1), .ref a0]) [.bipush 9] (by decide +kernel) rfl ?_
          obtain ⟨z74, s73, b75, h⟩ := h
          obtain ⟨l76, h⟩ := h
          refine q_iald rfl (by decide +kernel) s73 l76 b75 ?_
          refine q_blk (pc' := 67) (lo' := [some (.ref a0), some (.int x1), some (.int x2), some (.int (q_i b2)), some (.int (nI 1)), none, none]) (st' := [.int (nI 30), .int (q_I A18 r71 9), .int (nI 0), .int (nI 1), .ref a0]) [.bipush 30] (by decide +kernel) rfl ?_
          refine q_icmp_ne 74 (off := 7) (by decide +kernel) (by decide) (fun c77 => ?_) (fun c77 => ?_)
          · have h := h.2 c77
            refine q_blk (pc' := 75) (lo' := [some (.ref a0), some (.int x1), some (.int x2), some (.int (q_i b2)), some (.int (nI 1)), none, none]) (st' := [.int (nI 0), .int (nI 0), .int (nI 1), .ref a0]) [.iconst 0] (by decide +kernel) rfl ?_
            exact q_wk [some (.ref a0), some (.int x1), some (.int x2), none, none, none, none] (And.intro rfl (And.intro rfl (And.intro rfl trivial))) h
          · have h := h.1 c77
            refine q_blk (pc' := 71) (lo' := [some (.ref a0), some (.int x1), some (.int x2), some (.int (q_i b2)), some (.int (nI 1)), none, none]) (st' := [.int (nI 1), .int (nI 0), .int (nI 1), .ref a0]) [.iconst 1] (by decide +kernel) rfl ?_
            refine q_goto 75 (off := 4) (by decide +kernel) (by decide) ?_
            exact q_wk [some (.ref a0), some (.int x1), some (.int x2), none, none, none, none] (And.intro rfl (And.intro rfl (And.intro rfl trivial))) h
theorem f_X11_load_75 {G : q_G} {X : String → q_H → Prop} {f : Int32 → q_H → Prop} {A : q_H} {a0 : Nat} {x1 : Int32} {x2 : Int32} {p0 : Bool} {p1 : Bool} {p2 : Bool} {u3 : Nat} (h : q_sh A u3 = (12, 0) ∧ q_Wc G M_X11_fails [.ref u3, .int (q_i p2), .int (q_i p1), .int (q_i p0)] A (q_KB fun b2 A1 => ((b2 = true → f (nI 0) A1) ∧ (b2 = false → q_sh A1 a0 = (12, 0) ∧ q_Wc G M_X11_remembers [.ref a0] A1 (q_KV fun A6 => q_sh A6 a0 = (12, 0) ∧ ∃ r10 : Nat, q_R A6 a0 6 = some r10 ∧ ∃ z13 : Nat, q_sh A6 r10 = (50, z13) ∧ z13 < 2147483648 ∧ 9 < z13 ∧ q_Wc G M_X11_parcelAt [.int (q_I A6 r10 9)] A6 (q_KI fun r17 A16 => q_Wp G M_X11_load (q_KI f) X 0 0 102 [some (.ref a0), some (.int x1), some (.int x2), none, none, some (.int r17), some (.int (nI 0))] [] A16) q_nX) q_nX))) q_nX) : q_Wp G M_X11_load (q_KI f) X 0 0 75 [some (.ref a0), some (.int x1), some (.int x2), none, none, none, none] [.int (q_i p0), .int (q_i p1), .int (q_i p2), .ref u3] A := by
  obtain ⟨s3, h⟩ := h
  refine q_callV (ci := 11) (Mc := M_X11_fails) (z := 3) (b := u3) (As := [.int (q_i p2), .int (q_i p1), .int (q_i p0)]) (st := []) mo_X11_fails mi_X11_fails ml_X11_260_X11_fails rfl rfl (by decide) rfl (by decide) (by decide) rfl (Nat.le_of_ble_eq_true rfl) (by decide +kernel) s3 h (q_fB fun b2 A1 h => ?_)
  show q_Wp _ _ _ _ 0 0 78 [some (.ref a0), some (.int x1), some (.int x2), none, none, none, none] [.int (q_i b2)] A1
  refine q_ifB_eq 83 (off := 5) (by decide +kernel) (by decide) (fun c4 => ?_) (fun c4 => ?_)
  · have h := h.2 c4
    refine q_blk (pc' := 84) (lo' := [some (.ref a0), some (.int x1), some (.int x2), none, none, none, none]) (st' := [.ref a0]) [.aload_n 0] (by decide +kernel) rfl ?_
    obtain ⟨s8, h⟩ := h
    refine q_callV (ci := 11) (Mc := M_X11_remembers) (z := 0) (b := a0) (As := []) (st := []) mo_X11_remembers mi_X11_remembers ml_X11_289_X11_remembers rfl rfl (by decide) rfl (by decide) (by decide) rfl (Nat.le_of_ble_eq_true rfl) (by decide +kernel) s8 h (q_fV fun A6 h => ?_)
    show q_Wp _ _ _ _ 0 0 87 [some (.ref a0), some (.int x1), some (.int x2), none, none, none, none] [] A6
    refine q_blk (pc' := 88) (lo' := [some (.ref a0), some (.int x1), some (.int x2), none, none, none, none]) (st' := [.ref a0]) [.aload_n 0] (by decide +kernel) rfl ?_
    obtain ⟨s9, h⟩ := h
    obtain ⟨r10, e11, h⟩ := h
    refine q_getR fl_X11_30 rfl (by decide) (by decide +kernel) s9 e11 ?_
    refine q_blk (pc' := 93) (lo' := [some (.ref a0), some (.int x1), some (.int x2), none, none, none, none]) (st' := [.int (nI 9), .ref r10]) [.bipush 9] (by decide +kernel) rfl ?_
    obtain ⟨z13, s12, b14, h⟩ := h
    obtain ⟨l15, h⟩ := h
    refine q_iald rfl (by decide +kernel) s12 l15 b14 ?_
    refine q_callS (Mc := M_X11_parcelAt) (z := 1) (As := [.int (q_I A6 r10 9)]) (st := []) mo_X11_parcelAt ms_X11_parcelAt ml_X11_145_X11_parcelAt rfl rfl (by decide) (by decide) rfl (Nat.le_of_ble_eq_true rfl) (by decide +kernel) h (q_fI fun r17 A16 h => ?_)
    show q_Wp _ _ _ _ 0 0 97 [some (.ref a0), some (.int x1), some (.int x2), none, none, none, none] [.int r17] A16
    refine q_blk (pc' := 102) (lo' := [some (.ref a0), some (.int x1), some (.int x2), none, none, some (.int r17), some (.int (nI 0))]) (st' := []) [.istore 5, .iconst 0, .istore 6] (by decide +kernel) rfl ?_
    exact h
  · have h := h.1 c4
    refine q_blk (pc' := 82) (lo' := [some (.ref a0), some (.int x1), some (.int x2), none, none, none, none]) (st' := [.int (nI 0)]) [.iconst 0] (by decide +kernel) rfl ?_
    exact q_retI rfl (by decide) (by decide) (by decide +kernel) ⟨_, rfl, h⟩
theorem f_X11_load_102 {G : q_G} {X : String → q_H → Prop} {f : Int32 → q_H → Prop} {A : q_H} {a0 : Nat} {x1 : Int32} {x2 : Int32} {x5 : Int32} {x6 : Int32} (h : (((nI 6) < x6 → q_sh A a0 = (12, 0) ∧ ∃ r3 : Nat, q_R A a0 6 = some r3 ∧ ∃ z6 : Nat, q_sh A r3 = (50, z6) ∧ z6 < 2147483648 ∧ 9 < z6 ∧ 16 < z6 ∧ f (q_I (q_setI (q_setI A r3 9 ((q_I A r3 9) + (nI 1))) r3 16 ((q_I (q_setI A r3 9 ((q_I A r3 9) + (nI 1))) r3 16) + x2)) r3 9) (q_setI (q_setI A r3 9 ((q_I A r3 9) + (nI 1))) r3 16 ((q_I (q_setI A r3 9 ((q_I A r3 9) + (nI 1))) r3 16) + x2))) ∧ (¬ (nI 6) < x6 → q_sh A a0 = (12, 0) ∧ ∃ r11 : Nat, q_R A a0 6 = some r11 ∧ ((x6 = x1 → ∃ z21 : Nat, q_sh A r11 = (50, z21) ∧ z21 < 2147483648 ∧ ∃ j23 : Nat, (x5 + x6) = nI j23 ∧ j23 < z21 ∧ q_Wp G M_X11_load (q_KI f) X 0 0 102 [some (.ref a0), some (.int x1), some (.int x2), none, none, some (.int x5), some (.int (x6 + (nI 1)))] [] (q_setI A r11 j23 x2)) ∧ (¬ x6 = x1 → ∃ z15 : Nat, q_sh A r11 = (50, z15) ∧ z15 < 2147483648 ∧ ∃ j17 : Nat, (x5 + x6) = nI j17 ∧ j17 < z15 ∧ q_Wp G M_X11_load (q_KI f) X 0 0 102 [some (.ref a0), some (.int x1), some (.int x2), none, none, some (.int x5), some (.int (x6 + (nI 1)))] [] (q_setI A r11 j17 (nI 0))))))) : q_Wp G M_X11_load (q_KI f) X 0 0 102 [some (.ref a0), some (.int x1), some (.int x2), none, none, some (.int x5), some (.int x6)] [] A := by
  refine q_blk (pc' := 106) (lo' := [some (.ref a0), some (.int x1), some (.int x2), none, none, some (.int x5), some (.int x6)]) (st' := [.int (nI 6), .int x6]) [.iload 6, .bipush 6] (by decide +kernel) rfl ?_
  refine q_icmp_gt 136 (off := 30) (by decide +kernel) (by decide) (fun c1 => ?_) (fun c1 => ?_)
  · have h := h.1 c1
    refine q_blk (pc' := 137) (lo' := [some (.ref a0), some (.int x1), some (.int x2), none, none, some (.int x5), some (.int x6)]) (st' := [.ref a0]) [.aload_n 0] (by decide +kernel) rfl ?_
    obtain ⟨s2, h⟩ := h
    obtain ⟨r3, e4, h⟩ := h
    refine q_getR fl_X11_30 rfl (by decide) (by decide +kernel) s2 e4 ?_
    refine q_blk (pc' := 143) (lo' := [some (.ref a0), some (.int x1), some (.int x2), none, none, some (.int x5), some (.int x6)]) (st' := [.int (nI 9), .ref r3, .int (nI 9), .ref r3]) [.bipush 9, .dup2] (by decide +kernel) rfl ?_
    obtain ⟨z6, s5, b7, h⟩ := h
    obtain ⟨l8, h⟩ := h
    refine q_iald rfl (by decide +kernel) s5 l8 b7 ?_
    refine q_blk (pc' := 146) (lo' := [some (.ref a0), some (.int x1), some (.int x2), none, none, some (.int x5), some (.int x6)]) (st' := [.int ((q_I A r3 9) + (nI 1)), .int (nI 9), .ref r3]) [.iconst 1, .iadd] (by decide +kernel) rfl ?_
    refine q_iast rfl (by decide +kernel) s5 l8 b7 ?_
    refine q_blk (pc' := 148) (lo' := [some (.ref a0), some (.int x1), some (.int x2), none, none, some (.int x5), some (.int x6)]) (st' := [.ref a0]) [.aload_n 0] (by decide +kernel) rfl ?_
    refine q_getR fl_X11_30 rfl (by decide) (by decide +kernel) s2 e4 ?_
    refine q_blk (pc' := 154) (lo' := [some (.ref a0), some (.int x1), some (.int x2), none, none, some (.int x5), some (.int x6)]) (st' := [.int (nI 16), .ref r3, .int (nI 16), .ref r3]) [.bipush 16, .dup2] (by decide +kernel) rfl ?_
    obtain ⟨l9, h⟩ := h
    refine q_iald rfl (by decide +kernel) s5 l9 b7 ?_
    refine q_blk (pc' := 157) (lo' := [some (.ref a0), some (.int x1), some (.int x2), none, none, some (.int x5), some (.int x6)]) (st' := [.int ((q_I (q_setI A r3 9 ((q_I A r3 9) + (nI 1))) r3 16) + x2), .int (nI 16), .ref r3]) [.iload_n 2, .iadd] (by decide +kernel) rfl ?_
    refine q_iast rfl (by decide +kernel) s5 l9 b7 ?_
    refine q_blk (pc' := 159) (lo' := [some (.ref a0), some (.int x1), some (.int x2), none, none, some (.int x5), some (.int x6)]) (st' := [.ref a0]) [.aload_n 0] (by decide +kernel) rfl ?_
    refine q_getR fl_X11_30 rfl (by decide) (by decide +kernel) s2 e4 ?_
    refine q_blk (pc' := 164) (lo' := [some (.ref a0), some (.int x1), some (.int x2), none, none, some (.int x5), some (.int x6)]) (st' := [.int (nI 9), .ref r3]) [.bipush 9] (by decide +kernel) rfl ?_
    refine q_iald rfl (by decide +kernel) s5 l8 b7 ?_
    exact q_retI rfl (by decide) (by decide) (by decide +kernel) ⟨_, rfl, h⟩
  · have h := h.2 c1
    refine q_blk (pc' := 110) (lo' := [some (.ref a0), some (.int x1), some (.int x2), none, none, some (.int x5), some (.int x6)]) (st' := [.ref a0]) [.aload_n 0] (by decide +kernel) rfl ?_
    obtain ⟨s10, h⟩ := h
    obtain ⟨r11, e12, h⟩ := h
    refine q_getR fl_X11_30 rfl (by decide) (by decide +kernel) s10 e12 ?_
    refine q_blk (pc' := 121) (lo' := [some (.ref a0), some (.int x1), some (.int x2), none, none, some (.int x5), some (.int x6)]) (st' := [.int x1, .int x6, .int (x5 + x6), .ref r11]) [.iload 5, .iload 6, .iadd, .iload 6, .iload_n 1] (by decide +kernel) rfl ?_
    refine q_icmp_ne 128 (off := 7) (by decide +kernel) (by decide) (fun c13 => ?_) (fun c13 => ?_)
    · have h := h.2 c13
      refine q_blk (pc' := 129) (lo' := [some (.ref a0), some (.int x1), some (.int x2), none, none, some (.int x5), some (.int x6)]) (st' := [.int (nI 0), .int (x5 + x6), .ref r11]) [.iconst 0] (by decide +kernel) rfl ?_
      obtain ⟨z15, s14, b16, h⟩ := h
      obtain ⟨j17, e18, h⟩ := h
      obtain ⟨l19, h⟩ := h
      refine q_iast e18 (by decide +kernel) s14 l19 b16 ?_
      refine q_blk (pc' := 133) (lo' := [some (.ref a0), some (.int x1), some (.int x2), none, none, some (.int x5), some (.int (x6 + (nI 1)))]) (st' := []) [.iinc 6 1] (by decide +kernel) rfl ?_
      refine q_goto 102 (off := -31) (by decide +kernel) (by decide) ?_
      exact h
    · have h := h.1 c13
      refine q_blk (pc' := 125) (lo' := [some (.ref a0), some (.int x1), some (.int x2), none, none, some (.int x5), some (.int x6)]) (st' := [.int x2, .int (x5 + x6), .ref r11]) [.iload_n 2] (by decide +kernel) rfl ?_
      refine q_goto 129 (off := 4) (by decide +kernel) (by decide) ?_
      obtain ⟨z21, s20, b22, h⟩ := h
      obtain ⟨j23, e24, h⟩ := h
      obtain ⟨l25, h⟩ := h
      refine q_iast e24 (by decide +kernel) s20 l25 b22 ?_
      refine q_blk (pc' := 133) (lo' := [some (.ref a0), some (.int x1), some (.int x2), none, none, some (.int x5), some (.int (x6 + (nI 1)))]) (st' := []) [.iinc 6 1] (by decide +kernel) rfl ?_
      refine q_goto 102 (off := -31) (by decide +kernel) (by decide) ?_
      exact h
theorem f_X11_set {G : q_G} {X : String → q_H → Prop} {f : Int32 → q_H → Prop} {A : q_H} {a0 : Nat} {x1 : Int32} {x2 : Int32} (h : q_Wc G M_X11_isIn [.long (x1.toInt64), .long (lN 0), .long (lN 7)] A (q_KB fun b2 A1 => ((b2 = true → ((b2 = true → q_sh A1 a0 = (12, 0) ∧ ∃ r8 : Nat, q_R A1 a0 1 = some r8 ∧ ∃ z11 : Nat, q_sh A1 r8 = (50, z11) ∧ z11 < 2147483648 ∧ ∃ j13 : Nat, ((nI 3) * x1) = nI j13 ∧ j13 < z11 ∧ ∃ j16 : Nat, (((nI 3) * x1) + (nI 1)) = nI j16 ∧ j16 < z11 ∧ q_Wc G M_X11_isIn [.long (x2.toInt64), .long ((q_I A1 r8 j13).toInt64), .long ((q_I A1 r8 j16).toInt64)] A1 (q_KB fun b20 A19 => ((b20 = true → q_Wp G M_X11_set (q_KI f) X 0 0 58 [some (.ref a0), some (.int x1), some (.int x2), none, none] [.int (q_i false), .int (q_i false), .int (q_i false), .ref a0] A19) ∧ (b20 = false → q_Wp G M_X11_set (q_KI f) X 0 0 58 [some (.ref a0), some (.int x1), some (.int x2), none, none] [.int (q_i false), .int (q_i true), .int (q_i false), .ref a0] A19))) q_nX) ∧ (b2 = false → q_Wp G M_X11_set (q_KI f) X 0 0 58 [some (.ref a0), some (.int x1), some (.int x2), none, none] [.int (q_i false), .int (q_i false), .int (q_i false), .ref a0] A1))) ∧ (b2 = false → ((b2 = true → q_sh A1 a0 = (12, 0) ∧ ∃ r26 : Nat, q_R A1 a0 1 = some r26 ∧ ∃ z29 : Nat, q_sh A1 r26 = (50, z29) ∧ z29 < 2147483648 ∧ ∃ j31 : Nat, ((nI 3) * x1) = nI j31 ∧ j31 < z29 ∧ ∃ j34 : Nat, (((nI 3) * x1) + (nI 1)) = nI j34 ∧ j34 < z29 ∧ q_Wc G M_X11_isIn [.long (x2.toInt64), .long ((q_I A1 r26 j31).toInt64), .long ((q_I A1 r26 j34).toInt64)] A1 (q_KB fun b38 A37 => ((b38 = true → q_Wp G M_X11_set (q_KI f) X 0 0 58 [some (.ref a0), some (.int x1), some (.int x2), none, none] [.int (q_i false), .int (q_i false), .int (q_i true), .ref a0] A37) ∧ (b38 = false → q_Wp G M_X11_set (q_KI f) X 0 0 58 [some (.ref a0), some (.int x1), some (.int x2), none, none] [.int (q_i false), .int (q_i true), .int (q_i true), .ref a0] A37))) q_nX) ∧ (b2 = false → q_Wp G M_X11_set (q_KI f) X 0 0 58 [some (.ref a0), some (.int x1), some (.int x2), none, none] [.int (q_i false), .int (q_i false), .int (q_i true), .ref a0] A1))))) q_nX) : q_Wc G M_X11_set [.ref a0, .int x1, .int x2] A (q_KI f) X := by
  refine q_Wc.of [some (.ref a0), some (.int x1), some (.int x2), none, none] mo_X11_set.2.2.2.2.2 rfl (Nat.le_of_ble_eq_true rfl) rfl ?_
  refine q_blk (pc' := 3) (lo' := [some (.ref a0), some (.int x1), some (.int x2), none, none]) (st' := [.long (lN 0), .long (x1.toInt64)]) [.iload_n 1, .i2l, .lconst 0] (by decide +kernel) rfl ?_
  refine q_ldc2 (v := 7) c2_X11_258 (by decide +kernel) ?_
  refine q_callS (Mc := M_X11_isIn) (z := 3) (As := [.long (x1.toInt64), .long (lN 0), .long (lN 7)]) (st := []) mo_X11_isIn ms_X11_isIn ml_X11_71_X11_isIn rfl rfl (by decide) (by decide) rfl (Nat.le_of_ble_eq_true rfl) (by decide +kernel) h (q_fB fun b2 A1 h => ?_)
  show q_Wp _ _ _ _ 0 0 9 [some (.ref a0), some (.int x1), some (.int x2), none, none] [.int (q_i b2)] A1
  refine q_blk (pc' := 12) (lo' := [some (.ref a0), some (.int x1), some (.int x2), some (.int (q_i b2)), none]) (st' := [.int (q_i b2), .ref a0]) [.istore_n 3, .aload_n 0, .iload_n 3] (by decide +kernel) rfl ?_
  refine q_ifB_ne 19 (off := 7) (by decide +kernel) (by decide) (fun c3 => ?_) (fun c3 => ?_)
  · have h := h.1 c3
    refine q_blk (pc' := 21) (lo' := [some (.ref a0), some (.int x1), some (.int x2), some (.int (q_i b2)), none]) (st' := [.int (q_i b2), .int (nI 0), .ref a0]) [.iconst 0, .iload_n 3] (by decide +kernel) rfl ?_
    refine q_ifB_eq 56 (off := 35) (by decide +kernel) (by decide) (fun c5 => ?_) (fun c5 => ?_)
    · have h := h.2 c5
      refine q_blk (pc' := 58) (lo' := [some (.ref a0), some (.int x1), some (.int x2), some (.int (q_i b2)), none]) (st' := [.int (nI 0), .int (nI 0), .int (nI 0), .ref a0]) [.iconst 0, .iconst 0] (by decide +kernel) rfl ?_
      exact q_wk [some (.ref a0), some (.int x1), some (.int x2), none, none] (And.intro rfl (And.intro rfl (And.intro rfl trivial))) h
    · have h := h.1 c5
      refine q_blk (pc' := 27) (lo' := [some (.ref a0), some (.int x1), some (.int x2), some (.int (q_i b2)), none]) (st' := [.ref a0, .long (x2.toInt64), .int (nI 0), .ref a0]) [.iload_n 2, .i2l, .aload_n 0] (by decide +kernel) rfl ?_
      obtain ⟨s7, h⟩ := h
      obtain ⟨r8, e9, h⟩ := h
      refine q_getR fl_X11_13 rfl (by decide) (by decide +kernel) s7 e9 ?_
      refine q_blk (pc' := 33) (lo' := [some (.ref a0), some (.int x1), some (.int x2), some (.int (q_i b2)), none]) (st' := [.int ((nI 3) * x1), .ref r8, .long (x2.toInt64), .int (nI 0), .ref a0]) [.iconst 3, .iload_n 1, .imul] (by decide +kernel) rfl ?_
      obtain ⟨z11, s10, b12, h⟩ := h
      obtain ⟨j13, e14, h⟩ := h
      obtain ⟨l15, h⟩ := h
      refine q_iald e14 (by decide +kernel) s10 l15 b12 ?_
      refine q_blk (pc' := 36) (lo' := [some (.ref a0), some (.int x1), some (.int x2), some (.int (q_i b2)), none]) (st' := [.ref a0, .long ((q_I A1 r8 j13).toInt64), .long (x2.toInt64), .int (nI 0), .ref a0]) [.i2l, .aload_n 0] (by decide +kernel) rfl ?_
      refine q_getR fl_X11_13 rfl (by decide) (by decide +kernel) s7 e9 ?_
      refine q_blk (pc' := 44) (lo' := [some (.ref a0), some (.int x1), some (.int x2), some (.int (q_i b2)), none]) (st' := [.int (((nI 3) * x1) + (nI 1)), .ref r8, .long ((q_I A1 r8 j13).toInt64), .long (x2.toInt64), .int (nI 0), .ref a0]) [.iconst 3, .iload_n 1, .imul, .iconst 1, .iadd] (by decide +kernel) rfl ?_
      obtain ⟨j16, e17, h⟩ := h
      obtain ⟨l18, h⟩ := h
      refine q_iald e17 (by decide +kernel) s10 l18 b12 ?_
      refine q_blk (pc' := 46) (lo' := [some (.ref a0), some (.int x1), some (.int x2), some (.int (q_i b2)), none]) (st' := [.long ((q_I A1 r8 j16).toInt64), .long ((q_I A1 r8 j13).toInt64), .long (x2.toInt64), .int (nI 0), .ref a0]) [.i2l] (by decide +kernel) rfl ?_
      refine q_callS (Mc := M_X11_isIn) (z := 3) (As := [.long (x2.toInt64), .long ((q_I A1 r8 j13).toInt64), .long ((q_I A1 r8 j16).toInt64)]) (st := [.int (nI 0), .ref a0]) mo_X11_isIn ms_X11_isIn ml_X11_71_X11_isIn rfl rfl (by decide) (by decide) rfl (Nat.le_of_ble_eq_true rfl) (by decide +kernel) h (q_fB fun b20 A19 h => ?_)
      show q_Wp _ _ _ _ 0 0 49 [some (.ref a0), some (.int x1), some (.int x2), some (.int (q_i b2)), none] [.int (q_i b20), .int (nI 0), .ref a0] A19
      refine q_ifB_ne 56 (off := 7) (by decide +kernel) (by decide) (fun c21 => ?_) (fun c21 => ?_)
      · have h := h.1 c21
        refine q_blk (pc' := 58) (lo' := [some (.ref a0), some (.int x1), some (.int x2), some (.int (q_i b2)), none]) (st' := [.int (nI 0), .int (nI 0), .int (nI 0), .ref a0]) [.iconst 0, .iconst 0] (by decide +kernel) rfl ?_
        exact q_wk [some (.ref a0), some (.int x1), some (.int x2), none, none] (And.intro rfl (And.intro rfl (And.intro rfl trivial))) h
      · have h := h.2 c21
        refine q_blk (pc' := 53) (lo' := [some (.ref a0), some (.int x1), some (.int x2), some (.int (q_i b2)), none]) (st' := [.int (nI 1), .int (nI 0), .ref a0]) [.iconst 1] (by decide +kernel) rfl ?_
        refine q_goto 57 (off := 4) (by decide +kernel) (by decide) ?_
        refine q_blk (pc' := 58) (lo' := [some (.ref a0), some (.int x1), some (.int x2), some (.int (q_i b2)), none]) (st' := [.int (nI 0), .int (nI 1), .int (nI 0), .ref a0]) [.iconst 0] (by decide +kernel) rfl ?_
        exact q_wk [some (.ref a0), some (.int x1), some (.int x2), none, none] (And.intro rfl (And.intro rfl (And.intro rfl trivial))) h
  · have h := h.2 c3
    refine q_blk (pc' := 16) (lo' := [some (.ref a0), some (.int x1), some (.int x2), some (.int (q_i b2)), none]) (st' := [.int (nI 1), .ref a0]) [.iconst 1] (by decide +kernel) rfl ?_
    refine q_goto 20 (off := 4) (by decide +kernel) (by decide) ?_
    refine q_blk (pc' := 21) (lo' := [some (.ref a0), some (.int x1), some (.int x2), some (.int (q_i b2)), none]) (st' := [.int (q_i b2), .int (nI 1), .ref a0]) [.iload_n 3] (by decide +kernel) rfl ?_
    refine q_ifB_eq 56 (off := 35) (by decide +kernel) (by decide) (fun c23 => ?_) (fun c23 => ?_)
    · have h := h.2 c23
      refine q_blk (pc' := 58) (lo' := [some (.ref a0), some (.int x1), some (.int x2), some (.int (q_i b2)), none]) (st' := [.int (nI 0), .int (nI 0), .int (nI 1), .ref a0]) [.iconst 0, .iconst 0] (by decide +kernel) rfl ?_
      exact q_wk [some (.ref a0), some (.int x1), some (.int x2), none, none] (And.intro rfl (And.intro rfl (And.intro rfl trivial))) h
    · have h := h.1 c23
      refine q_blk (pc' := 27) (lo' := [some (.ref a0), some (.int x1), some (.int x2), some (.int (q_i b2)), none]) (st' := [.ref a0, .long (x2.toInt64), .int (nI 1), .ref a0]) [.iload_n 2, .i2l, .aload_n 0] (by decide +kernel) rfl ?_
      obtain ⟨s25, h⟩ := h
      obtain ⟨r26, e27, h⟩ := h
      refine q_getR fl_X11_13 rfl (by decide) (by decide +kernel) s25 e27 ?_
      refine q_blk (pc' := 33) (lo' := [some (.ref a0), some (.int x1), some (.int x2), some (.int (q_i b2)), none]) (st' := [.int ((nI 3) * x1), .ref r26, .long (x2.toInt64), .int (nI 1), .ref a0]) [.iconst 3, .iload_n 1, .imul] (by decide +kernel) rfl ?_
      obtain ⟨z29, s28, b30, h⟩ := h
      obtain ⟨j31, e32, h⟩ := h
      obtain ⟨l33, h⟩ := h
      refine q_iald e32 (by decide +kernel) s28 l33 b30 ?_
      refine q_blk (pc' := 36) (lo' := [some (.ref a0), some (.int x1), some (.int x2), some (.int (q_i b2)), none]) (st' := [.ref a0, .long ((q_I A1 r26 j31).toInt64), .long (x2.toInt64), .int (nI 1), .ref a0]) [.i2l, .aload_n 0] (by decide +kernel) rfl ?_
      refine q_getR fl_X11_13 rfl (by decide) (by decide +kernel) s25 e27 ?_
      refine q_blk (pc' := 44) (lo' := [some (.ref a0), some (.int x1), some (.int x2), some (.int (q_i b2)), none]) (st' := [.int (((nI 3) * x1) + (nI 1)), .ref r26, .long ((q_I A1 r26 j31).toInt64), .long (x2.toInt64), .int (nI 1), .ref a0]) [.iconst 3, .iload_n 1, .imul, .iconst 1, .iadd] (by decide +kernel) rfl ?_
      obtain ⟨j34, e35, h⟩ := h
      obtain ⟨l36, h⟩ := h
      refine q_iald e35 (by decide +kernel) s28 l36 b30 ?_
      refine q_blk (pc' := 46) (lo' := [some (.ref a0), some (.int x1), some (.int x2), some (.int (q_i b2)), none]) (st' := [.long ((q_I A1 r26 j34).toInt64), .long ((q_I A1 r26 j31).toInt64), .long (x2.toInt64), .int (nI 1), .ref a0]) [.i2l] (by decide +kernel) rfl ?_
      refine q_callS (Mc := M_X11_isIn) (z := 3) (As := [.long (x2.toInt64), .long ((q_I A1 r26 j31).toInt64), .long ((q_I A1 r26 j34).toInt64)]) (st := [.int (nI 1), .ref a0]) mo_X11_isIn ms_X11_isIn ml_X11_71_X11_isIn rfl rfl (by decide) (by decide) rfl (Nat.le_of_ble_eq_true rfl) (by decide +kernel) h (q_fB fun b38 A37 h => ?_)
      show q_Wp _ _ _ _ 0 0 49 [some (.ref a0), some (.int x1), some (.int x2), some (.int (q_i b2)), none] [.int (q_i b38), .int (nI 1), .ref a0] A37
      refine q_ifB_ne 56 (off := 7) (by decide +kernel) (by decide) (fun c39 => ?_) (fun c39 => ?_)
      · have h := h.1 c39
        refine q_blk (pc' := 58) (lo' := [some (.ref a0), some (.int x1), some (.int x2), some (.int (q_i b2)), none]) (st' := [.int (nI 0), .int (nI 0), .int (nI 1), .ref a0]) [.iconst 0, .iconst 0] (by decide +kernel) rfl ?_
        exact q_wk [some (.ref a0), some (.int x1), some (.int x2), none, none] (And.intro rfl (And.intro rfl (And.intro rfl trivial))) h
      · have h := h.2 c39
        refine q_blk (pc' := 53) (lo' := [some (.ref a0), some (.int x1), some (.int x2), some (.int (q_i b2)), none]) (st' := [.int (nI 1), .int (nI 1), .ref a0]) [.iconst 1] (by decide +kernel) rfl ?_
        refine q_goto 57 (off := 4) (by decide +kernel) (by decide) ?_
        refine q_blk (pc' := 58) (lo' := [some (.ref a0), some (.int x1), some (.int x2), some (.int (q_i b2)), none]) (st' := [.int (nI 0), .int (nI 1), .int (nI 1), .ref a0]) [.iconst 0] (by decide +kernel) rfl ?_
        exact q_wk [some (.ref a0), some (.int x1), some (.int x2), none, none] (And.intro rfl (And.intro rfl (And.intro rfl trivial))) h
theorem f_X11_set_58 {G : q_G} {X : String → q_H → Prop} {f : Int32 → q_H → Prop} {A : q_H} {a0 : Nat} {x1 : Int32} {x2 : Int32} {p0 : Bool} {p1 : Bool} {p2 : Bool} {u3 : Nat} (h : q_sh A u3 = (12, 0) ∧ q_Wc G M_X11_fails [.ref u3, .int (q_i p2), .int (q_i p1), .int (q_i p0)] A (q_KB fun b2 A1 => ((b2 = true → f (nI 0) A1) ∧ (b2 = false → q_sh A1 a0 = (12, 0) ∧ q_Wc G M_X11_remembers [.ref a0] A1 (q_KV fun A6 => q_sh A6 a0 = (12, 0) ∧ ∃ r10 : Nat, q_R A6 a0 6 = some r10 ∧ ∃ z13 : Nat, q_sh A6 r10 = (50, z13) ∧ z13 < 2147483648 ∧ ∃ j15 : Nat, x1 = nI j15 ∧ j15 < z13 ∧ f (q_I A6 r10 j15) (q_setI A6 r10 j15 x2)) q_nX))) q_nX) : q_Wp G M_X11_set (q_KI f) X 0 0 58 [some (.ref a0), some (.int x1), some (.int x2), none, none] [.int (q_i p0), .int (q_i p1), .int (q_i p2), .ref u3] A := by
  obtain ⟨s3, h⟩ := h
  refine q_callV (ci := 11) (Mc := M_X11_fails) (z := 3) (b := u3) (As := [.int (q_i p2), .int (q_i p1), .int (q_i p0)]) (st := []) mo_X11_fails mi_X11_fails ml_X11_260_X11_fails rfl rfl (by decide) rfl (by decide) (by decide) rfl (Nat.le_of_ble_eq_true rfl) (by decide +kernel) s3 h (q_fB fun b2 A1 h => ?_)
  show q_Wp _ _ _ _ 0 0 61 [some (.ref a0), some (.int x1), some (.int x2), none, none] [.int (q_i b2)] A1
  refine q_ifB_eq 66 (off := 5) (by decide +kernel) (by decide) (fun c4 => ?_) (fun c4 => ?_)
  · have h := h.2 c4
    refine q_blk (pc' := 67) (lo' := [some (.ref a0), some (.int x1), some (.int x2), none, none]) (st' := [.ref a0]) [.aload_n 0] (by decide +kernel) rfl ?_
    obtain ⟨s8, h⟩ := h
    refine q_callV (ci := 11) (Mc := M_X11_remembers) (z := 0) (b := a0) (As := []) (st := []) mo_X11_remembers mi_X11_remembers ml_X11_289_X11_remembers rfl rfl (by decide) rfl (by decide) (by decide) rfl (Nat.le_of_ble_eq_true rfl) (by decide +kernel) s8 h (q_fV fun A6 h => ?_)
    show q_Wp _ _ _ _ 0 0 70 [some (.ref a0), some (.int x1), some (.int x2), none, none] [] A6
    refine q_blk (pc' := 71) (lo' := [some (.ref a0), some (.int x1), some (.int x2), none, none]) (st' := [.ref a0]) [.aload_n 0] (by decide +kernel) rfl ?_
    obtain ⟨s9, h⟩ := h
    obtain ⟨r10, e11, h⟩ := h
    refine q_getR fl_X11_30 rfl (by decide) (by decide +kernel) s9 e11 ?_
    refine q_blk (pc' := 75) (lo' := [some (.ref a0), some (.int x1), some (.int x2), none, none]) (st' := [.int x1, .ref r10]) [.iload_n 1] (by decide +kernel) rfl ?_
    obtain ⟨z13, s12, b14, h⟩ := h
    obtain ⟨j15, e16, h⟩ := h
    obtain ⟨l17, h⟩ := h
    refine q_iald e16 (by decide +kernel) s12 l17 b14 ?_
    refine q_blk (pc' := 79) (lo' := [some (.ref a0), some (.int x1), some (.int x2), none, some (.int (q_I A6 r10 j15))]) (st' := [.ref a0]) [.istore 4, .aload_n 0] (by decide +kernel) rfl ?_
    refine q_getR fl_X11_30 rfl (by decide) (by decide +kernel) s9 e11 ?_
    refine q_blk (pc' := 84) (lo' := [some (.ref a0), some (.int x1), some (.int x2), none, some (.int (q_I A6 r10 j15))]) (st' := [.int x2, .int x1, .ref r10]) [.iload_n 1, .iload_n 2] (by decide +kernel) rfl ?_
    refine q_iast e16 (by decide +kernel) s12 l17 b14 ?_
    refine q_blk (pc' := 87) (lo' := [some (.ref a0), some (.int x1), some (.int x2), none, some (.int (q_I A6 r10 j15))]) (st' := [.int (q_I A6 r10 j15)]) [.iload 4] (by decide +kernel) rfl ?_
    exact q_retI rfl (by decide) (by decide) (by decide +kernel) ⟨_, rfl, h⟩
  · have h := h.1 c4
    refine q_blk (pc' := 65) (lo' := [some (.ref a0), some (.int x1), some (.int x2), none, none]) (st' := [.int (nI 0)]) [.iconst 0] (by decide +kernel) rfl ?_
    exact q_retI rfl (by decide) (by decide) (by decide +kernel) ⟨_, rfl, h⟩
theorem f_X11_staffs {G : q_G} {X : String → q_H → Prop} {f : Int32 → q_H → Prop} {A : q_H} {a0 : Nat} {x1 : Int32} {x2 : Int32} (h : q_sh A a0 = (12, 0) ∧ ∃ r2 : Nat, q_R A a0 6 = some r2 ∧ q_Wc G M_X11_placeAt [.int x1, .int (nI 0)] A (q_KI fun r5 A4 => ∃ z7 : Nat, q_sh A4 r2 = (50, z7) ∧ z7 < 2147483648 ∧ ∃ j9 : Nat, r5 = nI j9 ∧ j9 < z7 ∧ q_sh A4 a0 = (12, 0) ∧ ∃ r13 : Nat, q_R A4 a0 6 = some r13 ∧ q_Wc G M_X11_placeAt [.int x1, .int (nI 0)] A4 (q_KI fun r16 A15 => ∃ z18 : Nat, q_sh A15 r13 = (50, z18) ∧ z18 < 2147483648 ∧ ∃ j20 : Nat, r16 = nI j20 ∧ j20 < z18 ∧ q_sh A15 a0 = (12, 0) ∧ ∃ r24 : Nat, q_R A15 a0 6 = some r24 ∧ q_Wc G M_X11_placeAt [.int x1, .int (nI 1)] (q_setI A15 r13 j20 x2) (q_KI fun r27 A26 => ∃ z29 : Nat, q_sh A26 r24 = (50, z29) ∧ z29 < 2147483648 ∧ ∃ j31 : Nat, r27 = nI j31 ∧ j31 < z29 ∧ f (q_I A4 r2 j9) (q_setI A26 r24 j31 (nI 0))) q_nX) q_nX) q_nX) : q_Wc G M_X11_staffs [.ref a0, .int x1, .int x2] A (q_KI f) X := by
  refine q_Wc.of [some (.ref a0), some (.int x1), some (.int x2), none] mo_X11_staffs.2.2.2.2.2 rfl (Nat.le_of_ble_eq_true rfl) rfl ?_
  refine q_blk (pc' := 1) (lo' := [some (.ref a0), some (.int x1), some (.int x2), none]) (st' := [.ref a0]) [.aload_n 0] (by decide +kernel) rfl ?_
  obtain ⟨s1, h⟩ := h
  obtain ⟨r2, e3, h⟩ := h
  refine q_getR fl_X11_30 rfl (by decide) (by decide +kernel) s1 e3 ?_
  refine q_blk (pc' := 6) (lo' := [some (.ref a0), some (.int x1), some (.int x2), none]) (st' := [.int (nI 0), .int x1, .ref r2]) [.iload_n 1, .iconst 0] (by decide +kernel) rfl ?_
  refine q_callS (Mc := M_X11_placeAt) (z := 2) (As := [.int x1, .int (nI 0)]) (st := [.ref r2]) mo_X11_placeAt ms_X11_placeAt ml_X11_141_X11_placeAt rfl rfl (by decide) (by decide) rfl (Nat.le_of_ble_eq_true rfl) (by decide +kernel) h (q_fI fun r5 A4 h => ?_)
  show q_Wp _ _ _ _ 0 0 9 [some (.ref a0), some (.int x1), some (.int x2), none] [.int r5, .ref r2] A4
  obtain ⟨z7, s6, b8, h⟩ := h
  obtain ⟨j9, e10, h⟩ := h
  obtain ⟨l11, h⟩ := h
  refine q_iald e10 (by decide +kernel) s6 l11 b8 ?_
  refine q_blk (pc' := 12) (lo' := [some (.ref a0), some (.int x1), some (.int x2), some (.int (q_I A4 r2 j9))]) (st' := [.ref a0]) [.istore_n 3, .aload_n 0] (by decide +kernel) rfl ?_
  obtain ⟨s12, h⟩ := h
  obtain ⟨r13, e14, h⟩ := h
  refine q_getR fl_X11_30 rfl (by decide) (by decide +kernel) s12 e14 ?_
  refine q_blk (pc' := 17) (lo' := [some (.ref a0), some (.int x1), some (.int x2), some (.int (q_I A4 r2 j9))]) (st' := [.int (nI 0), .int x1, .ref r13]) [.iload_n 1, .iconst 0] (by decide +kernel) rfl ?_
  refine q_callS (Mc := M_X11_placeAt) (z := 2) (As := [.int x1, .int (nI 0)]) (st := [.ref r13]) mo_X11_placeAt ms_X11_placeAt ml_X11_141_X11_placeAt rfl rfl (by decide) (by decide) rfl (Nat.le_of_ble_eq_true rfl) (by decide +kernel) h (q_fI fun r16 A15 h => ?_)
  show q_Wp _ _ _ _ 0 0 20 [some (.ref a0), some (.int x1), some (.int x2), some (.int (q_I A4 r2 j9))] [.int r16, .ref r13] A15
  refine q_blk (pc' := 21) (lo' := [some (.ref a0), some (.int x1), some (.int x2), some (.int (q_I A4 r2 j9))]) (st' := [.int x2, .int r16, .ref r13]) [.iload_n 2] (by decide +kernel) rfl ?_
  obtain ⟨z18, s17, b19, h⟩ := h
  obtain ⟨j20, e21, h⟩ := h
  obtain ⟨l22, h⟩ := h
  refine q_iast e21 (by decide +kernel) s17 l22 b19 ?_
  refine q_blk (pc' := 23) (lo' := [some (.ref a0), some (.int x1), some (.int x2), some (.int (q_I A4 r2 j9))]) (st' := [.ref a0]) [.aload_n 0] (by decide +kernel) rfl ?_
  obtain ⟨s23, h⟩ := h
  obtain ⟨r24, e25, h⟩ := h
  refine q_getR fl_X11_30 rfl (by decide) (by decide +kernel) s23 e25 ?_
  refine q_blk (pc' := 28) (lo' := [some (.ref a0), some (.int x1), some (.int x2), some (.int (q_I A4 r2 j9))]) (st' := [.int (nI 1), .int x1, .ref r24]) [.iload_n 1, .iconst 1] (by decide +kernel) rfl ?_
  refine q_callS (Mc := M_X11_placeAt) (z := 2) (As := [.int x1, .int (nI 1)]) (st := [.ref r24]) mo_X11_placeAt ms_X11_placeAt ml_X11_141_X11_placeAt rfl rfl (by decide) (by decide) rfl (Nat.le_of_ble_eq_true rfl) (by decide +kernel) h (q_fI fun r27 A26 h => ?_)
  show q_Wp _ _ _ _ 0 0 31 [some (.ref a0), some (.int x1), some (.int x2), some (.int (q_I A4 r2 j9))] [.int r27, .ref r24] A26
  refine q_blk (pc' := 32) (lo' := [some (.ref a0), some (.int x1), some (.int x2), some (.int (q_I A4 r2 j9))]) (st' := [.int (nI 0), .int r27, .ref r24]) [.iconst 0] (by decide +kernel) rfl ?_
  obtain ⟨z29, s28, b30, h⟩ := h
  obtain ⟨j31, e32, h⟩ := h
  obtain ⟨l33, h⟩ := h
  refine q_iast e32 (by decide +kernel) s28 l33 b30 ?_
  refine q_blk (pc' := 34) (lo' := [some (.ref a0), some (.int x1), some (.int x2), some (.int (q_I A4 r2 j9))]) (st' := [.int (q_I A4 r2 j9)]) [.iload_n 3] (by decide +kernel) rfl ?_
  exact q_retI rfl (by decide) (by decide) (by decide +kernel) ⟨_, rfl, h⟩
theorem f_X11_staff {G : q_G} {X : String → q_H → Prop} {f : Int32 → q_H → Prop} {A : q_H} {a0 : Nat} {x1 : Int32} {x2 : Int32} (h : q_sh A a0 = (12, 0) ∧ q_Wc G M_X11_isStation [.ref a0, .int x1] A (q_KB fun b2 A1 => ((b2 = true → ((b2 = true → q_Wc G M_X11_isIn [.long (x2.toInt64), .long (lN 0), .long (lN 9)] A1 (q_KB fun b9 A8 => ((b9 = true → q_Wp G M_X11_staff (q_KI f) X 0 0 38 [some (.ref a0), some (.int x1), some (.int x2), none] [.int (q_i false), .int (q_i false), .int (q_i false), .ref a0] A8) ∧ (b9 = false → q_Wp G M_X11_staff (q_KI f) X 0 0 38 [some (.ref a0), some (.int x1), some (.int x2), none] [.int (q_i false), .int (q_i true), .int (q_i false), .ref a0] A8))) q_nX) ∧ (b2 = false → q_Wp G M_X11_staff (q_KI f) X 0 0 38 [some (.ref a0), some (.int x1), some (.int x2), none] [.int (q_i false), .int (q_i false), .int (q_i false), .ref a0] A1))) ∧ (b2 = false → ((b2 = true → q_Wc G M_X11_isIn [.long (x2.toInt64), .long (lN 0), .long (lN 9)] A1 (q_KB fun b15 A14 => ((b15 = true → q_Wp G M_X11_staff (q_KI f) X 0 0 38 [some (.ref a0), some (.int x1), some (.int x2), none] [.int (q_i false), .int (q_i false), .int (q_i true), .ref a0] A14) ∧ (b15 = false → q_Wp G M_X11_staff (q_KI f) X 0 0 38 [some (.ref a0), some (.int x1), some (.int x2), none] [.int (q_i false), .int (q_i true), .int (q_i true), .ref a0] A14))) q_nX) ∧ (b2 = false → q_Wp G M_X11_staff (q_KI f) X 0 0 38 [some (.ref a0), some (.int x1), some (.int x2), none] [.int (q_i false), .int (q_i false), .int (q_i true), .ref a0] A1))))) q_nX) : q_Wc G M_X11_staff [.ref a0, .int x1, .int x2] A (q_KI f) X := by
  refine q_Wc.of [some (.ref a0), some (.int x1), some (.int x2), none] mo_X11_staff.2.2.2.2.2 rfl (Nat.le_of_ble_eq_true rfl) rfl ?_
  refine q_blk (pc' := 2) (lo' := [some (.ref a0), some (.int x1), some (.int x2), none]) (st' := [.int x1, .ref a0]) [.aload_n 0, .iload_n 1] (by decide +kernel) rfl ?_
  obtain ⟨s3, h⟩ := h
  refine q_callV (ci := 11) (Mc := M_X11_isStation) (z := 1) (b := a0) (As := [.int x1]) (st := []) mo_X11_isStation mi_X11_isStation ml_X11_264_X11_isStation rfl rfl (by decide) rfl (by decide) (by decide) rfl (Nat.le_of_ble_eq_true rfl) (by decide +kernel) s3 h (q_fB fun b2 A1 h => ?_)
  show q_Wp _ _ _ _ 0 0 5 [some (.ref a0), some (.int x1), some (.int x2), none] [.int (q_i b2)] A1
  refine q_blk (pc' := 8) (lo' := [some (.ref a0), some (.int x1), some (.int x2), some (.int (q_i b2))]) (st' := [.int (q_i b2), .ref a0]) [.istore_n 3, .aload_n 0, .iload_n 3] (by decide +kernel) rfl ?_
  refine q_ifB_ne 15 (off := 7) (by decide +kernel) (by decide) (fun c4 => ?_) (fun c4 => ?_)
  · have h := h.1 c4
    refine q_blk (pc' := 17) (lo' := [some (.ref a0), some (.int x1), some (.int x2), some (.int (q_i b2))]) (st' := [.int (q_i b2), .int (nI 0), .ref a0]) [.iconst 0, .iload_n 3] (by decide +kernel) rfl ?_
    refine q_ifB_eq 36 (off := 19) (by decide +kernel) (by decide) (fun c6 => ?_) (fun c6 => ?_)
    · have h := h.2 c6
      refine q_blk (pc' := 38) (lo' := [some (.ref a0), some (.int x1), some (.int x2), some (.int (q_i b2))]) (st' := [.int (nI 0), .int (nI 0), .int (nI 0), .ref a0]) [.iconst 0, .iconst 0] (by decide +kernel) rfl ?_
      exact q_wk [some (.ref a0), some (.int x1), some (.int x2), none] (And.intro rfl (And.intro rfl (And.intro rfl trivial))) h
    · have h := h.1 c6
      refine q_blk (pc' := 23) (lo' := [some (.ref a0), some (.int x1), some (.int x2), some (.int (q_i b2))]) (st' := [.long (lN 0), .long (x2.toInt64), .int (nI 0), .ref a0]) [.iload_n 2, .i2l, .lconst 0] (by decide +kernel) rfl ?_
      refine q_ldc2 (v := 9) c2_X11_292 (by decide +kernel) ?_
      --
      refine q_callS (Mc := M_X11_isIn) (z := 3) (As := [.long (x2.toInt64), .long (lN 0), .long (lN 9)]) (st := [.int (nI 0), .ref a0]) mo_X11_isIn ms_X11_isIn ml_X11_71_X11_isIn rfl rfl (by decide) (by decide) rfl (Nat.le_of_ble_eq_true rfl) (by decide +kernel) h (q_fB fun b9 A8 h => ?_)
      show q_Wp _ _ _ _ 0 0 29 [some (.ref a0), some (.int x1), some (.int x2), some (.int (q_i b2))] [.int (q_i b9), .int (nI 0), .ref a0] A8
      refine q_ifB_ne 36 (off := 7) (by decide +kernel) (by decide) (fun c10 => ?_) (fun c10 => ?_)
      · have h := h.1 c10
        refine q_blk (pc' := 38) (lo' := [some (.ref a0), some (.int x1), some (.int x2), some (.int (q_i b2))]) (st' := [.int (nI 0), .int (nI 0), .int (nI 0), .ref a0]) [.iconst 0, .iconst 0] (by decide +kernel) rfl ?_
        exact q_wk [some (.ref a0), some (.int x1), some (.int x2), none] (And.intro rfl (And.intro rfl (And.intro rfl trivial))) h
      · have h := h.2 c10
        refine q_blk (pc' := 33) (lo' := [some (.ref a0), some (.int x1), some (.int x2), some (.int (q_i b2))]) (st' := [.int (nI 1), .int (nI 0), .ref a0]) [.iconst 1] (by decide +kernel) rfl ?_
        refine q_goto 37 (off := 4) (by decide +kernel) (by decide) ?_
        refine q_blk (pc' := 38) (lo' := [some (.ref a0), some (.int x1), some (.int x2), some (.int (q_i b2))]) (st' := [.int (nI 0), .int (nI 1), .int (nI 0), .ref a0]) [.iconst 0] (by decide +kernel) rfl ?_
        exact q_wk [some (.ref a0), some (.int x1), some (.int x2), none] (And.intro rfl (And.intro rfl (And.intro rfl trivial))) h
  · have h := h.2 c4
    refine q_blk (pc' := 12) (lo' := [some (.ref a0), some (.int x1), some (.int x2), some (.int (q_i b2))]) (st' := [.int (nI 1), .ref a0]) [.iconst 1] (by decide +kernel) rfl ?_
    refine q_goto 16 (off := 4) (by decide +kernel) (by decide) ?_
    refine q_blk (pc' := 17) (lo' := [some (.ref a0), some (.int x1), some (.int x2), some (.int (q_i b2))]) (st' := [.int (q_i b2), .int (nI 1), .ref a0]) [.iload_n 3] (by decide +kernel) rfl ?_
    refine q_ifB_eq 36 (off := 19) (by decide +kernel) (by decide) (fun c12 => ?_) (fun c12 => ?_)
    · have h := h.2 c12
      refine q_blk (pc' := 38) (lo' := [some (.ref a0), some (.int x1), some (.int x2), some (.int (q_i b2))]) (st' := [.int (nI 0), .int (nI 0), .int (nI 1), .ref a0]) [.iconst 0, .iconst 0] (by decide +kernel) rfl ?_
      exact q_wk [some (.ref a0), some (.int x1), some (.int x2), none] (And.intro rfl (And.intro rfl (And.intro rfl trivial))) h
    · have h := h.1 c12
      refine q_blk (pc' := 23) (lo' := [some (.ref a0), some (.int x1), some (.int x2), some (.int (q_i b2))]) (st' := [.long (lN 0), .long (x2.toInt64), .int (nI 1), .ref a0]) [.iload_n 2, .i2l, .lconst 0] (by decide +kernel) rfl ?_
      refine q_ldc2 (v := 9) c2_X11_292 (by decide +kernel) ?_
      --
      refine q_callS (Mc := M_X11_isIn) (z := 3) (As := [.long (x2.toInt64), .long (lN 0), .long (lN 9)]) (st := [.int (nI 1), .ref a0]) mo_X11_isIn ms_X11_isIn ml_X11_71_X11_isIn rfl rfl (by decide) (by decide) rfl (Nat.le_of_ble_eq_true rfl) (by decide +kernel) h (q_fB fun b15 A14 h => ?_)
      show q_Wp _ _ _ _ 0 0 29 [some (.ref a0), some (.int x1), some (.int x2), some (.int (q_i b2))] [.int (q_i b15), .int (nI 1), .ref a0] A14
      refine q_ifB_ne 36 (off := 7) (by decide +kernel) (by decide) (fun c16 => ?_) (fun c16 => ?_)
      · have h := h.1 c16
        refine q_blk (pc' := 38) (lo' := [some (.ref a0), some (.int x1), some (.int x2), some (.int (q_i b2))]) (st' := [.int (nI 0), .int (nI 0), .int (nI 1), .ref a0]) [.iconst 0, .iconst 0] (by decide +kernel) rfl ?_
        exact q_wk [some (.ref a0), some (.int x1), some (.int x2), none] (And.intro rfl (And.intro rfl (And.intro rfl trivial))) h
      · have h := h.2 c16
        refine q_blk (pc' := 33) (lo' := [some (.ref a0), some (.int x1), some (.int x2), some (.int (q_i b2))]) (st' := [.int (nI 1), .int (nI 1), .ref a0]) [.iconst 1] (by decide +kernel) rfl ?_
        refine q_goto 37 (off := 4) (by decide +kernel) (by decide) ?_
        refine q_blk (pc' := 38) (lo' := [some (.ref a0), some (.int x1), some (.int x2), some (.int (q_i b2))]) (st' := [.int (nI 0), .int (nI 1), .int (nI 1), .ref a0]) [.iconst 0] (by decide +kernel) rfl ?_
        exact q_wk [some (.ref a0), some (.int x1), some (.int x2), none] (And.intro rfl (And.intro rfl (And.intro rfl trivial))) h
theorem f_X11_staff_38 {G : q_G} {X : String → q_H → Prop} {f : Int32 → q_H → Prop} {A : q_H} {a0 : Nat} {x1 : Int32} {x2 : Int32} {p0 : Bool} {p1 : Bool} {p2 : Bool} {u3 : Nat} (h : q_sh A u3 = (12, 0) ∧ q_Wc G M_X11_fails [.ref u3, .int (q_i p2), .int (q_i p1), .int (q_i p0)] A (q_KB fun b2 A1 => ((b2 = true → f (nI 0) A1) ∧ (b2 = false → q_sh A1 a0 = (12, 0) ∧ q_Wc G M_X11_remembers [.ref a0] A1 (q_KV fun A6 => q_sh A6 a0 = (12, 0) ∧ q_Wc G M_X11_staffs [.ref a0, .int x1, .int x2] A6 (q_KI fun r10 A9 => f r10 A9) q_nX) q_nX))) q_nX) : q_Wp G M_X11_staff (q_KI f) X 0 0 38 [some (.ref a0), some (.int x1), some (.int x2), none] [.int (q_i p0), .int (q_i p1), .int (q_i p2), .ref u3] A := by
  obtain ⟨s3, h⟩ := h
  refine q_callV (ci := 11) (Mc := M_X11_fails) (z := 3) (b := u3) (As := [.int (q_i p2), .int (q_i p1), .int (q_i p0)]) (st := []) mo_X11_fails mi_X11_fails ml_X11_260_X11_fails rfl rfl (by decide) rfl (by decide) (by decide) rfl (Nat.le_of_ble_eq_true rfl) (by decide +kernel) s3 h (q_fB fun b2 A1 h => ?_)
  show q_Wp _ _ _ _ 0 0 41 [some (.ref a0), some (.int x1), some (.int x2), none] [.int (q_i b2)] A1
  refine q_ifB_eq 46 (off := 5) (by decide +kernel) (by decide) (fun c4 => ?_) (fun c4 => ?_)
  · have h := h.2 c4
    refine q_blk (pc' := 47) (lo' := [some (.ref a0), some (.int x1), some (.int x2), none]) (st' := [.ref a0]) [.aload_n 0] (by decide +kernel) rfl ?_
    obtain ⟨s8, h⟩ := h
    refine q_callV (ci := 11) (Mc := M_X11_remembers) (z := 0) (b := a0) (As := []) (st := []) mo_X11_remembers mi_X11_remembers ml_X11_289_X11_remembers rfl rfl (by decide) rfl (by decide) (by decide) rfl (Nat.le_of_ble_eq_true rfl) (by decide +kernel) s8 h (q_fV fun A6 h => ?_)
    show q_Wp _ _ _ _ 0 0 50 [some (.ref a0), some (.int x1), some (.int x2), none] [] A6
    refine q_blk (pc' := 53) (lo' := [some (.ref a0), some (.int x1), some (.int x2), none]) (st' := [.int x2, .int x1, .ref a0]) [.aload_n 0, .iload_n 1, .iload_n 2] (by decide +kernel) rfl ?_
    obtain ⟨s11, h⟩ := h
    refine q_callV (ci := 11) (Mc := M_X11_staffs) (z := 2) (b := a0) (As := [.int x1, .int x2]) (st := []) mo_X11_staffs mi_X11_staffs ml_X11_294_X11_staffs rfl rfl (by decide) rfl (by decide) (by decide) rfl (Nat.le_of_ble_eq_true rfl) (by decide +kernel) s11 h (q_fI fun r10 A9 h => ?_)
    show q_Wp _ _ _ _ 0 0 56 [some (.ref a0), some (.int x1), some (.int x2), none] [.int r10] A9
    exact q_retI rfl (by decide) (by decide) (by decide +kernel) ⟨_, rfl, h⟩
  · have h := h.1 c4
    refine q_blk (pc' := 45) (lo' := [some (.ref a0), some (.int x1), some (.int x2), none]) (st' := [.int (nI 0)]) [.iconst 0] (by decide +kernel) rfl ?_
    exact q_retI rfl (by decide) (by decide) (by decide +kernel) ⟨_, rfl, h⟩
theorem f_X11_run {G : q_G} {X : String → q_H → Prop} {f : Int32 → q_H → Prop} {A : q_H} {a0 : Nat} {x1 : Int32} (h : q_Wc G M_X11_isIn [.long (x1.toInt64), .long (lN 1), .long (lN 200)] A (q_KB fun b2 A1 => ((b2 = true → ((b2 = true → q_sh A1 a0 = (12, 0) ∧ ∃ r8 : Nat, q_R A1 a0 6 = some r8 ∧ ∃ z11 : Nat, q_sh A1 r8 = (50, z11) ∧ z11 < 2147483648 ∧ 8 < z11 ∧ ((((q_I A1 r8 8) + x1) ≤ (nI 9999) → q_Wp G M_X11_run (q_KI f) X 0 0 45 [some (.ref a0), some (.int x1), none, none] [.int (q_i false), .int (q_i false), .int (q_i false), .ref a0] A1) ∧ (¬ ((q_I A1 r8 8) + x1) ≤ (nI 9999) → q_Wp G M_X11_run (q_KI f) X 0 0 45 [some (.ref a0), some (.int x1), none, none] [.int (q_i false), .int (q_i true), .int (q_i false), .ref a0] A1))) ∧ (b2 = false → q_Wp G M_X11_run (q_KI f) X 0 0 45 [some (.ref a0), some (.int x1), none, none] [.int (q_i false), .int (q_i false), .int (q_i false), .ref a0] A1))) ∧ (b2 = false → ((b2 = true → q_sh A1 a0 = (12, 0) ∧ ∃ r18 : Nat, q_R A1 a0 6 = some r18 ∧ ∃ z21 : Nat, q_sh A1 r18 = (50, z21) ∧ z21 < 2147483648 ∧ 8 < z21 ∧ ((((q_I A1 r18 8) + x1) ≤ (nI 9999) → q_Wp G M_X11_run (q_KI f) X 0 0 45 [some (.ref a0), some (.int x1), none, none] [.int (q_i false), .int (q_i false), .int (q_i true), .ref a0] A1) ∧ (¬ ((q_I A1 r18 8) + x1) ≤ (nI 9999) → q_Wp G M_X11_run (q_KI f) X 0 0 45 [some (.ref a0), some (.int x1), none, none] [.int (q_i false), .int (q_i true), .int (q_i true), .ref a0] A1))) ∧ (b2 = false → q_Wp G M_X11_run (q_KI f) X 0 0 45 [some (.ref a0), some (.int x1), none, none] [.int (q_i false), .int (q_i false), .int (q_i true), .ref a0] A1))))) q_nX) : q_Wc G M_X11_run [.ref a0, .int x1] A (q_KI f) X := by
  refine q_Wc.of [some (.ref a0), some (.int x1), none, none] mo_X11_run.2.2.2.2.2 rfl (Nat.le_of_ble_eq_true rfl) rfl ?_
  refine q_blk (pc' := 3) (lo' := [some (.ref a0), some (.int x1), none, none]) (st' := [.long (lN 1), .long (x1.toInt64)]) [.iload_n 1, .i2l, .lconst 1] (by decide +kernel) rfl ?_
  refine q_ldc2 (v := 200) c2_X11_297 (by decide +kernel) ?_
  refine q_callS (Mc := M_X11_isIn) (z := 3) (As := [.long (x1.toInt64), .long (lN 1), .long (lN 200)]) (st := []) mo_X11_isIn ms_X11_isIn ml_X11_71_X11_isIn rfl rfl (by decide) (by decide) rfl (Nat.le_of_ble_eq_true rfl) (by decide +kernel) h (q_fB fun b2 A1 h => ?_)
  show q_Wp _ _ _ _ 0 0 9 [some (.ref a0), some (.int x1), none, none] [.int (q_i b2)] A1
  refine q_blk (pc' := 12) (lo' := [some (.ref a0), some (.int x1), some (.int (q_i b2)), none]) (st' := [.int (q_i b2), .ref a0]) [.istore_n 2, .aload_n 0, .iload_n 2] (by decide +kernel) rfl ?_
  refine q_ifB_ne 19 (off := 7) (by decide +kernel) (by decide) (fun c3 => ?_) (fun c3 => ?_)
  · have h := h.1 c3
    refine q_blk (pc' := 21) (lo' := [some (.ref a0), some (.int x1), some (.int (q_i b2)), none]) (st' := [.int (q_i b2), .int (nI 0), .ref a0]) [.iconst 0, .iload_n 2] (by decide +kernel) rfl ?_
    refine q_ifB_eq 43 (off := 22) (by decide +kernel) (by decide) (fun c5 => ?_) (fun c5 => ?_)
    · have h := h.2 c5
      refine q_blk (pc' := 45) (lo' := [some (.ref a0), some (.int x1), some (.int (q_i b2)), none]) (st' := [.int (nI 0), .int (nI 0), .int (nI 0), .ref a0]) [.iconst 0, .iconst 0] (by decide +kernel) rfl ?_
      exact q_wk [some (.ref a0), some (.int x1), none, none] (And.intro rfl (And.intro rfl trivial)) h
    · have h := h.1 c5
      refine q_blk (pc' := 25) (lo' := [some (.ref a0), some (.int x1), some (.int (q_i b2)), none]) (st' := [.ref a0, .int (nI 0), .ref a0]) [.aload_n 0] (by decide +kernel) rfl ?_
      obtain ⟨s7, h⟩ := h
      obtain ⟨r8, e9, h⟩ := h
      refine q_getR fl_X11_30 rfl (by decide) (by decide +kernel) s7 e9 ?_
      refine q_blk (pc' := 30) (lo' := [some (.ref a0), some (.int x1), some (.int (q_i b2)), none]) (st' := [.int (nI 8), .ref r8, .int (nI 0), .ref a0]) [.bipush 8] (by decide +kernel) rfl ?_
      obtain ⟨z11, s10, b12, h⟩ := h
      obtain ⟨l13, h⟩ := h
      refine q_iald rfl (by decide +kernel) s10 l13 b12 ?_
      refine q_blk (pc' := 36) (lo' := [some (.ref a0), some (.int x1), some (.int (q_i b2)), none]) (st' := [.int (nI 9999), .int ((q_I A1 r8 8) + x1), .int (nI 0), .ref a0]) [.iload_n 1, .iadd, .sipush 9999] (by decide +kernel) rfl ?_
      refine q_icmp_le 43 (off := 7) (by decide +kernel) (by decide) (fun c14 => ?_) (fun c14 => ?_)
      · have h := h.1 c14
        refine q_blk (pc' := 45) (lo' := [some (.ref a0), some (.int x1), some (.int (q_i b2)), none]) (st' := [.int (nI 0), .int (nI 0), .int (nI 0), .ref a0]) [.iconst 0, .iconst 0] (by decide +kernel) rfl ?_
        exact q_wk [some (.ref a0), some (.int x1), none, none] (And.intro rfl (And.intro rfl trivial)) h
      · have h := h.2 c14
        refine q_blk (pc' := 40) (lo' := [some (.ref a0), some (.int x1), some (.int (q_i b2)), none]) (st' := [.int (nI 1), .int (nI 0), .ref a0]) [.iconst 1] (by decide +kernel) rfl ?_
        refine q_goto 44 (off := 4) (by decide +kernel) (by decide) ?_
        refine q_blk (pc' := 45) (lo' := [some (.ref a0), some (.int x1), some (.int (q_i b2)), none]) (st' := [.int (nI 0), .int (nI 1), .int (nI 0), .ref a0]) [.iconst 0] (by decide +kernel) rfl ?_
        exact q_wk [some (.ref a0), some (.int x1), none, none] (And.intro rfl (And.intro rfl trivial)) h
  · have h := h.2 c3
    refine q_blk (pc' := 16) (lo' := [some (.ref a0), some (.int x1), some (.int (q_i b2)), none]) (st' := [.int (nI 1), .ref a0]) [.iconst 1] (by decide +kernel) rfl ?_
    refine q_goto 20 (off := 4) (by decide +kernel) (by decide) ?_
    refine q_blk (pc' := 21) (lo' := [some (.ref a0), some (.int x1), some (.int (q_i b2)), none]) (st' := [.int (q_i b2), .int (nI 1), .ref a0]) [.iload_n 2] (by decide +kernel) rfl ?_
    refine q_ifB_eq 43 (off := 22) (by decide +kernel) (by decide) (fun c15 => ?_) (fun c15 => ?_)
    · have h := h.2 c15
      refine q_blk (pc' := 45) (lo' := [some (.ref a0), some (.int x1), some (.int (q_i b2)), none]) (st' := [.int (nI 0), .int (nI 0), .int (nI 1), .ref a0]) [.iconst 0, .iconst 0] (by decide +kernel) rfl ?_
      exact q_wk [some (.ref a0), some (.int x1), none, none] (And.intro rfl (And.intro rfl trivial)) h
    · have h := h.1 c15
      refine q_blk (pc' := 25) (lo' := [some (.ref a0), some (.int x1), some (.int (q_i b2)), none]) (st' := [.ref a0, .int (nI 1), .ref a0]) [.aload_n 0] (by decide +kernel) rfl ?_
      obtain ⟨s17, h⟩ := h
      obtain ⟨r18, e19, h⟩ := h
      refine q_getR fl_X11_30 rfl (by decide) (by decide +kernel) s17 e19 ?_
      refine q_blk (pc' := 30) (lo' := [some (.ref a0), some (.int x1), some (.int (q_i b2)), none]) (st' := [.int (nI 8), .ref r18, .int (nI 1), .ref a0]) [.bipush 8] (by decide +kernel) rfl ?_
      obtain ⟨z21, s20, b22, h⟩ := h
      obtain ⟨l23, h⟩ := h
      refine q_iald rfl (by decide +kernel) s20 l23 b22 ?_
      refine q_blk (pc' := 36) (lo' := [some (.ref a0), some (.int x1), some (.int (q_i b2)), none]) (st' := [.int (nI 9999), .int ((q_I A1 r18 8) + x1), .int (nI 1), .ref a0]) [.iload_n 1, .iadd, .sipush 9999] (by decide +kernel) rfl ?_
      refine q_icmp_le 43 (off := 7) (by decide +kernel) (by decide) (fun c24 => ?_) (fun c24 => ?_)
      · have h := h.1 c24
        refine q_blk (pc' := 45) (lo' := [some (.ref a0), some (.int x1), some (.int (q_i b2)), none]) (st' := [.int (nI 0), .int (nI 0), .int (nI 1), .ref a0]) [.iconst 0, .iconst 0] (by decide +kernel) rfl ?_
        exact q_wk [some (.ref a0), some (.int x1), none, none] (And.intro rfl (And.intro rfl trivial)) h
      · have h := h.2 c24
        refine q_blk (pc' := 40) (lo' := [some (.ref a0), some (.int x1), some (.int (q_i b2)), none]) (st' := [.int (nI 1), .int (nI 1), .ref a0]) [.iconst 1] (by decide +kernel) rfl ?_
        refine q_goto 44 (off := 4) (by decide +kernel) (by decide) ?_
        refine q_blk (pc' := 45) (lo' := [some (.ref a0), some (.int x1), some (.int (q_i b2)), none]) (st' := [.int (nI 0), .int (nI 1), .int (nI 1), .ref a0]) [.iconst 0] (by decide +kernel) rfl ?_
        exact q_wk [some (.ref a0), some (.int x1), none, none] (And.intro rfl (And.intro rfl trivial)) h
theorem f_X11_run_45 {G : q_G} {X : String → q_H → Prop} {f : Int32 → q_H → Prop} {A : q_H} {a0 : Nat} {x1 : Int32} {p0 : Bool} {p1 : Bool} {p2 : Bool} {u3 : Nat} (h : q_sh A u3 = (12, 0) ∧ q_Wc G M_X11_fails [.ref u3, .int (q_i p2), .int (q_i p1), .int (q_i p0)] A (q_KB fun b2 A1 => ((b2 = true → f (nI 0) A1) ∧ (b2 = false → q_sh A1 a0 = (12, 0) ∧ q_Wc G M_X11_remembers [.ref a0] A1 (q_KV fun A6 => q_sh A6 a0 = (12, 0) ∧ ∃ r10 : Nat, q_R A6 a0 6 = some r10 ∧ ∃ z13 : Nat, q_sh A6 r10 = (50, z13) ∧ z13 < 2147483648 ∧ 10 < z13 ∧ q_Wc G M_X11_ticks [.ref a0, .int x1] A6 (q_KV fun A16 => q_sh A16 a0 = (12, 0) ∧ ∃ r19 : Nat, q_R A16 a0 6 = some r19 ∧ ∃ z22 : Nat, q_sh A16 r19 = (50, z22) ∧ z22 < 2147483648 ∧ 10 < z22 ∧ f ((q_I A16 r19 10) - (q_I A6 r10 10)) A16) q_nX) q_nX))) q_nX) : q_Wp G M_X11_run (q_KI f) X 0 0 45 [some (.ref a0), some (.int x1), none, none] [.int (q_i p0), .int (q_i p1), .int (q_i p2), .ref u3] A := by
  obtain ⟨s3, h⟩ := h
  refine q_callV (ci := 11) (Mc := M_X11_fails) (z := 3) (b := u3) (As := [.int (q_i p2), .int (q_i p1), .int (q_i p0)]) (st := []) mo_X11_fails mi_X11_fails ml_X11_260_X11_fails rfl rfl (by decide) rfl (by decide) (by decide) rfl (Nat.le_of_ble_eq_true rfl) (by decide +kernel) s3 h (q_fB fun b2 A1 h => ?_)
  show q_Wp _ _ _ _ 0 0 48 [some (.ref a0), some (.int x1), none, none] [.int (q_i b2)] A1
  refine q_ifB_eq 53 (off := 5) (by decide +kernel) (by decide) (fun c4 => ?_) (fun c4 => ?_)
  · have h := h.2 c4
    refine q_blk (pc' := 54) (lo' := [some (.ref a0), some (.int x1), none, none]) (st' := [.ref a0]) [.aload_n 0] (by decide +kernel) rfl ?_
    obtain ⟨s8, h⟩ := h
    refine q_callV (ci := 11) (Mc := M_X11_remembers) (z := 0) (b := a0) (As := []) (st := []) mo_X11_remembers mi_X11_remembers ml_X11_289_X11_remembers rfl rfl (by decide) rfl (by decide) (by decide) rfl (Nat.le_of_ble_eq_true rfl) (by decide +kernel) s8 h (q_fV fun A6 h => ?_)
    show q_Wp _ _ _ _ 0 0 57 [some (.ref a0), some (.int x1), none, none] [] A6
    refine q_blk (pc' := 58) (lo' := [some (.ref a0), some (.int x1), none, none]) (st' := [.ref a0]) [.aload_n 0] (by decide +kernel) rfl ?_
    obtain ⟨s9, h⟩ := h
    obtain ⟨r10, e11, h⟩ := h
    refine q_getR fl_X11_30 rfl (by decide) (by decide +kernel) s9 e11 ?_
    refine q_blk (pc' := 63) (lo' := [some (.ref a0), some (.int x1), none, none]) (st' := [.int (nI 10), .ref r10]) [.bipush 10] (by decide +kernel) rfl ?_
    obtain ⟨z13, s12, b14, h⟩ := h
    obtain ⟨l15, h⟩ := h
    refine q_iald rfl (by decide +kernel) s12 l15 b14 ?_
    refine q_blk (pc' := 67) (lo' := [some (.ref a0), some (.int x1), none, some (.int (q_I A6 r10 10))]) (st' := [.int x1, .ref a0]) [.istore_n 3, .aload_n 0, .iload_n 1] (by decide +kernel) rfl ?_
    refine q_callV (ci := 11) (Mc := M_X11_ticks) (z := 1) (b := a0) (As := [.int x1]) (st := []) mo_X11_ticks mi_X11_ticks ml_X11_299_X11_ticks rfl rfl (by decide) rfl (by decide) (by decide) rfl (Nat.le_of_ble_eq_true rfl) (by decide +kernel) s9 h (q_fV fun A16 h => ?_)
    show q_Wp _ _ _ _ 0 0 70 [some (.ref a0), some (.int x1), none, some (.int (q_I A6 r10 10))] [] A16
    refine q_blk (pc' := 71) (lo' := [some (.ref a0), some (.int x1), none, some (.int (q_I A6 r10 10))]) (st' := [.ref a0]) [.aload_n 0] (by decide +kernel) rfl ?_
    obtain ⟨s18, h⟩ := h
    obtain ⟨r19, e20, h⟩ := h
    refine q_getR fl_X11_30 rfl (by decide) (by decide +kernel) s18 e20 ?_
    refine q_blk (pc' := 76) (lo' := [some (.ref a0), some (.int x1), none, some (.int (q_I A6 r10 10))]) (st' := [.int (nI 10), .ref r19]) [.bipush 10] (by decide +kernel) rfl ?_
    obtain ⟨z22, s21, b23, h⟩ := h
    obtain ⟨l24, h⟩ := h
    refine q_iald rfl (by decide +kernel) s21 l24 b23 ?_
    refine q_blk (pc' := 79) (lo' := [some (.ref a0), some (.int x1), none, some (.int (q_I A6 r10 10))]) (st' := [.int ((q_I A16 r19 10) - (q_I A6 r10 10))]) [.iload_n 3, .isub] (by decide +kernel) rfl ?_
    exact q_retI rfl (by decide) (by decide) (by decide +kernel) ⟨_, rfl, h⟩
  · have h := h.1 c4
    refine q_blk (pc' := 52) (lo' := [some (.ref a0), some (.int x1), none, none]) (st' := [.int (nI 0)]) [.iconst 0] (by decide +kernel) rfl ?_
    exact q_retI rfl (by decide) (by decide) (by decide +kernel) ⟨_, rfl, h⟩
theorem f_X11_ofBuyer {G : q_G} {X : String → q_H → Prop} {f : Int32 → q_H → Prop} {A : q_H} {a0 : Nat} {x1 : Int32} {x2 : Int32} (h : q_sh A a0 = (12, 0) ∧ ∃ r2 : Nat, q_R A a0 2 = some r2 ∧ ∃ z5 : Nat, q_sh A r2 = (50, z5) ∧ z5 < 2147483648 ∧ ∃ j7 : Nat, (((nI 27) + ((nI 5) * x1)) + x2) = nI j7 ∧ j7 < z5 ∧ f (q_I A r2 j7) A) : q_Wc G M_X11_ofBuyer [.ref a0, .int x1, .int x2] A (q_KI f) X := by
  refine q_Wc.of [some (.ref a0), some (.int x1), some (.int x2)] mo_X11_ofBuyer.2.2.2.2.2 rfl (Nat.le_of_ble_eq_true rfl) rfl ?_
  refine q_blk (pc' := 1) (lo' := [some (.ref a0), some (.int x1), some (.int x2)]) (st' := [.ref a0]) [.aload_n 0] (by decide +kernel) rfl ?_
  obtain ⟨s1, h⟩ := h
  obtain ⟨r2, e3, h⟩ := h
  refine q_getR fl_X11_17 rfl (by decide) (by decide +kernel) s1 e3 ?_
  refine q_blk (pc' := 12) (lo' := [some (.ref a0), some (.int x1), some (.int x2)]) (st' := [.int (((nI 27) + ((nI 5) * x1)) + x2), .ref r2]) [.bipush 27, .iconst 5, .iload_n 1, .imul, .iadd, .iload_n 2, .iadd] (by decide +kernel) rfl ?_
  obtain ⟨z5, s4, b6, h⟩ := h
  obtain ⟨j7, e8, h⟩ := h
  obtain ⟨l9, h⟩ := h
  refine q_iald e8 (by decide +kernel) s4 l9 b6 ?_
  exact q_retI rfl (by decide) (by decide) (by decide +kernel) ⟨_, rfl, h⟩
theorem f_X11_takesBale {G : q_G} {X : String → q_H → Prop} {f : Bool → q_H → Prop} {A : q_H} {a0 : Nat} {x1 : Int32} {x2 : Int32} (h : q_sh A a0 = (12, 0) ∧ q_Wc G M_X11_ofBuyer [.ref a0, .int x1, .int (nI 0)] A (q_KI fun r2 A1 => q_sh A1 a0 = (12, 0) ∧ ∃ r5 : Nat, q_R A1 a0 6 = some r5 ∧ q_Wc G M_X11_storedAt [.int x2, .int (nI 1)] A1 (q_KI fun r8 A7 => ∃ z10 : Nat, q_sh A7 r5 = (50, z10) ∧ z10 < 2147483648 ∧ ∃ j12 : Nat, r8 = nI j12 ∧ j12 < z10 ∧ ((r2 = (q_I A7 r5 j12) → q_sh A7 a0 = (12, 0) ∧ ∃ r17 : Nat, q_R A7 a0 6 = some r17 ∧ q_Wc G M_X11_storedAt [.int x2, .int (nI 3)] A7 (q_KI fun r20 A19 => ∃ z22 : Nat, q_sh A19 r17 = (50, z22) ∧ z22 < 2147483648 ∧ ∃ j24 : Nat, r20 = nI j24 ∧ j24 < z22 ∧ q_sh A19 a0 = (12, 0) ∧ q_Wc G M_X11_ofBuyer [.ref a0, .int x1, .int (nI 1)] A19 (q_KI fun r28 A27 => ((r28 < (q_I A19 r17 j24) → f false A27) ∧ (¬ r28 < (q_I A19 r17 j24) → f true A27))) q_nX) q_nX) ∧ (¬ r2 = (q_I A7 r5 j12) → f false A7))) q_nX) q_nX) : q_Wc G M_X11_takesBale [.ref a0, .int x1, .int x2] A (q_KB f) X := by
  refine q_Wc.of [some (.ref a0), some (.int x1), some (.int x2)] mo_X11_takesBale.2.2.2.2.2 rfl (Nat.le_of_ble_eq_true rfl) rfl ?_
  refine q_blk (pc' := 3) (lo' := [some (.ref a0), some (.int x1), some (.int x2)]) (st' := [.int (nI 0), .int x1, .ref a0]) [.aload_n 0, .iload_n 1, .iconst 0] (by decide +kernel) rfl ?_
  obtain ⟨s3, h⟩ := h
  refine q_callV (ci := 11) (Mc := M_X11_ofBuyer) (z := 2) (b := a0) (As := [.int x1, .int (nI 0)]) (st := []) mo_X11_ofBuyer mi_X11_ofBuyer ml_X11_302_X11_ofBuyer rfl rfl (by decide) rfl (by decide) (by decide) rfl (Nat.le_of_ble_eq_true rfl) (by decide +kernel) s3 h (q_fI fun r2 A1 h => ?_)
  show q_Wp _ _ _ _ 0 0 6 [some (.ref a0), some (.int x1), some (.int x2)] [.int r2] A1
  refine q_blk (pc' := 7) (lo' := [some (.ref a0), some (.int x1), some (.int x2)]) (st' := [.ref a0, .int r2]) [.aload_n 0] (by decide +kernel) rfl ?_
  obtain ⟨s4, h⟩ := h
  obtain ⟨r5, e6, h⟩ := h
  refine q_getR fl_X11_30 rfl (by decide) (by decide +kernel) s4 e6 ?_
  refine q_blk (pc' := 12) (lo' := [some (.ref a0), some (.int x1), some (.int x2)]) (st' := [.int (nI 1), .int x2, .ref r5, .int r2]) [.iload_n 2, .iconst 1] (by decide +kernel) rfl ?_
  refine q_callS (Mc := M_X11_storedAt) (z := 2) (As := [.int x2, .int (nI 1)]) (st := [.ref r5, .int r2]) mo_X11_storedAt ms_X11_storedAt ml_X11_234_X11_storedAt rfl rfl (by decide) (by decide) rfl (Nat.le_of_ble_eq_true rfl) (by decide +kernel) h (q_fI fun r8 A7 h => ?_)
  show q_Wp _ _ _ _ 0 0 15 [some (.ref a0), some (.int x1), some (.int x2)] [.int r8, .ref r5, .int r2] A7
  obtain ⟨z10, s9, b11, h⟩ := h
  obtain ⟨j12, e13, h⟩ := h
  obtain ⟨l14, h⟩ := h
  refine q_iald e13 (by decide +kernel) s9 l14 b11 ?_
  refine q_icmp_ne 42 (off := 26) (by decide +kernel) (by decide) (fun c15 => ?_) (fun c15 => ?_)
  · have h := h.2 c15
    refine q_blk (pc' := 43) (lo' := [some (.ref a0), some (.int x1), some (.int x2)]) (st' := [.int (nI 0)]) [.iconst 0] (by decide +kernel) rfl ?_
    exact q_retZ (r := q_i false) rfl (q_nz _) (by decide) (by decide) (by decide +kernel) ⟨false, rfl, h⟩
  · have h := h.1 c15
    refine q_blk (pc' := 20) (lo' := [some (.ref a0), some (.int x1), some (.int x2)]) (st' := [.ref a0]) [.aload_n 0] (by decide +kernel) rfl ?_
    obtain ⟨s16, h⟩ := h
    obtain ⟨r17, e18, h⟩ := h
    refine q_getR fl_X11_30 rfl (by decide) (by decide +kernel) s16 e18 ?_
    refine q_blk (pc' := 25) (lo' := [some (.ref a0), some (.int x1), some (.int x2)]) (st' := [.int (nI 3), .int x2, .ref r17]) [.iload_n 2, .iconst 3] (by decide +kernel) rfl ?_
    refine q_callS (Mc := M_X11_storedAt) (z := 2) (As := [.int x2, .int (nI 3)]) (st := [.ref r17]) mo_X11_storedAt ms_X11_storedAt ml_X11_234_X11_storedAt rfl rfl (by decide) (by decide) rfl (Nat.le_of_ble_eq_true rfl) (by decide +kernel) h (q_fI fun r20 A19 h => ?_)
    show q_Wp _ _ _ _ 0 0 28 [some (.ref a0), some (.int x1), some (.int x2)] [.int r20, .ref r17] A19
    obtain ⟨z22, s21, b23, h⟩ := h
    obtain ⟨j24, e25, h⟩ := h
    obtain ⟨l26, h⟩ := h
    refine q_iald e25 (by decide +kernel) s21 l26 b23 ?_
    refine q_blk (pc' := 32) (lo' := [some (.ref a0), some (.int x1), some (.int x2)]) (st' := [.int (nI 1), .int x1, .ref a0, .int (q_I A19 r17 j24)]) [.aload_n 0, .iload_n 1, .iconst 1] (by decide +kernel) rfl ?_
    obtain ⟨s29, h⟩ := h
    refine q_callV (ci := 11) (Mc := M_X11_ofBuyer) (z := 2) (b := a0) (As := [.int x1, .int (nI 1)]) (st := [.int (q_I A19 r17 j24)]) mo_X11_ofBuyer mi_X11_ofBuyer ml_X11_302_X11_ofBuyer rfl rfl (by decide) rfl (by decide) (by decide) rfl (Nat.le_of_ble_eq_true rfl) (by decide +kernel) s29 h (q_fI fun r28 A27 h => ?_)
    show q_Wp _ _ _ _ 0 0 35 [some (.ref a0), some (.int x1), some (.int x2)] [.int r28, .int (q_I A19 r17 j24)] A27
    refine q_icmp_gt 42 (off := 7) (by decide +kernel) (by decide) (fun c30 => ?_) (fun c30 => ?_)
    · have h := h.1 c30
      refine q_blk (pc' := 43) (lo' := [some (.ref a0), some (.int x1), some (.int x2)]) (st' := [.int (nI 0)]) [.iconst 0] (by decide +kernel) rfl ?_
      exact q_retZ (r := q_i false) rfl (q_nz _) (by decide) (by decide) (by decide +kernel) ⟨false, rfl, h⟩
    · have h := h.2 c30
      refine q_blk (pc' := 39) (lo' := [some (.ref a0), some (.int x1), some (.int x2)]) (st' := [.int (nI 1)]) [.iconst 1] (by decide +kernel) rfl ?_
      refine q_goto 43 (off := 4) (by decide +kernel) (by decide) ?_
      exact q_retZ (r := q_i true) rfl (q_nz _) (by decide) (by decide) (by decide +kernel) ⟨true, rfl, h⟩
theorem f_X11_impurity {G : q_G} {X : String → q_H → Prop} {f : Int32 → q_H → Prop} {A : q_H} {a0 : Nat} {x1 : Int32} (h : q_sh A a0 = (12, 0) ∧ ∃ r2 : Nat, q_R A a0 6 = some r2 ∧ q_Wc G M_X11_storedAt [.int x1, .int (nI 2)] A (q_KI fun r5 A4 => ∃ z7 : Nat, q_sh A4 r2 = (50, z7) ∧ z7 < 2147483648 ∧ ∃ j9 : Nat, r5 = nI j9 ∧ j9 < z7 ∧ f ((nI 100) - (q_I A4 r2 j9)) A4) q_nX) : q_Wc G M_X11_impurity [.ref a0, .int x1] A (q_KI f) X := by
  refine q_Wc.of [some (.ref a0), some (.int x1)] mo_X11_impurity.2.2.2.2.2 rfl (Nat.le_of_ble_eq_true rfl) rfl ?_
  refine q_blk (pc' := 3) (lo' := [some (.ref a0), some (.int x1)]) (st' := [.ref a0, .int (nI 100)]) [.bipush 100, .aload_n 0] (by decide +kernel) rfl ?_
  obtain ⟨s1, h⟩ := h
  obtain ⟨r2, e3, h⟩ := h
  refine q_getR fl_X11_30 rfl (by decide) (by decide +kernel) s1 e3 ?_
  refine q_blk (pc' := 8) (lo' := [some (.ref a0), some (.int x1)]) (st' := [.int (nI 2), .int x1, .ref r2, .int (nI 100)]) [.iload_n 1, .iconst 2] (by decide +kernel) rfl ?_
  refine q_callS (Mc := M_X11_storedAt) (z := 2) (As := [.int x1, .int (nI 2)]) (st := [.ref r2, .int (nI 100)]) mo_X11_storedAt ms_X11_storedAt ml_X11_234_X11_storedAt rfl rfl (by decide) (by decide) rfl (Nat.le_of_ble_eq_true rfl) (by decide +kernel) h (q_fI fun r5 A4 h => ?_)
  show q_Wp _ _ _ _ 0 0 11 [some (.ref a0), some (.int x1)] [.int r5, .ref r2, .int (nI 100)] A4
  obtain ⟨z7, s6, b8, h⟩ := h
  obtain ⟨j9, e10, h⟩ := h
  obtain ⟨l11, h⟩ := h
  refine q_iald e10 (by decide +kernel) s6 l11 b8 ?_
  refine q_blk (pc' := 13) (lo' := [some (.ref a0), some (.int x1)]) (st' := [.int ((nI 100) - (q_I A4 r2 j9))]) [.isub] (by decide +kernel) rfl ?_
  exact q_retI rfl (by decide) (by decide) (by decide +kernel) ⟨_, rfl, h⟩
theorem f_X11_sendsBack {G : q_G} {X : String → q_H → Prop} {f : Bool → q_H → Prop} {A : q_H} {a0 : Nat} {x1 : Int32} {x2 : Int32} (h : q_sh A a0 = (12, 0) ∧ q_Wc G M_X11_impurity [.ref a0, .int x2] A (q_KI fun r2 A1 => q_sh A1 a0 = (12, 0) ∧ q_Wc G M_X11_ofBuyer [.ref a0, .int x1, .int (nI 4)] A1 (q_KI fun r5 A4 => ((r2 ≤ r5 → f false A4) ∧ (¬ r2 ≤ r5 → f true A4))) q_nX) q_nX) : q_Wc G M_X11_sendsBack [.ref a0, .int x1, .int x2] A (q_KB f) X := by
  refine q_Wc.of [some (.ref a0), some (.int x1), some (.int x2)] mo_X11_sendsBack.2.2.2.2.2 rfl (Nat.le_of_ble_eq_true rfl) rfl ?_
  refine q_blk (pc' := 2) (lo' := [some (.ref a0), some (.int x1), some (.int x2)]) (st' := [.int x2, .ref a0]) [.aload_n 0, .iload_n 2] (by decide +kernel) rfl ?_
  obtain ⟨s3, h⟩ := h
  refine q_callV (ci := 11) (Mc := M_X11_impurity) (z := 1) (b := a0) (As := [.int x2]) (st := []) mo_X11_impurity mi_X11_impurity ml_X11_305_X11_impurity rfl rfl (by decide) rfl (by decide) (by decide) rfl (Nat.le_of_ble_eq_true rfl) (by decide +kernel) s3 h (q_fI fun r2 A1 h => ?_)
  show q_Wp _ _ _ _ 0 0 5 [some (.ref a0), some (.int x1), some (.int x2)] [.int r2] A1
  refine q_blk (pc' := 8) (lo' := [some (.ref a0), some (.int x1), some (.int x2)]) (st' := [.int (nI 4), .int x1, .ref a0, .int r2]) [.aload_n 0, .iload_n 1, .iconst 4] (by decide +kernel) rfl ?_
  obtain ⟨s6, h⟩ := h
  refine q_callV (ci := 11) (Mc := M_X11_ofBuyer) (z := 2) (b := a0) (As := [.int x1, .int (nI 4)]) (st := [.int r2]) mo_X11_ofBuyer mi_X11_ofBuyer ml_X11_302_X11_ofBuyer rfl rfl (by decide) rfl (by decide) (by decide) rfl (Nat.le_of_ble_eq_true rfl) (by decide +kernel) s6 h (q_fI fun r5 A4 h => ?_)
  show q_Wp _ _ _ _ 0 0 11 [some (.ref a0), some (.int x1), some (.int x2)] [.int r5, .int r2] A4
  refine q_icmp_le 18 (off := 7) (by decide +kernel) (by decide) (fun c7 => ?_) (fun c7 => ?_)
  · have h := h.1 c7
    refine q_blk (pc' := 19) (lo' := [some (.ref a0), some (.int x1), some (.int x2)]) (st' := [.int (nI 0)]) [.iconst 0] (by decide +kernel) rfl ?_
    exact q_retZ (r := q_i false) rfl (q_nz _) (by decide) (by decide) (by decide +kernel) ⟨false, rfl, h⟩
  · have h := h.2 c7
    refine q_blk (pc' := 15) (lo' := [some (.ref a0), some (.int x1), some (.int x2)]) (st' := [.int (nI 1)]) [.iconst 1] (by decide +kernel) rfl ?_
    refine q_goto 19 (off := 4) (by decide +kernel) (by decide) ?_
    exact q_retZ (r := q_i true) rfl (q_nz _) (by decide) (by decide) (by decide +kernel) ⟨true, rfl, h⟩
theorem f_X11_pays {G : q_G} {X : String → q_H → Prop} {f : Int32 → q_H → Prop} {A : q_H} {a0 : Nat} {x1 : Int32} {x2 : Int32} (h : q_sh A a0 = (12, 0) ∧ q_Wc G M_X11_ofBuyer [.ref a0, .int x1, .int (nI 2)] A (q_KI fun r2 A1 => q_sh A1 a0 = (12, 0) ∧ ∃ r5 : Nat, q_R A1 a0 6 = some r5 ∧ q_Wc G M_X11_storedAt [.int x2, .int (nI 3)] A1 (q_KI fun r8 A7 => ∃ z10 : Nat, q_sh A7 r5 = (50, z10) ∧ z10 < 2147483648 ∧ ∃ j12 : Nat, r8 = nI j12 ∧ j12 < z10 ∧ (((q_I A7 r5 j12) = nI 0 → q_sh A7 a0 = (12, 0) ∧ q_Wc G M_X11_impurity [.ref a0, .int x2] A7 (q_KI fun r46 A45 => q_sh A45 a0 = (12, 0) ∧ q_Wc G M_X11_ofBuyer [.ref a0, .int x1, .int (nI 3)] A45 (q_KI fun r49 A48 => (((r46 - r49) ≤ nI 0 → f r2 A48) ∧ (¬ (r46 - r49) ≤ nI 0 → q_sh A48 a0 = (12, 0) ∧ ∃ r53 : Nat, q_R A48 a0 6 = some r53 ∧ ∃ z56 : Nat, q_sh A48 r53 = (50, z56) ∧ z56 < 2147483648 ∧ 7 < z56 ∧ f (r2 - (if (((r2 * (r46 - r49)) * (q_I A48 r53 7)) / (nI 100)) < r2 then (((r2 * (r46 - r49)) * (q_I A48 r53 7)) / (nI 100)) else r2)) A48))) q_nX) q_nX) ∧ (¬ (q_I A7 r5 j12) = nI 0 → (((q_I A7 r5 j12) = (nI 1) → q_sh A7 a0 = (12, 0) ∧ q_Wc G M_X11_impurity [.ref a0, .int x2] A7 (q_KI fun r32 A31 => q_sh A31 a0 = (12, 0) ∧ q_Wc G M_X11_ofBuyer [.ref a0, .int x1, .int (nI 3)] A31 (q_KI fun r35 A34 => (((r32 - r35) ≤ nI 0 → f ((r2 * (nI 70)) / (nI 100)) A34) ∧ (¬ (r32 - r35) ≤ nI 0 → q_sh A34 a0 = (12, 0) ∧ ∃ r39 : Nat, q_R A34 a0 6 = some r39 ∧ ∃ z42 : Nat, q_sh A34 r39 = (50, z42) ∧ z42 < 2147483648 ∧ 7 < z42 ∧ f (((r2 * (nI 70)) / (nI 100)) - (if (((r2 * (r32 - r35)) * (q_I A34 r39 7)) / (nI 100)) < ((r2 * (nI 70)) / (nI 100)) then (((r2 * (r32 - r35)) * (q_I A34 r39 7)) / (nI 100)) else ((r2 * (nI 70)) / (nI 100)))) A34))) q_nX) q_nX) ∧ (¬ (q_I A7 r5 j12) = (nI 1) → q_sh A7 a0 = (12, 0) ∧ q_Wc G M_X11_impurity [.ref a0, .int x2] A7 (q_KI fun r18 A17 => q_sh A17 a0 = (12, 0) ∧ q_Wc G M_X11_ofBuyer [.ref a0, .int x1, .int (nI 3)] A17 (q_KI fun r21 A20 => (((r18 - r21) ≤ nI 0 → f ((r2 * (nI 40)) / (nI 100)) A20) ∧ (¬ (r18 - r21) ≤ nI 0 → q_sh A20 a0 = (12, 0) ∧ ∃ r25 : Nat, q_R A20 a0 6 = some r25 ∧ ∃ z28 : Nat, q_sh A20 r25 = (50, z28) ∧ z28 < 2147483648 ∧ 7 < z28 ∧ f (((r2 * (nI 40)) / (nI 100)) - (if (((r2 * (r18 - r21)) * (q_I A20 r25 7)) / (nI 100)) < ((r2 * (nI 40)) / (nI 100)) then (((r2 * (r18 - r21)) * (q_I A20 r25 7)) / (nI 100)) else ((r2 * (nI 40)) / (nI 100)))) A20))) q_nX) q_nX))))) q_nX) q_nX) : q_Wc G M_X11_pays [.ref a0, .int x1, .int x2] A (q_KI f) X := by
  refine q_Wc.of [some (.ref a0), some (.int x1), some (.int x2), none, none, none, none] mo_X11_pays.2.2.2.2.2 rfl (Nat.le_of_ble_eq_true rfl) rfl ?_
  refine q_blk (pc' := 3) (lo' := [some (.ref a0), some (.int x1), some (.int x2), none, none, none, none]) (st' := [.int (nI 2), .int x1, .ref a0]) [.aload_n 0, .iload_n 1, .iconst 2] (by decide +kernel) rfl ?_
  obtain ⟨s3, h⟩ := h
  refine q_callV (ci := 11) (Mc := M_X11_ofBuyer) (z := 2) (b := a0) (As := [.int x1, .int (nI 2)]) (st := []) mo_X11_ofBuyer mi_X11_ofBuyer ml_X11_302_X11_ofBuyer rfl rfl (by decide) rfl (by decide) (by decide) rfl (Nat.le_of_ble_eq_true rfl) (by decide +kernel) s3 h (q_fI fun r2 A1 h => ?_)
  show q_Wp _ _ _ _ 0 0 6 [some (.ref a0), some (.int x1), some (.int x2), none, none, none, none] [.int r2] A1
  refine q_blk (pc' := 8) (lo' := [some (.ref a0), some (.int x1), some (.int x2), some (.int r2), none, none, none]) (st' := [.ref a0]) [.istore_n 3, .aload_n 0] (by decide +kernel) rfl ?_
  obtain ⟨s4, h⟩ := h
  obtain ⟨r5, e6, h⟩ := h
  refine q_getR fl_X11_30 rfl (by decide) (by decide +kernel) s4 e6 ?_
  refine q_blk (pc' := 13) (lo' := [some (.ref a0), some (.int x1), some (.int x2), some (.int r2), none, none, none]) (st' := [.int (nI 3), .int x2, .ref r5]) [.iload_n 2, .iconst 3] (by decide +kernel) rfl ?_
  refine q_callS (Mc := M_X11_storedAt) (z := 2) (As := [.int x2, .int (nI 3)]) (st := [.ref r5]) mo_X11_storedAt ms_X11_storedAt ml_X11_234_X11_storedAt rfl rfl (by decide) (by decide) rfl (Nat.le_of_ble_eq_true rfl) (by decide +kernel) h (q_fI fun r8 A7 h => ?_)
  show q_Wp _ _ _ _ 0 0 16 [some (.ref a0), some (.int x1), some (.int x2), some (.int r2), none, none, none] [.int r8, .ref r5] A7
  obtain ⟨z10, s9, b11, h⟩ := h
  obtain ⟨j12, e13, h⟩ := h
  obtain ⟨l14, h⟩ := h
  refine q_iald e13 (by decide +kernel) s9 l14 b11 ?_
  refine q_blk (pc' := 21) (lo' := [some (.ref a0), some (.int x1), some (.int x2), some (.int r2), some (.int (q_I A7 r5 j12)), none, none]) (st' := [.int (q_I A7 r5 j12)]) [.istore 4, .iload 4] (by decide +kernel) rfl ?_
  refine q_if_ne 28 (off := 7) (by decide +kernel) (by decide) (fun c15 => ?_) (fun c15 => ?_)
  · have h := h.2 c15
    refine q_blk (pc' := 32) (lo' := [some (.ref a0), some (.int x1), some (.int x2), some (.int r2), some (.int (q_I A7 r5 j12)), none, none]) (st' := [.int (nI 1), .int (q_I A7 r5 j12), .int r2]) [.iload_n 3, .iload 4, .iconst 1] (by decide +kernel) rfl ?_
    refine q_icmp_ne 40 (off := 8) (by decide +kernel) (by decide) (fun c16 => ?_) (fun c16 => ?_)
    · have h := h.2 c16
      refine q_blk (pc' := 45) (lo' := [some (.ref a0), some (.int x1), some (.int x2), some (.int r2), some (.int (q_I A7 r5 j12)), none, none]) (st' := [.int (nI 100), .int (r2 * (nI 40))]) [.bipush 40, .imul, .bipush 100] (by decide +kernel) rfl ?_
      refine q_idiv (by decide +kernel) (by decide) ?_
      refine q_blk (pc' := 50) (lo' := [some (.ref a0), some (.int x1), some (.int x2), some (.int r2), some (.int (q_I A7 r5 j12)), some (.int ((r2 * (nI 40)) / (nI 100))), none]) (st' := [.int x2, .ref a0]) [.istore 5, .aload_n 0, .iload_n 2] (by decide +kernel) rfl ?_
      obtain ⟨s19, h⟩ := h
      refine q_callV (ci := 11) (Mc := M_X11_impurity) (z := 1) (b := a0) (As := [.int x2]) (st := []) mo_X11_impurity mi_X11_impurity ml_X11_305_X11_impurity rfl rfl (by decide) rfl (by decide) (by decide) rfl (Nat.le_of_ble_eq_true rfl) (by decide +kernel) s19 h (q_fI fun r18 A17 h => ?_)
      show q_Wp _ _ _ _ 0 0 53 [some (.ref a0), some (.int x1), some (.int x2), some (.int r2), some (.int (q_I A7 r5 j12)), some (.int ((r2 * (nI 40)) / (nI 100))), none] [.int r18] A17
      refine q_blk (pc' := 56) (lo' := [some (.ref a0), some (.int x1), some (.int x2), some (.int r2), some (.int (q_I A7 r5 j12)), some (.int ((r2 * (nI 40)) / (nI 100))), none]) (st' := [.int (nI 3), .int x1, .ref a0, .int r18]) [.aload_n 0, .iload_n 1, .iconst 3] (by decide +kernel) rfl ?_
      obtain ⟨s22, h⟩ := h
      refine q_callV (ci := 11) (Mc := M_X11_ofBuyer) (z := 2) (b := a0) (As := [.int x1, .int (nI 3)]) (st := [.int r18]) mo_X11_ofBuyer mi_X11_ofBuyer ml_X11_302_X11_ofBuyer rfl rfl (by decide) rfl (by decide) (by decide) rfl (Nat.le_of_ble_eq_true rfl) (by decide +kernel) s22 h (q_fI fun r21 A20 h => ?_)
      show q_Wp _ _ _ _ 0 0 59 [some (.ref a0), some (.int x1), some (.int x2), some (.int r2), some (.int (q_I A7 r5 j12)), some (.int ((r2 * (nI 40)) / (nI 100))), none] [.int r21, .int r18] A20
      refine q_blk (pc' := 64) (lo' := [some (.ref a0), some (.int x1), some (.int x2), some (.int r2), some (.int (q_I A7 r5 j12)), some (.int ((r2 * (nI 40)) / (nI 100))), some (.int (r18 - r21))]) (st' := [.int (r18 - r21)]) [.isub, .istore 6, .iload 6] (by decide +kernel) rfl ?_
      refine q_if_le 93 (off := 29) (by decide +kernel) (by decide) (fun c23 => ?_) (fun c23 => ?_)
      · have h := h.1 c23
        refine q_blk (pc' := 95) (lo' := [some (.ref a0), some (.int x1), some (.int x2), some (.int r2), some (.int (q_I A7 r5 j12)), some (.int ((r2 * (nI 40)) / (nI 100))), some (.int (r18 - r21))]) (st' := [.int ((r2 * (nI 40)) / (nI 100))]) [.iload 5] (by decide +kernel) rfl ?_
        exact q_retI rfl (by decide) (by decide) (by decide +kernel) ⟨_, rfl, h⟩
      · have h := h.2 c23
        refine q_blk (pc' := 76) (lo' := [some (.ref a0), some (.int x1), some (.int x2), some (.int r2), some (.int (q_I A7 r5 j12)), some (.int ((r2 * (nI 40)) / (nI 100))), some (.int (r18 - r21))]) (st' := [.ref a0, .int (r2 * (r18 - r21)), .int ((r2 * (nI 40)) / (nI 100)), .int ((r2 * (nI 40)) / (nI 100))]) [.iload 5, .iload 5, .iload_n 3, .iload 6, .imul, .aload_n 0] (by decide +kernel) rfl ?_
        obtain ⟨s24, h⟩ := h
        obtain ⟨r25, e26, h⟩ := h
        refine q_getR fl_X11_30 rfl (by decide) (by decide +kernel) s24 e26 ?_
        refine q_blk (pc' := 81) (lo' := [some (.ref a0), some (.int x1), some (.int x2), some (.int r2), some (.int (q_I A7 r5 j12)), some (.int ((r2 * (nI 40)) / (nI 100))), some (.int (r18 - r21))]) (st' := [.int (nI 7), .ref r25, .int (r2 * (r18 - r21)), .int ((r2 * (nI 40)) / (nI 100)), .int ((r2 * (nI 40)) / (nI 100))]) [.bipush 7] (by decide +kernel) rfl ?_
        obtain ⟨z28, s27, b29, h⟩ := h
        obtain ⟨l30, h⟩ := h
        refine q_iald rfl (by decide +kernel) s27 l30 b29 ?_
        refine q_blk (pc' := 85) (lo' := [some (.ref a0), some (.int x1), some (.int x2), some (.int r2), some (.int (q_I A7 r5 j12)), some (.int ((r2 * (nI 40)) / (nI 100))), some (.int (r18 - r21))]) (st' := [.int (nI 100), .int ((r2 * (r18 - r21)) * (q_I A20 r25 7)), .int ((r2 * (nI 40)) / (nI 100)), .int ((r2 * (nI 40)) / (nI 100))]) [.imul, .bipush 100] (by decide +kernel) rfl ?_
        refine q_idiv (by decide +kernel) (by decide) ?_
        refine q_mmin mm_X11_225_i.1 mm_X11_225_i.2.1 mm_X11_225_i.2.2.1 mm_X11_225_i.2.2.2 (by decide) (Nat.le_of_ble_eq_true rfl) (by decide) (by decide) (by decide +kernel) ?_
        refine q_blk (pc' := 90) (lo' := [some (.ref a0), some (.int x1), some (.int x2), some (.int r2), some (.int (q_I A7 r5 j12)), some (.int ((r2 * (nI 40)) / (nI 100))), some (.int (r18 - r21))]) (st' := [.int (((r2 * (nI 40)) / (nI 100)) - (if (((r2 * (r18 - r21)) * (q_I A20 r25 7)) / (nI 100)) < ((r2 * (nI 40)) / (nI 100)) then (((r2 * (r18 - r21)) * (q_I A20 r25 7)) / (nI 100)) else ((r2 * (nI 40)) / (nI 100))))]) [.isub] (by decide +kernel) rfl ?_
        refine q_goto 95 (off := 5) (by decide +kernel) (by decide) ?_
        exact q_retI rfl (by decide) (by decide) (by decide +kernel) ⟨_, rfl, h⟩
    · have h := h.1 c16
      refine q_blk (pc' := 37) (lo' := [some (.ref a0), some (.int x1), some (.int x2), some (.int r2), some (.int (q_I A7 r5 j12)), none, none]) (st' := [.int (nI 70), .int r2]) [.bipush 70] (by decide +kernel) rfl ?_
      refine q_goto 42 (off := 5) (by decide +kernel) (by decide) ?_
      refine q_blk (pc' := 45) (lo' := [some (.ref a0), some (.int x1), some (.int x2), some (.int r2), some (.int (q_I A7 r5 j12)), none, none]) (st' := [.int (nI 100), .int (r2 * (nI 70))]) [.imul, .bipush 100] (by decide +kernel) rfl ?_
      refine q_idiv (by decide +kernel) (by decide) ?_
      refine q_blk (pc' := 50) (lo' := [some (.ref a0), some (.int x1), some (.int x2), some (.int r2), some (.int (q_I A7 r5 j12)), some (.int ((r2 * (nI 70)) / (nI 100))), none]) (st' := [.int x2, .ref a0]) [.istore 5, .aload_n 0, .iload_n 2] (by decide +kernel) rfl ?_
      obtain ⟨s33, h⟩ := h
      refine q_callV (ci := 11) (Mc := M_X11_impurity) (z := 1) (b := a0) (As := [.int x2]) (st := []) mo_X11_impurity mi_X11_impurity ml_X11_305_X11_impurity rfl rfl (by decide) rfl (by decide) (by decide) rfl (Nat.le_of_ble_eq_true rfl) (by decide +kernel) s33 h (q_fI fun r32 A31 h => ?_)
      show q_Wp _ _ _ _ 0 0 53 [some (.ref a0), some (.int x1), some (.int x2), some (.int r2), some (.int (q_I A7 r5 j12)), some (.int ((r2 * (nI 70)) / (nI 100))), none] [.int r32] A31
      refine q_blk (pc' := 56) (lo' := [some (.ref a0), some (.int x1), some (.int x2), some (.int r2), some (.int (q_I A7 r5 j12)), some (.int ((r2 * (nI 70)) / (nI 100))), none]) (st' := [.int (nI 3), .int x1, .ref a0, .int r32]) [.aload_n 0, .iload_n 1, .iconst 3] (by decide +kernel) rfl ?_
      obtain ⟨s36, h⟩ := h
      refine q_callV (ci := 11) (Mc := M_X11_ofBuyer) (z := 2) (b := a0) (As := [.int x1, .int (nI 3)]) (st := [.int r32]) mo_X11_ofBuyer mi_X11_ofBuyer ml_X11_302_X11_ofBuyer rfl rfl (by decide) rfl (by decide) (by decide) rfl (Nat.le_of_ble_eq_true rfl) (by decide +kernel) s36 h (q_fI fun r35 A34 h => ?_)
      show q_Wp _ _ _ _ 0 0 59 [some (.ref a0), some (.int x1), some (.int x2), some (.int r2), some (.int (q_I A7 r5 j12)), some (.int ((r2 * (nI 70)) / (nI 100))), none] [.int r35, .int r32] A34
      refine q_blk (pc' := 64) (lo' := [some (.ref a0), some (.int x1), some (.int x2), some (.int r2), some (.int (q_I A7 r5 j12)), some (.int ((r2 * (nI 70)) / (nI 100))), some (.int (r32 - r35))]) (st' := [.int (r32 - r35)]) [.isub, .istore 6, .iload 6] (by decide +kernel) rfl ?_
      refine q_if_le 93 (off := 29) (by decide +kernel) (by decide) (fun c37 => ?_) (fun c37 => ?_)
      · have h := h.1 c37
        refine q_blk (pc' := 95) (lo' := [some (.ref a0), some (.int x1), some (.int x2), some (.int r2), some (.int (q_I A7 r5 j12)), some (.int ((r2 * (nI 70)) / (nI 100))), some (.int (r32 - r35))]) (st' := [.int ((r2 * (nI 70)) / (nI 100))]) [.iload 5] (by decide +kernel) rfl ?_
        exact q_retI rfl (by decide) (by decide) (by decide +kernel) ⟨_, rfl, h⟩
      · have h := h.2 c37
        refine q_blk (pc' := 76) (lo' := [some (.ref a0), some (.int x1), some (.int x2), some (.int r2), some (.int (q_I A7 r5 j12)), some (.int ((r2 * (nI 70)) / (nI 100))), some (.int (r32 - r35))]) (st' := [.ref a0, .int (r2 * (r32 - r35)), .int ((r2 * (nI 70)) / (nI 100)), .int ((r2 * (nI 70)) / (nI 100))]) [.iload 5, .iload 5, .iload_n 3, .iload 6, .imul, .aload_n 0] (by decide +kernel) rfl ?_
        obtain ⟨s38, h⟩ := h
        obtain ⟨r39, e40, h⟩ := h
        refine q_getR fl_X11_30 rfl (by decide) (by decide +kernel) s38 e40 ?_
        refine q_blk (pc' := 81) (lo' := [some (.ref a0), some (.int x1), some (.int x2), some (.int r2), some (.int (q_I A7 r5 j12)), some (.int ((r2 * (nI 70)) / (nI 100))), some (.int (r32 - r35))]) (st' := [.int (nI 7), .ref r39, .int (r2 * (r32 - r35)), .int ((r2 * (nI 70)) / (nI 100)), .int ((r2 * (nI 70)) / (nI 100))]) [.bipush 7] (by decide +kernel) rfl ?_
        obtain ⟨z42, s41, b43, h⟩ := h
        obtain ⟨l44, h⟩ := h
        refine q_iald rfl (by decide +kernel) s41 l44 b43 ?_
        refine q_blk (pc' := 85) (lo' := [some (.ref a0), some (.int x1), some (.int x2), some (.int r2), some (.int (q_I A7 r5 j12)), some (.int ((r2 * (nI 70)) / (nI 100))), some (.int (r32 - r35))]) (st' := [.int (nI 100), .int ((r2 * (r32 - r35)) * (q_I A34 r39 7)), .int ((r2 * (nI 70)) / (nI 100)), .int ((r2 * (nI 70)) / (nI 100))]) [.imul, .bipush 100] (by decide +kernel) rfl ?_
        refine q_idiv (by decide +kernel) (by decide) ?_
        refine q_mmin mm_X11_225_i.1 mm_X11_225_i.2.1 mm_X11_225_i.2.2.1 mm_X11_225_i.2.2.2 (by decide) (Nat.le_of_ble_eq_true rfl) (by decide) (by decide) (by decide +kernel) ?_
        refine q_blk (pc' := 90) (lo' := [some (.ref a0), some (.int x1), some (.int x2), some (.int r2), some (.int (q_I A7 r5 j12)), some (.int ((r2 * (nI 70)) / (nI 100))), some (.int (r32 - r35))]) (st' := [.int (((r2 * (nI 70)) / (nI 100)) - (if (((r2 * (r32 - r35)) * (q_I A34 r39 7)) / (nI 100)) < ((r2 * (nI 70)) / (nI 100)) then (((r2 * (r32 - r35)) * (q_I A34 r39 7)) / (nI 100)) else ((r2 * (nI 70)) / (nI 100))))]) [.isub] (by decide +kernel) rfl ?_
        refine q_goto 95 (off := 5) (by decide +kernel) (by decide) ?_
        exact q_retI rfl (by decide) (by decide) (by decide +kernel) ⟨_, rfl, h⟩
  · have h := h.1 c15
    refine q_blk (pc' := 25) (lo' := [some (.ref a0), some (.int x1), some (.int x2), some (.int r2), some (.int (q_I A7 r5 j12)), none, none]) (st' := [.int r2]) [.iload_n 3] (by decide +kernel) rfl ?_
    refine q_goto 46 (off := 21) (by decide +kernel) (by decide) ?_
    refine q_blk (pc' := 50) (lo' := [some (.ref a0), some (.int x1), some (.int x2), some (.int r2), some (.int (q_I A7 r5 j12)), some (.int r2), none]) (st' := [.int x2, .ref a0]) [.istore 5, .aload_n 0, .iload_n 2] (by decide +kernel) rfl ?_
    obtain ⟨s47, h⟩ := h
    refine q_callV (ci := 11) (Mc := M_X11_impurity) (z := 1) (b := a0) (As := [.int x2]) (st := []) mo_X11_impurity mi_X11_impurity ml_X11_305_X11_impurity rfl rfl (by decide) rfl (by decide) (by decide) rfl (Nat.le_of_ble_eq_true rfl) (by decide +kernel) s47 h (q_fI fun r46 A45 h => ?_)
    show q_Wp _ _ _ _ 0 0 53 [some (.ref a0), some (.int x1), some (.int x2), some (.int r2), some (.int (q_I A7 r5 j12)), some (.int r2), none] [.int r46] A45
    refine q_blk (pc' := 56) (lo' := [some (.ref a0), some (.int x1), some (.int x2), some (.int r2), some (.int (q_I A7 r5 j12)), some (.int r2), none]) (st' := [.int (nI 3), .int x1, .ref a0, .int r46]) [.aload_n 0, .iload_n 1, .iconst 3] (by decide +kernel) rfl ?_
    obtain ⟨s50, h⟩ := h
    refine q_callV (ci := 11) (Mc := M_X11_ofBuyer) (z := 2) (b := a0) (As := [.int x1, .int (nI 3)]) (st := [.int r46]) mo_X11_ofBuyer mi_X11_ofBuyer ml_X11_302_X11_ofBuyer rfl rfl (by decide) rfl (by decide) (by decide) rfl (Nat.le_of_ble_eq_true rfl) (by decide +kernel) s50 h (q_fI fun r49 A48 h => ?_)
    show q_Wp _ _ _ _ 0 0 59 [some (.ref a0), some (.int x1), some (.int x2), some (.int r2), some (.int (q_I A7 r5 j12)), some (.int r2), none] [.int r49, .int r46] A48
    refine q_blk (pc' := 64) (lo' := [some (.ref a0), some (.int x1), some (.int x2), some (.int r2), some (.int (q_I A7 r5 j12)), some (.int r2), some (.int (r46 - r49))]) (st' := [.int (r46 - r49)]) [.isub, .istore 6, .iload 6] (by decide +kernel) rfl ?_
    refine q_if_le 93 (off := 29) (by decide +kernel) (by decide) (fun c51 => ?_) (fun c51 => ?_)
    · have h := h.1 c51
      refine q_blk (pc' := 95) (lo' := [some (.ref a0), some (.int x1), some (.int x2), some (.int r2), some (.int (q_I A7 r5 j12)), some (.int r2), some (.int (r46 - r49))]) (st' := [.int r2]) [.iload 5] (by decide +kernel) rfl ?_
      exact q_retI rfl (by decide) (by decide) (by decide +kernel) ⟨_, rfl, h⟩
    · have h := h.2 c51
      refine q_blk (pc' := 76) (lo' := [some (.ref a0), some (.int x1), some (.int x2), some (.int r2), some (.int (q_I A7 r5 j12)), some (.int r2), some (.int (r46 - r49))]) (st' := [.ref a0, .int (r2 * (r46 - r49)), .int r2, .int r2]) [.iload 5, .iload 5, .iload_n 3, .iload 6, .imul, .aload_n 0] (by decide +kernel) rfl ?_
      obtain ⟨s52, h⟩ := h
      obtain ⟨r53, e54, h⟩ := h
      refine q_getR fl_X11_30 rfl (by decide) (by decide +kernel) s52 e54 ?_
      refine q_blk (pc' := 81) (lo' := [some (.ref a0), some (.int x1), some (.int x2), some (.int r2), some (.int (q_I A7 r5 j12)), some (.int r2), some (.int (r46 - r49))]) (st' := [.int (nI 7), .ref r53, .int (r2 * (r46 - r49)), .int r2, .int r2]) [.bipush 7] (by decide +kernel) rfl ?_
      obtain ⟨z56, s55, b57, h⟩ := h
      obtain ⟨l58, h⟩ := h
      refine q_iald rfl (by decide +kernel) s55 l58 b57 ?_
      refine q_blk (pc' := 85) (lo' := [some (.ref a0), some (.int x1), some (.int x2), some (.int r2), some (.int (q_I A7 r5 j12)), some (.int r2), some (.int (r46 - r49))]) (st' := [.int (nI 100), .int ((r2 * (r46 - r49)) * (q_I A48 r53 7)), .int r2, .int r2]) [.imul, .bipush 100] (by decide +kernel) rfl ?_
      refine q_idiv (by decide +kernel) (by decide) ?_
      refine q_mmin mm_X11_225_i.1 mm_X11_225_i.2.1 mm_X11_225_i.2.2.1 mm_X11_225_i.2.2.2 (by decide) (Nat.le_of_ble_eq_true rfl) (by decide) (by decide) (by decide +kernel) ?_
      refine q_blk (pc' := 90) (lo' := [some (.ref a0), some (.int x1), some (.int x2), some (.int r2), some (.int (q_I A7 r5 j12)), some (.int r2), some (.int (r46 - r49))]) (st' := [.int (r2 - (if (((r2 * (r46 - r49)) * (q_I A48 r53 7)) / (nI 100)) < r2 then (((r2 * (r46 - r49)) * (q_I A48 r53 7)) / (nI 100)) else r2))]) [.isub] (by decide +kernel) rfl ?_
      refine q_goto 95 (off := 5) (by decide +kernel) (by decide) ?_
      exact q_retI rfl (by decide) (by decide) (by decide +kernel) ⟨_, rfl, h⟩
theorem f_X11_sell {G : q_G} {X : String → q_H → Prop} {f : Int32 → q_H → Prop} {A : q_H} {a0 : Nat} {x1 : Int32} {x2 : Int32} (h : q_sh A a0 = (12, 0) ∧ q_Wc G M_X11_isBale [.ref a0, .int x1] A (q_KB fun b2 A1 => ((b2 = true → q_sh A1 a0 = (12, 0) ∧ q_Wc G M_X11_isBuyer [.ref a0, .int x2] A1 (q_KB fun b11 A10 => ((b11 = true → q_sh A10 a0 = (12, 0) ∧ q_Wc G M_X11_takesBale [.ref a0, .int x2, .int x1] A10 (q_KB fun b21 A20 => ((b21 = true → q_sh A20 a0 = (12, 0) ∧ q_Wc G M_X11_sendsBack [.ref a0, .int x2, .int x1] A20 (q_KB fun b34 A33 => ((b34 = true → q_sh A33 a0 = (12, 0) ∧ ∃ r39 : Nat, q_R A33 a0 6 = some r39 ∧ ∃ z42 : Nat, q_sh A33 r39 = (50, z42) ∧ z42 < 2147483648 ∧ 9 < z42 ∧ (((q_I A33 r39 9) = (nI 30) → q_Wp G M_X11_sell (q_KI f) X 0 0 97 [some (.ref a0), some (.int x1), some (.int x2), none, none, none, none, none] [.int (q_i true), .int (q_i false), .int (q_i false), .ref a0] A33) ∧ (¬ (q_I A33 r39 9) = (nI 30) → q_Wp G M_X11_sell (q_KI f) X 0 0 97 [some (.ref a0), some (.int x1), some (.int x2), none, none, none, none, none] [.int (q_i false), .int (q_i false), .int (q_i false), .ref a0] A33))) ∧ (b34 = false → q_Wp G M_X11_sell (q_KI f) X 0 0 97 [some (.ref a0), some (.int x1), some (.int x2), none, none, none, none, none] [.int (q_i false), .int (q_i false), .int (q_i false), .ref a0] A33))) q_nX) ∧ (b21 = false → q_Wp G M_X11_sell (q_KI f) X 0 0 97 [some (.ref a0), some (.int x1), some (.int x2), none, none, none, none, none] [.int (q_i false), .int (q_i true), .int (q_i false), .ref a0] A20))) q_nX) ∧ (b11 = false → q_Wp G M_X11_sell (q_KI f) X 0 0 97 [some (.ref a0), some (.int x1), some (.int x2), none, none, none, none, none] [.int (q_i false), .int (q_i false), .int (q_i true), .ref a0] A10))) q_nX) ∧ (b2 = false → q_Wp G M_X11_sell (q_KI f) X 0 0 97 [some (.ref a0), some (.int x1), some (.int x2), none, none, none, none, none] [.int (q_i false), .int (q_i false), .int (q_i true), .ref a0] A1))) q_nX) : q_Wc G M_X11_sell [.ref a0, .int x1, .int x2] A (q_KI f) X := by
  refine q_Wc.of [some (.ref a0), some (.int x1), some (.int x2), none, none, none, none, none] mo_X11_sell.2.2.2.2.2 rfl (Nat.le_of_ble_eq_true rfl) rfl ?_
  refine q_blk (pc' := 2) (lo' := [some (.ref a0), some (.int x1), some (.int x2), none, none, none, none, none]) (st' := [.int x1, .ref a0]) [.aload_n 0, .iload_n 1] (by decide +kernel) rfl ?_
  obtain ⟨s3, h⟩ := h
  refine q_callV (ci := 11) (Mc := M_X11_isBale) (z := 1) (b := a0) (As := [.int x1]) (st := []) mo_X11_isBale mi_X11_isBale ml_X11_277_X11_isBale rfl rfl (by decide) rfl (by decide) (by decide) rfl (Nat.le_of_ble_eq_true rfl) (by decide +kernel) s3 h (q_fB fun b2 A1 h => ?_)
  show q_Wp _ _ _ _ 0 0 5 [some (.ref a0), some (.int x1), some (.int x2), none, none, none, none, none] [.int (q_i b2)] A1
  refine q_ifB_eq 20 (off := 15) (by decide +kernel) (by decide) (fun c4 => ?_) (fun c4 => ?_)
  · have h := h.2 c4
    refine q_blk (pc' := 23) (lo' := [some (.ref a0), some (.int x1), some (.int x2), some (.int (nI 0)), none, none, none, none]) (st' := [.int (nI 0)]) [.iconst 0, .istore_n 3, .iload_n 3] (by decide +kernel) rfl ?_
    refine q_if_eq 39 (off := 16) (by decide +kernel) (by decide) (fun _ => ?_) (fun c9 => absurd (by decide) c9)
    refine q_blk (pc' := 44) (lo' := [some (.ref a0), some (.int x1), some (.int x2), some (.int (nI 0)), some (.int (nI 0)), none, none, none]) (st' := [.int (nI 0), .ref a0]) [.iconst 0, .istore 4, .aload_n 0, .iload_n 3] (by decide +kernel) rfl ?_
    refine q_if_ne 51 (off := 7) (by decide +kernel) (by decide) (fun c9 => absurd (by decide) c9) (fun _ => ?_)
    refine q_blk (pc' := 48) (lo' := [some (.ref a0), some (.int x1), some (.int x2), some (.int (nI 0)), some (.int (nI 0)), none, none, none]) (st' := [.int (nI 1), .ref a0]) [.iconst 1] (by decide +kernel) rfl ?_
    refine q_goto 52 (off := 4) (by decide +kernel) (by decide) ?_
    refine q_blk (pc' := 53) (lo' := [some (.ref a0), some (.int x1), some (.int x2), some (.int (nI 0)), some (.int (nI 0)), none, none, none]) (st' := [.int (nI 0), .int (nI 1), .ref a0]) [.iload_n 3] (by decide +kernel) rfl ?_
    refine q_if_eq 65 (off := 12) (by decide +kernel) (by decide) (fun _ => ?_) (fun c9 => absurd (by decide) c9)
    refine q_blk (pc' := 68) (lo' := [some (.ref a0), some (.int x1), some (.int x2), some (.int (nI 0)), some (.int (nI 0)), none, none, none]) (st' := [.int (nI 0), .int (nI 0), .int (nI 1), .ref a0]) [.iconst 0, .iload 4] (by decide +kernel) rfl ?_
    refine q_if_eq 96 (off := 28) (by decide +kernel) (by decide) (fun _ => ?_) (fun c9 => absurd (by decide) c9)
    refine q_blk (pc' := 97) (lo' := [some (.ref a0), some (.int x1), some (.int x2), some (.int (nI 0)), some (.int (nI 0)), none, none, none]) (st' := [.int (nI 0), .int (nI 0), .int (nI 1), .ref a0]) [.iconst 0] (by decide +kernel) rfl ?_
    exact q_wk [some (.ref a0), some (.int x1), some (.int x2), none, none, none, none, none] (And.intro rfl (And.intro rfl (And.intro rfl trivial))) h
  · have h := h.1 c4
    refine q_blk (pc' := 10) (lo' := [some (.ref a0), some (.int x1), some (.int x2), none, none, none, none, none]) (st' := [.int x2, .ref a0]) [.aload_n 0, .iload_n 2] (by decide +kernel) rfl ?_
    obtain ⟨s12, h⟩ := h
    refine q_callV (ci := 11) (Mc := M_X11_isBuyer) (z := 1) (b := a0) (As := [.int x2]) (st := []) mo_X11_isBuyer mi_X11_isBuyer ml_X11_280_X11_isBuyer rfl rfl (by decide) rfl (by decide) (by decide) rfl (Nat.le_of_ble_eq_true rfl) (by decide +kernel) s12 h (q_fB fun b11 A10 h => ?_)
    show q_Wp _ _ _ _ 0 0 13 [some (.ref a0), some (.int x1), some (.int x2), none, none, none, none, none] [.int (q_i b11)] A10
    refine q_ifB_eq 20 (off := 7) (by decide +kernel) (by decide) (fun c13 => ?_) (fun c13 => ?_)
    · have h := h.2 c13
      refine q_blk (pc' := 23) (lo' := [some (.ref a0), some (.int x1), some (.int x2), some (.int (nI 0)), none, none, none, none]) (st' := [.int (nI 0)]) [.iconst 0, .istore_n 3, .iload_n 3] (by decide +kernel) rfl ?_
      refine q_if_eq 39 (off := 16) (by decide +kernel) (by decide) (fun _ => ?_) (fun c9 => absurd (by decide) c9)
      refine q_blk (pc' := 44) (lo' := [some (.ref a0), some (.int x1), some (.int x2), some (.int (nI 0)), some (.int (nI 0)), none, none, none]) (st' := [.int (nI 0), .ref a0]) [.iconst 0, .istore 4, .aload_n 0, .iload_n 3] (by decide +kernel) rfl ?_
      refine q_if_ne 51 (off := 7) (by decide +kernel) (by decide) (fun c9 => absurd (by decide) c9) (fun _ => ?_)
      refine q_blk (pc' := 48) (lo' := [some (.ref a0), some (.int x1), some (.int x2), some (.int (nI 0)), some (.int (nI 0)), none, none, none]) (st' := [.int (nI 1), .ref a0]) [.iconst 1] (by decide +kernel) rfl ?_
      refine q_goto 52 (off := 4) (by decide +kernel) (by decide) ?_
      refine q_blk (pc' := 53) (lo' := [some (.ref a0), some (.int x1), some (.int x2), some (.int (nI 0)), some (.int (nI 0)), none, none, none]) (st' := [.int (nI 0), .int (nI 1), .ref a0]) [.iload_n 3] (by decide +kernel) rfl ?_
      refine q_if_eq 65 (off := 12) (by decide +kernel) (by decide) (fun _ => ?_) (fun c9 => absurd (by decide) c9)
      refine q_blk (pc' := 68) (lo' := [some (.ref a0), some (.int x1), some (.int x2), some (.int (nI 0)), some (.int (nI 0)), none, none, none]) (st' := [.int (nI 0), .int (nI 0), .int (nI 1), .ref a0]) [.iconst 0, .iload 4] (by decide +kernel) rfl ?_
      refine q_if_eq 96 (off := 28) (by decide +kernel) (by decide) (fun _ => ?_) (fun c9 => absurd (by decide) c9)
      refine q_blk (pc' := 97) (lo' := [some (.ref a0), some (.int x1), some (.int x2), some (.int (nI 0)), some (.int (nI 0)), none, none, none]) (st' := [.int (nI 0), .int (nI 0), .int (nI 1), .ref a0]) [.iconst 0] (by decide +kernel) rfl ?_
      exact q_wk [some (.ref a0), some (.int x1), some (.int x2), none, none, none, none, none] (And.intro rfl (And.intro rfl (And.intro rfl trivial))) h
    · have h := h.1 c13
      refine q_blk (pc' := 17) (lo' := [some (.ref a0), some (.int x1), some (.int x2), none, none, none, none, none]) (st' := [.int (nI 1)]) [.iconst 1] (by decide +kernel) rfl ?_
      refine q_goto 21 (off := 4) (by decide +kernel) (by decide) ?_
      refine q_blk (pc' := 23) (lo' := [some (.ref a0), some (.int x1), some (.int x2), some (.int (nI 1)), none, none, none, none]) (st' := [.int (nI 1)]) [.istore_n 3, .iload_n 3] (by decide +kernel) rfl ?_
      refine q_if_eq 39 (off := 16) (by decide +kernel) (by decide) (fun c9 => absurd c9 (by decide)) (fun _ => ?_)
      refine q_blk (pc' := 29) (lo' := [some (.ref a0), some (.int x1), some (.int x2), some (.int (nI 1)), none, none, none, none]) (st' := [.int x1, .int x2, .ref a0]) [.aload_n 0, .iload_n 2, .iload_n 1] (by decide +kernel) rfl ?_
      obtain ⟨s22, h⟩ := h
      refine q_callV (ci := 11) (Mc := M_X11_takesBale) (z := 2) (b := a0) (As := [.int x2, .int x1]) (st := []) mo_X11_takesBale mi_X11_takesBale ml_X11_308_X11_takesBale rfl rfl (by decide) rfl (by decide) (by decide) rfl (Nat.le_of_ble_eq_true rfl) (by decide +kernel) s22 h (q_fB fun b21 A20 h => ?_)
      show q_Wp _ _ _ _ 0 0 32 [some (.ref a0), some (.int x1), some (.int x2), some (.int (nI 1)), none, none, none, none] [.int (q_i b21)] A20
      refine q_ifB_eq 39 (off := 7) (by decide +kernel) (by decide) (fun c23 => ?_) (fun c23 => ?_)
      · have h := h.2 c23
        refine q_blk (pc' := 44) (lo' := [some (.ref a0), some (.int x1), some (.int x2), some (.int (nI 1)), some (.int (nI 0)), none, none, none]) (st' := [.int (nI 1), .ref a0]) [.iconst 0, .istore 4, .aload_n 0, .iload_n 3] (by decide +kernel) rfl ?_
        refine q_if_ne 51 (off := 7) (by decide +kernel) (by decide) (fun _ => ?_) (fun c9 => absurd c9 (by decide))
        refine q_blk (pc' := 53) (lo' := [some (.ref a0), some (.int x1), some (.int x2), some (.int (nI 1)), some (.int (nI 0)), none, none, none]) (st' := [.int (nI 1), .int (nI 0), .ref a0]) [.iconst 0, .iload_n 3] (by decide +kernel) rfl ?_
        refine q_if_eq 65 (off := 12) (by decide +kernel) (by decide) (fun c9 => absurd c9 (by decide)) (fun _ => ?_)
        refine q_blk (pc' := 58) (lo' := [some (.ref a0), some (.int x1), some (.int x2), some (.int (nI 1)), some (.int (nI 0)), none, none, none]) (st' := [.int (nI 0), .int (nI 0), .ref a0]) [.iload 4] (by decide +kernel) rfl ?_
        refine q_if_ne 65 (off := 7) (by decide +kernel) (by decide) (fun c9 => absurd (by decide) c9) (fun _ => ?_)
        refine q_blk (pc' := 62) (lo' := [some (.ref a0), some (.int x1), some (.int x2), some (.int (nI 1)), some (.int (nI 0)), none, none, none]) (st' := [.int (nI 1), .int (nI 0), .ref a0]) [.iconst 1] (by decide +kernel) rfl ?_
        refine q_goto 66 (off := 4) (by decide +kernel) (by decide) ?_
        refine q_blk (pc' := 68) (lo' := [some (.ref a0), some (.int x1), some (.int x2), some (.int (nI 1)), some (.int (nI 0)), none, none, none]) (st' := [.int (nI 0), .int (nI 1), .int (nI 0), .ref a0]) [.iload 4] (by decide +kernel) rfl ?_
        refine q_if_eq 96 (off := 28) (by decide +kernel) (by decide) (fun _ => ?_) (fun c9 => absurd (by decide) c9)
        refine q_blk (pc' := 97) (lo' := [some (.ref a0), some (.int x1), some (.int x2), some (.int (nI 1)), some (.int (nI 0)), none, none, none]) (st' := [.int (nI 0), .int (nI 1), .int (nI 0), .ref a0]) [.iconst 0] (by decide +kernel) rfl ?_
        exact q_wk [some (.ref a0), some (.int x1), some (.int x2), none, none, none, none, none] (And.intro rfl (And.intro rfl (And.intro rfl trivial))) h
      · have h := h.1 c23
        refine q_blk (pc' := 36) (lo' := [some (.ref a0), some (.int x1), some (.int x2), some (.int (nI 1)), none, none, none, none]) (st' := [.int (nI 1)]) [.iconst 1] (by decide +kernel) rfl ?_
        refine q_goto 40 (off := 4) (by decide +kernel) (by decide) ?_
        refine q_blk (pc' := 44) (lo' := [some (.ref a0), some (.int x1), some (.int x2), some (.int (nI 1)), some (.int (nI 1)), none, none, none]) (st' := [.int (nI 1), .ref a0]) [.istore 4, .aload_n 0, .iload_n 3] (by decide +kernel) rfl ?_
        refine q_if_ne 51 (off := 7) (by decide +kernel) (by decide) (fun _ => ?_) (fun c9 => absurd c9 (by decide))
        refine q_blk (pc' := 53) (lo' := [some (.ref a0), some (.int x1), some (.int x2), some (.int (nI 1)), some (.int (nI 1)), none, none, none]) (st' := [.int (nI 1), .int (nI 0), .ref a0]) [.iconst 0, .iload_n 3] (by decide +kernel) rfl ?_
        refine q_if_eq 65 (off := 12) (by decide +kernel) (by decide) (fun c9 => absurd c9 (by decide)) (fun _ => ?_)
        refine q_blk (pc' := 58) (lo' := [some (.ref a0), some (.int x1), some (.int x2), some (.int (nI 1)), some (.int (nI 1)), none, none, none]) (st' := [.int (nI 1), .int (nI 0), .ref a0]) [.iload 4] (by decide +kernel) rfl ?_
        refine q_if_ne 65 (off := 7) (by decide +kernel) (by decide) (fun _ => ?_) (fun c9 => absurd c9 (by decide))
        refine q_blk (pc' := 68) (lo' := [some (.ref a0), some (.int x1), some (.int x2), some (.int (nI 1)), some (.int (nI 1)), none, none, none]) (st' := [.int (nI 1), .int (nI 0), .int (nI 0), .ref a0]) [.iconst 0, .iload 4] (by decide +kernel) rfl ?_
        refine q_if_eq 96 (off := 28) (by decide +kernel) (by decide) (fun c9 => absurd c9 (by decide)) (fun _ => ?_)
        refine q_blk (pc' := 74) (lo' := [some (.ref a0), some (.int x1), some (.int x2), some (.int (nI 1)), some (.int (nI 1)), none, none, none]) (st' := [.int x1, .int x2, .ref a0, .int (nI 0), .int (nI 0), .ref a0]) [.aload_n 0, .iload_n 2, .iload_n 1] (by decide +kernel) rfl ?_
        obtain ⟨s35, h⟩ := h
        refine q_callV (ci := 11) (Mc := M_X11_sendsBack) (z := 2) (b := a0) (As := [.int x2, .int x1]) (st := [.int (nI 0), .int (nI 0), .ref a0]) mo_X11_sendsBack mi_X11_sendsBack ml_X11_312_X11_sendsBack rfl rfl (by decide) rfl (by decide) (by decide) rfl (Nat.le_of_ble_eq_true rfl) (by decide +kernel) s35 h (q_fB fun b34 A33 h => ?_)
        show q_Wp _ _ _ _ 0 0 77 [some (.ref a0), some (.int x1), some (.int x2), some (.int (nI 1)), some (.int (nI 1)), none, none, none] [.int (q_i b34), .int (nI 0), .int (nI 0), .ref a0] A33
        refine q_ifB_eq 96 (off := 19) (by decide +kernel) (by decide) (fun c36 => ?_) (fun c36 => ?_)
        · have h := h.2 c36
          refine q_blk (pc' := 97) (lo' := [some (.ref a0), some (.int x1), some (.int x2), some (.int (nI 1)), some (.int (nI 1)), none, none, none]) (st' := [.int (nI 0), .int (nI 0), .int (nI 0), .ref a0]) [.iconst 0] (by decide +kernel) rfl ?_
          exact q_wk [some (.ref a0), some (.int x1), some (.int x2), none, none, none, none, none] (And.intro rfl (And.intro rfl (And.intro rfl trivial))) h
        · have h := h.1 c36
          refine q_blk (pc' := 81) (lo' := [some (.ref a0), some (.int x1), some (.int x2), some (.int (nI 1)), some (.int (nI 1)), none, none, none]) (st' := [.ref a0, .int (nI 0), .int (nI 0), .ref a0]) [.aload_n 0] (by decide +kernel) rfl ?_
          obtain ⟨s38, h⟩ := h
          obtain ⟨r39, e40, h⟩ := h
          refine q_getR fl_X11_30 rfl (by decide) (by decide +kernel) s38 e40 ?_
          refine q_blk (pc' := 86) (lo' := [some (.ref a0), some (.int x1), some (.int x2), some (.int (nI 1)), some (.int (nI 1)), none, none, none]) (st' := [.int (nI 9), .ref r39, .int (nI 0), .int (nI 0), .ref a0]) [.bipush 9] (by decide +kernel) rfl ?_
          obtain ⟨z42, s41, b43, h⟩ := h
          obtain ⟨l44, h⟩ := h
          refine q_iald rfl (by decide +kernel) s41 l44 b43 ?_
          refine q_blk (pc' := 89) (lo' := [some (.ref a0), some (.int x1), some (.int x2), some (.int (nI 1)), some (.int (nI 1)), none, none, none]) (st' := [.int (nI 30), .int (q_I A33 r39 9), .int (nI 0), .int (nI 0), .ref a0]) [.bipush 30] (by decide +kernel) rfl ?_
          refine q_icmp_ne 96 (off := 7) (by decide +kernel) (by decide) (fun c45 => ?_) (fun c45 => ?_)
          · have h := h.2 c45
            refine q_blk (pc' := 97) (lo' := [some (.ref a0), some (.int x1), some (.int x2), some (.int (nI 1)), some (.int (nI 1)), none, none, none]) (st' := [.int (nI 0), .int (nI 0), .int (nI 0), .ref a0]) [.iconst 0] (by decide +kernel) rfl ?_
            exact q_wk [some (.ref a0), some (.int x1), some (.int x2), none, none, none, none, none] (And.intro rfl (And.intro rfl (And.intro rfl trivial))) h
          · have h := h.1 c45
            refine q_blk (pc' := 93) (lo' := [some (.ref a0), some (.int x1), some (.int x2), some (.int (nI 1)), some (.int (nI 1)), none, none, none]) (st' := [.int (nI 1), .int (nI 0), .int (nI 0), .ref a0]) [.iconst 1] (by decide +kernel) rfl ?_
            refine q_goto 97 (off := 4) (by decide +kernel) (by decide) ?_
            exact q_wk [some (.ref a0), some (.int x1), some (.int x2), none, none, none, none, none] (And.intro rfl (And.intro rfl (And.intro rfl trivial))) h
theorem f_X11_sell_97 {G : q_G} {X : String → q_H → Prop} {f : Int32 → q_H → Prop} {A : q_H} {a0 : Nat} {x1 : Int32} {x2 : Int32} {p0 : Bool} {p1 : Bool} {p2 : Bool} {u3 : Nat} (h : q_sh A u3 = (12, 0) ∧ q_Wc G M_X11_fails [.ref u3, .int (q_i p2), .int (q_i p1), .int (q_i p0)] A (q_KB fun b2 A1 => ((b2 = true → f (nI 0) A1) ∧ (b2 = false → q_sh A1 a0 = (12, 0) ∧ q_Wc G M_X11_remembers [.ref a0] A1 (q_KV fun A6 => q_sh A6 a0 = (12, 0) ∧ q_Wc G M_X11_sendsBack [.ref a0, .int x2, .int x1] A6 (q_KB fun b10 A9 => ((b10 = true → ((b10 = true → q_Wc G M_X11_storedAt [.int x1, .int (nI 4)] A9 (q_KI fun r157 A156 => q_sh A156 a0 = (12, 0) ∧ q_Wc G M_X11_waits [.ref a0, .int r157, .int (nI 0)] A156 (q_KV fun A158 => q_sh A158 a0 = (12, 0) ∧ ∃ r162 : Nat, q_R A158 a0 6 = some r162 ∧ ∃ z165 : Nat, q_sh A158 r162 = (50, z165) ∧ z165 < 2147483648 ∧ 12 < z165 ∧ 14 < z165 ∧ q_Wc G M_X11_storedAt [.int x1, .int (nI 0)] (q_setI (q_setI A158 r162 12 ((q_I A158 r162 12) + (nI 1))) r162 14 ((q_I (q_setI A158 r162 12 ((q_I A158 r162 12) + (nI 1))) r162 14) - (nI 1))) (q_KI fun r170 A169 => q_Wp G M_X11_sell (q_KI f) X 0 0 254 [some (.ref a0), none, none, none, none, none, some (.int (-1)), some (.int r170)] [] A169) q_nX) q_nX) q_nX) ∧ (b10 = false → q_sh A9 a0 = (12, 0) ∧ ∃ r97 : Nat, q_R A9 a0 6 = some r97 ∧ ∃ z100 : Nat, q_sh A9 r97 = (50, z100) ∧ z100 < 2147483648 ∧ ∃ j102 : Nat, ((nI 20) + x2) = nI j102 ∧ j102 < z100 ∧ 11 < z100 ∧ 17 < z100 ∧ q_Wc G M_X11_storedAt [.int x1, .int (nI 4)] (q_setI (q_setI A9 r97 j102 ((q_I A9 r97 j102) + (-1))) r97 11 ((q_I (q_setI A9 r97 j102 ((q_I A9 r97 j102) + (-1))) r97 11) + (nI 1))) (q_KI fun r108 A107 => q_sh A107 a0 = (12, 0) ∧ q_Wc G M_X11_total [.ref a0, .int r108] A107 (q_KI fun r110 A109 => ∃ z113 : Nat, q_sh A109 r97 = (50, z113) ∧ z113 < 2147483648 ∧ 17 < z113 ∧ (∀ A116 : q_H, A116 = (q_setI A109 r97 17 ((q_I (q_setI (q_setI A9 r97 j102 ((q_I A9 r97 j102) + (-1))) r97 11 ((q_I (q_setI A9 r97 j102 ((q_I A9 r97 j102) + (-1))) r97 11) + (nI 1))) r97 17) + r110)) → q_sh A109 a0 = (12, 0) ∧ ∃ r118 : Nat, q_R A109 a0 6 = some r118 ∧ ∃ z121 : Nat, q_sh A109 r118 = (50, z121) ∧ z121 < 2147483648 ∧ 13 < z121 ∧ q_Wc G M_X11_impurity [.ref a0, .int x1] A116 (q_KI fun r125 A124 => q_sh A124 a0 = (12, 0) ∧ q_Wc G M_X11_ofBuyer [.ref a0, .int x2, .int (nI 3)] A124 (q_KI fun r127 A126 => ((r125 ≤ r127 → ∃ z131 : Nat, q_sh A126 r118 = (50, z131) ∧ z131 < 2147483648 ∧ 13 < z131 ∧ q_sh A126 a0 = (12, 0) ∧ ∃ r135 : Nat, q_R A126 a0 6 = some r135 ∧ ∃ z138 : Nat, q_sh A126 r135 = (50, z138) ∧ z138 < 2147483648 ∧ 14 < z138 ∧ q_Wc G M_X11_storedAt [.int x1, .int (nI 0)] (q_setI (q_setI A126 r118 13 ((q_I A116 r118 13) + (nI 0))) r135 14 ((q_I (q_setI A126 r118 13 ((q_I A116 r118 13) + (nI 0))) r135 14) - (nI 1))) (q_KI fun r142 A141 => q_Wp G M_X11_sell (q_KI f) X 0 0 254 [some (.ref a0), none, none, none, none, none, some (.int (-1)), some (.int r142)] [] A141) q_nX) ∧ (¬ r125 ≤ r127 → ∃ z144 : Nat, q_sh A126 r118 = (50, z144) ∧ z144 < 2147483648 ∧ 13 < z144 ∧ q_sh A126 a0 = (12, 0) ∧ ∃ r148 : Nat, q_R A126 a0 6 = some r148 ∧ ∃ z151 : Nat, q_sh A126 r148 = (50, z151) ∧ z151 < 2147483648 ∧ 14 < z151 ∧ q_Wc G M_X11_storedAt [.int x1, .int (nI 0)] (q_setI (q_setI A126 r118 13 ((q_I A116 r118 13) + (nI 1))) r148 14 ((q_I (q_setI A126 r118 13 ((q_I A116 r118 13) + (nI 1))) r148 14) - (nI 1))) (q_KI fun r155 A154 => q_Wp G M_X11_sell (q_KI f) X 0 0 254 [some (.ref a0), none, none, none, none, none, some (.int (-1)), some (.int r155)] [] A154) q_nX))) q_nX) q_nX)) q_nX) q_nX))) ∧ (b10 = false → q_sh A9 a0 = (12, 0) ∧ q_Wc G M_X11_pays [.ref a0, .int x2, .int x1] A9 (q_KI fun r15 A14 => ((b10 = true → q_Wc G M_X11_storedAt [.int x1, .int (nI 4)] A14 (q_KI fun r80 A79 => q_sh A79 a0 = (12, 0) ∧ q_Wc G M_X11_waits [.ref a0, .int r80, .int (nI 0)] A79 (q_KV fun A81 => q_sh A81 a0 = (12, 0) ∧ ∃ r85 : Nat, q_R A81 a0 6 = some r85 ∧ ∃ z88 : Nat, q_sh A81 r85 = (50, z88) ∧ z88 < 2147483648 ∧ 12 < z88 ∧ 14 < z88 ∧ q_Wc G M_X11_storedAt [.int x1, .int (nI 0)] (q_setI (q_setI A81 r85 12 ((q_I A81 r85 12) + (nI 1))) r85 14 ((q_I (q_setI A81 r85 12 ((q_I A81 r85 12) + (nI 1))) r85 14) - (nI 1))) (q_KI fun r93 A92 => q_Wp G M_X11_sell (q_KI f) X 0 0 254 [some (.ref a0), none, none, none, none, none, some (.int r15), some (.int r93)] [] A92) q_nX) q_nX) q_nX) ∧ (b10 = false → q_sh A14 a0 = (12, 0) ∧ ∃ r20 : Nat, q_R A14 a0 6 = some r20 ∧ ∃ z23 : Nat, q_sh A14 r20 = (50, z23) ∧ z23 < 2147483648 ∧ ∃ j25 : Nat, ((nI 20) + x2) = nI j25 ∧ j25 < z23 ∧ 11 < z23 ∧ 17 < z23 ∧ q_Wc G M_X11_storedAt [.int x1, .int (nI 4)] (q_setI (q_setI A14 r20 j25 ((q_I A14 r20 j25) + r15)) r20 11 ((q_I (q_setI A14 r20 j25 ((q_I A14 r20 j25) + r15)) r20 11) + (nI 1))) (q_KI fun r31 A30 => q_sh A30 a0 = (12, 0) ∧ q_Wc G M_X11_total [.ref a0, .int r31] A30 (q_KI fun r33 A32 => ∃ z36 : Nat, q_sh A32 r20 = (50, z36) ∧ z36 < 2147483648 ∧ 17 < z36 ∧ (∀ A39 : q_H, A39 = (q_setI A32 r20 17 ((q_I (q_setI (q_setI A14 r20 j25 ((q_I A14 r20 j25) + r15)) r20 11 ((q_I (q_setI A14 r20 j25 ((q_I A14 r20 j25) + r15)) r20 11) + (nI 1))) r20 17) + r33)) → q_sh A32 a0 = (12, 0) ∧ ∃ r41 : Nat, q_R A32 a0 6 = some r41 ∧ ∃ z44 : Nat, q_sh A32 r41 = (50, z44) ∧ z44 < 2147483648 ∧ 13 < z44 ∧ q_Wc G M_X11_impurity [.ref a0, .int x1] A39 (q_KI fun r48 A47 => q_sh A47 a0 = (12, 0) ∧ q_Wc G M_X11_ofBuyer [.ref a0, .int x2, .int (nI 3)] A47 (q_KI fun r50 A49 => ((r48 ≤ r50 → ∃ z54 : Nat, q_sh A49 r41 = (50, z54) ∧ z54 < 2147483648 ∧ 13 < z54 ∧ q_sh A49 a0 = (12, 0) ∧ ∃ r58 : Nat, q_R A49 a0 6 = some r58 ∧ ∃ z61 : Nat, q_sh A49 r58 = (50, z61) ∧ z61 < 2147483648 ∧ 14 < z61 ∧ q_Wc G M_X11_storedAt [.int x1, .int (nI 0)] (q_setI (q_setI A49 r41 13 ((q_I A39 r41 13) + (nI 0))) r58 14 ((q_I (q_setI A49 r41 13 ((q_I A39 r41 13) + (nI 0))) r58 14) - (nI 1))) (q_KI fun r65 A64 => q_Wp G M_X11_sell (q_KI f) X 0 0 254 [some (.ref a0), none, none, none, none, none, some (.int r15), some (.int r65)] [] A64) q_nX) ∧ (¬ r48 ≤ r50 → ∃ z67 : Nat, q_sh A49 r41 = (50, z67) ∧ z67 < 2147483648 ∧ 13 < z67 ∧ q_sh A49 a0 = (12, 0) ∧ ∃ r71 : Nat, q_R A49 a0 6 = some r71 ∧ ∃ z74 : Nat, q_sh A49 r71 = (50, z74) ∧ z74 < 2147483648 ∧ 14 < z74 ∧ q_Wc G M_X11_storedAt [.int x1, .int (nI 0)] (q_setI (q_setI A49 r41 13 ((q_I A39 r41 13) + (nI 1))) r71 14 ((q_I (q_setI A49 r41 13 ((q_I A39 r41 13) + (nI 1))) r71 14) - (nI 1))) (q_KI fun r78 A77 => q_Wp G M_X11_sell (q_KI f) X 0 0 254 [some (.ref a0), none, none, none, none, none, some (.int r15), some (.int r78)] [] A77) q_nX))) q_nX) q_nX)) q_nX) q_nX))) q_nX))) q_nX) q_nX))) q_nX) : q_Wp G M_X11_sell (q_KI f) X 0 0 97 [some (.ref a0), some (.int x1), some (.int x2), none, none, none, none, none] [.int (q_i p0), .int (q_i p1), .int (q_i p2), .ref u3] A := by
  obtain ⟨s3, h⟩ := h
  refine q_callV (ci := 11) (Mc := M_X11_fails) (z := 3) (b := u3) (As := [.int (q_i p2), .int (q_i p1), .int (q_i p0)]) (st := []) mo_X11_fails mi_X11_fails ml_X11_260_X11_fails rfl rfl (by decide) rfl (by decide) (by decide) rfl (Nat.le_of_ble_eq_true rfl) (by decide +kernel) s3 h (q_fB fun b2 A1 h => ?_)
  show q_Wp _ _ _ _ 0 0 100 [some (.ref a0), some (.int x1), some (.int x2), none, none, none, none, none] [.int (q_i b2)] A1
  refine q_ifB_eq 105 (off := 5) (by decide +kernel) (by decide) (fun c4 => ?_) (fun c4 => ?_)
  · have h := h.2 c4
    refine q_blk (pc' := 106) (lo' := [some (.ref a0), some (.int x1), some (.int x2), none, none, none, none, none]) (st' := [.ref a0]) [.aload_n 0] (by decide +kernel) rfl ?_
    obtain ⟨s8, h⟩ := h
    refine q_callV (ci := 11) (Mc := M_X11_remembers) (z := 0) (b := a0) (As := []) (st := []) mo_X11_remembers mi_X11_remembers ml_X11_289_X11_remembers rfl rfl (by decide) rfl (by decide) (by decide) rfl (Nat.le_of_ble_eq_true rfl) (by decide +kernel) s8 h (q_fV fun A6 h => ?_)
    show q_Wp _ _ _ _ 0 0 109 [some (.ref a0), some (.int x1), some (.int x2), none, none, none, none, none] [] A6
    refine q_blk (pc' := 112) (lo' := [some (.ref a0), some (.int x1), some (.int x2), none, none, none, none, none]) (st' := [.int x1, .int x2, .ref a0]) [.aload_n 0, .iload_n 2, .iload_n 1] (by decide +kernel) rfl ?_
    obtain ⟨s11, h⟩ := h
    refine q_callV (ci := 11) (Mc := M_X11_sendsBack) (z := 2) (b := a0) (As := [.int x2, .int x1]) (st := []) mo_X11_sendsBack mi_X11_sendsBack ml_X11_312_X11_sendsBack rfl rfl (by decide) rfl (by decide) (by decide) rfl (Nat.le_of_ble_eq_true rfl) (by decide +kernel) s11 h (q_fB fun b10 A9 h => ?_)
    show q_Wp _ _ _ _ 0 0 115 [some (.ref a0), some (.int x1), some (.int x2), none, none, none, none, none] [.int (q_i b10)] A9
    refine q_blk (pc' := 119) (lo' := [some (.ref a0), some (.int x1), some (.int x2), none, none, some (.int (q_i b10)), none, none]) (st' := [.int (q_i b10)]) [.istore 5, .iload 5] (by decide +kernel) rfl ?_
    refine q_ifB_eq 126 (off := 7) (by decide +kernel) (by decide) (fun c12 => ?_) (fun c12 => ?_)
    · have h := h.2 c12
      refine q_blk (pc' := 129) (lo' := [some (.ref a0), some (.int x1), some (.int x2), none, none, some (.int (q_i b10)), none, none]) (st' := [.int x1, .int x2, .ref a0]) [.aload_n 0, .iload_n 2, .iload_n 1] (by decide +kernel) rfl ?_
      obtain ⟨s16, h⟩ := h
      refine q_callV (ci := 11) (Mc := M_X11_pays) (z := 2) (b := a0) (As := [.int x2, .int x1]) (st := []) mo_X11_pays mi_X11_pays ml_X11_315_X11_pays rfl rfl (by decide) rfl (by decide) (by decide) rfl (Nat.le_of_ble_eq_true rfl) (by decide +kernel) s16 h (q_fI fun r15 A14 h => ?_)
      show q_Wp _ _ _ _ 0 0 132 [some (.ref a0), some (.int x1), some (.int x2), none, none, some (.int (q_i b10)), none, none] [.int r15] A14
      refine q_blk (pc' := 136) (lo' := [some (.ref a0), some (.int x1), some (.int x2), none, none, some (.int (q_i b10)), some (.int r15), none]) (st' := [.int (q_i b10)]) [.istore 6, .iload 5] (by decide +kernel) rfl ?_
      refine q_ifB_eq 163 (off := 27) (by decide +kernel) (by decide) (fun c17 => ?_) (fun c17 => ?_)
      · have h := h.2 c17
        refine q_blk (pc' := 164) (lo' := [some (.ref a0), some (.int x1), some (.int x2), none, none, some (.int (q_i b10)), some (.int r15), none]) (st' := [.ref a0]) [.aload_n 0] (by decide +kernel) rfl ?_
        obtain ⟨s19, h⟩ := h
        obtain ⟨r20, e21, h⟩ := h
        refine q_getR fl_X11_30 rfl (by decide) (by decide +kernel) s19 e21 ?_
        refine q_blk (pc' := 172) (lo' := [some (.ref a0), some (.int x1), some (.int x2), none, none, some (.int (q_i b10)), some (.int r15), none]) (st' := [.int ((nI 20) + x2), .ref r20, .int ((nI 20) + x2), .ref r20]) [.bipush 20, .iload_n 2, .iadd, .dup2] (by decide +kernel) rfl ?_
        obtain ⟨z23, s22, b24, h⟩ := h
        obtain ⟨j25, e26, h⟩ := h
        obtain ⟨l27, h⟩ := h
        refine q_iald e26 (by decide +kernel) s22 l27 b24 ?_
        refine q_blk (pc' := 176) (lo' := [some (.ref a0), some (.int x1), some (.int x2), none, none, some (.int (q_i b10)), some (.int r15), none]) (st' := [.int ((q_I A14 r20 j25) + r15), .int ((nI 20) + x2), .ref r20]) [.iload 6, .iadd] (by decide +kernel) rfl ?_
        refine q_iast e26 (by decide +kernel) s22 l27 b24 ?_
        refine q_blk (pc' := 178) (lo' := [some (.ref a0), some (.int x1), some (.int x2), none, none, some (.int (q_i b10)), some (.int r15), none]) (st' := [.ref a0]) [.aload_n 0] (by decide +kernel) rfl ?_
        refine q_getR fl_X11_30 rfl (by decide) (by decide +kernel) s19 e21 ?_
        refine q_blk (pc' := 184) (lo' := [some (.ref a0), some (.int x1), some (.int x2), none, none, some (.int (q_i b10)), some (.int r15), none]) (st' := [.int (nI 11), .ref r20, .int (nI 11), .ref r20]) [.bipush 11, .dup2] (by decide +kernel) rfl ?_
        obtain ⟨l28, h⟩ := h
        refine q_iald rfl (by decide +kernel) s22 l28 b24 ?_
        refine q_blk (pc' := 187) (lo' := [some (.ref a0), some (.int x1), some (.int x2), none, none, some (.int (q_i b10)), some (.int r15), none]) (st' := [.int ((q_I (q_setI A14 r20 j25 ((q_I A14 r20 j25) + r15)) r20 11) + (nI 1)), .int (nI 11), .ref r20]) [.iconst 1, .iadd] (by decide +kernel) rfl ?_
        refine q_iast rfl (by decide +kernel) s22 l28 b24 ?_
        refine q_blk (pc' := 189) (lo' := [some (.ref a0), some (.int x1), some (.int x2), none, none, some (.int (q_i b10)), some (.int r15), none]) (st' := [.ref a0]) [.aload_n 0] (by decide +kernel) rfl ?_
        refine q_getR fl_X11_30 rfl (by decide) (by decide +kernel) s19 e21 ?_
        refine q_blk (pc' := 195) (lo' := [some (.ref a0), some (.int x1), some (.int x2), none, none, some (.int (q_i b10)), some (.int r15), none]) (st' := [.int (nI 17), .ref r20, .int (nI 17), .ref r20]) [.bipush 17, .dup2] (by decide +kernel) rfl ?_
        obtain ⟨l29, h⟩ := h
        refine q_iald rfl (by decide +kernel) s22 l29 b24 ?_
        refine q_blk (pc' := 199) (lo' := [some (.ref a0), some (.int x1), some (.int x2), none, none, some (.int (q_i b10)), some (.int r15), none]) (st' := [.int (nI 4), .int x1, .ref a0, .int (q_I (q_setI (q_setI A14 r20 j25 ((q_I A14 r20 j25) + r15)) r20 11 ((q_I (q_setI A14 r20 j25 ((q_I A14 r20 j25) + r15)) r20 11) + (nI 1))) r20 17), .int (nI 17), .ref r20]) [.aload_n 0, .iload_n 1, .iconst 4] (by decide +kernel) rfl ?_
        refine q_callS (Mc := M_X11_storedAt) (z := 2) (As := [.int x1, .int (nI 4)]) (st := [.ref a0, .int (q_I (q_setI (q_setI A14 r20 j25 ((q_I A14 r20 j25) + r15)) r20 11 ((q_I (q_setI A14 r20 j25 ((q_I A14 r20 j25) + r15)) r20 11) + (nI 1))) r20 17), .int (nI 17), .ref r20]) mo_X11_storedAt ms_X11_storedAt ml_X11_234_X11_storedAt rfl rfl (by decide) (by decide) rfl (Nat.le_of_ble_eq_true rfl) (by decide +kernel) h (q_fI fun r31 A30 h => ?_)
        show q_Wp _ _ _ _ 0 0 202 [some (.ref a0), some (.int x1), some (.int x2), none, none, some (.int (q_i b10)), some (.int r15), none] [.int r31, .ref a0, .int (q_I (q_setI (q_setI A14 r20 j25 ((q_I A14 r20 j25) + r15)) r20 11 ((q_I (q_setI A14 r20 j25 ((q_I A14 r20 j25) + r15)) r20 11) + (nI 1))) r20 17), .int (nI 17), .ref r20] A30
        obtain ⟨s34, h⟩ := h
        refine q_callV (ci := 11) (Mc := M_X11_total) (z := 1) (b := a0) (As := [.int r31]) (st := [.int (q_I (q_setI (q_setI A14 r20 j25 ((q_I A14 r20 j25) + r15)) r20 11 ((q_I (q_setI A14 r20 j25 ((q_I A14 r20 j25) + r15)) r20 11) + (nI 1))) r20 17), .int (nI 17), .ref r20]) mo_X11_total mi_X11_total ml_X11_189_X11_total rfl rfl (by decide) rfl (by decide) (by decide) rfl (Nat.le_of_ble_eq_true rfl) (by decide +kernel) s34 h (q_fI fun r33 A32 h => ?_)
        show q_Wp _ _ _ _ 0 0 205 [some (.ref a0), some (.int x1), some (.int x2), none, none, some (.int (q_i b10)), some (.int r15), none] [.int r33, .int (q_I (q_setI (q_setI A14 r20 j25 ((q_I A14 r20 j25) + r15)) r20 11 ((q_I (q_setI A14 r20 j25 ((q_I A14 r20 j25) + r15)) r20 11) + (nI 1))) r20 17), .int (nI 17), .ref r20] A32
        refine q_blk (pc' := 206) (lo' := [some (.ref a0), some (.int x1), some (.int x2), none, none, some (.int (q_i b10)), some (.int r15), none]) (st' := [.int ((q_I (q_setI (q_setI A14 r20 j25 ((q_I A14 r20 j25) + r15)) r20 11 ((q_I (q_setI A14 r20 j25 ((q_I A14 r20 j25) + r15)) r20 11) + (nI 1))) r20 17) + r33), .int (nI 17), .ref r20]) [.iadd] (by decide +kernel) rfl ?_
        obtain ⟨z36, s35, b37, h⟩ := h
        obtain ⟨l38, h⟩ := h
        refine q_iast rfl (by decide +kernel) s35 l38 b37 ?_
        let A39 : q_H := (q_setI A32 r20 17 ((q_I (q_setI (q_setI A14 r20 j25 ((q_I A14 r20 j25) + r15)) r20 11 ((q_I (q_setI A14 r20 j25 ((q_I A14 r20 j25) + r15)) r20 11) + (nI 1))) r20 17) + r33))
        have h := h A39 rfl
        show q_Wp _ _ _ _ 0 0 207 [some (.ref a0), some (.int x1), some (.int x2), none, none, some (.int (q_i b10)), some (.int r15), none] [] A39
        refine q_blk (pc' := 208) (lo' := [some (.ref a0), some (.int x1), some (.int x2), none, none, some (.int (q_i b10)), some (.int r15), none]) (st' := [.ref a0]) [.aload_n 0] (by decide +kernel) rfl ?_
        obtain ⟨s40, h⟩ := h
        obtain ⟨r41, e42, h⟩ := h
        refine q_getR fl_X11_30 rfl (by decide) (by decide +kernel) s40 e42 ?_
        refine q_blk (pc' := 214) (lo' := [some (.ref a0), some (.int x1), some (.int x2), none, none, some (.int (q_i b10)), some (.int r15), none]) (st' := [.int (nI 13), .ref r41, .int (nI 13), .ref r41]) [.bipush 13, .dup2] (by decide +kernel) rfl ?_
        obtain ⟨z44, s43, b45, h⟩ := h
        obtain ⟨l46, h⟩ := h
        refine q_iald rfl (by decide +kernel) s43 l46 b45 ?_
        refine q_blk (pc' := 217) (lo' := [some (.ref a0), some (.int x1), some (.int x2), none, none, some (.int (q_i b10)), some (.int r15), none]) (st' := [.int x1, .ref a0, .int (q_I A39 r41 13), .int (nI 13), .ref r41]) [.aload_n 0, .iload_n 1] (by decide +kernel) rfl ?_
        refine q_callV (ci := 11) (Mc := M_X11_impurity) (z := 1) (b := a0) (As := [.int x1]) (st := [.int (q_I A39 r41 13), .int (nI 13), .ref r41]) mo_X11_impurity mi_X11_impurity ml_X11_305_X11_impurity rfl rfl (by decide) rfl (by decide) (by decide) rfl (Nat.le_of_ble_eq_true rfl) (by decide +kernel) s40 h (q_fI fun r48 A47 h => ?_)
        show q_Wp _ _ _ _ 0 0 220 [some (.ref a0), some (.int x1), some (.int x2), none, none, some (.int (q_i b10)), some (.int r15), none] [.int r48, .int (q_I A39 r41 13), .int (nI 13), .ref r41] A47
        refine q_blk (pc' := 223) (lo' := [some (.ref a0), some (.int x1), some (.int x2), none, none, some (.int (q_i b10)), some (.int r15), none]) (st' := [.int (nI 3), .int x2, .ref a0, .int r48, .int (q_I A39 r41 13), .int (nI 13), .ref r41]) [.aload_n 0, .iload_n 2, .iconst 3] (by decide +kernel) rfl ?_
        obtain ⟨s51, h⟩ := h
        refine q_callV (ci := 11) (Mc := M_X11_ofBuyer) (z := 2) (b := a0) (As := [.int x2, .int (nI 3)]) (st := [.int r48, .int (q_I A39 r41 13), .int (nI 13), .ref r41]) mo_X11_ofBuyer mi_X11_ofBuyer ml_X11_302_X11_ofBuyer rfl rfl (by decide) rfl (by decide) (by decide) rfl (Nat.le_of_ble_eq_true rfl) (by decide +kernel) s51 h (q_fI fun r50 A49 h => ?_)
        show q_Wp _ _ _ _ 0 0 226 [some (.ref a0), some (.int x1), some (.int x2), none, none, some (.int (q_i b10)), some (.int r15), none] [.int r50, .int r48, .int (q_I A39 r41 13), .int (nI 13), .ref r41] A49
        refine q_icmp_le 233 (off := 7) (by decide +kernel) (by decide) (fun c52 => ?_) (fun c52 => ?_)
        · have h := h.1 c52
          refine q_blk (pc' := 235) (lo' := [some (.ref a0), some (.int x1), some (.int x2), none, none, some (.int (q_i b10)), some (.int r15), none]) (st' := [.int ((q_I A39 r41 13) + (nI 0)), .int (nI 13), .ref r41]) [.iconst 0, .iadd] (by decide +kernel) rfl ?_
          obtain ⟨z54, s53, b55, h⟩ := h
          obtain ⟨l56, h⟩ := h
          refine q_iast rfl (by decide +kernel) s53 l56 b55 ?_
          refine q_blk (pc' := 237) (lo' := [some (.ref a0), some (.int x1), some (.int x2), none, none, some (.int (q_i b10)), some (.int r15), none]) (st' := [.ref a0]) [.aload_n 0] (by decide +kernel) rfl ?_
          obtain ⟨s57, h⟩ := h
          obtain ⟨r58, e59, h⟩ := h
          refine q_getR fl_X11_30 rfl (by decide) (by decide +kernel) s57 e59 ?_
          refine q_blk (pc' := 243) (lo' := [some (.ref a0), some (.int x1), some (.int x2), none, none, some (.int (q_i b10)), some (.int r15), none]) (st' := [.int (nI 14), .ref r58, .int (nI 14), .ref r58]) [.bipush 14, .dup2] (by decide +kernel) rfl ?_
          obtain ⟨z61, s60, b62, h⟩ := h
          obtain ⟨l63, h⟩ := h
          refine q_iald rfl (by decide +kernel) s60 l63 b62 ?_
          refine q_blk (pc' := 246) (lo' := [some (.ref a0), some (.int x1), some (.int x2), none, none, some (.int (q_i b10)), some (.int r15), none]) (st' := [.int ((q_I (q_setI A49 r41 13 ((q_I A39 r41 13) + (nI 0))) r58 14) - (nI 1)), .int (nI 14), .ref r58]) [.iconst 1, .isub] (by decide +kernel) rfl ?_
          refine q_iast rfl (by decide +kernel) s60 l63 b62 ?_
          refine q_blk (pc' := 249) (lo' := [some (.ref a0), some (.int x1), some (.int x2), none, none, some (.int (q_i b10)), some (.int r15), none]) (st' := [.int (nI 0), .int x1]) [.iload_n 1, .iconst 0] (by decide +kernel) rfl ?_
          refine q_callS (Mc := M_X11_storedAt) (z := 2) (As := [.int x1, .int (nI 0)]) (st := []) mo_X11_storedAt ms_X11_storedAt ml_X11_234_X11_storedAt rfl rfl (by decide) (by decide) rfl (Nat.le_of_ble_eq_true rfl) (by decide +kernel) h (q_fI fun r65 A64 h => ?_)
          show q_Wp _ _ _ _ 0 0 252 [some (.ref a0), some (.int x1), some (.int x2), none, none, some (.int (q_i b10)), some (.int r15), none] [.int r65] A64
          refine q_blk (pc' := 254) (lo' := [some (.ref a0), some (.int x1), some (.int x2), none, none, some (.int (q_i b10)), some (.int r15), some (.int r65)]) (st' := []) [.istore 7] (by decide +kernel) rfl ?_
          exact q_wk [some (.ref a0), none, none, none, none, none, some (.int r15), some (.int r65)] (And.intro rfl (And.intro rfl (And.intro rfl trivial))) h
        · have h := h.2 c52
          refine q_blk (pc' := 230) (lo' := [some (.ref a0), some (.int x1), some (.int x2), none, none, some (.int (q_i b10)), some (.int r15), none]) (st' := [.int (nI 1), .int (q_I A39 r41 13), .int (nI 13), .ref r41]) [.iconst 1] (by decide +kernel) rfl ?_
          refine q_goto 234 (off := 4) (by decide +kernel) (by decide) ?_
          refine q_blk (pc' := 235) (lo' := [some (.ref a0), some (.int x1), some (.int x2), none, none, some (.int (q_i b10)), some (.int r15), none]) (st' := [.int ((q_I A39 r41 13) + (nI 1)), .int (nI 13), .ref r41]) [.iadd] (by decide +kernel) rfl ?_
          obtain ⟨z67, s66, b68, h⟩ := h
          obtain ⟨l69, h⟩ := h
          refine q_iast rfl (by decide +kernel) s66 l69 b68 ?_
          refine q_blk (pc' := 237) (lo' := [some (.ref a0), some (.int x1), some (.int x2), none, none, some (.int (q_i b10)), some (.int r15), none]) (st' := [.ref a0]) [.aload_n 0] (by decide +kernel) rfl ?_
          obtain ⟨s70, h⟩ := h
          obtain ⟨r71, e72, h⟩ := h
          refine q_getR fl_X11_30 rfl (by decide) (by decide +kernel) s70 e72 ?_
          refine q_blk (pc' := 243) (lo' := [some (.ref a0), some (.int x1), some (.int x2), none, none, some (.int (q_i b10)), some (.int r15), none]) (st' := [.int (nI 14), .ref r71, .int (nI 14), .ref r71]) [.bipush 14, .dup2] (by decide +kernel) rfl ?_
          obtain ⟨z74, s73, b75, h⟩ := h
          obtain ⟨l76, h⟩ := h
          refine q_iald rfl (by decide +kernel) s73 l76 b75 ?_
          refine q_blk (pc' := 246) (lo' := [some (.ref a0), some (.int x1), some (.int x2), none, none, some (.int (q_i b10)), some (.int r15), none]) (st' := [.int ((q_I (q_setI A49 r41 13 ((q_I A39 r41 13) + (nI 1))) r71 14) - (nI 1)), .int (nI 14), .ref r71]) [.iconst 1, .isub] (by decide +kernel) rfl ?_
          refine q_iast rfl (by decide +kernel) s73 l76 b75 ?_
          refine q_blk (pc' := 249) (lo' := [some (.ref a0), some (.int x1), some (.int x2), none, none, some (.int (q_i b10)), some (.int r15), none]) (st' := [.int (nI 0), .int x1]) [.iload_n 1, .iconst 0] (by decide +kernel) rfl ?_
          refine q_callS (Mc := M_X11_storedAt) (z := 2) (As := [.int x1, .int (nI 0)]) (st := []) mo_X11_storedAt ms_X11_storedAt ml_X11_234_X11_storedAt rfl rfl (by decide) (by decide) rfl (Nat.le_of_ble_eq_true rfl) (by decide +kernel) h (q_fI fun r78 A77 h => ?_)
          show q_Wp _ _ _ _ 0 0 252 [some (.ref a0), some (.int x1), some (.int x2), none, none, some (.int (q_i b10)), some (.int r15), none] [.int r78] A77
          refine q_blk (pc' := 254) (lo' := [some (.ref a0), some (.int x1), some (.int x2), none, none, some (.int (q_i b10)), some (.int r15), some (.int r78)]) (st' := []) [.istore 7] (by decide +kernel) rfl ?_
          exact q_wk [some (.ref a0), none, none, none, none, none, some (.int r15), some (.int r78)] (And.intro rfl (And.intro rfl (And.intro rfl trivial))) h
      · have h := h.1 c17
        refine q_blk (pc' := 142) (lo' := [some (.ref a0), some (.int x1), some (.int x2), none, none, some (.int (q_i b10)), some (.int r15), none]) (st' := [.int (nI 4), .int x1, .ref a0]) [.aload_n 0, .iload_n 1, .iconst 4] (by decide +kernel) rfl ?_
        refine q_callS (Mc := M_X11_storedAt) (z := 2) (As := [.int x1, .int (nI 4)]) (st := [.ref a0]) mo_X11_storedAt ms_X11_storedAt ml_X11_234_X11_storedAt rfl rfl (by decide) (by decide) rfl (Nat.le_of_ble_eq_true rfl) (by decide +kernel) h (q_fI fun r80 A79 h => ?_)
        show q_Wp _ _ _ _ 0 0 145 [some (.ref a0), some (.int x1), some (.int x2), none, none, some (.int (q_i b10)), some (.int r15), none] [.int r80, .ref a0] A79
        refine q_blk (pc' := 146) (lo' := [some (.ref a0), some (.int x1), some (.int x2), none, none, some (.int (q_i b10)), some (.int r15), none]) (st' := [.int (nI 0), .int r80, .ref a0]) [.iconst 0] (by decide +kernel) rfl ?_
        obtain ⟨s83, h⟩ := h
        refine q_callV (ci := 11) (Mc := M_X11_waits) (z := 2) (b := a0) (As := [.int r80, .int (nI 0)]) (st := []) mo_X11_waits mi_X11_waits ml_X11_210_X11_waits rfl rfl (by decide) rfl (by decide) (by decide) rfl (Nat.le_of_ble_eq_true rfl) (by decide +kernel) s83 h (q_fV fun A81 h => ?_)
        show q_Wp _ _ _ _ 0 0 149 [some (.ref a0), some (.int x1), some (.int x2), none, none, some (.int (q_i b10)), some (.int r15), none] [] A81
        refine q_blk (pc' := 150) (lo' := [some (.ref a0), some (.int x1), some (.int x2), none, none, some (.int (q_i b10)), some (.int r15), none]) (st' := [.ref a0]) [.aload_n 0] (by decide +kernel) rfl ?_
        obtain ⟨s84, h⟩ := h
        obtain ⟨r85, e86, h⟩ := h
        refine q_getR fl_X11_30 rfl (by decide) (by decide +kernel) s84 e86 ?_
        refine q_blk (pc' := 156) (lo' := [some (.ref a0), some (.int x1), some (.int x2), none, none, some (.int (q_i b10)), some (.int r15), none]) (st' := [.int (nI 12), .ref r85, .int (nI 12), .ref r85]) [.bipush 12, .dup2] (by decide +kernel) rfl ?_
        obtain ⟨z88, s87, b89, h⟩ := h
        obtain ⟨l90, h⟩ := h
        refine q_iald rfl (by decide +kernel) s87 l90 b89 ?_
        refine q_blk (pc' := 159) (lo' := [some (.ref a0), some (.int x1), some (.int x2), none, none, some (.int (q_i b10)), some (.int r15), none]) (st' := [.int ((q_I A81 r85 12) + (nI 1)), .int (nI 12), .ref r85]) [.iconst 1, .iadd] (by decide +kernel) rfl ?_
        refine q_iast rfl (by decide +kernel) s87 l90 b89 ?_
        refine q_goto 236 (off := 76) (by decide +kernel) (by decide) ?_
        refine q_blk (pc' := 237) (lo' := [some (.ref a0), some (.int x1), some (.int x2), none, none, some (.int (q_i b10)), some (.int r15), none]) (st' := [.ref a0]) [.aload_n 0] (by decide +kernel) rfl ?_
        refine q_getR fl_X11_30 rfl (by decide) (by decide +kernel) s84 e86 ?_
        refine q_blk (pc' := 243) (lo' := [some (.ref a0), some (.int x1), some (.int x2), none, none, some (.int (q_i b10)), some (.int r15), none]) (st' := [.int (nI 14), .ref r85, .int (nI 14), .ref r85]) [.bipush 14, .dup2] (by decide +kernel) rfl ?_
        obtain ⟨l91, h⟩ := h
        refine q_iald rfl (by decide +kernel) s87 l91 b89 ?_
        refine q_blk (pc' := 246) (lo' := [some (.ref a0), some (.int x1), some (.int x2), none, none, some (.int (q_i b10)), some (.int r15), none]) (st' := [.int ((q_I (q_setI A81 r85 12 ((q_I A81 r85 12) + (nI 1))) r85 14) - (nI 1)), .int (nI 14), .ref r85]) [.iconst 1, .isub] (by decide +kernel) rfl ?_
        refine q_iast rfl (by decide +kernel) s87 l91 b89 ?_
        refine q_blk (pc' := 249) (lo' := [some (.ref a0), some (.int x1), some (.int x2), none, none, some (.int (q_i b10)), some (.int r15), none]) (st' := [.int (nI 0), .int x1]) [.iload_n 1, .iconst 0] (by decide +kernel) rfl ?_
        refine q_callS (Mc := M_X11_storedAt) (z := 2) (As := [.int x1, .int (nI 0)]) (st := []) mo_X11_storedAt ms_X11_storedAt ml_X11_234_X11_storedAt rfl rfl (by decide) (by decide) rfl (Nat.le_of_ble_eq_true rfl) (by decide +kernel) h (q_fI fun r93 A92 h => ?_)
        show q_Wp _ _ _ _ 0 0 252 [some (.ref a0), some (.int x1), some (.int x2), none, none, some (.int (q_i b10)), some (.int r15), none] [.int r93] A92
        refine q_blk (pc' := 254) (lo' := [some (.ref a0), some (.int x1), some (.int x2), none, none, some (.int (q_i b10)), some (.int r15), some (.int r93)]) (st' := []) [.istore 7] (by decide +kernel) rfl ?_
        exact q_wk [some (.ref a0), none, none, none, none, none, some (.int r15), some (.int r93)] (And.intro rfl (And.intro rfl (And.intro rfl trivial))) h
    · have h := h.1 c12
      refine q_blk (pc' := 123) (lo' := [some (.ref a0), some (.int x1), some (.int x2), none, none, some (.int (q_i b10)), none, none]) (st' := [.int (-1)]) [.iconst (-1)] (by decide +kernel) rfl ?_
      refine q_goto 132 (off := 9) (by decide +kernel) (by decide) ?_
      refine q_blk (pc' := 136) (lo' := [some (.ref a0), some (.int x1), some (.int x2), none, none, some (.int (q_i b10)), some (.int (-1)), none]) (st' := [.int (q_i b10)]) [.istore 6, .iload 5] (by decide +kernel) rfl ?_
      refine q_ifB_eq 163 (off := 27) (by decide +kernel) (by decide) (fun c94 => ?_) (fun c94 => ?_)
      · have h := h.2 c94
        refine q_blk (pc' := 164) (lo' := [some (.ref a0), some (.int x1), some (.int x2), none, none, some (.int (q_i b10)), some (.int (-1)), none]) (st' := [.ref a0]) [.aload_n 0] (by decide +kernel) rfl ?_
        obtain ⟨s96, h⟩ := h
        obtain ⟨r97, e98, h⟩ := h
        refine q_getR fl_X11_30 rfl (by decide) (by decide +kernel) s96 e98 ?_
        refine q_blk (pc' := 172) (lo' := [some (.ref a0), some (.int x1), some (.int x2), none, none, some (.int (q_i b10)), some (.int (-1)), none]) (st' := [.int ((nI 20) + x2), .ref r97, .int ((nI 20) + x2), .ref r97]) [.bipush 20, .iload_n 2, .iadd, .dup2] (by decide +kernel) rfl ?_
        obtain ⟨z100, s99, b101, h⟩ := h
        obtain ⟨j102, e103, h⟩ := h
        obtain ⟨l104, h⟩ := h
        refine q_iald e103 (by decide +kernel) s99 l104 b101 ?_
        refine q_blk (pc' := 176) (lo' := [some (.ref a0), some (.int x1), some (.int x2), none, none, some (.int (q_i b10)), some (.int (-1)), none]) (st' := [.int ((q_I A9 r97 j102) + (-1)), .int ((nI 20) + x2), .ref r97]) [.iload 6, .iadd] (by decide +kernel) rfl ?_
        refine q_iast e103 (by decide +kernel) s99 l104 b101 ?_
        refine q_blk (pc' := 178) (lo' := [some (.ref a0), some (.int x1), some (.int x2), none, none, some (.int (q_i b10)), some (.int (-1)), none]) (st' := [.ref a0]) [.aload_n 0] (by decide +kernel) rfl ?_
        refine q_getR fl_X11_30 rfl (by decide) (by decide +kernel) s96 e98 ?_
        refine q_blk (pc' := 184) (lo' := [some (.ref a0), some (.int x1), some (.int x2), none, none, some (.int (q_i b10)), some (.int (-1)), none]) (st' := [.int (nI 11), .ref r97, .int (nI 11), .ref r97]) [.bipush 11, .dup2] (by decide +kernel) rfl ?_
        obtain ⟨l105, h⟩ := h
        refine q_iald rfl (by decide +kernel) s99 l105 b101 ?_
        refine q_blk (pc' := 187) (lo' := [some (.ref a0), some (.int x1), some (.int x2), none, none, some (.int (q_i b10)), some (.int (-1)), none]) (st' := [.int ((q_I (q_setI A9 r97 j102 ((q_I A9 r97 j102) + (-1))) r97 11) + (nI 1)), .int (nI 11), .ref r97]) [.iconst 1, .iadd] (by decide +kernel) rfl ?_
        refine q_iast rfl (by decide +kernel) s99 l105 b101 ?_
        refine q_blk (pc' := 189) (lo' := [some (.ref a0), some (.int x1), some (.int x2), none, none, some (.int (q_i b10)), some (.int (-1)), none]) (st' := [.ref a0]) [.aload_n 0] (by decide +kernel) rfl ?_
        refine q_getR fl_X11_30 rfl (by decide) (by decide +kernel) s96 e98 ?_
        refine q_blk (pc' := 195) (lo' := [some (.ref a0), some (.int x1), some (.int x2), none, none, some (.int (q_i b10)), some (.int (-1)), none]) (st' := [.int (nI 17), .ref r97, .int (nI 17), .ref r97]) [.bipush 17, .dup2] (by decide +kernel) rfl ?_
        obtain ⟨l106, h⟩ := h
        refine q_iald rfl (by decide +kernel) s99 l106 b101 ?_
        refine q_blk (pc' := 199) (lo' := [some (.ref a0), some (.int x1), some (.int x2), none, none, some (.int (q_i b10)), some (.int (-1)), none]) (st' := [.int (nI 4), .int x1, .ref a0, .int (q_I (q_setI (q_setI A9 r97 j102 ((q_I A9 r97 j102) + (-1))) r97 11 ((q_I (q_setI A9 r97 j102 ((q_I A9 r97 j102) + (-1))) r97 11) + (nI 1))) r97 17), .int (nI 17), .ref r97]) [.aload_n 0, .iload_n 1, .iconst 4] (by decide +kernel) rfl ?_
        refine q_callS (Mc := M_X11_storedAt) (z := 2) (As := [.int x1, .int (nI 4)]) (st := [.ref a0, .int (q_I (q_setI (q_setI A9 r97 j102 ((q_I A9 r97 j102) + (-1))) r97 11 ((q_I (q_setI A9 r97 j102 ((q_I A9 r97 j102) + (-1))) r97 11) + (nI 1))) r97 17), .int (nI 17), .ref r97]) mo_X11_storedAt ms_X11_storedAt ml_X11_234_X11_storedAt rfl rfl (by decide) (by decide) rfl (Nat.le_of_ble_eq_true rfl) (by decide +kernel) h (q_fI fun r108 A107 h => ?_)
        show q_Wp _ _ _ _ 0 0 202 [some (.ref a0), some (.int x1), some (.int x2), none, none, some (.int (q_i b10)), some (.int (-1)), none] [.int r108, .ref a0, .int (q_I (q_setI (q_setI A9 r97 j102 ((q_I A9 r97 j102) + (-1))) r97 11 ((q_I (q_setI A9 r97 j102 ((q_I A9 r97 j102) + (-1))) r97 11) + (nI 1))) r97 17), .int (nI 17), .ref r97] A107
        obtain ⟨s111, h⟩ := h
        refine q_callV (ci := 11) (Mc := M_X11_total) (z := 1) (b := a0) (As := [.int r108]) (st := [.int (q_I (q_setI (q_setI A9 r97 j102 ((q_I A9 r97 j102) + (-1))) r97 11 ((q_I (q_setI A9 r97 j102 ((q_I A9 r97 j102) + (-1))) r97 11) + (nI 1))) r97 17), .int (nI 17), .ref r97]) mo_X11_total mi_X11_total ml_X11_189_X11_total rfl rfl (by decide) rfl (by decide) (by decide) rfl (Nat.le_of_ble_eq_true rfl) (by decide +kernel) s111 h (q_fI fun r110 A109 h => ?_)
        show q_Wp _ _ _ _ 0 0 205 [some (.ref a0), some (.int x1), some (.int x2), none, none, some (.int (q_i b10)), some (.int (-1)), none] [.int r110, .int (q_I (q_setI (q_setI A9 r97 j102 ((q_I A9 r97 j102) + (-1))) r97 11 ((q_I (q_setI A9 r97 j102 ((q_I A9 r97 j102) + (-1))) r97 11) + (nI 1))) r97 17), .int (nI 17), .ref r97] A109
        refine q_blk (pc' := 206) (lo' := [some (.ref a0), some (.int x1), some (.int x2), none, none, some (.int (q_i b10)), some (.int (-1)), none]) (st' := [.int ((q_I (q_setI (q_setI A9 r97 j102 ((q_I A9 r97 j102) + (-1))) r97 11 ((q_I (q_setI A9 r97 j102 ((q_I A9 r97 j102) + (-1))) r97 11) + (nI 1))) r97 17) + r110), .int (nI 17), .ref r97]) [.iadd] (by decide +kernel) rfl ?_
        obtain ⟨z113, s112, b114, h⟩ := h
        obtain ⟨l115, h⟩ := h
        refine q_iast rfl (by decide +kernel) s112 l115 b114 ?_
        let A116 : q_H := (q_setI A109 r97 17 ((q_I (q_setI (q_setI A9 r97 j102 ((q_I A9 r97 j102) + (-1))) r97 11 ((q_I (q_setI A9 r97 j102 ((q_I A9 r97 j102) + (-1))) r97 11) + (nI 1))) r97 17) + r110))
        have h := h A116 rfl
        show q_Wp _ _ _ _ 0 0 207 [some (.ref a0), some (.int x1), some (.int x2), none, none, some (.int (q_i b10)), some (.int (-1)), none] [] A116
        refine q_blk (pc' := 208) (lo' := [some (.ref a0), some (.int x1), some (.int x2), none, none, some (.int (q_i b10)), some (.int (-1)), none]) (st' := [.ref a0]) [.aload_n 0] (by decide +kernel) rfl ?_
        obtain ⟨s117, h⟩ := h
        obtain ⟨r118, e119, h⟩ := h
        refine q_getR fl_X11_30 rfl (by decide) (by decide +kernel) s117 e119 ?_
        refine q_blk (pc' := 214) (lo' := [some (.ref a0), some (.int x1), some (.int x2), none, none, some (.int (q_i b10)), some (.int (-1)), none]) (st' := [.int (nI 13), .ref r118, .int (nI 13), .ref r118]) [.bipush 13, .dup2] (by decide +kernel) rfl ?_
        obtain ⟨z121, s120, b122, h⟩ := h
        obtain ⟨l123, h⟩ := h
        refine q_iald rfl (by decide +kernel) s120 l123 b122 ?_
        refine q_blk (pc' := 217) (lo' := [some (.ref a0), some (.int x1), some (.int x2), none, none, some (.int (q_i b10)), some (.int (-1)), none]) (st' := [.int x1, .ref a0, .int (q_I A116 r118 13), .int (nI 13), .ref r118]) [.aload_n 0, .iload_n 1] (by decide +kernel) rfl ?_
        refine q_callV (ci := 11) (Mc := M_X11_impurity) (z := 1) (b := a0) (As := [.int x1]) (st := [.int (q_I A116 r118 13), .int (nI 13), .ref r118]) mo_X11_impurity mi_X11_impurity ml_X11_305_X11_impurity rfl rfl (by decide) rfl (by decide) (by decide) rfl (Nat.le_of_ble_eq_true rfl) (by decide +kernel) s117 h (q_fI fun r125 A124 h => ?_)
        show q_Wp _ _ _ _ 0 0 220 [some (.ref a0), some (.int x1), some (.int x2), none, none, some (.int (q_i b10)), some (.int (-1)), none] [.int r125, .int (q_I A116 r118 13), .int (nI 13), .ref r118] A124
        refine q_blk (pc' := 223) (lo' := [some (.ref a0), some (.int x1), some (.int x2), none, none, some (.int (q_i b10)), some (.int (-1)), none]) (st' := [.int (nI 3), .int x2, .ref a0, .int r125, .int (q_I A116 r118 13), .int (nI 13), .ref r118]) [.aload_n 0, .iload_n 2, .iconst 3] (by decide +kernel) rfl ?_
        obtain ⟨s128, h⟩ := h
        refine q_callV (ci := 11) (Mc := M_X11_ofBuyer) (z := 2) (b := a0) (As := [.int x2, .int (nI 3)]) (st := [.int r125, .int (q_I A116 r118 13), .int (nI 13), .ref r118]) mo_X11_ofBuyer mi_X11_ofBuyer ml_X11_302_X11_ofBuyer rfl rfl (by decide) rfl (by decide) (by decide) rfl (Nat.le_of_ble_eq_true rfl) (by decide +kernel) s128 h (q_fI fun r127 A126 h => ?_)
        show q_Wp _ _ _ _ 0 0 226 [some (.ref a0), some (.int x1), some (.int x2), none, none, some (.int (q_i b10)), some (.int (-1)), none] [.int r127, .int r125, .int (q_I A116 r118 13), .int (nI 13), .ref r118] A126
        refine q_icmp_le 233 (off := 7) (by decide +kernel) (by decide) (fun c129 => ?_) (fun c129 => ?_)
        · have h := h.1 c129
          refine q_blk (pc' := 235) (lo' := [some (.ref a0), some (.int x1), some (.int x2), none, none, some (.int (q_i b10)), some (.int (-1)), none]) (st' := [.int ((q_I A116 r118 13) + (nI 0)), .int (nI 13), .ref r118]) [.iconst 0, .iadd] (by decide +kernel) rfl ?_
          obtain ⟨z131, s130, b132, h⟩ := h
          obtain ⟨l133, h⟩ := h
          refine q_iast rfl (by decide +kernel) s130 l133 b132 ?_
          refine q_blk (pc' := 237) (lo' := [some (.ref a0), some (.int x1), some (.int x2), none, none, some (.int (q_i b10)), some (.int (-1)), none]) (st' := [.ref a0]) [.aload_n 0] (by decide +kernel) rfl ?_
          obtain ⟨s134, h⟩ := h
          obtain ⟨r135, e136, h⟩ := h
          refine q_getR fl_X11_30 rfl (by decide) (by decide +kernel) s134 e136 ?_
          refine q_blk (pc' := 243) (lo' := [some (.ref a0), some (.int x1), some (.int x2), none, none, some (.int (q_i b10)), some (.int (-1)), none]) (st' := [.int (nI 14), .ref r135, .int (nI 14), .ref r135]) [.bipush 14, .dup2] (by decide +kernel) rfl ?_
          obtain ⟨z138, s137, b139, h⟩ := h
          obtain ⟨l140, h⟩ := h
          refine q_iald rfl (by decide +kernel) s137 l140 b139 ?_
          refine q_blk (pc' := 246) (lo' := [some (.ref a0), some (.int x1), some (.int x2), none, none, some (.int (q_i b10)), some (.int (-1)), none]) (st' := [.int ((q_I (q_setI A126 r118 13 ((q_I A116 r118 13) + (nI 0))) r135 14) - (nI 1)), .int (nI 14), .ref r135]) [.iconst 1, .isub] (by decide +kernel) rfl ?_
          refine q_iast rfl (by decide +kernel) s137 l140 b139 ?_
          refine q_blk (pc' := 249) (lo' := [some (.ref a0), some (.int x1), some (.int x2), none, none, some (.int (q_i b10)), some (.int (-1)), none]) (st' := [.int (nI 0), .int x1]) [.iload_n 1, .iconst 0] (by decide +kernel) rfl ?_
          refine q_callS (Mc := M_X11_storedAt) (z := 2) (As := [.int x1, .int (nI 0)]) (st := []) mo_X11_storedAt ms_X11_storedAt ml_X11_234_X11_storedAt rfl rfl (by decide) (by decide) rfl (Nat.le_of_ble_eq_true rfl) (by decide +kernel) h (q_fI fun r142 A141 h => ?_)
          show q_Wp _ _ _ _ 0 0 252 [some (.ref a0), some (.int x1), some (.int x2), none, none, some (.int (q_i b10)), some (.int (-1)), none] [.int r142] A141
          refine q_blk (pc' := 254) (lo' := [some (.ref a0), some (.int x1), some (.int x2), none, none, some (.int (q_i b10)), some (.int (-1)), some (.int r142)]) (st' := []) [.istore 7] (by decide +kernel) rfl ?_
          exact q_wk [some (.ref a0), none, none, none, none, none, some (.int (-1)), some (.int r142)] (And.intro rfl (And.intro rfl (And.intro rfl trivial))) h
        · have h := h.2 c129
          refine q_blk (pc' := 230) (lo' := [some (.ref a0), some (.int x1), some (.int x2), none, none, some (.int (q_i b10)), some (.int (-1)), none]) (st' := [.int (nI 1), .int (q_I A116 r118 13), .int (nI 13), .ref r118]) [.iconst 1] (by decide +kernel) rfl ?_
          refine q_goto 234 (off := 4) (by decide +kernel) (by decide) ?_
          refine q_blk (pc' := 235) (lo' := [some (.ref a0), some (.int x1), some (.int x2), none, none, some (.int (q_i b10)), some (.int (-1)), none]) (st' := [.int ((q_I A116 r118 13) + (nI 1)), .int (nI 13), .ref r118]) [.iadd] (by decide +kernel) rfl ?_
          obtain ⟨z144, s143, b145, h⟩ := h
          obtain ⟨l146, h⟩ := h
          refine q_iast rfl (by decide +kernel) s143 l146 b145 ?_
          refine q_blk (pc' := 237) (lo' := [some (.ref a0), some (.int x1), some (.int x2), none, none, some (.int (q_i b10)), some (.int (-1)), none]) (st' := [.ref a0]) [.aload_n 0] (by decide +kernel) rfl ?_
          obtain ⟨s147, h⟩ := h
          obtain ⟨r148, e149, h⟩ := h
          refine q_getR fl_X11_30 rfl (by decide) (by decide +kernel) s147 e149 ?_
          refine q_blk (pc' := 243) (lo' := [some (.ref a0), some (.int x1), some (.int x2), none, none, some (.int (q_i b10)), some (.int (-1)), none]) (st' := [.int (nI 14), .ref r148, .int (nI 14), .ref r148]) [.bipush 14, .dup2] (by decide +kernel) rfl ?_
          obtain ⟨z151, s150, b152, h⟩ := h
          obtain ⟨l153, h⟩ := h
          refine q_iald rfl (by decide +kernel) s150 l153 b152 ?_
          refine q_blk (pc' := 246) (lo' := [some (.ref a0), some (.int x1), some (.int x2), none, none, some (.int (q_i b10)), some (.int (-1)), none]) (st' := [.int ((q_I (q_setI A126 r118 13 ((q_I A116 r118 13) + (nI 1))) r148 14) - (nI 1)), .int (nI 14), .ref r148]) [.iconst 1, .isub] (by decide +kernel) rfl ?_
          refine q_iast rfl (by decide +kernel) s150 l153 b152 ?_
          refine q_blk (pc' := 249) (lo' := [some (.ref a0), some (.int x1), some (.int x2), none, none, some (.int (q_i b10)), some (.int (-1)), none]) (st' := [.int (nI 0), .int x1]) [.iload_n 1, .iconst 0] (by decide +kernel) rfl ?_
          refine q_callS (Mc := M_X11_storedAt) (z := 2) (As := [.int x1, .int (nI 0)]) (st := []) mo_X11_storedAt ms_X11_storedAt ml_X11_234_X11_storedAt rfl rfl (by decide) (by decide) rfl (Nat.le_of_ble_eq_true rfl) (by decide +kernel) h (q_fI fun r155 A154 h => ?_)
          show q_Wp _ _ _ _ 0 0 252 [some (.ref a0), some (.int x1), some (.int x2), none, none, some (.int (q_i b10)), some (.int (-1)), none] [.int r155] A154
          refine q_blk (pc' := 254) (lo' := [some (.ref a0), some (.int x1), some (.int x2), none, none, some (.int (q_i b10)), some (.int (-1)), some (.int r155)]) (st' := []) [.istore 7] (by decide +kernel) rfl ?_
          exact q_wk [some (.ref a0), none, none, none, none, none, some (.int (-1)), some (.int r155)] (And.intro rfl (And.intro rfl (And.intro rfl trivial))) h
      · have h := h.1 c94
        refine q_blk (pc' := 142) (lo' := [some (.ref a0), some (.int x1), some (.int x2), none, none, some (.int (q_i b10)), some (.int (-1)), none]) (st' := [.int (nI 4), .int x1, .ref a0]) [.aload_n 0, .iload_n 1, .iconst 4] (by decide +kernel) rfl ?_
        refine q_callS (Mc := M_X11_storedAt) (z := 2) (As := [.int x1, .int (nI 4)]) (st := [.ref a0]) mo_X11_storedAt ms_X11_storedAt ml_X11_234_X11_storedAt rfl rfl (by decide) (by decide) rfl (Nat.le_of_ble_eq_true rfl) (by decide +kernel) h (q_fI fun r157 A156 h => ?_)
        show q_Wp _ _ _ _ 0 0 145 [some (.ref a0), some (.int x1), some (.int x2), none, none, some (.int (q_i b10)), some (.int (-1)), none] [.int r157, .ref a0] A156
        refine q_blk (pc' := 146) (lo' := [some (.ref a0), some (.int x1), some (.int x2), none, none, some (.int (q_i b10)), some (.int (-1)), none]) (st' := [.int (nI 0), .int r157, .ref a0]) [.iconst 0] (by decide +kernel) rfl ?_
        obtain ⟨s160, h⟩ := h
        refine q_callV (ci := 11) (Mc := M_X11_waits) (z := 2) (b := a0) (As := [.int r157, .int (nI 0)]) (st := []) mo_X11_waits mi_X11_waits ml_X11_210_X11_waits rfl rfl (by decide) rfl (by decide) (by decide) rfl (Nat.le_of_ble_eq_true rfl) (by decide +kernel) s160 h (q_fV fun A158 h => ?_)
        show q_Wp _ _ _ _ 0 0 149 [some (.ref a0), some (.int x1), some (.int x2), none, none, some (.int (q_i b10)), some (.int (-1)), none] [] A158
        refine q_blk (pc' := 150) (lo' := [some (.ref a0), some (.int x1), some (.int x2), none, none, some (.int (q_i b10)), some (.int (-1)), none]) (st' := [.ref a0]) [.aload_n 0] (by decide +kernel) rfl ?_
        obtain ⟨s161, h⟩ := h
        obtain ⟨r162, e163, h⟩ := h
        refine q_getR fl_X11_30 rfl (by decide) (by decide +kernel) s161 e163 ?_
        refine q_blk (pc' := 156) (lo' := [some (.ref a0), some (.int x1), some (.int x2), none, none, some (.int (q_i b10)), some (.int (-1)), none]) (st' := [.int (nI 12), .ref r162, .int (nI 12), .ref r162]) [.bipush 12, .dup2] (by decide +kernel) rfl ?_
        obtain ⟨z165, s164, b166, h⟩ := h
        obtain ⟨l167, h⟩ := h
        refine q_iald rfl (by decide +kernel) s164 l167 b166 ?_
        refine q_blk (pc' := 159) (lo' := [some (.ref a0), some (.int x1), some (.int x2), none, none, some (.int (q_i b10)), some (.int (-1)), none]) (st' := [.int ((q_I A158 r162 12) + (nI 1)), .int (nI 12), .ref r162]) [.iconst 1, .iadd] (by decide +kernel) rfl ?_
        refine q_iast rfl (by decide +kernel) s164 l167 b166 ?_
        refine q_goto 236 (off := 76) (by decide +kernel) (by decide) ?_
        refine q_blk (pc' := 237) (lo' := [some (.ref a0), some (.int x1), some (.int x2), none, none, some (.int (q_i b10)), some (.int (-1)), none]) (st' := [.ref a0]) [.aload_n 0] (by decide +kernel) rfl ?_
        refine q_getR fl_X11_30 rfl (by decide) (by decide +kernel) s161 e163 ?_
        refine q_blk (pc' := 243) (lo' := [some (.ref a0), some (.int x1), some (.int x2), none, none, some (.int (q_i b10)), some (.int (-1)), none]) (st' := [.int (nI 14), .ref r162, .int (nI 14), .ref r162]) [.bipush 14, .dup2] (by decide +kernel) rfl ?_
        obtain ⟨l168, h⟩ := h
        refine q_iald rfl (by decide +kernel) s164 l168 b166 ?_
        refine q_blk (pc' := 246) (lo' := [some (.ref a0), some (.int x1), some (.int x2), none, none, some (.int (q_i b10)), some (.int (-1)), none]) (st' := [.int ((q_I (q_setI A158 r162 12 ((q_I A158 r162 12) + (nI 1))) r162 14) - (nI 1)), .int (nI 14), .ref r162]) [.iconst 1, .isub] (by decide +kernel) rfl ?_
        refine q_iast rfl (by decide +kernel) s164 l168 b166 ?_
        refine q_blk (pc' := 249) (lo' := [some (.ref a0), some (.int x1), some (.int x2), none, none, some (.int (q_i b10)), some (.int (-1)), none]) (st' := [.int (nI 0), .int x1]) [.iload_n 1, .iconst 0] (by decide +kernel) rfl ?_
        refine q_callS (Mc := M_X11_storedAt) (z := 2) (As := [.int x1, .int (nI 0)]) (st := []) mo_X11_storedAt ms_X11_storedAt ml_X11_234_X11_storedAt rfl rfl (by decide) (by decide) rfl (Nat.le_of_ble_eq_true rfl) (by decide +kernel) h (q_fI fun r170 A169 h => ?_)
        show q_Wp _ _ _ _ 0 0 252 [some (.ref a0), some (.int x1), some (.int x2), none, none, some (.int (q_i b10)), some (.int (-1)), none] [.int r170] A169
        refine q_blk (pc' := 254) (lo' := [some (.ref a0), some (.int x1), some (.int x2), none, none, some (.int (q_i b10)), some (.int (-1)), some (.int r170)]) (st' := []) [.istore 7] (by decide +kernel) rfl ?_
        exact q_wk [some (.ref a0), none, none, none, none, none, some (.int (-1)), some (.int r170)] (And.intro rfl (And.intro rfl (And.intro rfl trivial))) h
  · have h := h.1 c4
    refine q_blk (pc' := 104) (lo' := [some (.ref a0), some (.int x1), some (.int x2), none, none, none, none, none]) (st' := [.int (nI 0)]) [.iconst 0] (by decide +kernel) rfl ?_
    exact q_retI rfl (by decide) (by decide) (by decide +kernel) ⟨_, rfl, h⟩
theorem f_X11_sell_254 {G : q_G} {X : String → q_H → Prop} {f : Int32 → q_H → Prop} {A : q_H} {a0 : Nat} {x6 : Int32} {x7 : Int32} (h : q_sh A a0 = (12, 0) ∧ ∃ r2 : Nat, q_R A a0 6 = some r2 ∧ ∃ z5 : Nat, q_sh A r2 = (50, z5) ∧ z5 < 2147483648 ∧ 14 < z5 ∧ q_Wc G M_X11_storedAt [.int (q_I A r2 14), .int (nI 0)] A (q_KI fun r9 A8 => ((r9 ≤ x7 → f x6 A8) ∧ (¬ r9 ≤ x7 → q_sh A8 a0 = (12, 0) ∧ ∃ r12 : Nat, q_R A8 a0 6 = some r12 ∧ ∃ z15 : Nat, q_sh A8 r12 = (50, z15) ∧ z15 < 2147483648 ∧ ∃ j17 : Nat, (x7 + (nI 10)) = nI j17 ∧ j17 < z15 ∧ ∃ j20 : Nat, x7 = nI j20 ∧ j20 < z15 ∧ q_Wp G M_X11_sell (q_KI f) X 0 0 254 [some (.ref a0), none, none, none, none, none, some (.int x6), some (.int (x7 + (nI 1)))] [] (q_setI A8 r12 j20 (q_I A8 r12 j17))))) q_nX) : q_Wp G M_X11_sell (q_KI f) X 0 0 254 [some (.ref a0), none, none, none, none, none, some (.int x6), some (.int x7)] [] A := by
  refine q_blk (pc' := 257) (lo' := [some (.ref a0), none, none, none, none, none, some (.int x6), some (.int x7)]) (st' := [.ref a0, .int x7]) [.iload 7, .aload_n 0] (by decide +kernel) rfl ?_
  obtain ⟨s1, h⟩ := h
  obtain ⟨r2, e3, h⟩ := h
  refine q_getR fl_X11_30 rfl (by decide) (by decide +kernel) s1 e3 ?_
  refine q_blk (pc' := 262) (lo' := [some (.ref a0), none, none, none, none, none, some (.int x6), some (.int x7)]) (st' := [.int (nI 14), .ref r2, .int x7]) [.bipush 14] (by decide +kernel) rfl ?_
  obtain ⟨z5, s4, b6, h⟩ := h
  obtain ⟨l7, h⟩ := h
  refine q_iald rfl (by decide +kernel) s4 l7 b6 ?_
  refine q_blk (pc' := 264) (lo' := [some (.ref a0), none, none, none, none, none, some (.int x6), some (.int x7)]) (st' := [.int (nI 0), .int (q_I A r2 14), .int x7]) [.iconst 0] (by decide +kernel) rfl ?_
  refine q_callS (Mc := M_X11_storedAt) (z := 2) (As := [.int (q_I A r2 14), .int (nI 0)]) (st := [.int x7]) mo_X11_storedAt ms_X11_storedAt ml_X11_234_X11_storedAt rfl rfl (by decide) (by decide) rfl (Nat.le_of_ble_eq_true rfl) (by decide +kernel) h (q_fI fun r9 A8 h => ?_)
  show q_Wp _ _ _ _ 0 0 267 [some (.ref a0), none, none, none, none, none, some (.int x6), some (.int x7)] [.int r9, .int x7] A8
  refine q_icmp_ge 293 (off := 26) (by decide +kernel) (by decide) (fun c10 => ?_) (fun c10 => ?_)
  · have h := h.1 c10
    refine q_blk (pc' := 295) (lo' := [some (.ref a0), none, none, none, none, none, some (.int x6), some (.int x7)]) (st' := [.int x6]) [.iload 6] (by decide +kernel) rfl ?_
    exact q_retI rfl (by decide) (by decide) (by decide +kernel) ⟨_, rfl, h⟩
  · have h := h.2 c10
    refine q_blk (pc' := 271) (lo' := [some (.ref a0), none, none, none, none, none, some (.int x6), some (.int x7)]) (st' := [.ref a0]) [.aload_n 0] (by decide +kernel) rfl ?_
    obtain ⟨s11, h⟩ := h
    obtain ⟨r12, e13, h⟩ := h
    refine q_getR fl_X11_30 rfl (by decide) (by decide +kernel) s11 e13 ?_
    refine q_blk (pc' := 277) (lo' := [some (.ref a0), none, none, none, none, none, some (.int x6), some (.int x7)]) (st' := [.ref a0, .int x7, .ref r12]) [.iload 7, .aload_n 0] (by decide +kernel) rfl ?_
    refine q_getR fl_X11_30 rfl (by decide) (by decide +kernel) s11 e13 ?_
    refine q_blk (pc' := 285) (lo' := [some (.ref a0), none, none, none, none, none, some (.int x6), some (.int x7)]) (st' := [.int (x7 + (nI 10)), .ref r12, .int x7, .ref r12]) [.iload 7, .bipush 10, .iadd] (by decide +kernel) rfl ?_
    obtain ⟨z15, s14, b16, h⟩ := h
    obtain ⟨j17, e18, h⟩ := h
    obtain ⟨l19, h⟩ := h
    refine q_iald e18 (by decide +kernel) s14 l19 b16 ?_
    obtain ⟨j20, e21, h⟩ := h
    obtain ⟨l22, h⟩ := h
    refine q_iast e21 (by decide +kernel) s14 l22 b16 ?_
    refine q_blk (pc' := 290) (lo' := [some (.ref a0), none, none, none, none, none, some (.int x6), some (.int (x7 + (nI 1)))]) (st' := []) [.iinc 7 1] (by decide +kernel) rfl ?_
    refine q_goto 254 (off := -36) (by decide +kernel) (by decide) ?_
    exact h
theorem f_X11_clean {G : q_G} {X : String → q_H → Prop} {f : Int32 → q_H → Prop} {A : q_H} {a0 : Nat} {x1 : Int32} (h : q_sh A a0 = (12, 0) ∧ q_Wc G M_X11_isStation [.ref a0, .int x1] A (q_KB fun b2 A1 => ((b2 = true → q_Wp G M_X11_clean (q_KI f) X 0 0 16 [some (.ref a0), some (.int x1), none, none, none] [.int (q_i false), .int (q_i false), .int (q_i false), .ref a0] A1) ∧ (b2 = false → q_Wp G M_X11_clean (q_KI f) X 0 0 16 [some (.ref a0), some (.int x1), none, none, none] [.int (q_i false), .int (q_i false), .int (q_i true), .ref a0] A1))) q_nX) : q_Wc G M_X11_clean [.ref a0, .int x1] A (q_KI f) X := by
  refine q_Wc.of [some (.ref a0), some (.int x1), none, none, none] mo_X11_clean.2.2.2.2.2 rfl (Nat.le_of_ble_eq_true rfl) rfl ?_
  refine q_blk (pc' := 3) (lo' := [some (.ref a0), some (.int x1), none, none, none]) (st' := [.int x1, .ref a0, .ref a0]) [.aload_n 0, .aload_n 0, .iload_n 1] (by decide +kernel) rfl ?_
  obtain ⟨s3, h⟩ := h
  refine q_callV (ci := 11) (Mc := M_X11_isStation) (z := 1) (b := a0) (As := [.int x1]) (st := [.ref a0]) mo_X11_isStation mi_X11_isStation ml_X11_264_X11_isStation rfl rfl (by decide) rfl (by decide) (by decide) rfl (Nat.le_of_ble_eq_true rfl) (by decide +kernel) s3 h (q_fB fun b2 A1 h => ?_)
  show q_Wp _ _ _ _ 0 0 6 [some (.ref a0), some (.int x1), none, none, none] [.int (q_i b2), .ref a0] A1
  refine q_ifB_ne 13 (off := 7) (by decide +kernel) (by decide) (fun c4 => ?_) (fun c4 => ?_)
  · have h := h.1 c4
    refine q_blk (pc' := 16) (lo' := [some (.ref a0), some (.int x1), none, none, none]) (st' := [.int (nI 0), .int (nI 0), .int (nI 0), .ref a0]) [.iconst 0, .iconst 0, .iconst 0] (by decide +kernel) rfl ?_
    exact h
  · have h := h.2 c4
    refine q_blk (pc' := 10) (lo' := [some (.ref a0), some (.int x1), none, none, none]) (st' := [.int (nI 1), .ref a0]) [.iconst 1] (by decide +kernel) rfl ?_
    refine q_goto 14 (off := 4) (by decide +kernel) (by decide) ?_
    refine q_blk (pc' := 16) (lo' := [some (.ref a0), some (.int x1), none, none, none]) (st' := [.int (nI 0), .int (nI 0), .int (nI 1), .ref a0]) [.iconst 0, .iconst 0] (by decide +kernel) rfl ?_
    exact h
theorem f_X11_clean_16 {G : q_G} {X : String → q_H → Prop} {f : Int32 → q_H → Prop} {A : q_H} {a0 : Nat} {x1 : Int32} {p0 : Bool} {p1 : Bool} {p2 : Bool} {u3 : Nat} (h : q_sh A u3 = (12, 0) ∧ q_Wc G M_X11_fails [.ref u3, .int (q_i p2), .int (q_i p1), .int (q_i p0)] A (q_KB fun b2 A1 => ((b2 = true → f (nI 0) A1) ∧ (b2 = false → q_sh A1 a0 = (12, 0) ∧ q_Wc G M_X11_remembers [.ref a0] A1 (q_KV fun A6 => q_Wc G M_X11_placeAt [.int x1, .int (nI 4)] A6 (q_KI fun r10 A9 => q_sh A9 a0 = (12, 0) ∧ q_Wc G M_X11_total [.ref a0, .int r10] A9 (q_KI fun r12 A11 => q_Wp G M_X11_clean (q_KI f) X 0 0 43 [some (.ref a0), none, some (.int r10), some (.int r12), some (.int (nI 0))] [] A11) q_nX) q_nX) q_nX))) q_nX) : q_Wp G M_X11_clean (q_KI f) X 0 0 16 [some (.ref a0), some (.int x1), none, none, none] [.int (q_i p0), .int (q_i p1), .int (q_i p2), .ref u3] A := by
  obtain ⟨s3, h⟩ := h
  refine q_callV (ci := 11) (Mc := M_X11_fails) (z := 3) (b := u3) (As := [.int (q_i p2), .int (q_i p1), .int (q_i p0)]) (st := []) mo_X11_fails mi_X11_fails ml_X11_260_X11_fails rfl rfl (by decide) rfl (by decide) (by decide) rfl (Nat.le_of_ble_eq_true rfl) (by decide +kernel) s3 h (q_fB fun b2 A1 h => ?_)
  show q_Wp _ _ _ _ 0 0 19 [some (.ref a0), some (.int x1), none, none, none] [.int (q_i b2)] A1
  refine q_ifB_eq 24 (off := 5) (by decide +kernel) (by decide) (fun c4 => ?_) (fun c4 => ?_)
  · have h := h.2 c4
    refine q_blk (pc' := 25) (lo' := [some (.ref a0), some (.int x1), none, none, none]) (st' := [.ref a0]) [.aload_n 0] (by decide +kernel) rfl ?_
    obtain ⟨s8, h⟩ := h
    refine q_callV (ci := 11) (Mc := M_X11_remembers) (z := 0) (b := a0) (As := []) (st := []) mo_X11_remembers mi_X11_remembers ml_X11_289_X11_remembers rfl rfl (by decide) rfl (by decide) (by decide) rfl (Nat.le_of_ble_eq_true rfl) (by decide +kernel) s8 h (q_fV fun A6 h => ?_)
    show q_Wp _ _ _ _ 0 0 28 [some (.ref a0), some (.int x1), none, none, none] [] A6
    refine q_blk (pc' := 30) (lo' := [some (.ref a0), some (.int x1), none, none, none]) (st' := [.int (nI 4), .int x1]) [.iload_n 1, .iconst 4] (by decide +kernel) rfl ?_
    refine q_callS (Mc := M_X11_placeAt) (z := 2) (As := [.int x1, .int (nI 4)]) (st := []) mo_X11_placeAt ms_X11_placeAt ml_X11_141_X11_placeAt rfl rfl (by decide) (by decide) rfl (Nat.le_of_ble_eq_true rfl) (by decide +kernel) h (q_fI fun r10 A9 h => ?_)
    show q_Wp _ _ _ _ 0 0 33 [some (.ref a0), some (.int x1), none, none, none] [.int r10] A9
    refine q_blk (pc' := 36) (lo' := [some (.ref a0), some (.int x1), some (.int r10), none, none]) (st' := [.int r10, .ref a0]) [.istore_n 2, .aload_n 0, .iload_n 2] (by decide +kernel) rfl ?_
    obtain ⟨s13, h⟩ := h
    refine q_callV (ci := 11) (Mc := M_X11_total) (z := 1) (b := a0) (As := [.int r10]) (st := []) mo_X11_total mi_X11_total ml_X11_189_X11_total rfl rfl (by decide) rfl (by decide) (by decide) rfl (Nat.le_of_ble_eq_true rfl) (by decide +kernel) s13 h (q_fI fun r12 A11 h => ?_)
    show q_Wp _ _ _ _ 0 0 39 [some (.ref a0), some (.int x1), some (.int r10), none, none] [.int r12] A11
    refine q_blk (pc' := 43) (lo' := [some (.ref a0), some (.int x1), some (.int r10), some (.int r12), some (.int (nI 0))]) (st' := []) [.istore_n 3, .iconst 0, .istore 4] (by decide +kernel) rfl ?_
    exact q_wk [some (.ref a0), none, some (.int r10), some (.int r12), some (.int (nI 0))] (And.intro rfl (And.intro rfl (And.intro rfl (And.intro rfl trivial)))) h
  · have h := h.1 c4
    refine q_blk (pc' := 23) (lo' := [some (.ref a0), some (.int x1), none, none, none]) (st' := [.int (nI 0)]) [.iconst 0] (by decide +kernel) rfl ?_
    exact q_retI rfl (by decide) (by decide) (by decide +kernel) ⟨_, rfl, h⟩
theorem f_X11_clean_43 {G : q_G} {X : String → q_H → Prop} {f : Int32 → q_H → Prop} {A : q_H} {a0 : Nat} {x2 : Int32} {x3 : Int32} {x4 : Int32} (h : (((nI 6) ≤ x4 → q_sh A a0 = (12, 0) ∧ ∃ r3 : Nat, q_R A a0 6 = some r3 ∧ ∃ z6 : Nat, q_sh A r3 = (50, z6) ∧ z6 < 2147483648 ∧ 18 < z6 ∧ f x3 (q_setI A r3 18 ((q_I A r3 18) + x3))) ∧ (¬ (nI 6) ≤ x4 → q_sh A a0 = (12, 0) ∧ ∃ r10 : Nat, q_R A a0 6 = some r10 ∧ ∃ z13 : Nat, q_sh A r10 = (50, z13) ∧ z13 < 2147483648 ∧ ∃ j15 : Nat, (x2 + x4) = nI j15 ∧ j15 < z13 ∧ q_Wp G M_X11_clean (q_KI f) X 0 0 43 [some (.ref a0), none, some (.int x2), some (.int x3), some (.int (x4 + (nI 1)))] [] (q_setI A r10 j15 (nI 0))))) : q_Wp G M_X11_clean (q_KI f) X 0 0 43 [some (.ref a0), none, some (.int x2), some (.int x3), some (.int x4)] [] A := by
  refine q_blk (pc' := 47) (lo' := [some (.ref a0), none, some (.int x2), some (.int x3), some (.int x4)]) (st' := [.int (nI 6), .int x4]) [.iload 4, .bipush 6] (by decide +kernel) rfl ?_
  refine q_icmp_ge 66 (off := 19) (by decide +kernel) (by decide) (fun c1 => ?_) (fun c1 => ?_)
  · have h := h.1 c1
    refine q_blk (pc' := 67) (lo' := [some (.ref a0), none, some (.int x2), some (.int x3), some (.int x4)]) (st' := [.ref a0]) [.aload_n 0] (by decide +kernel) rfl ?_
    obtain ⟨s2, h⟩ := h
    obtain ⟨r3, e4, h⟩ := h
    refine q_getR fl_X11_30 rfl (by decide) (by decide +kernel) s2 e4 ?_
    refine q_blk (pc' := 73) (lo' := [some (.ref a0), none, some (.int x2), some (.int x3), some (.int x4)]) (st' := [.int (nI 18), .ref r3, .int (nI 18), .ref r3]) [.bipush 18, .dup2] (by decide +kernel) rfl ?_
    obtain ⟨z6, s5, b7, h⟩ := h
    obtain ⟨l8, h⟩ := h
    refine q_iald rfl (by decide +kernel) s5 l8 b7 ?_
    refine q_blk (pc' := 76) (lo' := [some (.ref a0), none, some (.int x2), some (.int x3), some (.int x4)]) (st' := [.int ((q_I A r3 18) + x3), .int (nI 18), .ref r3]) [.iload_n 3, .iadd] (by decide +kernel) rfl ?_
    refine q_iast rfl (by decide +kernel) s5 l8 b7 ?_
    refine q_blk (pc' := 78) (lo' := [some (.ref a0), none, some (.int x2), some (.int x3), some (.int x4)]) (st' := [.int x3]) [.iload_n 3] (by decide +kernel) rfl ?_
    exact q_retI rfl (by decide) (by decide) (by decide +kernel) ⟨_, rfl, h⟩
  · have h := h.2 c1
    refine q_blk (pc' := 51) (lo' := [some (.ref a0), none, some (.int x2), some (.int x3), some (.int x4)]) (st' := [.ref a0]) [.aload_n 0] (by decide +kernel) rfl ?_
    obtain ⟨s9, h⟩ := h
    obtain ⟨r10, e11, h⟩ := h
    refine q_getR fl_X11_30 rfl (by decide) (by decide +kernel) s9 e11 ?_
    refine q_blk (pc' := 59) (lo' := [some (.ref a0), none, some (.int x2), some (.int x3), some (.int x4)]) (st' := [.int (nI 0), .int (x2 + x4), .ref r10]) [.iload_n 2, .iload 4, .iadd, .iconst 0] (by decide +kernel) rfl ?_
    obtain ⟨z13, s12, b14, h⟩ := h
    obtain ⟨j15, e16, h⟩ := h
    obtain ⟨l17, h⟩ := h
    refine q_iast e16 (by decide +kernel) s12 l17 b14 ?_
    refine q_blk (pc' := 63) (lo' := [some (.ref a0), none, some (.int x2), some (.int x3), some (.int (x4 + (nI 1)))]) (st' := []) [.iinc 4 1] (by decide +kernel) rfl ?_
    refine q_goto 43 (off := -20) (by decide +kernel) (by decide) ?_
    exact h
theorem f_X11_goesAside {G : q_G} {X : String → q_H → Prop} {f : q_H → Prop} {A : q_H} {a0 : Nat} (h : q_Wp G M_X11_goesAside (q_KV f) X 0 0 2 [some (.ref a0), some (.int (nI 0))] [] A) : q_Wc G M_X11_goesAside [.ref a0] A (q_KV f) X := by
  refine q_Wc.of [some (.ref a0), none] mo_X11_goesAside.2.2.2.2.2 rfl (Nat.le_of_ble_eq_true rfl) rfl ?_
  refine q_blk (pc' := 2) (lo' := [some (.ref a0), some (.int (nI 0))]) (st' := []) [.iconst 0, .istore_n 1] (by decide +kernel) rfl ?_
  exact h
theorem f_X11_goesAside_2 {G : q_G} {X : String → q_H → Prop} {f : q_H → Prop} {A : q_H} {a0 : Nat} {x1 : Int32} (h : (((nI 788) ≤ x1 → f A) ∧ (¬ (nI 788) ≤ x1 → q_sh A a0 = (12, 0) ∧ ∃ r3 : Nat, q_R A a0 8 = some r3 ∧ ∃ r5 : Nat, q_R A a0 6 = some r5 ∧ ∃ z8 : Nat, q_sh A r5 = (50, z8) ∧ z8 < 2147483648 ∧ ∃ j10 : Nat, x1 = nI j10 ∧ j10 < z8 ∧ ∃ z14 : Nat, q_sh A r3 = (50, z14) ∧ z14 < 2147483648 ∧ j10 < z14 ∧ q_Wp G M_X11_goesAside (q_KV f) X 0 0 2 [some (.ref a0), some (.int (x1 + (nI 1)))] [] (q_setI A r3 j10 (q_I A r5 j10))))) : q_Wp G M_X11_goesAside (q_KV f) X 0 0 2 [some (.ref a0), some (.int x1)] [] A := by
  refine q_blk (pc' := 6) (lo' := [some (.ref a0), some (.int x1)]) (st' := [.int (nI 788), .int x1]) [.iload_n 1, .sipush 788] (by decide +kernel) rfl ?_
  refine q_icmp_ge 27 (off := 21) (by decide +kernel) (by decide) (fun c1 => ?_) (fun c1 => ?_)
  · have h := h.1 c1
    exact q_ret0 rfl (by decide) (by decide) (by decide +kernel) ⟨rfl, h⟩
  · have h := h.2 c1
    refine q_blk (pc' := 10) (lo' := [some (.ref a0), some (.int x1)]) (st' := [.ref a0]) [.aload_n 0] (by decide +kernel) rfl ?_
    obtain ⟨s2, h⟩ := h
    obtain ⟨r3, e4, h⟩ := h
    refine q_getR fl_X11_36 rfl (by decide) (by decide +kernel) s2 e4 ?_
    refine q_blk (pc' := 15) (lo' := [some (.ref a0), some (.int x1)]) (st' := [.ref a0, .int x1, .ref r3]) [.iload_n 1, .aload_n 0] (by decide +kernel) rfl ?_
    obtain ⟨r5, e6, h⟩ := h
    refine q_getR fl_X11_30 rfl (by decide) (by decide +kernel) s2 e6 ?_
    refine q_blk (pc' := 19) (lo' := [some (.ref a0), some (.int x1)]) (st' := [.int x1, .ref r5, .int x1, .ref r3]) [.iload_n 1] (by decide +kernel) rfl ?_
    obtain ⟨z8, s7, b9, h⟩ := h
    obtain ⟨j10, e11, h⟩ := h
    obtain ⟨l12, h⟩ := h
    refine q_iald e11 (by decide +kernel) s7 l12 b9 ?_
    obtain ⟨z14, s13, b15, h⟩ := h
    obtain ⟨l16, h⟩ := h
    refine q_iast e11 (by decide +kernel) s13 l16 b15 ?_
    refine q_blk (pc' := 24) (lo' := [some (.ref a0), some (.int (x1 + (nI 1)))]) (st' := []) [.iinc 1 1] (by decide +kernel) rfl ?_
    refine q_goto 2 (off := -22) (by decide +kernel) (by decide) ?_
    exact h
theorem f_X11_comesBack {G : q_G} {X : String → q_H → Prop} {f : q_H → Prop} {A : q_H} {a0 : Nat} (h : q_Wp G M_X11_comesBack (q_KV f) X 0 0 2 [some (.ref a0), some (.int (nI 0))] [] A) : q_Wc G M_X11_comesBack [.ref a0] A (q_KV f) X := by
  refine q_Wc.of [some (.ref a0), none] mo_X11_comesBack.2.2.2.2.2 rfl (Nat.le_of_ble_eq_true rfl) rfl ?_
  refine q_blk (pc' := 2) (lo' := [some (.ref a0), some (.int (nI 0))]) (st' := []) [.iconst 0, .istore_n 1] (by decide +kernel) rfl ?_
  exact h
theorem f_X11_comesBack_2 {G : q_G} {X : String → q_H → Prop} {f : q_H → Prop} {A : q_H} {a0 : Nat} {x1 : Int32} (h : (((nI 788) ≤ x1 → f A) ∧ (¬ (nI 788) ≤ x1 → q_sh A a0 = (12, 0) ∧ ∃ r3 : Nat, q_R A a0 6 = some r3 ∧ ∃ r5 : Nat, q_R A a0 8 = some r5 ∧ ∃ z8 : Nat, q_sh A r5 = (50, z8) ∧ z8 < 2147483648 ∧ ∃ j10 : Nat, x1 = nI j10 ∧ j10 < z8 ∧ ∃ z14 : Nat, q_sh A r3 = (50, z14) ∧ z14 < 2147483648 ∧ j10 < z14 ∧ q_Wp G M_X11_comesBack (q_KV f) X 0 0 2 [some (.ref a0), some (.int (x1 + (nI 1)))] [] (q_setI A r3 j10 (q_I A r5 j10))))) : q_Wp G M_X11_comesBack (q_KV f) X 0 0 2 [some (.ref a0), some (.int x1)] [] A := by
  refine q_blk (pc' := 6) (lo' := [some (.ref a0), some (.int x1)]) (st' := [.int (nI 788), .int x1]) [.iload_n 1, .sipush 788] (by decide +kernel) rfl ?_
  refine q_icmp_ge 27 (off := 21) (by decide +kernel) (by decide) (fun c1 => ?_) (fun c1 => ?_)
  · have h := h.1 c1
    exact q_ret0 rfl (by decide) (by decide) (by decide +kernel) ⟨rfl, h⟩
  · have h := h.2 c1
    refine q_blk (pc' := 10) (lo' := [some (.ref a0), some (.int x1)]) (st' := [.ref a0]) [.aload_n 0] (by decide +kernel) rfl ?_
    obtain ⟨s2, h⟩ := h
    obtain ⟨r3, e4, h⟩ := h
    refine q_getR fl_X11_30 rfl (by decide) (by decide +kernel) s2 e4 ?_
    refine q_blk (pc' := 15) (lo' := [some (.ref a0), some (.int x1)]) (st' := [.ref a0, .int x1, .ref r3]) [.iload_n 1, .aload_n 0] (by decide +kernel) rfl ?_
    obtain ⟨r5, e6, h⟩ := h
    refine q_getR fl_X11_36 rfl (by decide) (by decide +kernel) s2 e6 ?_
    refine q_blk (pc' := 19) (lo' := [some (.ref a0), some (.int x1)]) (st' := [.int x1, .ref r5, .int x1, .ref r3]) [.iload_n 1] (by decide +kernel) rfl ?_
    obtain ⟨z8, s7, b9, h⟩ := h
    obtain ⟨j10, e11, h⟩ := h
    obtain ⟨l12, h⟩ := h
    refine q_iald e11 (by decide +kernel) s7 l12 b9 ?_
    obtain ⟨z14, s13, b15, h⟩ := h
    obtain ⟨l16, h⟩ := h
    refine q_iast e11 (by decide +kernel) s13 l16 b15 ?_
    refine q_blk (pc' := 24) (lo' := [some (.ref a0), some (.int (x1 + (nI 1)))]) (st' := []) [.iinc 1 1] (by decide +kernel) rfl ?_
    refine q_goto 2 (off := -22) (by decide +kernel) (by decide) ?_
    exact h
theorem f_X11_bestBuyer {G : q_G} {X : String → q_H → Prop} {f : Int32 → q_H → Prop} {A : q_H} {a0 : Nat} {x1 : Int32} (h : q_sh A a0 = (12, 0) ∧ q_Wc G M_X11_isBale [.ref a0, .int x1] A (q_KB fun b2 A1 => ((b2 = true → q_Wp G M_X11_bestBuyer (q_KI f) X 0 0 16 [some (.ref a0), some (.int x1), none, none] [.int (q_i false), .int (q_i false), .int (q_i false), .ref a0] A1) ∧ (b2 = false → q_Wp G M_X11_bestBuyer (q_KI f) X 0 0 16 [some (.ref a0), some (.int x1), none, none] [.int (q_i false), .int (q_i false), .int (q_i true), .ref a0] A1))) q_nX) : q_Wc G M_X11_bestBuyer [.ref a0, .int x1] A (q_KI f) X := by
  refine q_Wc.of [some (.ref a0), some (.int x1), none, none] mo_X11_bestBuyer.2.2.2.2.2 rfl (Nat.le_of_ble_eq_true rfl) rfl ?_
  refine q_blk (pc' := 3) (lo' := [some (.ref a0), some (.int x1), none, none]) (st' := [.int x1, .ref a0, .ref a0]) [.aload_n 0, .aload_n 0, .iload_n 1] (by decide +kernel) rfl ?_
  obtain ⟨s3, h⟩ := h
  refine q_callV (ci := 11) (Mc := M_X11_isBale) (z := 1) (b := a0) (As := [.int x1]) (st := [.ref a0]) mo_X11_isBale mi_X11_isBale ml_X11_277_X11_isBale rfl rfl (by decide) rfl (by decide) (by decide) rfl (Nat.le_of_ble_eq_true rfl) (by decide +kernel) s3 h (q_fB fun b2 A1 h => ?_)
  show q_Wp _ _ _ _ 0 0 6 [some (.ref a0), some (.int x1), none, none] [.int (q_i b2), .ref a0] A1
  refine q_ifB_ne 13 (off := 7) (by decide +kernel) (by decide) (fun c4 => ?_) (fun c4 => ?_)
  · have h := h.1 c4
    refine q_blk (pc' := 16) (lo' := [some (.ref a0), some (.int x1), none, none]) (st' := [.int (nI 0), .int (nI 0), .int (nI 0), .ref a0]) [.iconst 0, .iconst 0, .iconst 0] (by decide +kernel) rfl ?_
    exact h
  · have h := h.2 c4
    refine q_blk (pc' := 10) (lo' := [some (.ref a0), some (.int x1), none, none]) (st' := [.int (nI 1), .ref a0]) [.iconst 1] (by decide +kernel) rfl ?_
    refine q_goto 14 (off := 4) (by decide +kernel) (by decide) ?_
    refine q_blk (pc' := 16) (lo' := [some (.ref a0), some (.int x1), none, none]) (st' := [.int (nI 0), .int (nI 0), .int (nI 1), .ref a0]) [.iconst 0, .iconst 0] (by decide +kernel) rfl ?_
    exact h
theorem f_X11_bestBuyer_16 {G : q_G} {X : String → q_H → Prop} {f : Int32 → q_H → Prop} {A : q_H} {a0 : Nat} {x1 : Int32} {p0 : Bool} {p1 : Bool} {p2 : Bool} {u3 : Nat} (h : q_sh A u3 = (12, 0) ∧ q_Wc G M_X11_fails [.ref u3, .int (q_i p2), .int (q_i p1), .int (q_i p0)] A (q_KB fun b2 A1 => ((b2 = true → f (nI 0) A1) ∧ (b2 = false → q_Wp G M_X11_bestBuyer (q_KI f) X 0 0 28 [some (.ref a0), some (.int x1), some (.int (-1)), some (.int (nI 0))] [] A1))) q_nX) : q_Wp G M_X11_bestBuyer (q_KI f) X 0 0 16 [some (.ref a0), some (.int x1), none, none] [.int (q_i p0), .int (q_i p1), .int (q_i p2), .ref u3] A := by
  obtain ⟨s3, h⟩ := h
  refine q_callV (ci := 11) (Mc := M_X11_fails) (z := 3) (b := u3) (As := [.int (q_i p2), .int (q_i p1), .int (q_i p0)]) (st := []) mo_X11_fails mi_X11_fails ml_X11_260_X11_fails rfl rfl (by decide) rfl (by decide) (by decide) rfl (Nat.le_of_ble_eq_true rfl) (by decide +kernel) s3 h (q_fB fun b2 A1 h => ?_)
  show q_Wp _ _ _ _ 0 0 19 [some (.ref a0), some (.int x1), none, none] [.int (q_i b2)] A1
  refine q_ifB_eq 24 (off := 5) (by decide +kernel) (by decide) (fun c4 => ?_) (fun c4 => ?_)
  · have h := h.2 c4
    refine q_blk (pc' := 28) (lo' := [some (.ref a0), some (.int x1), some (.int (-1)), some (.int (nI 0))]) (st' := []) [.iconst (-1), .istore_n 2, .iconst 0, .istore_n 3] (by decide +kernel) rfl ?_
    exact h
  · have h := h.1 c4
    refine q_blk (pc' := 23) (lo' := [some (.ref a0), some (.int x1), none, none]) (st' := [.int (nI 0)]) [.iconst 0] (by decide +kernel) rfl ?_
    exact q_retI rfl (by decide) (by decide) (by decide +kernel) ⟨_, rfl, h⟩
theorem f_X11_bestBuyer_28 {G : q_G} {X : String → q_H → Prop} {f : Int32 → q_H → Prop} {A : q_H} {a0 : Nat} {x1 : Int32} {x2 : Int32} {x3 : Int32} (h : q_sh A a0 = (12, 0) ∧ ∃ r2 : Nat, q_R A a0 2 = some r2 ∧ ∃ z5 : Nat, q_sh A r2 = (50, z5) ∧ z5 < 2147483648 ∧ 2 < z5 ∧ (((q_I A r2 2) ≤ x3 → f x2 A) ∧ (¬ (q_I A r2 2) ≤ x3 → q_Wc G M_X11_takesBale [.ref a0, .int x3, .int x1] A (q_KB fun b10 A9 => ((b10 = true → q_sh A9 a0 = (12, 0) ∧ q_Wc G M_X11_sendsBack [.ref a0, .int x3, .int x1] A9 (q_KB fun b14 A13 => ((b14 = true → q_Wp G M_X11_bestBuyer (q_KI f) X 0 0 28 [some (.ref a0), some (.int x1), some (.int x2), some (.int (x3 + (nI 1)))] [] A13) ∧ (b14 = false → ((x2 = (-1) → q_Wp G M_X11_bestBuyer (q_KI f) X 0 0 28 [some (.ref a0), some (.int x1), some (.int x3), some (.int (x3 + (nI 1)))] [] A13) ∧ (¬ x2 = (-1) → q_sh A13 a0 = (12, 0) ∧ q_Wc G M_X11_pays [.ref a0, .int x3, .int x1] A13 (q_KI fun r20 A19 => q_sh A19 a0 = (12, 0) ∧ q_Wc G M_X11_pays [.ref a0, .int x2, .int x1] A19 (q_KI fun r23 A22 => ((r20 ≤ r23 → q_Wp G M_X11_bestBuyer (q_KI f) X 0 0 28 [some (.ref a0), some (.int x1), some (.int x2), some (.int (x3 + (nI 1)))] [] A22) ∧ (¬ r20 ≤ r23 → q_Wp G M_X11_bestBuyer (q_KI f) X 0 0 28 [some (.ref a0), some (.int x1), some (.int x3), some (.int (x3 + (nI 1)))] [] A22))) q_nX) q_nX))))) q_nX) ∧ (b10 = false → q_Wp G M_X11_bestBuyer (q_KI f) X 0 0 28 [some (.ref a0), some (.int x1), some (.int x2), some (.int (x3 + (nI 1)))] [] A9))) q_nX))) : q_Wp G M_X11_bestBuyer (q_KI f) X 0 0 28 [some (.ref a0), some (.int x1), some (.int x2), some (.int x3)] [] A := by
  refine q_blk (pc' := 30) (lo' := [some (.ref a0), some (.int x1), some (.int x2), some (.int x3)]) (st' := [.ref a0, .int x3]) [.iload_n 3, .aload_n 0] (by decide +kernel) rfl ?_
  obtain ⟨s1, h⟩ := h
  obtain ⟨r2, e3, h⟩ := h
  refine q_getR fl_X11_17 rfl (by decide) (by decide +kernel) s1 e3 ?_
  refine q_blk (pc' := 34) (lo' := [some (.ref a0), some (.int x1), some (.int x2), some (.int x3)]) (st' := [.int (nI 2), .ref r2, .int x3]) [.iconst 2] (by decide +kernel) rfl ?_
  obtain ⟨z5, s4, b6, h⟩ := h
  obtain ⟨l7, h⟩ := h
  refine q_iald rfl (by decide +kernel) s4 l7 b6 ?_
  refine q_icmp_ge 84 (off := 49) (by decide +kernel) (by decide) (fun c8 => ?_) (fun c8 => ?_)
  · have h := h.1 c8
    refine q_blk (pc' := 85) (lo' := [some (.ref a0), some (.int x1), some (.int x2), some (.int x3)]) (st' := [.int x2]) [.iload_n 2] (by decide +kernel) rfl ?_
    exact q_retI rfl (by decide) (by decide) (by decide +kernel) ⟨_, rfl, h⟩
  · have h := h.2 c8
    refine q_blk (pc' := 41) (lo' := [some (.ref a0), some (.int x1), some (.int x2), some (.int x3)]) (st' := [.int x1, .int x3, .ref a0]) [.aload_n 0, .iload_n 3, .iload_n 1] (by decide +kernel) rfl ?_
    refine q_callV (ci := 11) (Mc := M_X11_takesBale) (z := 2) (b := a0) (As := [.int x3, .int x1]) (st := []) mo_X11_takesBale mi_X11_takesBale ml_X11_308_X11_takesBale rfl rfl (by decide) rfl (by decide) (by decide) rfl (Nat.le_of_ble_eq_true rfl) (by decide +kernel) s1 h (q_fB fun b10 A9 h => ?_)
    show q_Wp _ _ _ _ 0 0 44 [some (.ref a0), some (.int x1), some (.int x2), some (.int x3)] [.int (q_i b10)] A9
    refine q_ifB_eq 78 (off := 34) (by decide +kernel) (by decide) (fun c11 => ?_) (fun c11 => ?_)
    · have h := h.2 c11
      refine q_blk (pc' := 81) (lo' := [some (.ref a0), some (.int x1), some (.int x2), some (.int (x3 + (nI 1)))]) (st' := []) [.iinc 3 1] (by decide +kernel) rfl ?_
      refine q_goto 28 (off := -53) (by decide +kernel) (by decide) ?_
      exact h
    · have h := h.1 c11
      refine q_blk (pc' := 50) (lo' := [some (.ref a0), some (.int x1), some (.int x2), some (.int x3)]) (st' := [.int x1, .int x3, .ref a0]) [.aload_n 0, .iload_n 3, .iload_n 1] (by decide +kernel) rfl ?_
      obtain ⟨s15, h⟩ := h
      refine q_callV (ci := 11) (Mc := M_X11_sendsBack) (z := 2) (b := a0) (As := [.int x3, .int x1]) (st := []) mo_X11_sendsBack mi_X11_sendsBack ml_X11_312_X11_sendsBack rfl rfl (by decide) rfl (by decide) (by decide) rfl (Nat.le_of_ble_eq_true rfl) (by decide +kernel) s15 h (q_fB fun b14 A13 h => ?_)
      show q_Wp _ _ _ _ 0 0 53 [some (.ref a0), some (.int x1), some (.int x2), some (.int x3)] [.int (q_i b14)] A13
      refine q_ifB_ne 78 (off := 25) (by decide +kernel) (by decide) (fun c16 => ?_) (fun c16 => ?_)
      · have h := h.1 c16
        refine q_blk (pc' := 81) (lo' := [some (.ref a0), some (.int x1), some (.int x2), some (.int (x3 + (nI 1)))]) (st' := []) [.iinc 3 1] (by decide +kernel) rfl ?_
        refine q_goto 28 (off := -53) (by decide +kernel) (by decide) ?_
        exact h
      · have h := h.2 c16
        refine q_blk (pc' := 58) (lo' := [some (.ref a0), some (.int x1), some (.int x2), some (.int x3)]) (st' := [.int (-1), .int x2]) [.iload_n 2, .iconst (-1)] (by decide +kernel) rfl ?_
        refine q_icmp_eq 76 (off := 18) (by decide +kernel) (by decide) (fun c18 => ?_) (fun c18 => ?_)
        · have h := h.1 c18
          refine q_blk (pc' := 81) (lo' := [some (.ref a0), some (.int x1), some (.int x3), some (.int (x3 + (nI 1)))]) (st' := []) [.iload_n 3, .istore_n 2, .iinc 3 1] (by decide +kernel) rfl ?_
          refine q_goto 28 (off := -53) (by decide +kernel) (by decide) ?_
          exact h
        · have h := h.2 c18
          refine q_blk (pc' := 64) (lo' := [some (.ref a0), some (.int x1), some (.int x2), some (.int x3)]) (st' := [.int x1, .int x3, .ref a0]) [.aload_n 0, .iload_n 3, .iload_n 1] (by decide +kernel) rfl ?_
          obtain ⟨s21, h⟩ := h
          refine q_callV (ci := 11) (Mc := M_X11_pays) (z := 2) (b := a0) (As := [.int x3, .int x1]) (st := []) mo_X11_pays mi_X11_pays ml_X11_315_X11_pays rfl rfl (by decide) rfl (by decide) (by decide) rfl (Nat.le_of_ble_eq_true rfl) (by decide +kernel) s21 h (q_fI fun r20 A19 h => ?_)
          show q_Wp _ _ _ _ 0 0 67 [some (.ref a0), some (.int x1), some (.int x2), some (.int x3)] [.int r20] A19
          refine q_blk (pc' := 70) (lo' := [some (.ref a0), some (.int x1), some (.int x2), some (.int x3)]) (st' := [.int x1, .int x2, .ref a0, .int r20]) [.aload_n 0, .iload_n 2, .iload_n 1] (by decide +kernel) rfl ?_
          obtain ⟨s24, h⟩ := h
          refine q_callV (ci := 11) (Mc := M_X11_pays) (z := 2) (b := a0) (As := [.int x2, .int x1]) (st := [.int r20]) mo_X11_pays mi_X11_pays ml_X11_315_X11_pays rfl rfl (by decide) rfl (by decide) (by decide) rfl (Nat.le_of_ble_eq_true rfl) (by decide +kernel) s24 h (q_fI fun r23 A22 h => ?_)
          show q_Wp _ _ _ _ 0 0 73 [some (.ref a0), some (.int x1), some (.int x2), some (.int x3)] [.int r23, .int r20] A22
          refine q_icmp_le 78 (off := 5) (by decide +kernel) (by decide) (fun c25 => ?_) (fun c25 => ?_)
          · have h := h.1 c25
            refine q_blk (pc' := 81) (lo' := [some (.ref a0), some (.int x1), some (.int x2), some (.int (x3 + (nI 1)))]) (st' := []) [.iinc 3 1] (by decide +kernel) rfl ?_
            refine q_goto 28 (off := -53) (by decide +kernel) (by decide) ?_
            exact h
          · have h := h.2 c25
            refine q_blk (pc' := 81) (lo' := [some (.ref a0), some (.int x1), some (.int x3), some (.int (x3 + (nI 1)))]) (st' := []) [.iload_n 3, .istore_n 2, .iinc 3 1] (by decide +kernel) rfl ?_
            refine q_goto 28 (off := -53) (by decide +kernel) (by decide) ?_
            exact h
theorem f_X11_outlook {G : q_G} {X : String → q_H → Prop} {f : Int32 → q_H → Prop} {A : q_H} {a0 : Nat} {x1 : Int32} {x2 : Int32} (h : q_Wc G M_X11_isIn [.long (x1.toInt64), .long (lN 1), .long (lN 200)] A (q_KB fun b2 A1 => ((b2 = true → q_Wc G M_X11_isIn [.long (x2.toInt64), .long (lN 0), .long (lN 4)] A1 (q_KB fun b6 A5 => ((b6 = true → q_Wp G M_X11_outlook (q_KI f) X 0 0 32 [some (.ref a0), some (.int x1), some (.int x2), none, none] [.int (q_i false), .int (q_i false), .int (q_i false), .ref a0] A5) ∧ (b6 = false → q_Wp G M_X11_outlook (q_KI f) X 0 0 32 [some (.ref a0), some (.int x1), some (.int x2), none, none] [.int (q_i false), .int (q_i false), .int (q_i true), .ref a0] A5))) q_nX) ∧ (b2 = false → q_Wp G M_X11_outlook (q_KI f) X 0 0 32 [some (.ref a0), some (.int x1), some (.int x2), none, none] [.int (q_i false), .int (q_i false), .int (q_i true), .ref a0] A1))) q_nX) : q_Wc G M_X11_outlook [.ref a0, .int x1, .int x2] A (q_KI f) X := by
  refine q_Wc.of [some (.ref a0), some (.int x1), some (.int x2), none, none] mo_X11_outlook.2.2.2.2.2 rfl (Nat.le_of_ble_eq_true rfl) rfl ?_
  refine q_blk (pc' := 4) (lo' := [some (.ref a0), some (.int x1), some (.int x2), none, none]) (st' := [.long (lN 1), .long (x1.toInt64), .ref a0]) [.aload_n 0, .iload_n 1, .i2l, .lconst 1] (by decide +kernel) rfl ?_
  refine q_ldc2 (v := 200) c2_X11_297 (by decide +kernel) ?_
  refine q_callS (Mc := M_X11_isIn) (z := 3) (As := [.long (x1.toInt64), .long (lN 1), .long (lN 200)]) (st := [.ref a0]) mo_X11_isIn ms_X11_isIn ml_X11_71_X11_isIn rfl rfl (by decide) (by decide) rfl (Nat.le_of_ble_eq_true rfl) (by decide +kernel) h (q_fB fun b2 A1 h => ?_)
  show q_Wp _ _ _ _ 0 0 10 [some (.ref a0), some (.int x1), some (.int x2), none, none] [.int (q_i b2), .ref a0] A1
  refine q_ifB_eq 25 (off := 15) (by decide +kernel) (by decide) (fun c3 => ?_) (fun c3 => ?_)
  · have h := h.2 c3
    refine q_blk (pc' := 26) (lo' := [some (.ref a0), some (.int x1), some (.int x2), none, none]) (st' := [.int (nI 1), .ref a0]) [.iconst 1] (by decide +kernel) rfl ?_
    refine q_goto 30 (off := 4) (by decide +kernel) (by decide) ?_
    refine q_blk (pc' := 32) (lo' := [some (.ref a0), some (.int x1), some (.int x2), none, none]) (st' := [.int (nI 0), .int (nI 0), .int (nI 1), .ref a0]) [.iconst 0, .iconst 0] (by decide +kernel) rfl ?_
    exact h
  · have h := h.1 c3
    refine q_blk (pc' := 16) (lo' := [some (.ref a0), some (.int x1), some (.int x2), none, none]) (st' := [.long (lN 0), .long (x2.toInt64), .ref a0]) [.iload_n 2, .i2l, .lconst 0] (by decide +kernel) rfl ?_
    refine q_ldc2 (v := 4) c2_X11_318 (by decide +kernel) ?_
    --
    refine q_callS (Mc := M_X11_isIn) (z := 3) (As := [.long (x2.toInt64), .long (lN 0), .long (lN 4)]) (st := [.ref a0]) mo_X11_isIn ms_X11_isIn ml_X11_71_X11_isIn rfl rfl (by decide) (by decide) rfl (Nat.le_of_ble_eq_true rfl) (by decide +kernel) h (q_fB fun b6 A5 h => ?_)
    show q_Wp _ _ _ _ 0 0 22 [some (.ref a0), some (.int x1), some (.int x2), none, none] [.int (q_i b6), .ref a0] A5
    refine q_ifB_ne 29 (off := 7) (by decide +kernel) (by decide) (fun c7 => ?_) (fun c7 => ?_)
    · have h := h.1 c7
      refine q_blk (pc' := 32) (lo' := [some (.ref a0), some (.int x1), some (.int x2), none, none]) (st' := [.int (nI 0), .int (nI 0), .int (nI 0), .ref a0]) [.iconst 0, .iconst 0, .iconst 0] (by decide +kernel) rfl ?_
      exact h
    · have h := h.2 c7
      refine q_blk (pc' := 26) (lo' := [some (.ref a0), some (.int x1), some (.int x2), none, none]) (st' := [.int (nI 1), .ref a0]) [.iconst 1] (by decide +kernel) rfl ?_
      refine q_goto 30 (off := 4) (by decide +kernel) (by decide) ?_
      refine q_blk (pc' := 32) (lo' := [some (.ref a0), some (.int x1), some (.int x2), none, none]) (st' := [.int (nI 0), .int (nI 0), .int (nI 1), .ref a0]) [.iconst 0, .iconst 0] (by decide +kernel) rfl ?_
      exact h
theorem f_X11_outlook_32 {G : q_G} {X : String → q_H → Prop} {f : Int32 → q_H → Prop} {A : q_H} {a0 : Nat} {x1 : Int32} {x2 : Int32} {p0 : Bool} {p1 : Bool} {p2 : Bool} {u3 : Nat} (h : q_sh A u3 = (12, 0) ∧ q_Wc G M_X11_fails [.ref u3, .int (q_i p2), .int (q_i p1), .int (q_i p0)] A (q_KB fun b2 A1 => ((b2 = true → f (nI 0) A1) ∧ (b2 = false → q_sh A1 a0 = (12, 0) ∧ q_Wc G M_X11_goesAside [.ref a0] A1 (q_KV fun A6 => q_sh A6 a0 = (12, 0) ∧ q_Wc G M_X11_ticks [.ref a0, .int x1] (q_setI A6 a0 22 (nI 0)) (q_KV fun A10 => q_Wp G M_X11_outlook (q_KI f) X 0 0 59 [some (.ref a0), none, some (.int x2), some (.int (nI 0)), some (.int (nI 0))] [] A10) q_nX) q_nX))) q_nX) : q_Wp G M_X11_outlook (q_KI f) X 0 0 32 [some (.ref a0), some (.int x1), some (.int x2), none, none] [.int (q_i p0), .int (q_i p1), .int (q_i p2), .ref u3] A := by
  obtain ⟨s3, h⟩ := h
  refine q_callV (ci := 11) (Mc := M_X11_fails) (z := 3) (b := u3) (As := [.int (q_i p2), .int (q_i p1), .int (q_i p0)]) (st := []) mo_X11_fails mi_X11_fails ml_X11_260_X11_fails rfl rfl (by decide) rfl (by decide) (by decide) rfl (Nat.le_of_ble_eq_true rfl) (by decide +kernel) s3 h (q_fB fun b2 A1 h => ?_)
  show q_Wp _ _ _ _ 0 0 35 [some (.ref a0), some (.int x1), some (.int x2), none, none] [.int (q_i b2)] A1
  refine q_ifB_eq 40 (off := 5) (by decide +kernel) (by decide) (fun c4 => ?_) (fun c4 => ?_)
  · have h := h.2 c4
    refine q_blk (pc' := 41) (lo' := [some (.ref a0), some (.int x1), some (.int x2), none, none]) (st' := [.ref a0]) [.aload_n 0] (by decide +kernel) rfl ?_
    obtain ⟨s8, h⟩ := h
    refine q_callV (ci := 11) (Mc := M_X11_goesAside) (z := 0) (b := a0) (As := []) (st := []) mo_X11_goesAside mi_X11_goesAside ml_X11_320_X11_goesAside rfl rfl (by decide) rfl (by decide) (by decide) rfl (Nat.le_of_ble_eq_true rfl) (by decide +kernel) s8 h (q_fV fun A6 h => ?_)
    show q_Wp _ _ _ _ 0 0 44 [some (.ref a0), some (.int x1), some (.int x2), none, none] [] A6
    refine q_blk (pc' := 46) (lo' := [some (.ref a0), some (.int x1), some (.int x2), none, none]) (st' := [.int (nI 0), .ref a0]) [.aload_n 0, .iconst 0] (by decide +kernel) rfl ?_
    obtain ⟨s9, h⟩ := h
    refine q_putI fw_X11_240 rfl (by decide) (by decide +kernel) s9 ?_
    refine q_blk (pc' := 51) (lo' := [some (.ref a0), some (.int x1), some (.int x2), none, none]) (st' := [.int x1, .ref a0]) [.aload_n 0, .iload_n 1] (by decide +kernel) rfl ?_
    refine q_callV (ci := 11) (Mc := M_X11_ticks) (z := 1) (b := a0) (As := [.int x1]) (st := []) mo_X11_ticks mi_X11_ticks ml_X11_299_X11_ticks rfl rfl (by decide) rfl (by decide) (by decide) rfl (Nat.le_of_ble_eq_true rfl) (by decide +kernel) s9 h (q_fV fun A10 h => ?_)
    show q_Wp _ _ _ _ 0 0 54 [some (.ref a0), some (.int x1), some (.int x2), none, none] [] A10
    refine q_blk (pc' := 59) (lo' := [some (.ref a0), some (.int x1), some (.int x2), some (.int (nI 0)), some (.int (nI 0))]) (st' := []) [.iconst 0, .istore_n 3, .iconst 0, .istore 4] (by decide +kernel) rfl ?_
    exact q_wk [some (.ref a0), none, some (.int x2), some (.int (nI 0)), some (.int (nI 0))] (And.intro rfl (And.intro rfl (And.intro rfl (And.intro rfl trivial)))) h
  · have h := h.1 c4
    refine q_blk (pc' := 39) (lo' := [some (.ref a0), some (.int x1), some (.int x2), none, none]) (st' := [.int (nI 0)]) [.iconst 0] (by decide +kernel) rfl ?_
    exact q_retI rfl (by decide) (by decide) (by decide +kernel) ⟨_, rfl, h⟩
theorem f_X11_outlook_59 {G : q_G} {X : String → q_H → Prop} {f : Int32 → q_H → Prop} {A : q_H} {a0 : Nat} {x2 : Int32} {x3 : Int32} {x4 : Int32} (h : q_sh A a0 = (12, 0) ∧ q_Wc G M_X11_stations [.ref a0] A (q_KI fun r2 A1 => ((r2 ≤ x4 → ((x2 = nI 0 → q_sh A1 a0 = (12, 0) ∧ ∃ r42 : Nat, q_R A1 a0 6 = some r42 ∧ ∃ z45 : Nat, q_sh A1 r42 = (50, z45) ∧ z45 < 2147483648 ∧ 10 < z45 ∧ ∃ r48 : Nat, q_R A1 a0 8 = some r48 ∧ ∃ z51 : Nat, q_sh A1 r48 = (50, z51) ∧ z51 < 2147483648 ∧ 10 < z51 ∧ q_Wc G M_X11_comesBack [.ref a0] A1 (q_KV fun A54 => f ((q_I A1 r42 10) - (q_I A1 r48 10)) A54) q_nX) ∧ (¬ x2 = nI 0 → ((x2 = (nI 1) → q_sh A1 a0 = (12, 0) ∧ q_Wc G M_X11_comesBack [.ref a0] A1 (q_KV fun A39 => f (q_I A1 a0 22) A39) q_nX) ∧ (¬ x2 = (nI 1) → ((x2 = (nI 2) → q_sh A1 a0 = (12, 0) ∧ q_Wc G M_X11_total [.ref a0, .int (nI 24)] A1 (q_KI fun r28 A27 => q_sh A27 a0 = (12, 0) ∧ ∃ r31 : Nat, q_R A27 a0 8 = some r31 ∧ q_Wc G M_X11_totalOf [.ref r31, .int (nI 24)] A27 (q_KI fun r34 A33 => q_sh A33 a0 = (12, 0) ∧ q_Wc G M_X11_comesBack [.ref a0] A33 (q_KV fun A35 => f (r28 - r34) A35) q_nX) q_nX) q_nX) ∧ (¬ x2 = (nI 2) → ((x2 = (nI 3) → q_sh A1 a0 = (12, 0) ∧ ∃ r13 : Nat, q_R A1 a0 6 = some r13 ∧ ∃ z16 : Nat, q_sh A1 r13 = (50, z16) ∧ z16 < 2147483648 ∧ 15 < z16 ∧ ∃ r19 : Nat, q_R A1 a0 8 = some r19 ∧ ∃ z22 : Nat, q_sh A1 r19 = (50, z22) ∧ z22 < 2147483648 ∧ 15 < z22 ∧ q_Wc G M_X11_comesBack [.ref a0] A1 (q_KV fun A25 => f ((q_I A1 r13 15) - (q_I A1 r19 15)) A25) q_nX) ∧ (¬ x2 = (nI 3) → q_sh A1 a0 = (12, 0) ∧ q_Wc G M_X11_comesBack [.ref a0] A1 (q_KV fun A9 => f x3 A9) q_nX))))))))) ∧ (¬ r2 ≤ x4 → q_sh A1 a0 = (12, 0) ∧ ∃ r57 : Nat, q_R A1 a0 6 = some r57 ∧ q_Wc G M_X11_placeAt [.int x4, .int (nI 1)] A1 (q_KI fun r60 A59 => ∃ z62 : Nat, q_sh A59 r57 = (50, z62) ∧ z62 < 2147483648 ∧ ∃ j64 : Nat, r60 = nI j64 ∧ j64 < z62 ∧ q_Wp G M_X11_outlook (q_KI f) X 0 0 59 [some (.ref a0), none, some (.int x2), some (.int (if x3 < (q_I A59 r57 j64) then (q_I A59 r57 j64) else x3)), some (.int (x4 + (nI 1)))] [] A59) q_nX))) q_nX) : q_Wp G M_X11_outlook (q_KI f) X 0 0 59 [some (.ref a0), none, some (.int x2), some (.int x3), some (.int x4)] [] A := by
  refine q_blk (pc' := 62) (lo' := [some (.ref a0), none, some (.int x2), some (.int x3), some (.int x4)]) (st' := [.ref a0, .int x4]) [.iload 4, .aload_n 0] (by decide +kernel) rfl ?_
  obtain ⟨s3, h⟩ := h
  refine q_callV (ci := 11) (Mc := M_X11_stations) (z := 0) (b := a0) (As := []) (st := [.int x4]) mo_X11_stations mi_X11_stations ml_X11_182_X11_stations rfl rfl (by decide) rfl (by decide) (by decide) rfl (Nat.le_of_ble_eq_true rfl) (by decide +kernel) s3 h (q_fI fun r2 A1 h => ?_)
  show q_Wp _ _ _ _ 0 0 65 [some (.ref a0), none, some (.int x2), some (.int x3), some (.int x4)] [.int r2, .int x4] A1
  refine q_icmp_ge 90 (off := 25) (by decide +kernel) (by decide) (fun c4 => ?_) (fun c4 => ?_)
  · have h := h.1 c4
    refine q_blk (pc' := 91) (lo' := [some (.ref a0), none, some (.int x2), some (.int x3), some (.int x4)]) (st' := [.int x2]) [.iload_n 2] (by decide +kernel) rfl ?_
    refine q_if_ne 112 (off := 21) (by decide +kernel) (by decide) (fun c5 => ?_) (fun c5 => ?_)
    · have h := h.2 c5
      refine q_blk (pc' := 114) (lo' := [some (.ref a0), none, some (.int x2), some (.int x3), some (.int x4)]) (st' := [.int (nI 1), .int x2]) [.iload_n 2, .iconst 1] (by decide +kernel) rfl ?_
      refine q_icmp_ne 124 (off := 10) (by decide +kernel) (by decide) (fun c6 => ?_) (fun c6 => ?_)
      · have h := h.2 c6
        refine q_blk (pc' := 126) (lo' := [some (.ref a0), none, some (.int x2), some (.int x3), some (.int x4)]) (st' := [.int (nI 2), .int x2]) [.iload_n 2, .iconst 2] (by decide +kernel) rfl ?_
        refine q_icmp_ne 148 (off := 22) (by decide +kernel) (by decide) (fun c7 => ?_) (fun c7 => ?_)
        · have h := h.2 c7
          refine q_blk (pc' := 150) (lo' := [some (.ref a0), none, some (.int x2), some (.int x3), some (.int x4)]) (st' := [.int (nI 3), .int x2]) [.iload_n 2, .iconst 3] (by decide +kernel) rfl ?_
          refine q_icmp_ne 171 (off := 21) (by decide +kernel) (by decide) (fun c8 => ?_) (fun c8 => ?_)
          · have h := h.2 c8
            refine q_blk (pc' := 175) (lo' := [some (.ref a0), none, some (.int x2), some (.int x3), some (.int x3)]) (st' := [.ref a0]) [.iload_n 3, .istore 4, .aload_n 0] (by decide +kernel) rfl ?_
            obtain ⟨s11, h⟩ := h
            refine q_callV (ci := 11) (Mc := M_X11_comesBack) (z := 0) (b := a0) (As := []) (st := []) mo_X11_comesBack mi_X11_comesBack ml_X11_323_X11_comesBack rfl rfl (by decide) rfl (by decide) (by decide) rfl (Nat.le_of_ble_eq_true rfl) (by decide +kernel) s11 h (q_fV fun A9 h => ?_)
            show q_Wp _ _ _ _ 0 0 178 [some (.ref a0), none, some (.int x2), some (.int x3), some (.int x3)] [] A9
            refine q_blk (pc' := 180) (lo' := [some (.ref a0), none, some (.int x2), some (.int x3), some (.int x3)]) (st' := [.int x3]) [.iload 4] (by decide +kernel) rfl ?_
            exact q_retI rfl (by decide) (by decide) (by decide +kernel) ⟨_, rfl, h⟩
          · have h := h.1 c8
            refine q_blk (pc' := 154) (lo' := [some (.ref a0), none, some (.int x2), some (.int x3), some (.int x4)]) (st' := [.ref a0]) [.aload_n 0] (by decide +kernel) rfl ?_
            obtain ⟨s12, h⟩ := h
            obtain ⟨r13, e14, h⟩ := h
            refine q_getR fl_X11_30 rfl (by decide) (by decide +kernel) s12 e14 ?_
            refine q_blk (pc' := 159) (lo' := [some (.ref a0), none, some (.int x2), some (.int x3), some (.int x4)]) (st' := [.int (nI 15), .ref r13]) [.bipush 15] (by decide +kernel) rfl ?_
            obtain ⟨z16, s15, b17, h⟩ := h
            obtain ⟨l18, h⟩ := h
            refine q_iald rfl (by decide +kernel) s15 l18 b17 ?_
            refine q_blk (pc' := 161) (lo' := [some (.ref a0), none, some (.int x2), some (.int x3), some (.int x4)]) (st' := [.ref a0, .int (q_I A1 r13 15)]) [.aload_n 0] (by decide +kernel) rfl ?_
            obtain ⟨r19, e20, h⟩ := h
            refine q_getR fl_X11_36 rfl (by decide) (by decide +kernel) s12 e20 ?_
            refine q_blk (pc' := 166) (lo' := [some (.ref a0), none, some (.int x2), some (.int x3), some (.int x4)]) (st' := [.int (nI 15), .ref r19, .int (q_I A1 r13 15)]) [.bipush 15] (by decide +kernel) rfl ?_
            obtain ⟨z22, s21, b23, h⟩ := h
            obtain ⟨l24, h⟩ := h
            refine q_iald rfl (by decide +kernel) s21 l24 b23 ?_
            refine q_blk (pc' := 168) (lo' := [some (.ref a0), none, some (.int x2), some (.int x3), some (.int x4)]) (st' := [.int ((q_I A1 r13 15) - (q_I A1 r19 15))]) [.isub] (by decide +kernel) rfl ?_
            refine q_goto 172 (off := 4) (by decide +kernel) (by decide) ?_
            refine q_blk (pc' := 175) (lo' := [some (.ref a0), none, some (.int x2), some (.int x3), some (.int ((q_I A1 r13 15) - (q_I A1 r19 15)))]) (st' := [.ref a0]) [.istore 4, .aload_n 0] (by decide +kernel) rfl ?_
            refine q_callV (ci := 11) (Mc := M_X11_comesBack) (z := 0) (b := a0) (As := []) (st := []) mo_X11_comesBack mi_X11_comesBack ml_X11_323_X11_comesBack rfl rfl (by decide) rfl (by decide) (by decide) rfl (Nat.le_of_ble_eq_true rfl) (by decide +kernel) s12 h (q_fV fun A25 h => ?_)
            show q_Wp _ _ _ _ 0 0 178 [some (.ref a0), none, some (.int x2), some (.int x3), some (.int ((q_I A1 r13 15) - (q_I A1 r19 15)))] [] A25
            refine q_blk (pc' := 180) (lo' := [some (.ref a0), none, some (.int x2), some (.int x3), some (.int ((q_I A1 r13 15) - (q_I A1 r19 15)))]) (st' := [.int ((q_I A1 r13 15) - (q_I A1 r19 15))]) [.iload 4] (by decide +kernel) rfl ?_
            exact q_retI rfl (by decide) (by decide) (by decide +kernel) ⟨_, rfl, h⟩
        · have h := h.1 c7
          refine q_blk (pc' := 132) (lo' := [some (.ref a0), none, some (.int x2), some (.int x3), some (.int x4)]) (st' := [.int (nI 24), .ref a0]) [.aload_n 0, .bipush 24] (by decide +kernel) rfl ?_
          obtain ⟨s29, h⟩ := h
          refine q_callV (ci := 11) (Mc := M_X11_total) (z := 1) (b := a0) (As := [.int (nI 24)]) (st := []) mo_X11_total mi_X11_total ml_X11_189_X11_total rfl rfl (by decide) rfl (by decide) (by decide) rfl (Nat.le_of_ble_eq_true rfl) (by decide +kernel) s29 h (q_fI fun r28 A27 h => ?_)
          show q_Wp _ _ _ _ 0 0 135 [some (.ref a0), none, some (.int x2), some (.int x3), some (.int x4)] [.int r28] A27
          refine q_blk (pc' := 136) (lo' := [some (.ref a0), none, some (.int x2), some (.int x3), some (.int x4)]) (st' := [.ref a0, .int r28]) [.aload_n 0] (by decide +kernel) rfl ?_
          obtain ⟨s30, h⟩ := h
          obtain ⟨r31, e32, h⟩ := h
          refine q_getR fl_X11_36 rfl (by decide) (by decide +kernel) s30 e32 ?_
          refine q_blk (pc' := 141) (lo' := [some (.ref a0), none, some (.int x2), some (.int x3), some (.int x4)]) (st' := [.int (nI 24), .ref r31, .int r28]) [.bipush 24] (by decide +kernel) rfl ?_
          refine q_callS (Mc := M_X11_totalOf) (z := 2) (As := [.ref r31, .int (nI 24)]) (st := [.int r28]) mo_X11_totalOf ms_X11_totalOf ml_X11_60_X11_totalOf rfl rfl (by decide) (by decide) rfl (Nat.le_of_ble_eq_true rfl) (by decide +kernel) h (q_fI fun r34 A33 h => ?_)
          show q_Wp _ _ _ _ 0 0 144 [some (.ref a0), none, some (.int x2), some (.int x3), some (.int x4)] [.int r34, .int r28] A33
          refine q_blk (pc' := 145) (lo' := [some (.ref a0), none, some (.int x2), some (.int x3), some (.int x4)]) (st' := [.int (r28 - r34)]) [.isub] (by decide +kernel) rfl ?_
          refine q_goto 172 (off := 27) (by decide +kernel) (by decide) ?_
          refine q_blk (pc' := 175) (lo' := [some (.ref a0), none, some (.int x2), some (.int x3), some (.int (r28 - r34))]) (st' := [.ref a0]) [.istore 4, .aload_n 0] (by decide +kernel) rfl ?_
          obtain ⟨s37, h⟩ := h
          refine q_callV (ci := 11) (Mc := M_X11_comesBack) (z := 0) (b := a0) (As := []) (st := []) mo_X11_comesBack mi_X11_comesBack ml_X11_323_X11_comesBack rfl rfl (by decide) rfl (by decide) (by decide) rfl (Nat.le_of_ble_eq_true rfl) (by decide +kernel) s37 h (q_fV fun A35 h => ?_)
          show q_Wp _ _ _ _ 0 0 178 [some (.ref a0), none, some (.int x2), some (.int x3), some (.int (r28 - r34))] [] A35
          refine q_blk (pc' := 180) (lo' := [some (.ref a0), none, some (.int x2), some (.int x3), some (.int (r28 - r34))]) (st' := [.int (r28 - r34)]) [.iload 4] (by decide +kernel) rfl ?_
          exact q_retI rfl (by decide) (by decide) (by decide +kernel) ⟨_, rfl, h⟩
      · have h := h.1 c6
        refine q_blk (pc' := 118) (lo' := [some (.ref a0), none, some (.int x2), some (.int x3), some (.int x4)]) (st' := [.ref a0]) [.aload_n 0] (by decide +kernel) rfl ?_
        obtain ⟨s38, h⟩ := h
        refine q_getI fl_X11_240 rfl (by decide) (by decide +kernel) s38 ?_
        refine q_goto 172 (off := 51) (by decide +kernel) (by decide) ?_
        refine q_blk (pc' := 175) (lo' := [some (.ref a0), none, some (.int x2), some (.int x3), some (.int (q_I A1 a0 22))]) (st' := [.ref a0]) [.istore 4, .aload_n 0] (by decide +kernel) rfl ?_
        refine q_callV (ci := 11) (Mc := M_X11_comesBack) (z := 0) (b := a0) (As := []) (st := []) mo_X11_comesBack mi_X11_comesBack ml_X11_323_X11_comesBack rfl rfl (by decide) rfl (by decide) (by decide) rfl (Nat.le_of_ble_eq_true rfl) (by decide +kernel) s38 h (q_fV fun A39 h => ?_)
        show q_Wp _ _ _ _ 0 0 178 [some (.ref a0), none, some (.int x2), some (.int x3), some (.int (q_I A1 a0 22))] [] A39
        refine q_blk (pc' := 180) (lo' := [some (.ref a0), none, some (.int x2), some (.int x3), some (.int (q_I A1 a0 22))]) (st' := [.int (q_I A1 a0 22)]) [.iload 4] (by decide +kernel) rfl ?_
        exact q_retI rfl (by decide) (by decide) (by decide +kernel) ⟨_, rfl, h⟩
    · have h := h.1 c5
      refine q_blk (pc' := 95) (lo' := [some (.ref a0), none, some (.int x2), some (.int x3), some (.int x4)]) (st' := [.ref a0]) [.aload_n 0] (by decide +kernel) rfl ?_
      obtain ⟨s41, h⟩ := h
      obtain ⟨r42, e43, h⟩ := h
      refine q_getR fl_X11_30 rfl (by decide) (by decide +kernel) s41 e43 ?_
      refine q_blk (pc' := 100) (lo' := [some (.ref a0), none, some (.int x2), some (.int x3), some (.int x4)]) (st' := [.int (nI 10), .ref r42]) [.bipush 10] (by decide +kernel) rfl ?_
      obtain ⟨z45, s44, b46, h⟩ := h
      obtain ⟨l47, h⟩ := h
      refine q_iald rfl (by decide +kernel) s44 l47 b46 ?_
      refine q_blk (pc' := 102) (lo' := [some (.ref a0), none, some (.int x2), some (.int x3), some (.int x4)]) (st' := [.ref a0, .int (q_I A1 r42 10)]) [.aload_n 0] (by decide +kernel) rfl ?_
      obtain ⟨r48, e49, h⟩ := h
      refine q_getR fl_X11_36 rfl (by decide) (by decide +kernel) s41 e49 ?_
      refine q_blk (pc' := 107) (lo' := [some (.ref a0), none, some (.int x2), some (.int x3), some (.int x4)]) (st' := [.int (nI 10), .ref r48, .int (q_I A1 r42 10)]) [.bipush 10] (by decide +kernel) rfl ?_
      obtain ⟨z51, s50, b52, h⟩ := h
      obtain ⟨l53, h⟩ := h
      refine q_iald rfl (by decide +kernel) s50 l53 b52 ?_
      refine q_blk (pc' := 109) (lo' := [some (.ref a0), none, some (.int x2), some (.int x3), some (.int x4)]) (st' := [.int ((q_I A1 r42 10) - (q_I A1 r48 10))]) [.isub] (by decide +kernel) rfl ?_
      refine q_goto 172 (off := 63) (by decide +kernel) (by decide) ?_
      refine q_blk (pc' := 175) (lo' := [some (.ref a0), none, some (.int x2), some (.int x3), some (.int ((q_I A1 r42 10) - (q_I A1 r48 10)))]) (st' := [.ref a0]) [.istore 4, .aload_n 0] (by decide +kernel) rfl ?_
      refine q_callV (ci := 11) (Mc := M_X11_comesBack) (z := 0) (b := a0) (As := []) (st := []) mo_X11_comesBack mi_X11_comesBack ml_X11_323_X11_comesBack rfl rfl (by decide) rfl (by decide) (by decide) rfl (Nat.le_of_ble_eq_true rfl) (by decide +kernel) s41 h (q_fV fun A54 h => ?_)
      show q_Wp _ _ _ _ 0 0 178 [some (.ref a0), none, some (.int x2), some (.int x3), some (.int ((q_I A1 r42 10) - (q_I A1 r48 10)))] [] A54
      refine q_blk (pc' := 180) (lo' := [some (.ref a0), none, some (.int x2), some (.int x3), some (.int ((q_I A1 r42 10) - (q_I A1 r48 10)))]) (st' := [.int ((q_I A1 r42 10) - (q_I A1 r48 10))]) [.iload 4] (by decide +kernel) rfl ?_
      exact q_retI rfl (by decide) (by decide) (by decide +kernel) ⟨_, rfl, h⟩
  · have h := h.2 c4
    refine q_blk (pc' := 70) (lo' := [some (.ref a0), none, some (.int x2), some (.int x3), some (.int x4)]) (st' := [.ref a0, .int x3]) [.iload_n 3, .aload_n 0] (by decide +kernel) rfl ?_
    obtain ⟨s56, h⟩ := h
    obtain ⟨r57, e58, h⟩ := h
    refine q_getR fl_X11_30 rfl (by decide) (by decide +kernel) s56 e58 ?_
    refine q_blk (pc' := 76) (lo' := [some (.ref a0), none, some (.int x2), some (.int x3), some (.int x4)]) (st' := [.int (nI 1), .int x4, .ref r57, .int x3]) [.iload 4, .iconst 1] (by decide +kernel) rfl ?_
    refine q_callS (Mc := M_X11_placeAt) (z := 2) (As := [.int x4, .int (nI 1)]) (st := [.ref r57, .int x3]) mo_X11_placeAt ms_X11_placeAt ml_X11_141_X11_placeAt rfl rfl (by decide) (by decide) rfl (Nat.le_of_ble_eq_true rfl) (by decide +kernel) h (q_fI fun r60 A59 h => ?_)
    show q_Wp _ _ _ _ 0 0 79 [some (.ref a0), none, some (.int x2), some (.int x3), some (.int x4)] [.int r60, .ref r57, .int x3] A59
    obtain ⟨z62, s61, b63, h⟩ := h
    obtain ⟨j64, e65, h⟩ := h
    obtain ⟨l66, h⟩ := h
    refine q_iald e65 (by decide +kernel) s61 l66 b63 ?_
    refine q_mmax mm_X11_231_a.1 mm_X11_231_a.2.1 mm_X11_231_a.2.2.1 mm_X11_231_a.2.2.2 (by decide) (Nat.le_of_ble_eq_true rfl) (by decide) (by decide) (by decide +kernel) ?_
    refine q_blk (pc' := 87) (lo' := [some (.ref a0), none, some (.int x2), some (.int (if x3 < (q_I A59 r57 j64) then (q_I A59 r57 j64) else x3)), some (.int (x4 + (nI 1)))]) (st' := []) [.istore_n 3, .iinc 4 1] (by decide +kernel) rfl ?_
    refine q_goto 59 (off := -28) (by decide +kernel) (by decide) ?_
    exact h
theorem f_X11_bestStaff {G : q_G} {X : String → q_H → Prop} {f : Int32 → q_H → Prop} {A : q_H} {a0 : Nat} {x1 : Int32} {x2 : Int32} (h : q_sh A a0 = (12, 0) ∧ q_Wc G M_X11_isStation [.ref a0, .int x1] A (q_KB fun b2 A1 => ((b2 = true → ((b2 = true → q_Wc G M_X11_isIn [.long (x2.toInt64), .long (lN 1), .long (lN 100)] A1 (q_KB fun b9 A8 => ((b9 = true → q_Wp G M_X11_bestStaff (q_KI f) X 0 0 38 [some (.ref a0), some (.int x1), some (.int x2), none, none, none, none, none, none] [.int (q_i false), .int (q_i false), .int (q_i false), .ref a0] A8) ∧ (b9 = false → q_Wp G M_X11_bestStaff (q_KI f) X 0 0 38 [some (.ref a0), some (.int x1), some (.int x2), none, none, none, none, none, none] [.int (q_i false), .int (q_i true), .int (q_i false), .ref a0] A8))) q_nX) ∧ (b2 = false → q_Wp G M_X11_bestStaff (q_KI f) X 0 0 38 [some (.ref a0), some (.int x1), some (.int x2), none, none, none, none, none, none] [.int (q_i false), .int (q_i false), .int (q_i false), .ref a0] A1))) ∧ (b2 = false → ((b2 = true → q_Wc G M_X11_isIn [.long (x2.toInt64), .long (lN 1), .long (lN 100)] A1 (q_KB fun b15 A14 => ((b15 = true → q_Wp G M_X11_bestStaff (q_KI f) X 0 0 38 [some (.ref a0), some (.int x1), some (.int x2), none, none, none, none, none, none] [.int (q_i false), .int (q_i false), .int (q_i true), .ref a0] A14) ∧ (b15 = false → q_Wp G M_X11_bestStaff (q_KI f) X 0 0 38 [some (.ref a0), some (.int x1), some (.int x2), none, none, none, none, none, none] [.int (q_i false), .int (q_i true), .int (q_i true), .ref a0] A14))) q_nX) ∧ (b2 = false → q_Wp G M_X11_bestStaff (q_KI f) X 0 0 38 [some (.ref a0), some (.int x1), some (.int x2), none, none, none, none, none, none] [.int (q_i false), .int (q_i false), .int (q_i true), .ref a0] A1))))) q_nX) : q_Wc G M_X11_bestStaff [.ref a0, .int x1, .int x2] A (q_KI f) X := by
  refine q_Wc.of [some (.ref a0), some (.int x1), some (.int x2), none, none, none, none, none, none] mo_X11_bestStaff.2.2.2.2.2 rfl (Nat.le_of_ble_eq_true rfl) rfl ?_
  refine q_blk (pc' := 2) (lo' := [some (.ref a0), some (.int x1), some (.int x2), none, none, none, none, none, none]) (st' := [.int x1, .ref a0]) [.aload_n 0, .iload_n 1] (by decide +kernel) rfl ?_
  obtain ⟨s3, h⟩ := h
  refine q_callV (ci := 11) (Mc := M_X11_isStation) (z := 1) (b := a0) (As := [.int x1]) (st := []) mo_X11_isStation mi_X11_isStation ml_X11_264_X11_isStation rfl rfl (by decide) rfl (by decide) (by decide) rfl (Nat.le_of_ble_eq_true rfl) (by decide +kernel) s3 h (q_fB fun b2 A1 h => ?_)
  show q_Wp _ _ _ _ 0 0 5 [some (.ref a0), some (.int x1), some (.int x2), none, none, none, none, none, none] [.int (q_i b2)] A1
  refine q_blk (pc' := 8) (lo' := [some (.ref a0), some (.int x1), some (.int x2), some (.int (q_i b2)), none, none, none, none, none]) (st' := [.int (q_i b2), .ref a0]) [.istore_n 3, .aload_n 0, .iload_n 3] (by decide +kernel) rfl ?_
  refine q_ifB_ne 15 (off := 7) (by decide +kernel) (by decide) (fun c4 => ?_) (fun c4 => ?_)
  · have h := h.1 c4
    refine q_blk (pc' := 17) (lo' := [some (.ref a0), some (.int x1), some (.int x2), some (.int (q_i b2)), none, none, none, none, none]) (st' := [.int (q_i b2), .int (nI 0), .ref a0]) [.iconst 0, .iload_n 3] (by decide +kernel) rfl ?_
    refine q_ifB_eq 36 (off := 19) (by decide +kernel) (by decide) (fun c6 => ?_) (fun c6 => ?_)
    · have h := h.2 c6
      refine q_blk (pc' := 38) (lo' := [some (.ref a0), some (.int x1), some (.int x2), some (.int (q_i b2)), none, none, none, none, none]) (st' := [.int (nI 0), .int (nI 0), .int (nI 0), .ref a0]) [.iconst 0, .iconst 0] (by decide +kernel) rfl ?_
      exact q_wk [some (.ref a0), some (.int x1), some (.int x2), none, none, none, none, none, none] (And.intro rfl (And.intro rfl (And.intro rfl trivial))) h
    · have h := h.1 c6
      refine q_blk (pc' := 23) (lo' := [some (.ref a0), some (.int x1), some (.int x2), some (.int (q_i b2)), none, none, none, none, none]) (st' := [.long (lN 1), .long (x2.toInt64), .int (nI 0), .ref a0]) [.iload_n 2, .i2l, .lconst 1] (by decide +kernel) rfl ?_
      refine q_ldc2 (v := 100) c2_X11_326 (by decide +kernel) ?_
      --
      refine q_callS (Mc := M_X11_isIn) (z := 3) (As := [.long (x2.toInt64), .long (lN 1), .long (lN 100)]) (st := [.int (nI 0), .ref a0]) mo_X11_isIn ms_X11_isIn ml_X11_71_X11_isIn rfl rfl (by decide) (by decide) rfl (Nat.le_of_ble_eq_true rfl) (by decide +kernel) h (q_fB fun b9 A8 h => ?_)
      show q_Wp _ _ _ _ 0 0 29 [some (.ref a0), some (.int x1), some (.int x2), some (.int (q_i b2)), none, none, none, none, none] [.int (q_i b9), .int (nI 0), .ref a0] A8
      refine q_ifB_ne 36 (off := 7) (by decide +kernel) (by decide) (fun c10 => ?_) (fun c10 => ?_)
      · have h := h.1 c10
        refine q_blk (pc' := 38) (lo' := [some (.ref a0), some (.int x1), some (.int x2), some (.int (q_i b2)), none, none, none, none, none]) (st' := [.int (nI 0), .int (nI 0), .int (nI 0), .ref a0]) [.iconst 0, .iconst 0] (by decide +kernel) rfl ?_
        exact q_wk [some (.ref a0), some (.int x1), some (.int x2), none, none, none, none, none, none] (And.intro rfl (And.intro rfl (And.intro rfl trivial))) h
      · have h := h.2 c10
        refine q_blk (pc' := 33) (lo' := [some (.ref a0), some (.int x1), some (.int x2), some (.int (q_i b2)), none, none, none, none, none]) (st' := [.int (nI 1), .int (nI 0), .ref a0]) [.iconst 1] (by decide +kernel) rfl ?_
        refine q_goto 37 (off := 4) (by decide +kernel) (by decide) ?_
        refine q_blk (pc' := 38) (lo' := [some (.ref a0), some (.int x1), some (.int x2), some (.int (q_i b2)), none, none, none, none, none]) (st' := [.int (nI 0), .int (nI 1), .int (nI 0), .ref a0]) [.iconst 0] (by decide +kernel) rfl ?_
        exact q_wk [some (.ref a0), some (.int x1), some (.int x2), none, none, none, none, none, none] (And.intro rfl (And.intro rfl (And.intro rfl trivial))) h
  · have h := h.2 c4
    refine q_blk (pc' := 12) (lo' := [some (.ref a0), some (.int x1), some (.int x2), some (.int (q_i b2)), none, none, none, none, none]) (st' := [.int (nI 1), .ref a0]) [.iconst 1] (by decide +kernel) rfl ?_
    refine q_goto 16 (off := 4) (by decide +kernel) (by decide) ?_
    refine q_blk (pc' := 17) (lo' := [some (.ref a0), some (.int x1), some (.int x2), some (.int (q_i b2)), none, none, none, none, none]) (st' := [.int (q_i b2), .int (nI 1), .ref a0]) [.iload_n 3] (by decide +kernel) rfl ?_
    refine q_ifB_eq 36 (off := 19) (by decide +kernel) (by decide) (fun c12 => ?_) (fun c12 => ?_)
    · have h := h.2 c12
      refine q_blk (pc' := 38) (lo' := [some (.ref a0), some (.int x1), some (.int x2), some (.int (q_i b2)), none, none, none, none, none]) (st' := [.int (nI 0), .int (nI 0), .int (nI 1), .ref a0]) [.iconst 0, .iconst 0] (by decide +kernel) rfl ?_
      exact q_wk [some (.ref a0), some (.int x1), some (.int x2), none, none, none, none, none, none] (And.intro rfl (And.intro rfl (And.intro rfl trivial))) h
    · have h := h.1 c12
      refine q_blk (pc' := 23) (lo' := [some (.ref a0), some (.int x1), some (.int x2), some (.int (q_i b2)), none, none, none, none, none]) (st' := [.long (lN 1), .long (x2.toInt64), .int (nI 1), .ref a0]) [.iload_n 2, .i2l, .lconst 1] (by decide +kernel) rfl ?_
      refine q_ldc2 (v := 100) c2_X11_326 (by decide +kernel) ?_
      --
      refine q_callS (Mc := M_X11_isIn) (z := 3) (As := [.long (x2.toInt64), .long (lN 1), .long (lN 100)]) (st := [.int (nI 1), .ref a0]) mo_X11_isIn ms_X11_isIn ml_X11_71_X11_isIn rfl rfl (by decide) (by decide) rfl (Nat.le_of_ble_eq_true rfl) (by decide +kernel) h (q_fB fun b15 A14 h => ?_)
      show q_Wp _ _ _ _ 0 0 29 [some (.ref a0), some (.int x1), some (.int x2), some (.int (q_i b2)), none, none, none, none, none] [.int (q_i b15), .int (nI 1), .ref a0] A14
      refine q_ifB_ne 36 (off := 7) (by decide +kernel) (by decide) (fun c16 => ?_) (fun c16 => ?_)
      · have h := h.1 c16
        refine q_blk (pc' := 38) (lo' := [some (.ref a0), some (.int x1), some (.int x2), some (.int (q_i b2)), none, none, none, none, none]) (st' := [.int (nI 0), .int (nI 0), .int (nI 1), .ref a0]) [.iconst 0, .iconst 0] (by decide +kernel) rfl ?_
        exact q_wk [some (.ref a0), some (.int x1), some (.int x2), none, none, none, none, none, none] (And.intro rfl (And.intro rfl (And.intro rfl trivial))) h
      · have h := h.2 c16
        refine q_blk (pc' := 33) (lo' := [some (.ref a0), some (.int x1), some (.int x2), some (.int (q_i b2)), none, none, none, none, none]) (st' := [.int (nI 1), .int (nI 1), .ref a0]) [.iconst 1] (by decide +kernel) rfl ?_
        refine q_goto 37 (off := 4) (by decide +kernel) (by decide) ?_
        refine q_blk (pc' := 38) (lo' := [some (.ref a0), some (.int x1), some (.int x2), some (.int (q_i b2)), none, none, none, none, none]) (st' := [.int (nI 0), .int (nI 1), .int (nI 1), .ref a0]) [.iconst 0] (by decide +kernel) rfl ?_
        exact q_wk [some (.ref a0), some (.int x1), some (.int x2), none, none, none, none, none, none] (And.intro rfl (And.intro rfl (And.intro rfl trivial))) h
theorem f_X11_bestStaff_38 {G : q_G} {X : String → q_H → Prop} {f : Int32 → q_H → Prop} {A : q_H} {a0 : Nat} {x1 : Int32} {x2 : Int32} {p0 : Bool} {p1 : Bool} {p2 : Bool} {u3 : Nat} (h : q_sh A u3 = (12, 0) ∧ q_Wc G M_X11_fails [.ref u3, .int (q_i p2), .int (q_i p1), .int (q_i p0)] A (q_KB fun b2 A1 => ((b2 = true → f (nI 0) A1) ∧ (b2 = false → q_sh A1 a0 = (12, 0) ∧ q_Wc G M_X11_goesAside [.ref a0] A1 (q_KV fun A6 => q_Wp G M_X11_bestStaff (q_KI f) X 0 0 59 [some (.ref a0), some (.int x1), some (.int x2), none, some (.int (-1)), some (.int (nI 0)), some (.int (nI 0)), none, none] [] A6) q_nX))) q_nX) : q_Wp G M_X11_bestStaff (q_KI f) X 0 0 38 [some (.ref a0), some (.int x1), some (.int x2), none, none, none, none, none, none] [.int (q_i p0), .int (q_i p1), .int (q_i p2), .ref u3] A := by
  obtain ⟨s3, h⟩ := h
  refine q_callV (ci := 11) (Mc := M_X11_fails) (z := 3) (b := u3) (As := [.int (q_i p2), .int (q_i p1), .int (q_i p0)]) (st := []) mo_X11_fails mi_X11_fails ml_X11_260_X11_fails rfl rfl (by decide) rfl (by decide) (by decide) rfl (Nat.le_of_ble_eq_true rfl) (by decide +kernel) s3 h (q_fB fun b2 A1 h => ?_)
  show q_Wp _ _ _ _ 0 0 41 [some (.ref a0), some (.int x1), some (.int x2), none, none, none, none, none, none] [.int (q_i b2)] A1
  refine q_ifB_eq 46 (off := 5) (by decide +kernel) (by decide) (fun c4 => ?_) (fun c4 => ?_)
  · have h := h.2 c4
    refine q_blk (pc' := 47) (lo' := [some (.ref a0), some (.int x1), some (.int x2), none, none, none, none, none, none]) (st' := [.ref a0]) [.aload_n 0] (by decide +kernel) rfl ?_
    obtain ⟨s8, h⟩ := h
    refine q_callV (ci := 11) (Mc := M_X11_goesAside) (z := 0) (b := a0) (As := []) (st := []) mo_X11_goesAside mi_X11_goesAside ml_X11_320_X11_goesAside rfl rfl (by decide) rfl (by decide) (by decide) rfl (Nat.le_of_ble_eq_true rfl) (by decide +kernel) s8 h (q_fV fun A6 h => ?_)
    show q_Wp _ _ _ _ 0 0 50 [some (.ref a0), some (.int x1), some (.int x2), none, none, none, none, none, none] [] A6
    refine q_blk (pc' := 59) (lo' := [some (.ref a0), some (.int x1), some (.int x2), none, some (.int (-1)), some (.int (nI 0)), some (.int (nI 0)), none, none]) (st' := []) [.iconst (-1), .istore 4, .iconst 0, .istore 5, .iconst 0, .istore 6] (by decide +kernel) rfl ?_
    exact h
  · have h := h.1 c4
    refine q_blk (pc' := 45) (lo' := [some (.ref a0), some (.int x1), some (.int x2), none, none, none, none, none, none]) (st' := [.int (nI 0)]) [.iconst 0] (by decide +kernel) rfl ?_
    exact q_retI rfl (by decide) (by decide) (by decide +kernel) ⟨_, rfl, h⟩
theorem f_X11_bestStaff_59 {G : q_G} {X : String → q_H → Prop} {f : Int32 → q_H → Prop} {A : q_H} {a0 : Nat} {x1 : Int32} {x2 : Int32} {x4 : Int32} {x5 : Int32} {x6 : Int32} (h : (((nI 10) ≤ x6 → q_sh A a0 = (12, 0) ∧ q_Wc G M_X11_comesBack [.ref a0] A (q_KV fun A2 => f x4 A2) q_nX) ∧ (¬ (nI 10) ≤ x6 → q_sh A a0 = (12, 0) ∧ q_Wc G M_X11_comesBack [.ref a0] A (q_KV fun A5 => q_sh A5 a0 = (12, 0) ∧ q_Wc G M_X11_staffs [.ref a0, .int x1, .int x6] A5 (q_KI fun r9 A8 => q_sh A8 a0 = (12, 0) ∧ q_Wc G M_X11_ticks [.ref a0, .int x2] A8 (q_KV fun A11 => q_sh A11 a0 = (12, 0) ∧ ∃ r15 : Nat, q_R A11 a0 6 = some r15 ∧ q_Wc G M_X11_placeAt [.int x1, .int (nI 3)] A11 (q_KI fun r18 A17 => ∃ z20 : Nat, q_sh A17 r15 = (50, z20) ∧ z20 < 2147483648 ∧ ∃ j22 : Nat, r18 = nI j22 ∧ j22 < z20 ∧ ((x4 = (-1) → q_Wp G M_X11_bestStaff (q_KI f) X 0 0 59 [some (.ref a0), some (.int x1), some (.int x2), none, some (.int x6), some (.int (q_I A17 r15 j22)), some (.int (x6 + (nI 1))), none, none] [] A17) ∧ (¬ x4 = (-1) → ((x5 < (q_I A17 r15 j22) → q_Wp G M_X11_bestStaff (q_KI f) X 0 0 59 [some (.ref a0), some (.int x1), some (.int x2), none, some (.int x6), some (.int (q_I A17 r15 j22)), some (.int (x6 + (nI 1))), none, none] [] A17) ∧ (¬ x5 < (q_I A17 r15 j22) → q_Wp G M_X11_bestStaff (q_KI f) X 0 0 59 [some (.ref a0), some (.int x1), some (.int x2), none, some (.int x4), some (.int x5), some (.int (x6 + (nI 1))), none, none] [] A17))))) q_nX) q_nX) q_nX) q_nX))) : q_Wp G M_X11_bestStaff (q_KI f) X 0 0 59 [some (.ref a0), some (.int x1), some (.int x2), none, some (.int x4), some (.int x5), some (.int x6), none, none] [] A := by
  refine q_blk (pc' := 63) (lo' := [some (.ref a0), some (.int x1), some (.int x2), none, some (.int x4), some (.int x5), some (.int x6), none, none]) (st' := [.int (nI 10), .int x6]) [.iload 6, .bipush 10] (by decide +kernel) rfl ?_
  refine q_icmp_ge 126 (off := 63) (by decide +kernel) (by decide) (fun c1 => ?_) (fun c1 => ?_)
  · have h := h.1 c1
    refine q_blk (pc' := 127) (lo' := [some (.ref a0), some (.int x1), some (.int x2), none, some (.int x4), some (.int x5), some (.int x6), none, none]) (st' := [.ref a0]) [.aload_n 0] (by decide +kernel) rfl ?_
    obtain ⟨s4, h⟩ := h
    refine q_callV (ci := 11) (Mc := M_X11_comesBack) (z := 0) (b := a0) (As := []) (st := []) mo_X11_comesBack mi_X11_comesBack ml_X11_323_X11_comesBack rfl rfl (by decide) rfl (by decide) (by decide) rfl (Nat.le_of_ble_eq_true rfl) (by decide +kernel) s4 h (q_fV fun A2 h => ?_)
    show q_Wp _ _ _ _ 0 0 130 [some (.ref a0), some (.int x1), some (.int x2), none, some (.int x4), some (.int x5), some (.int x6), none, none] [] A2
    refine q_blk (pc' := 132) (lo' := [some (.ref a0), some (.int x1), some (.int x2), none, some (.int x4), some (.int x5), some (.int x6), none, none]) (st' := [.int x4]) [.iload 4] (by decide +kernel) rfl ?_
    exact q_retI rfl (by decide) (by decide) (by decide +kernel) ⟨_, rfl, h⟩
  · have h := h.2 c1
    refine q_blk (pc' := 67) (lo' := [some (.ref a0), some (.int x1), some (.int x2), none, some (.int x4), some (.int x5), some (.int x6), none, none]) (st' := [.ref a0]) [.aload_n 0] (by decide +kernel) rfl ?_
    obtain ⟨s7, h⟩ := h
    refine q_callV (ci := 11) (Mc := M_X11_comesBack) (z := 0) (b := a0) (As := []) (st := []) mo_X11_comesBack mi_X11_comesBack ml_X11_323_X11_comesBack rfl rfl (by decide) rfl (by decide) (by decide) rfl (Nat.le_of_ble_eq_true rfl) (by decide +kernel) s7 h (q_fV fun A5 h => ?_)
    show q_Wp _ _ _ _ 0 0 70 [some (.ref a0), some (.int x1), some (.int x2), none, some (.int x4), some (.int x5), some (.int x6), none, none] [] A5
    refine q_blk (pc' := 74) (lo' := [some (.ref a0), some (.int x1), some (.int x2), none, some (.int x4), some (.int x5), some (.int x6), none, none]) (st' := [.int x6, .int x1, .ref a0]) [.aload_n 0, .iload_n 1, .iload 6] (by decide +kernel) rfl ?_
    obtain ⟨s10, h⟩ := h
    refine q_callV (ci := 11) (Mc := M_X11_staffs) (z := 2) (b := a0) (As := [.int x1, .int x6]) (st := []) mo_X11_staffs mi_X11_staffs ml_X11_294_X11_staffs rfl rfl (by decide) rfl (by decide) (by decide) rfl (Nat.le_of_ble_eq_true rfl) (by decide +kernel) s10 h (q_fI fun r9 A8 h => ?_)
    show q_Wp _ _ _ _ 0 0 77 [some (.ref a0), some (.int x1), some (.int x2), none, some (.int x4), some (.int x5), some (.int x6), none, none] [.int r9] A8
    refine q_blk (pc' := 81) (lo' := [some (.ref a0), some (.int x1), some (.int x2), none, some (.int x4), some (.int x5), some (.int x6), some (.int r9), none]) (st' := [.int x2, .ref a0]) [.istore 7, .aload_n 0, .iload_n 2] (by decide +kernel) rfl ?_
    obtain ⟨s13, h⟩ := h
    refine q_callV (ci := 11) (Mc := M_X11_ticks) (z := 1) (b := a0) (As := [.int x2]) (st := []) mo_X11_ticks mi_X11_ticks ml_X11_299_X11_ticks rfl rfl (by decide) rfl (by decide) (by decide) rfl (Nat.le_of_ble_eq_true rfl) (by decide +kernel) s13 h (q_fV fun A11 h => ?_)
    show q_Wp _ _ _ _ 0 0 84 [some (.ref a0), some (.int x1), some (.int x2), none, some (.int x4), some (.int x5), some (.int x6), some (.int r9), none] [] A11
    refine q_blk (pc' := 85) (lo' := [some (.ref a0), some (.int x1), some (.int x2), none, some (.int x4), some (.int x5), some (.int x6), some (.int r9), none]) (st' := [.ref a0]) [.aload_n 0] (by decide +kernel) rfl ?_
    obtain ⟨s14, h⟩ := h
    obtain ⟨r15, e16, h⟩ := h
    refine q_getR fl_X11_30 rfl (by decide) (by decide +kernel) s14 e16 ?_
    refine q_blk (pc' := 90) (lo' := [some (.ref a0), some (.int x1), some (.int x2), none, some (.int x4), some (.int x5), some (.int x6), some (.int r9), none]) (st' := [.int (nI 3), .int x1, .ref r15]) [.iload_n 1, .iconst 3] (by decide +kernel) rfl ?_
    refine q_callS (Mc := M_X11_placeAt) (z := 2) (As := [.int x1, .int (nI 3)]) (st := [.ref r15]) mo_X11_placeAt ms_X11_placeAt ml_X11_141_X11_placeAt rfl rfl (by decide) (by decide) rfl (Nat.le_of_ble_eq_true rfl) (by decide +kernel) h (q_fI fun r18 A17 h => ?_)
    show q_Wp _ _ _ _ 0 0 93 [some (.ref a0), some (.int x1), some (.int x2), none, some (.int x4), some (.int x5), some (.int x6), some (.int r9), none] [.int r18, .ref r15] A17
    obtain ⟨z20, s19, b21, h⟩ := h
    obtain ⟨j22, e23, h⟩ := h
    obtain ⟨l24, h⟩ := h
    refine q_iald e23 (by decide +kernel) s19 l24 b21 ?_
    refine q_blk (pc' := 99) (lo' := [some (.ref a0), some (.int x1), some (.int x2), none, some (.int x4), some (.int x5), some (.int x6), some (.int r9), some (.int (q_I A17 r15 j22))]) (st' := [.int (-1), .int x4]) [.istore 8, .iload 4, .iconst (-1)] (by decide +kernel) rfl ?_
    refine q_icmp_eq 112 (off := 13) (by decide +kernel) (by decide) (fun c25 => ?_) (fun c25 => ?_)
    · have h := h.1 c25
      refine q_blk (pc' := 123) (lo' := [some (.ref a0), some (.int x1), some (.int x2), none, some (.int x6), some (.int (q_I A17 r15 j22)), some (.int (x6 + (nI 1))), some (.int r9), some (.int (q_I A17 r15 j22))]) (st' := []) [.iload 6, .istore 4, .iload 8, .istore 5, .iinc 6 1] (by decide +kernel) rfl ?_
      refine q_goto 59 (off := -64) (by decide +kernel) (by decide) ?_
      exact q_wk [some (.ref a0), some (.int x1), some (.int x2), none, some (.int x6), some (.int (q_I A17 r15 j22)), some (.int (x6 + (nI 1))), none, none] (And.intro rfl (And.intro rfl (And.intro rfl (And.intro rfl (And.intro rfl (And.intro rfl trivial)))))) h
    · have h := h.2 c25
      refine q_blk (pc' := 106) (lo' := [some (.ref a0), some (.int x1), some (.int x2), none, some (.int x4), some (.int x5), some (.int x6), some (.int r9), some (.int (q_I A17 r15 j22))]) (st' := [.int x5, .int (q_I A17 r15 j22)]) [.iload 8, .iload 5] (by decide +kernel) rfl ?_
      refine q_icmp_gt 112 (off := 6) (by decide +kernel) (by decide) (fun c26 => ?_) (fun c26 => ?_)
      · have h := h.1 c26
        refine q_blk (pc' := 123) (lo' := [some (.ref a0), some (.int x1), some (.int x2), none, some (.int x6), some (.int (q_I A17 r15 j22)), some (.int (x6 + (nI 1))), some (.int r9), some (.int (q_I A17 r15 j22))]) (st' := []) [.iload 6, .istore 4, .iload 8, .istore 5, .iinc 6 1] (by decide +kernel) rfl ?_
        refine q_goto 59 (off := -64) (by decide +kernel) (by decide) ?_
        exact q_wk [some (.ref a0), some (.int x1), some (.int x2), none, some (.int x6), some (.int (q_I A17 r15 j22)), some (.int (x6 + (nI 1))), none, none] (And.intro rfl (And.intro rfl (And.intro rfl (And.intro rfl (And.intro rfl (And.intro rfl trivial)))))) h
      · have h := h.2 c26
        refine q_goto 120 (off := 11) (by decide +kernel) (by decide) ?_
        refine q_blk (pc' := 123) (lo' := [some (.ref a0), some (.int x1), some (.int x2), none, some (.int x4), some (.int x5), some (.int (x6 + (nI 1))), some (.int r9), some (.int (q_I A17 r15 j22))]) (st' := []) [.iinc 6 1] (by decide +kernel) rfl ?_
        refine q_goto 59 (off := -64) (by decide +kernel) (by decide) ?_
        exact q_wk [some (.ref a0), some (.int x1), some (.int x2), none, some (.int x4), some (.int x5), some (.int (x6 + (nI 1))), none, none] (And.intro rfl (And.intro rfl (And.intro rfl (And.intro rfl (And.intro rfl (And.intro rfl trivial)))))) h
theorem f_X11_isEmpty {G : q_G} {X : String → q_H → Prop} {f : Bool → q_H → Prop} {A : q_H} {a0 : Nat} (h : q_sh A a0 = (12, 0) ∧ ∃ r2 : Nat, q_R A a0 6 = some r2 ∧ ∃ z5 : Nat, q_sh A r2 = (50, z5) ∧ z5 < 2147483648 ∧ 9 < z5 ∧ (((q_I A r2 9) = nI 0 → q_Wc G M_X11_onBelt [.ref a0] A (q_KI fun r10 A9 => ((r10 = nI 0 → f true A9) ∧ (¬ r10 = nI 0 → f false A9))) q_nX) ∧ (¬ (q_I A r2 9) = nI 0 → f false A))) : q_Wc G M_X11_isEmpty [.ref a0] A (q_KB f) X := by
  refine q_Wc.of [some (.ref a0)] mo_X11_isEmpty.2.2.2.2.2 rfl (Nat.le_of_ble_eq_true rfl) rfl ?_
  refine q_blk (pc' := 1) (lo' := [some (.ref a0)]) (st' := [.ref a0]) [.aload_n 0] (by decide +kernel) rfl ?_
  obtain ⟨s1, h⟩ := h
  obtain ⟨r2, e3, h⟩ := h
  refine q_getR fl_X11_30 rfl (by decide) (by decide +kernel) s1 e3 ?_
  refine q_blk (pc' := 6) (lo' := [some (.ref a0)]) (st' := [.int (nI 9), .ref r2]) [.bipush 9] (by decide +kernel) rfl ?_
  obtain ⟨z5, s4, b6, h⟩ := h
  obtain ⟨l7, h⟩ := h
  refine q_iald rfl (by decide +kernel) s4 l7 b6 ?_
  refine q_if_ne 21 (off := 14) (by decide +kernel) (by decide) (fun c8 => ?_) (fun c8 => ?_)
  · have h := h.2 c8
    refine q_blk (pc' := 22) (lo' := [some (.ref a0)]) (st' := [.int (nI 0)]) [.iconst 0] (by decide +kernel) rfl ?_
    exact q_retZ (r := q_i false) rfl (q_nz _) (by decide) (by decide) (by decide +kernel) ⟨false, rfl, h⟩
  · have h := h.1 c8
    refine q_blk (pc' := 11) (lo' := [some (.ref a0)]) (st' := [.ref a0]) [.aload_n 0] (by decide +kernel) rfl ?_
    refine q_callV (ci := 11) (Mc := M_X11_onBelt) (z := 0) (b := a0) (As := []) (st := []) mo_X11_onBelt mi_X11_onBelt ml_X11_255_X11_onBelt rfl rfl (by decide) rfl (by decide) (by decide) rfl (Nat.le_of_ble_eq_true rfl) (by decide +kernel) s1 h (q_fI fun r10 A9 h => ?_)
    show q_Wp _ _ _ _ 0 0 14 [some (.ref a0)] [.int r10] A9
    refine q_if_ne 21 (off := 7) (by decide +kernel) (by decide) (fun c11 => ?_) (fun c11 => ?_)
    · have h := h.2 c11
      refine q_blk (pc' := 22) (lo' := [some (.ref a0)]) (st' := [.int (nI 0)]) [.iconst 0] (by decide +kernel) rfl ?_
      exact q_retZ (r := q_i false) rfl (q_nz _) (by decide) (by decide) (by decide +kernel) ⟨false, rfl, h⟩
    · have h := h.1 c11
      refine q_blk (pc' := 18) (lo' := [some (.ref a0)]) (st' := [.int (nI 1)]) [.iconst 1] (by decide +kernel) rfl ?_
      refine q_goto 22 (off := 4) (by decide +kernel) (by decide) ?_
      exact q_retZ (r := q_i true) rfl (q_nz _) (by decide) (by decide) (by decide +kernel) ⟨true, rfl, h⟩
theorem f_X11_emptied {G : q_G} {X : String → q_H → Prop} {f : Int32 → q_H → Prop} {A : q_H} {a0 : Nat} (h : q_sh A a0 = (12, 0) ∧ q_Wc G M_X11_goesAside [.ref a0] (q_setI A a0 0 (nI 0)) (q_KV fun A2 => q_Wp G M_X11_emptied (q_KI f) X 0 0 11 [some (.ref a0), some (.int (nI 0)), none] [] A2) q_nX) : q_Wc G M_X11_emptied [.ref a0] A (q_KI f) X := by
  refine q_Wc.of [some (.ref a0), none, none] mo_X11_emptied.2.2.2.2.2 rfl (Nat.le_of_ble_eq_true rfl) rfl ?_
  refine q_blk (pc' := 2) (lo' := [some (.ref a0), none, none]) (st' := [.int (nI 0), .ref a0]) [.aload_n 0, .iconst 0] (by decide +kernel) rfl ?_
  obtain ⟨s1, h⟩ := h
  refine q_putI fw_X11_1 rfl (by decide) (by decide +kernel) s1 ?_
  refine q_blk (pc' := 6) (lo' := [some (.ref a0), none, none]) (st' := [.ref a0]) [.aload_n 0] (by decide +kernel) rfl ?_
  refine q_callV (ci := 11) (Mc := M_X11_goesAside) (z := 0) (b := a0) (As := []) (st := []) mo_X11_goesAside mi_X11_goesAside ml_X11_320_X11_goesAside rfl rfl (by decide) rfl (by decide) (by decide) rfl (Nat.le_of_ble_eq_true rfl) (by decide +kernel) s1 h (q_fV fun A2 h => ?_)
  show q_Wp _ _ _ _ 0 0 9 [some (.ref a0), none, none] [] A2
  refine q_blk (pc' := 11) (lo' := [some (.ref a0), some (.int (nI 0)), none]) (st' := []) [.iconst 0, .istore_n 1] (by decide +kernel) rfl ?_
  exact h
theorem f_X11_emptied_11 {G : q_G} {X : String → q_H → Prop} {f : Int32 → q_H → Prop} {A : q_H} {a0 : Nat} {x1 : Int32} (h : (((nI 400) ≤ x1 → q_sh A a0 = (12, 0) ∧ q_Wc G M_X11_isEmpty [.ref a0] A (q_KB fun b3 A2 => q_sh A2 a0 = (12, 0) ∧ q_Wc G M_X11_comesBack [.ref a0] A2 (q_KV fun A5 => ((b3 = true → f x1 A5) ∧ (b3 = false → f (-1) A5))) q_nX) q_nX) ∧ (¬ (nI 400) ≤ x1 → q_sh A a0 = (12, 0) ∧ q_Wc G M_X11_isEmpty [.ref a0] A (q_KB fun b11 A10 => ((b11 = true → q_sh A10 a0 = (12, 0) ∧ q_Wc G M_X11_isEmpty [.ref a0] A10 (q_KB fun b16 A15 => q_sh A15 a0 = (12, 0) ∧ q_Wc G M_X11_comesBack [.ref a0] A15 (q_KV fun A18 => ((b16 = true → f x1 A18) ∧ (b16 = false → f (-1) A18))) q_nX) q_nX) ∧ (b11 = false → q_sh A10 a0 = (12, 0) ∧ q_Wc G M_X11_ticks [.ref a0, .int (nI 1)] A10 (q_KV fun A23 => q_Wp G M_X11_emptied (q_KI f) X 0 0 11 [some (.ref a0), some (.int (x1 + (nI 1))), none] [] A23) q_nX))) q_nX))) : q_Wp G M_X11_emptied (q_KI f) X 0 0 11 [some (.ref a0), some (.int x1), none] [] A := by
  refine q_blk (pc' := 15) (lo' := [some (.ref a0), some (.int x1), none]) (st' := [.int (nI 400), .int x1]) [.iload_n 1, .sipush 400] (by decide +kernel) rfl ?_
  refine q_icmp_ge 36 (off := 21) (by decide +kernel) (by decide) (fun c1 => ?_) (fun c1 => ?_)
  · have h := h.1 c1
    refine q_blk (pc' := 37) (lo' := [some (.ref a0), some (.int x1), none]) (st' := [.ref a0]) [.aload_n 0] (by decide +kernel) rfl ?_
    obtain ⟨s4, h⟩ := h
    refine q_callV (ci := 11) (Mc := M_X11_isEmpty) (z := 0) (b := a0) (As := []) (st := []) mo_X11_isEmpty mi_X11_isEmpty ml_X11_328_X11_isEmpty rfl rfl (by decide) rfl (by decide) (by decide) rfl (Nat.le_of_ble_eq_true rfl) (by decide +kernel) s4 h (q_fB fun b3 A2 h => ?_)
    show q_Wp _ _ _ _ 0 0 40 [some (.ref a0), some (.int x1), none] [.int (q_i b3)] A2
    refine q_blk (pc' := 42) (lo' := [some (.ref a0), some (.int x1), some (.int (q_i b3))]) (st' := [.ref a0]) [.istore_n 2, .aload_n 0] (by decide +kernel) rfl ?_
    obtain ⟨s7, h⟩ := h
    refine q_callV (ci := 11) (Mc := M_X11_comesBack) (z := 0) (b := a0) (As := []) (st := []) mo_X11_comesBack mi_X11_comesBack ml_X11_323_X11_comesBack rfl rfl (by decide) rfl (by decide) (by decide) rfl (Nat.le_of_ble_eq_true rfl) (by decide +kernel) s7 h (q_fV fun A5 h => ?_)
    show q_Wp _ _ _ _ 0 0 45 [some (.ref a0), some (.int x1), some (.int (q_i b3))] [] A5
    refine q_blk (pc' := 46) (lo' := [some (.ref a0), some (.int x1), some (.int (q_i b3))]) (st' := [.int (q_i b3)]) [.iload_n 2] (by decide +kernel) rfl ?_
    refine q_ifB_eq 53 (off := 7) (by decide +kernel) (by decide) (fun c8 => ?_) (fun c8 => ?_)
    · have h := h.2 c8
      refine q_blk (pc' := 54) (lo' := [some (.ref a0), some (.int x1), some (.int (q_i b3))]) (st' := [.int (-1)]) [.iconst (-1)] (by decide +kernel) rfl ?_
      exact q_retI rfl (by decide) (by decide) (by decide +kernel) ⟨_, rfl, h⟩
    · have h := h.1 c8
      refine q_blk (pc' := 50) (lo' := [some (.ref a0), some (.int x1), some (.int (q_i b3))]) (st' := [.int x1]) [.iload_n 1] (by decide +kernel) rfl ?_
      refine q_goto 54 (off := 4) (by decide +kernel) (by decide) ?_
      exact q_retI rfl (by decide) (by decide) (by decide +kernel) ⟨_, rfl, h⟩
  · have h := h.2 c1
    refine q_blk (pc' := 19) (lo' := [some (.ref a0), some (.int x1), none]) (st' := [.ref a0]) [.aload_n 0] (by decide +kernel) rfl ?_
    obtain ⟨s12, h⟩ := h
    refine q_callV (ci := 11) (Mc := M_X11_isEmpty) (z := 0) (b := a0) (As := []) (st := []) mo_X11_isEmpty mi_X11_isEmpty ml_X11_328_X11_isEmpty rfl rfl (by decide) rfl (by decide) (by decide) rfl (Nat.le_of_ble_eq_true rfl) (by decide +kernel) s12 h (q_fB fun b11 A10 h => ?_)
    show q_Wp _ _ _ _ 0 0 22 [some (.ref a0), some (.int x1), none] [.int (q_i b11)] A10
    refine q_ifB_ne 36 (off := 14) (by decide +kernel) (by decide) (fun c13 => ?_) (fun c13 => ?_)
    · have h := h.1 c13
      refine q_blk (pc' := 37) (lo' := [some (.ref a0), some (.int x1), none]) (st' := [.ref a0]) [.aload_n 0] (by decide +kernel) rfl ?_
      obtain ⟨s17, h⟩ := h
      refine q_callV (ci := 11) (Mc := M_X11_isEmpty) (z := 0) (b := a0) (As := []) (st := []) mo_X11_isEmpty mi_X11_isEmpty ml_X11_328_X11_isEmpty rfl rfl (by decide) rfl (by decide) (by decide) rfl (Nat.le_of_ble_eq_true rfl) (by decide +kernel) s17 h (q_fB fun b16 A15 h => ?_)
      show q_Wp _ _ _ _ 0 0 40 [some (.ref a0), some (.int x1), none] [.int (q_i b16)] A15
      refine q_blk (pc' := 42) (lo' := [some (.ref a0), some (.int x1), some (.int (q_i b16))]) (st' := [.ref a0]) [.istore_n 2, .aload_n 0] (by decide +kernel) rfl ?_
      obtain ⟨s20, h⟩ := h
      refine q_callV (ci := 11) (Mc := M_X11_comesBack) (z := 0) (b := a0) (As := []) (st := []) mo_X11_comesBack mi_X11_comesBack ml_X11_323_X11_comesBack rfl rfl (by decide) rfl (by decide) (by decide) rfl (Nat.le_of_ble_eq_true rfl) (by decide +kernel) s20 h (q_fV fun A18 h => ?_)
      show q_Wp _ _ _ _ 0 0 45 [some (.ref a0), some (.int x1), some (.int (q_i b16))] [] A18
      refine q_blk (pc' := 46) (lo' := [some (.ref a0), some (.int x1), some (.int (q_i b16))]) (st' := [.int (q_i b16)]) [.iload_n 2] (by decide +kernel) rfl ?_
      refine q_ifB_eq 53 (off := 7) (by decide +kernel) (by decide) (fun c21 => ?_) (fun c21 => ?_)
      · have h := h.2 c21
        refine q_blk (pc' := 54) (lo' := [some (.ref a0), some (.int x1), some (.int (q_i b16))]) (st' := [.int (-1)]) [.iconst (-1)] (by decide +kernel) rfl ?_
        exact q_retI rfl (by decide) (by decide) (by decide +kernel) ⟨_, rfl, h⟩
      · have h := h.1 c21
        refine q_blk (pc' := 50) (lo' := [some (.ref a0), some (.int x1), some (.int (q_i b16))]) (st' := [.int x1]) [.iload_n 1] (by decide +kernel) rfl ?_
        refine q_goto 54 (off := 4) (by decide +kernel) (by decide) ?_
        exact q_retI rfl (by decide) (by decide) (by decide +kernel) ⟨_, rfl, h⟩
    · have h := h.2 c13
      refine q_blk (pc' := 27) (lo' := [some (.ref a0), some (.int x1), none]) (st' := [.int (nI 1), .ref a0]) [.aload_n 0, .iconst 1] (by decide +kernel) rfl ?_
      obtain ⟨s25, h⟩ := h
      refine q_callV (ci := 11) (Mc := M_X11_ticks) (z := 1) (b := a0) (As := [.int (nI 1)]) (st := []) mo_X11_ticks mi_X11_ticks ml_X11_299_X11_ticks rfl rfl (by decide) rfl (by decide) (by decide) rfl (Nat.le_of_ble_eq_true rfl) (by decide +kernel) s25 h (q_fV fun A23 h => ?_)
      show q_Wp _ _ _ _ 0 0 30 [some (.ref a0), some (.int x1), none] [] A23
      refine q_blk (pc' := 33) (lo' := [some (.ref a0), some (.int (x1 + (nI 1))), none]) (st' := []) [.iinc 1 1] (by decide +kernel) rfl ?_
      refine q_goto 11 (off := -22) (by decide +kernel) (by decide) ?_
      exact h

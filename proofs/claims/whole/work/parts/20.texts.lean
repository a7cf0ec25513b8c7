/-! THE TEXTS' OWN METHODS -/
section QT
variable {G : q_G} {M : q_M} {K : Option Value → q_H → Prop} {X : String → q_H → Prop} {k n pc : Nat} {lo lo' : List (Option Value)} {st st' : List Value} {A : q_H}
theorem q_i2c {x : Int32} (hd : decode (q_cc M) pc = .ok (.i2c, 1)) (h : q_Wp G M K X k n (pc + 1) lo (.int (x.toUInt32 % 65536).toInt32 :: st) A) : q_Wp G M K X k n pc lo (.int x :: st) A :=
  fun p e s m args below meth c C H locs ls hR hS hl => lv_i2c C.1 C.2.1 hd rfl (h p e s m args below meth c C H locs ls hR hS hl)
theorem q_retC {r : Int32} {ty : FieldType} (hrt : q_rt M = some ty) (hz : narrow ty (.int r) = .int r) (hk : k ≤ (q_rm M).cells) (hn : n ≤ (q_rm M).slots) (hd : decode (q_cc M) pc = .ok (.ireturn, 1)) (h : K (some (.int r)) A) : q_Wp G M K X k n pc lo [.int r] A := q_retZ hrt hz hk hn hd h
end QT
theorem q_txt_ok : ∀ (i : Nat) (q : String × Nat × String × List Int32), q_txt[i]? = some q → q.2.2.2.length < 100 ∧ ∀ b ∈ q.2.2.2, b &&& 255 = b := by
  have h : q_txt.all (fun q => decide (q.2.2.2.length < 100) && q.2.2.2.all fun b => decide (b &&& 255 = b)) = true := by decide +kernel
  intro i q hq
  have := List.all_eq_true.mp h q (List.mem_of_getElem? hq)
  rw [Bool.and_eq_true, decide_eq_true_eq, List.all_eq_true] at this
  exact ⟨this.1, fun b hb => by have := this.2 b hb; simpa using this⟩
section QU
variable {G : q_G} {X : String → q_H → Prop} {A : q_H} {t0 : Nat} {q0 : String × Nat × String × List Int32}
theorem c_coder {f : Int32 → q_H → Prop} (hq0 : q_txt[t0]? = some q0) (h : f 0 A) : q_Wc G M_J0_coder_7d493 [.ref (q_aK G t0)] A (q_KI f) X := by
  refine q_Wc.of [some (.ref (q_aK G t0))] mo_J0_coder_7d493.2.2.2.2.2 rfl (Nat.le_of_ble_eq_true rfl) rfl ?_
  refine q_getCS jl_J0_38 (by decide +kernel) ?_
  refine q_if_eq 13 (off := 10) (by decide +kernel) (by decide) (fun c => absurd c (by decide)) (fun _ => ?_)
  refine q_blk (pc' := 7) (lo' := [some (.ref (q_aK G t0))]) (st' := [.ref (q_aK G t0)]) [.aload_n 0] (by decide +kernel) rfl ?_
  refine q_strC hq0 jl_J0_15 (by decide +kernel) ?_
  refine q_goto 14 (off := 4) (by decide +kernel) (by decide) ?_
  exact q_retC rfl rfl (by decide) (by decide) (by decide +kernel) ⟨_, rfl, h⟩
theorem c_isLatin1 {f : Bool → q_H → Prop} (hq0 : q_txt[t0]? = some q0) (h : f true A) : q_Wc G M_J0_isLatin1_aae02 [.ref (q_aK G t0)] A (q_KB f) X := by
  refine q_Wc.of [some (.ref (q_aK G t0))] mo_J0_isLatin1_aae02.2.2.2.2.2 rfl (Nat.le_of_ble_eq_true rfl) rfl ?_
  refine q_getCS jl_J0_38 (by decide +kernel) ?_
  refine q_if_eq 17 (off := 14) (by decide +kernel) (by decide) (fun c => absurd c (by decide)) (fun _ => ?_)
  refine q_blk (pc' := 7) (lo' := [some (.ref (q_aK G t0))]) (st' := [.ref (q_aK G t0)]) [.aload_n 0] (by decide +kernel) rfl ?_
  refine q_strC hq0 jl_J0_15 (by decide +kernel) ?_
  refine q_if_ne 17 (off := 7) (by decide +kernel) (by decide) (fun c => absurd rfl c) (fun _ => ?_)
  refine q_blk (pc' := 14) (lo' := [some (.ref (q_aK G t0))]) (st' := [.int (nI 1)]) [.iconst 1] (by decide +kernel) rfl ?_
  refine q_goto 18 (off := 4) (by decide +kernel) (by decide) ?_
  exact q_retZ (r := q_i true) rfl (q_nz _) (by decide) (by decide) (by decide +kernel) ⟨true, rfl, h⟩
theorem c_length {f : Int32 → q_H → Prop} (hq0 : q_txt[t0]? = some q0) (h : f (nI q0.2.2.2.length) A) : q_Wc G M_J0_length_8abf5 [.ref (q_aK G t0)] A (q_KI f) X := by
  refine q_Wc.of [some (.ref (q_aK G t0))] mo_J0_length_8abf5.2.2.2.2.2 rfl (Nat.le_of_ble_eq_true rfl) rfl ?_
  refine q_blk (pc' := 1) (lo' := [some (.ref (q_aK G t0))]) (st' := [.ref (q_aK G t0)]) [.aload_n 0] (by decide +kernel) rfl ?_
  refine q_strV hq0 jl_J0_9 (by decide +kernel) ?_
  refine q_strL hq0 (by decide +kernel) ?_
  refine q_blk (pc' := 6) (lo' := [some (.ref (q_aK G t0))]) (st' := [.ref (q_aK G t0), .int (nI q0.2.2.2.length)]) [.aload_n 0] (by decide +kernel) rfl ?_
  refine q_callVS (i := t0) (Mc := M_J0_coder_7d493) (z := 0) (As := []) (st := [.int (nI q0.2.2.2.length)]) hq0 mo_J0_coder_7d493 mi_J0_coder_7d493 ml_J0_335_J0_coder_7d493 rfl rfl rfl (by decide) (by decide) rfl (Nat.le_of_ble_eq_true rfl) (by decide +kernel) (c_coder hq0 (f := fun r A1 => r = 0 ∧ A1 = A) ⟨rfl, rfl⟩) (q_fI fun r A1 hr => ?_)
  obtain ⟨rfl, rfl⟩ := hr
  show q_Wp _ _ _ _ 0 0 9 [some (.ref (q_aK G t0))] [.int 0, .int (nI q0.2.2.2.length)] A1
  refine q_blk (pc' := 10) (lo' := [some (.ref (q_aK G t0))]) (st' := [.int (nI q0.2.2.2.length >>> ((0 : Int32) &&& 31))]) [.ishr] (by decide +kernel) rfl ?_
  rw [sc_shr0 (by have := (q_txt_ok t0 q0 hq0).1; omega)]
  exact q_retI rfl (by decide) (by decide) (by decide +kernel) ⟨_, rfl, h⟩
theorem c_checkIndex3 {f : Int32 → q_H → Prop} {i z t : Nat} (hi : i < z) (hz : z < 2147483648) (h : f (nI i) A) : q_Wc G M_J3_checkIndex_8e157 [.int (nI i), .int (nI z), .ref t] A (q_KI f) X := by
  refine q_Wc.of [some (.int (nI i)), some (.int (nI z)), some (.ref t)] mo_J3_checkIndex_8e157.2.2.2.2.2 rfl (Nat.le_of_ble_eq_true rfl) rfl ?_
  refine q_blk (pc' := 1) (lo' := [some (.int (nI i)), some (.int (nI z)), some (.ref t)]) (st' := [.int (nI i)]) [.iload_n 0] (by decide +kernel) rfl ?_
  refine q_if_lt 9 (off := 8) (by decide +kernel) (by decide) (fun c => absurd c (nI_pos (by omega))) (fun _ => ?_)
  refine q_blk (pc' := 6) (lo' := [some (.int (nI i)), some (.int (nI z)), some (.ref t)]) (st' := [.int (nI z), .int (nI i)]) [.iload_n 0, .iload_n 1] (by decide +kernel) rfl ?_
  refine q_icmp_lt 16 (off := 10) (by decide +kernel) (by decide) (fun _ => ?_) (fun c => absurd (nI_lt hi hz) c)
  refine q_blk (pc' := 17) (lo' := [some (.int (nI i)), some (.int (nI z)), some (.ref t)]) (st' := [.int (nI i)]) [.iload_n 0] (by decide +kernel) rfl ?_
  exact q_retI rfl (by decide) (by decide) (by decide +kernel) ⟨_, rfl, h⟩
theorem c_checkIndex3n {f : Int32 → q_H → Prop} {i z : Nat} (hi : i < z) (hz : z < 2147483648) (h : f (nI i) A) : q_Wc G M_J3_checkIndex_8e157 [.int (nI i), .int (nI z), .null] A (q_KI f) X := by
  refine q_Wc.of [some (.int (nI i)), some (.int (nI z)), some (.null)] mo_J3_checkIndex_8e157.2.2.2.2.2 rfl (Nat.le_of_ble_eq_true rfl) rfl ?_
  refine q_blk (pc' := 1) (lo' := [some (.int (nI i)), some (.int (nI z)), some (.null)]) (st' := [.int (nI i)]) [.iload_n 0] (by decide +kernel) rfl ?_
  refine q_if_lt 9 (off := 8) (by decide +kernel) (by decide) (fun c => absurd c (nI_pos (by omega))) (fun _ => ?_)
  refine q_blk (pc' := 6) (lo' := [some (.int (nI i)), some (.int (nI z)), some (.null)]) (st' := [.int (nI z), .int (nI i)]) [.iload_n 0, .iload_n 1] (by decide +kernel) rfl ?_
  refine q_icmp_lt 16 (off := 10) (by decide +kernel) (by decide) (fun _ => ?_) (fun c => absurd (nI_lt hi hz) c)
  refine q_blk (pc' := 17) (lo' := [some (.int (nI i)), some (.int (nI z)), some (.null)]) (st' := [.int (nI i)]) [.iload_n 0] (by decide +kernel) rfl ?_
  exact q_retI rfl (by decide) (by decide) (by decide +kernel) ⟨_, rfl, h⟩
theorem c_checkIndex0 {f : q_H → Prop} {i z : Nat} (hi : i < z) (hz : z < 2147483648) (h : f A) : q_Wc G M_J0_checkIndex_df160 [.int (nI i), .int (nI z)] A (q_KV f) X := by
  refine q_Wc.of [some (.int (nI i)), some (.int (nI z))] mo_J0_checkIndex_df160.2.2.2.2.2 rfl (Nat.le_of_ble_eq_true rfl) rfl ?_
  refine q_blk (pc' := 2) (lo' := [some (.int (nI i)), some (.int (nI z))]) (st' := [.int (nI z), .int (nI i)]) [.iload_n 0, .iload_n 1] (by decide +kernel) rfl ?_
  refine q_getFo jl_J0_1053 (by decide +kernel) (fun t => ?_) ?_
  · refine q_callS (Mc := M_J3_checkIndex_8e157) (z := 3) (As := [.int (nI i), .int (nI z), .ref t]) (st := []) mo_J3_checkIndex_8e157 ms_J3_checkIndex_8e157 ml_J0_1059_J3_checkIndex_8e157 rfl rfl (by decide) (by decide) rfl (Nat.le_of_ble_eq_true rfl) (by decide +kernel) (c_checkIndex3 hi hz (f := fun r A1 => r = nI i ∧ A1 = A) ⟨rfl, rfl⟩) (q_fI fun r A1 hr => ?_)
    obtain ⟨rfl, rfl⟩ := hr
    show q_Wp _ _ _ _ 0 0 8 [some (.int (nI i)), some (.int (nI z))] [.int (nI i)] A1
    refine q_blk (pc' := 9) (lo' := [some (.int (nI i)), some (.int (nI z))]) (st' := []) [.pop] (by decide +kernel) rfl ?_
    exact q_ret0 rfl (by decide) (by decide) (by decide +kernel) ⟨rfl, h⟩
  · refine q_callS (Mc := M_J3_checkIndex_8e157) (z := 3) (As := [.int (nI i), .int (nI z), .null]) (st := []) mo_J3_checkIndex_8e157 ms_J3_checkIndex_8e157 ml_J0_1059_J3_checkIndex_8e157 rfl rfl (by decide) (by decide) rfl (Nat.le_of_ble_eq_true rfl) (by decide +kernel) (c_checkIndex3n hi hz (f := fun r A1 => r = nI i ∧ A1 = A) ⟨rfl, rfl⟩) (q_fI fun r A1 hr => ?_)
    obtain ⟨rfl, rfl⟩ := hr
    show q_Wp _ _ _ _ 0 0 8 [some (.int (nI i)), some (.int (nI z))] [.int (nI i)] A1
    refine q_blk (pc' := 9) (lo' := [some (.int (nI i)), some (.int (nI z))]) (st' := []) [.pop] (by decide +kernel) rfl ?_
    exact q_ret0 rfl (by decide) (by decide) (by decide +kernel) ⟨rfl, h⟩
theorem c_charAt1 {f : Int32 → q_H → Prop} {j : Nat} (hq0 : q_txt[t0]? = some q0) (hj : j < q0.2.2.2.length) (h : f (q0.2.2.2.getD j 0) A) : q_Wc G M_J1_charAt_3b067 [.ref (q_aV G t0), .int (nI j)] A (q_KI f) X := by
  obtain ⟨hl, hb⟩ := q_txt_ok t0 q0 hq0
  refine q_Wc.of [some (.ref (q_aV G t0)), some (.int (nI j))] mo_J1_charAt_3b067.2.2.2.2.2 rfl (Nat.le_of_ble_eq_true rfl) rfl ?_
  refine q_blk (pc' := 2) (lo' := [some (.ref (q_aV G t0)), some (.int (nI j))]) (st' := [.ref (q_aV G t0), .int (nI j)]) [.iload_n 1, .aload_n 0] (by decide +kernel) rfl ?_
  refine q_strL hq0 (by decide +kernel) ?_
  refine q_callS (Mc := M_J0_checkIndex_df160) (z := 2) (As := [.int (nI j), .int (nI q0.2.2.2.length)]) (st := []) mo_J0_checkIndex_df160 ms_J0_checkIndex_df160 ml_J1_9_J0_checkIndex_df160 rfl rfl (by decide) (by decide) rfl (Nat.le_of_ble_eq_true rfl) (by decide +kernel) (c_checkIndex0 hj (by omega) (f := fun A1 => A1 = A) rfl) (q_fV fun A1 hr => ?_)
  subst hr
  show q_Wp _ _ _ _ 0 0 6 [some (.ref (q_aV G t0)), some (.int (nI j))] [] A1
  refine q_blk (pc' := 8) (lo' := [some (.ref (q_aV G t0)), some (.int (nI j))]) (st' := [.int (nI j), .ref (q_aV G t0)]) [.aload_n 0, .iload_n 1] (by decide +kernel) rfl ?_
  refine q_strB hq0 rfl hj (by omega) (by decide +kernel) ?_
  refine q_blk (pc' := 13) (lo' := [some (.ref (q_aV G t0)), some (.int (nI j))]) (st' := [.int (q0.2.2.2.getD j 0 &&& 255)]) [.sipush 255, .iand] (by decide +kernel) rfl ?_
  refine q_i2c (by decide +kernel) ?_
  have e : ((q0.2.2.2.getD j 0 &&& 255).toUInt32 % 65536).toInt32 = q0.2.2.2.getD j 0 := by
    rw [sc_c2]
    refine hb _ ?_
    rw [List.getD_eq_getElem?_getD, List.getElem?_eq_getElem hj]
    exact List.getElem_mem hj
  have e2 : narrow .char (.int (q0.2.2.2.getD j 0)) = .int (q0.2.2.2.getD j 0) := by
    have := sc_nar (q0.2.2.2.getD j 0)
    rw [← sc_c2, e] at this
    exact this
  rw [e]
  exact q_retC rfl e2 (by decide) (by decide) (by decide +kernel) ⟨_, rfl, h⟩
theorem c_charAt {f : Int32 → q_H → Prop} {j : Nat} (hq0 : q_txt[t0]? = some q0) (hj : j < q0.2.2.2.length) (h : f (q0.2.2.2.getD j 0) A) : q_Wc G M_J0_charAt_5068e [.ref (q_aK G t0), .int (nI j)] A (q_KI f) X := by
  obtain ⟨hl, hb⟩ := q_txt_ok t0 q0 hq0
  refine q_Wc.of [some (.ref (q_aK G t0)), some (.int (nI j))] mo_J0_charAt_5068e.2.2.2.2.2 rfl (Nat.le_of_ble_eq_true rfl) rfl ?_
  refine q_blk (pc' := 1) (lo' := [some (.ref (q_aK G t0)), some (.int (nI j))]) (st' := [.ref (q_aK G t0)]) [.aload_n 0] (by decide +kernel) rfl ?_
  refine q_callVS (i := t0) (Mc := M_J0_isLatin1_aae02) (z := 0) (As := []) (st := []) hq0 mo_J0_isLatin1_aae02 mi_J0_isLatin1_aae02 ml_J0_492_J0_isLatin1_aae02 rfl rfl rfl (by decide) (by decide) rfl (Nat.le_of_ble_eq_true rfl) (by decide +kernel) (c_isLatin1 hq0 (f := fun r A1 => r = true ∧ A1 = A) ⟨rfl, rfl⟩) (q_fB fun r A1 hr => ?_)
  obtain ⟨rfl, rfl⟩ := hr
  show q_Wp _ _ _ _ 0 0 4 [some (.ref (q_aK G t0)), some (.int (nI j))] [.int (q_i true)] A1
  refine q_ifB_eq 16 (off := 12) (by decide +kernel) (by decide) (fun c => by cases c) (fun _ => ?_)
  refine q_blk (pc' := 8) (lo' := [some (.ref (q_aK G t0)), some (.int (nI j))]) (st' := [.ref (q_aK G t0)]) [.aload_n 0] (by decide +kernel) rfl ?_
  refine q_strV hq0 jl_J0_9 (by decide +kernel) ?_
  refine q_blk (pc' := 12) (lo' := [some (.ref (q_aK G t0)), some (.int (nI j))]) (st' := [.int (nI j), .ref (q_aV G t0)]) [.iload_n 1] (by decide +kernel) rfl ?_
  refine q_callS (Mc := M_J1_charAt_3b067) (z := 2) (As := [.ref (q_aV G t0), .int (nI j)]) (st := []) mo_J1_charAt_3b067 ms_J1_charAt_3b067 ml_J0_495_J1_charAt_3b067 rfl rfl (by decide) (by decide) rfl (Nat.le_of_ble_eq_true rfl) (by decide +kernel) (c_charAt1 hq0 hj (f := fun r A2 => r = q0.2.2.2.getD j 0 ∧ A2 = A1) ⟨rfl, rfl⟩) (q_fI fun r A2 hr => ?_)
  obtain ⟨rfl, rfl⟩ := hr
  show q_Wp _ _ _ _ 0 0 15 [some (.ref (q_aK G t0)), some (.int (nI j))] [.int (q0.2.2.2.getD j 0)] A2
  have e2 : narrow .char (.int (q0.2.2.2.getD j 0)) = .int (q0.2.2.2.getD j 0) := by
    have := sc_nar (q0.2.2.2.getD j 0)
    rw [hb _ (by rw [List.getD_eq_getElem?_getD, List.getElem?_eq_getElem hj]; exact List.getElem_mem hj)] at this
    exact this
  exact q_retC rfl e2 (by decide) (by decide) (by decide +kernel) ⟨_, rfl, h⟩
end QU

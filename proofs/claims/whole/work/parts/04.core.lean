/-! THE WORDS: the good ones of the tables, and those that hold of the tables alone -/
def q_UW : List Cond := lw_tbl.filter goodWord
def q_nw : Cond → Bool
  | .fieldLinkNest .. => true
  | .methodLinkNest .. => true
  | .castable .. => true
  | .declares .. => true
  | _ => false
def q_NW : List Cond := lw_tbl.filter q_nw
theorem q_uw {w : Cond} (i : Nat) (h : lw_tbl[i]? = some w) (g : goodWord w = true) : w ∈ q_UW := List.mem_filter.mpr ⟨List.mem_of_getElem? h, g⟩
theorem q_nwi {w : Cond} (i : Nat) (h : lw_tbl[i]? = some w) (g : q_nw w = true) : w ∈ q_NW := List.mem_filter.mpr ⟨List.mem_of_getElem? h, g⟩
theorem q_UW_good {w : Cond} (h : w ∈ q_UW) : (w.onTables && w.keeps) = true ∨ ∃ ty, w = .arrayClass ty := good_of_word (List.mem_filter.mp h).2
theorem q_nw_warm {w : Cond} (g : q_nw w = true) {s U : State} (hW : s.WarmedH U.vm) (h : va_Nw w s) : va_Nw w U := by
  cases w with
  | fieldLinkNest => exact va_Nw.warmF hW h
  | methodLinkNest => exact va_Nw.warmM hW h
  | castable => exact va_Nw.warmC hW h
  | declares => exact va_Nw.warmD hW h
  | _ => simp [q_nw] at g
theorem q_nw_same {w : Cond} (g : q_nw w = true) {u U : State} (hv : u.vm = U.vm) (h : va_Nw w u) : va_Nw w U := by
  refine va_Nw.same ?_ hv h
  cases w <;> first | rfl | (simp [q_nw] at g)
/-! WHAT STANDS BESIDE THE HEAP: static rows (by number: 0 least, 1 greatest, 2 first values), the texts (by number), the script, the throwables' statics -/
def q_sname : Nat → String
  | 0 => "LEAST_VALUES"
  | 1 => "GREATEST_VALUES"
  | _ => "FIRST_VALUES"
def q_sval : Nat → List Int32
  | 0 => [1, 20, 0, 0, 0, 0, 0, 0]
  | 1 => [200, 500, 100, 100, 100, 5, 5, 20]
  | _ => [50, 100, 95, 85, 20, 2, 1, 2]
def q_ao : List String := [RX0, RX1, RX4, RX5, RX6]
def q_ncs : List (String × String) := [("java/lang/IllegalArgumentException", "java/lang/IndexOutOfBoundsException"), ("java/lang/IndexOutOfBoundsException", "java/lang/IllegalArgumentException"), ("java/lang/IllegalStateException", "java/lang/IndexOutOfBoundsException"), ("java/lang/IllegalStateException", "java/lang/IllegalArgumentException")]
/-- a static row: where its static field holds it, and what it holds -/
def q_Sta (G : q_G) (i : Nat) (U : State) (H : Heap) : Prop := va_Z RX10 (q_sname i) "[I" (.ref (q_st G i)) (q_F G) U H ∧ va_T .int (q_st G i) 8 (fun j => .int ((q_sval i).getD j 0)) (q_F G) U H ∧ ∃ cell : Cell, H[q_st G i]? = some cell ∧ cell.cls = q_tA G 50 ∧ cell.slots.size = 8 ∧ ¬ q_F G (q_st G i)
/-- a text: its constant's reference, its object, its bytes -/
def q_Str (G : q_G) (i : Nat) (q : String × Nat × String × List Int32) (U : State) (H : Heap) : Prop :=
  vk_R q.1 q.2.1 q.2.2.1 (q_aK G i) U ∧ va_O "java/lang/String" (q_aK G i) (q_F G) U H ∧ va_OF "java/lang/String" "coder" "B" (.int 0) (q_aK G i) (q_F G) U H ∧ va_OF "java/lang/String" "value" "[B" (.ref (q_aV G i)) (q_aK G i) (q_F G) U H ∧ va_T .byte (q_aV G i) q.2.2.2.length (fun j => .int (q.2.2.2.getD j 0)) (q_F G) U H
def q_txt : List (String × Nat × String × List Int32) := [
  ("RecyclingLine$TextReader", 35, "materials", [109, 97, 116, 101, 114, 105, 97, 108, 115]),
  ("RecyclingLine$TextReader", 66, "station", [115, 116, 97, 116, 105, 111, 110]),
  ("RecyclingLine$TextReader", 71, "set", [115, 101, 116]),
  ("RecyclingLine$TextReader", 76, "load", [108, 111, 97, 100]),
  ("RecyclingLine$TextReader", 81, "buyer", [98, 117, 121, 101, 114]),
  ("RecyclingLine", 114, "no such setting", [110, 111, 32, 115, 117, 99, 104, 32, 115, 101, 116, 116, 105, 110, 103]),
  ("RecyclingLine", 127, "no such station", [110, 111, 32, 115, 117, 99, 104, 32, 115, 116, 97, 116, 105, 111, 110]),
  ("RecyclingLine", 180, "no such property of a station", [110, 111, 32, 115, 117, 99, 104, 32, 112, 114, 111, 112, 101, 114, 116, 121, 32, 111, 102, 32, 97, 32, 115, 116, 97, 116, 105, 111, 110]),
  ("RecyclingLine", 183, "no such place", [110, 111, 32, 115, 117, 99, 104, 32, 112, 108, 97, 99, 101]),
  ("RecyclingLine", 189, "no such material", [110, 111, 32, 115, 117, 99, 104, 32, 109, 97, 116, 101, 114, 105, 97, 108]),
  ("RecyclingLine", 202, "no such bale", [110, 111, 32, 115, 117, 99, 104, 32, 98, 97, 108, 101]),
  ("RecyclingLine", 219, "no such property of a bale", [110, 111, 32, 115, 117, 99, 104, 32, 112, 114, 111, 112, 101, 114, 116, 121, 32, 111, 102, 32, 97, 32, 98, 97, 108, 101]),
  ("RecyclingLine", 225, "no such buyer", [110, 111, 32, 115, 117, 99, 104, 32, 98, 117, 121, 101, 114]),
  ("RecyclingLine", 245, "no such property of a buyer", [110, 111, 32, 115, 117, 99, 104, 32, 112, 114, 111, 112, 101, 114, 116, 121, 32, 111, 102, 32, 97, 32, 98, 117, 121, 101, 114]),
  ("RecyclingLine", 277, "mass out of range", [109, 97, 115, 115, 32, 111, 117, 116, 32, 111, 102, 32, 114, 97, 110, 103, 101]),
  ("RecyclingLine", 284, "the hopper is full", [116, 104, 101, 32, 104, 111, 112, 112, 101, 114, 32, 105, 115, 32, 102, 117, 108, 108]),
  ("RecyclingLine", 304, "value out of range", [118, 97, 108, 117, 101, 32, 111, 117, 116, 32, 111, 102, 32, 114, 97, 110, 103, 101]),
  ("RecyclingLine", 306, "pickers out of range", [112, 105, 99, 107, 101, 114, 115, 32, 111, 117, 116, 32, 111, 102, 32, 114, 97, 110, 103, 101]),
  ("RecyclingLine", 311, "ticks out of range", [116, 105, 99, 107, 115, 32, 111, 117, 116, 32, 111, 102, 32, 114, 97, 110, 103, 101]),
  ("RecyclingLine", 313, "too many ticks in all", [116, 111, 111, 32, 109, 97, 110, 121, 32, 116, 105, 99, 107, 115, 32, 105, 110, 32, 97, 108, 108]),
  ("RecyclingLine", 318, "no such bale or buyer", [110, 111, 32, 115, 117, 99, 104, 32, 98, 97, 108, 101, 32, 111, 114, 32, 98, 117, 121, 101, 114]),
  ("RecyclingLine", 324, "the buyer does not take this bale", [116, 104, 101, 32, 98, 117, 121, 101, 114, 32, 100, 111, 101, 115, 32, 110, 111, 116, 32, 116, 97, 107, 101, 32, 116, 104, 105, 115, 32, 98, 97, 108, 101]),
  ("RecyclingLine", 354, "ticks or what out of range", [116, 105, 99, 107, 115, 32, 111, 114, 32, 119, 104, 97, 116, 32, 111, 117, 116, 32, 111, 102, 32, 114, 97, 110, 103, 101]),
  ("RecyclingLineModel", 160, "materials", [109, 97, 116, 101, 114, 105, 97, 108, 115]),
  ("RecyclingLineModel", 165, "station", [115, 116, 97, 116, 105, 111, 110]),
  ("RecyclingLineModel", 111, "set", [115, 101, 116]),
  ("RecyclingLineModel", 117, "load", [108, 111, 97, 100]),
  ("RecyclingLineModel", 119, "buyer", [98, 117, 121, 101, 114])]
/-- all that stands beside the heap -/
def q_Amb (G : q_G) (U : State) (H : Heap) : Prop :=
  (q_l G).stackTraces = false ∧ (∀ w ∈ q_NW, va_Nw w U) ∧ (∀ C ∈ q_ao, va_AO C U) ∧ (∀ q ∈ q_ncs, va_Nc q.1 q.2 U) ∧ (∀ i, i < 3 → q_Sta G i U H) ∧ (∀ (i : Nat) (q : String × Nat × String × List Int32), q_txt[i]? = some q → q_Str G i q U H) ∧
  vx_Zq Bundle.tN "UNASSIGNED_STACK" Bundle.steD (q_F G) U H ∧ vx_Zq Bundle.tN "SUPPRESSED_SENTINEL" Bundle.listD (q_F G) U H ∧ va_X (q_sb G) (q_sL G) (q_xs G) U H ∧ ¬ q_F G (q_sb G) ∧ va_Z RJ0 "COMPACT_STRINGS" "Z" (.int 1) (q_F G) U H ∧ va_Zq RJ3 "SIOOBE_FORMATTER" "Ljava/util/function/BiFunction;" (q_F G) U H
theorem q_Sta.warm {G : q_G} {i : Nat} {u U : State} {H : Heap} (hv : u.vm.Alike U.vm) (h : q_Sta G i u H) : q_Sta G i U H := ⟨va_Z.moved hv h.1, va_T.moved hv h.2.1, h.2.2⟩
theorem q_Sta.kept {G : q_G} {i : Nat} {U : State} {H H1 : Heap} (hq : ∀ a : Nat, a < H.size → ¬ q_F G a → H1[a]? = H[a]?) (h : q_Sta G i U H) : q_Sta G i U H1 := ⟨h.1.kept hq, h.2.1.kept hq, by
  obtain ⟨cell, h1, h2, h3, h4⟩ := h.2.2
  exact ⟨cell, by rw [hq _ (Array.getElem?_eq_some_iff.mp h1).1 h4]; exact h1, h2, h3, h4⟩⟩
theorem q_Str.warm {G : q_G} {i : Nat} {q : String × Nat × String × List Int32} {u U : State} {H : Heap} (hW : u.WarmedH U.vm) (h : q_Str G i q u H) : q_Str G i q U H :=
  ⟨vk_R.warm hW h.1, va_O.moved hW.alike h.2.1, va_OF.moved hW.alike h.2.2.1, va_OF.moved hW.alike h.2.2.2.1, va_T.moved hW.alike h.2.2.2.2⟩
theorem q_Str.same {G : q_G} {i : Nat} {q : String × Nat × String × List Int32} {u U : State} {H : Heap} (hv : U.vm = u.vm) (h : q_Str G i q u H) : q_Str G i q U H := by
  have ha : u.vm.Alike U.vm := by rw [hv]; exact Vm.Alike.refl u.vm
  exact ⟨vk_R.same hv h.1, va_O.moved ha h.2.1, va_OF.moved ha h.2.2.1, va_OF.moved ha h.2.2.2.1, va_T.moved ha h.2.2.2.2⟩
theorem q_Str.kept {G : q_G} {i : Nat} {q : String × Nat × String × List Int32} {U : State} {H H1 : Heap} (hq : ∀ a : Nat, a < H.size → ¬ q_F G a → H1[a]? = H[a]?) (h : q_Str G i q U H) : q_Str G i q U H1 :=
  ⟨h.1, h.2.1.kept hq, h.2.2.1.kept hq, h.2.2.2.1.kept hq, h.2.2.2.2.kept hq⟩
theorem q_NW_nw {w : Cond} (h : w ∈ q_NW) : q_nw w = true := (List.mem_filter.mp h).2
theorem q_X.kept {G : q_G} {U : State} {H H1 : Heap} (hq : ∀ a : Nat, a < H.size → ¬ q_F G a → H1[a]? = H[a]?) (hf : ¬ q_F G (q_sb G)) (h : va_X (q_sb G) (q_sL G) (q_xs G) U H) : va_X (q_sb G) (q_sL G) (q_xs G) U H1 :=
  h.kept (hq _ (by obtain ⟨scr, h1, -⟩ := h; exact (Array.getElem?_eq_some_iff.mp h1).1) hf)
theorem q_Amb.warm {G : q_G} {u U : State} {H : Heap} (hW : u.WarmedH U.vm) (h : q_Amb G u H) : q_Amb G U H := by
  obtain ⟨h0, h1, h2, h3, h4, h5, h6, h7, h8, h9, h10, h11⟩ := h
  exact ⟨h0, fun w hw => q_nw_warm (q_NW_nw hw) hW (h1 w hw), fun C hC => va_AO.moved hW.alike (h2 C hC), fun q hq => va_Nc.moved hW.alike (h3 q hq), fun i hi => (h4 i hi).warm hW.alike, fun i q hq => (h5 i q hq).warm hW, vx_Zq.moved hW.alike h6, vx_Zq.moved hW.alike h7, h8.moved hW.alike, h9, va_Z.moved hW.alike h10, va_Zq.moved hW.alike h11⟩
theorem q_Amb.same {G : q_G} {u U : State} {H : Heap} (hv : U.vm = u.vm) (h : q_Amb G u H) : q_Amb G U H := by
  have ha : u.vm.Alike U.vm := by rw [hv]; exact Vm.Alike.refl u.vm
  obtain ⟨h0, h1, h2, h3, h4, h5, h6, h7, h8, h9, h10, h11⟩ := h
  exact ⟨h0, fun w hw => q_nw_same (q_NW_nw hw) hv.symm (h1 w hw), fun C hC => va_AO.moved ha (h2 C hC), fun q hq => va_Nc.moved ha (h3 q hq), fun i hi => (h4 i hi).warm ha, fun i q hq => (h5 i q hq).same hv, vx_Zq.moved ha h6, vx_Zq.moved ha h7, h8.moved ha, h9, va_Z.moved ha h10, va_Zq.moved ha h11⟩
theorem q_Amb.kept {G : q_G} {U : State} {H H1 : Heap} (hq : ∀ a : Nat, a < H.size → ¬ q_F G a → H1[a]? = H[a]?) (h : q_Amb G U H) : q_Amb G U H1 := by
  obtain ⟨h0, h1, h2, h3, h4, h5, h6, h7, h8, h9, h10, h11⟩ := h
  exact ⟨h0, h1, h2, h3, fun i hi => (h4 i hi).kept hq, fun i q hq2 => (h5 i q hq2).kept hq, h6.kept hq, h7.kept hq, q_X.kept hq h9 h8, h9, h10.kept hq, h11.kept hq⟩
/-! A METHOD: name, code, locals, return type, handlers, room -/
abbrev q_M : Type := MethodName × ByteArray × Nat × Option FieldType × List (Nat × Nat × Nat × Nat) × Room
def q_hd (M : q_M) : Cond := match M.2.2.2.2.1 with
  | [] => Cond.code M.1 M.2.1 M.2.2.1 M.2.2.2.1
  | h :: t => Cond.codeWith M.1 M.2.1 M.2.2.1 M.2.2.2.1 (h :: t)
abbrev q_cc (M : q_M) : ByteArray := M.2.1
abbrev q_ml (M : q_M) : Nat := M.2.2.1
abbrev q_rt (M : q_M) : Option FieldType := M.2.2.2.1
abbrev q_hh (M : q_M) : List (Nat × Nat × Nat × Nat) := M.2.2.2.2.1
abbrev q_rm (M : q_M) : Room := M.2.2.2.2.2
def q_ws (M : q_M) : List Cond := q_hd M :: q_UW
/-- facts of a method that calls want -/
def q_MO (M : q_M) (n : Nat) : Prop := q_hd M ∈ q_UW ∧ Cond.initialized M.1.cls ∈ q_UW ∧ M.1.cls ≠ "java/lang/invoke/MethodHandle" ∧ M.1.cls ≠ "java/lang/invoke/VarHandle" ∧ (parseMethodDescriptor M.1.desc).map (fun d => d.parameters.length) = some n ∧ plainName M.1.cls = true
def q_MI (M : q_M) : Prop := Cond.instanceMethod M.1 ∈ q_UW ∧ Cond.selects M.1.cls M.1 M.1 ∈ q_UW
/-! LOCALS by their places -/
def q_arg : List Value → List (Option Value)
  | [] => []
  | v :: t => if v.category = 2 then some v :: none :: q_arg t else some v :: q_arg t
def q_has (ls : Array Slot) (lo : List (Option Value)) (n : Nat) : Prop := ls.size = n ∧ lo.length = n ∧ lv_wf ls ∧ ∀ (i : Nat) (v : Value), lo[i]? = some (some v) → ls[i]? = some (.val v)
theorem q_arg_len (vs : List Value) : (q_arg vs).length = (lg_sl vs).length := by
  induction vs with
  | nil => rfl
  | cons v t ih =>
    by_cases h : v.category = 2
    · simp [q_arg, lg_sl, h]; simpa [lg_sl] using ih
    · simp [q_arg, lg_sl, h]; simpa [lg_sl] using ih
theorem q_arg_mem (vs : List Value) : ∀ (k i : Nat) (v : Value), (q_arg vs)[i]? = some (some v) → (k + i, v) ∈ lv_args k vs := by
  induction vs with
  | nil => intro k i v h; simp [q_arg] at h
  | cons w t ih =>
    intro k i v h
    by_cases hw : w.category = 2
    · rw [q_arg, if_pos hw] at h
      rw [lv_args, if_pos hw]
      match i, h with
      | 0, h => simp at h; subst h; exact List.mem_cons_self
      | 1, h => simp at h
      | i + 2, h =>
        have h2 := ih (k + 2) i v (by simpa using h)
        rw [show k + (i + 2) = k + 2 + i by omega]
        exact List.mem_cons_of_mem _ h2
    · rw [q_arg, if_neg hw] at h
      rw [lv_args, if_neg hw]
      match i, h with
      | 0, h => simp at h; subst h; exact List.mem_cons_self
      | i + 1, h =>
        have h2 := ih (k + 1) i v (by simpa using h)
        rw [show k + (i + 1) = k + 1 + i by omega]
        exact List.mem_cons_of_mem _ h2
theorem q_has.entry (vs : List Value) {n : Nat} (h : (q_arg vs).length ≤ n) : q_has ((lg_sl vs ++ List.replicate (n - (lg_sl vs).length) Slot.unset).toArray) (q_arg vs ++ List.replicate (n - (q_arg vs).length) none) n := by
  obtain ⟨h1, h2, h3⟩ := lv_entry vs (n := n) (by rw [← q_arg_len]; exact h)
  refine ⟨h1, by simp; omega, h2, fun i v hv => ?_⟩
  by_cases hi : i < (q_arg vs).length
  · rw [List.getElem?_append_left hi] at hv
    have := h3 _ (q_arg_mem vs 0 i v hv)
    simpa using this
  · rw [List.getElem?_append_right (by omega)] at hv
    have := List.mem_of_getElem? hv
    simp at this
/-! THE CONTRACTS -/
def q_Pre (G : q_G) (as : List Value) (A : q_H) : Array Value → State → Prop := fun v U => v = as.toArray ∧ q_Rep G A U U.heap ∧ q_Amb G U U.heap
def q_Q (G : q_G) (K : Option Value → q_H → Prop) : Array Value → State → Outcome → State → Prop := fun _ st o t => ∃ (v : Option Value) (A' : q_H), o = .returned v ∧ q_Rep G A' t t.heap ∧ va_F (q_F G) st t ∧ K v A'
def q_XC (G : q_G) (X : String → q_H → Prop) : String → State → State → Prop := fun E st t => ∃ A' : q_H, q_Rep G A' t t.heap ∧ va_F (q_F G) st t ∧ X E A'
/-- the method M, called with as where the heap is as A says, returns with K or throws with X -/
def q_Wc (G : q_G) (M : q_M) (as : List Value) (A : q_H) (K : Option Value → q_H → Prop) (X : String → q_H → Prop) : Prop := vx_Met (q_l G) M.1 (q_ws M) (q_rm M) (q_Pre G as A) (q_Q G K) (q_XC G X) (q_rm M).cells (q_rm M).slots (q_F G)
def q_Cx (G : q_G) (M : q_M) (p : Program) (s : State) (m : MethodId) (args : Array Value) (meth : Method) (c : Code) : Prop :=
  p.tables.exec = Jvm.exec ∧ c.code = q_cc M ∧ meth.sig.returnType = q_rt M ∧ c.maxLocals = q_ml M ∧ s.vm.findClass M.1.cls = some m.cls ∧ (∀ w ∈ q_UW, w.before args s = true) ∧ meth.locks = false ∧ meth.name = M.1.name ∧ c.exceptionTable.toList = tableOf (q_hh M) ∧ q_Amb G s s.heap ∧ q_bs G ≤ s.heap.size
/-- inside M: at pc with the locals lo and the stack st over a heap as A says, k cells of n slots made so far, it comes to its end with K or throws with X -/
def q_Wp (G : q_G) (M : q_M) (K : Option Value → q_H → Prop) (X : String → q_H → Prop) (k n pc : Nat) (lo : List (Option Value)) (st : List Value) (A : q_H) : Prop :=
  ∀ (p : Program) (e : Env) (s : State) (m : MethodId) (args : Array Value) (below : List Frame) (meth : Method) (c : Code), q_Cx G M p s m args meth c → ∀ (H : Heap) (locs : List Loc) (ls : Array Slot), q_Rep G A s H → va_S (q_F G) s.heap H locs → q_has ls lo (q_ml M) →
    W p (q_l G) e (q_rm M) s m args below meth c H locs k n (vx_MQ below (q_Q G K) (q_XC G X) args s (q_rm M).cells (q_rm M).slots (q_F G)) (F0 m pc ls st)
theorem q_Wc.of {G : q_G} {M : q_M} {as : List Value} {A : q_H} {K : Option Value → q_H → Prop} {X : String → q_H → Prop} (lo : List (Option Value)) (hp : plainName M.1.cls = true) (hh : q_hh M = []) (hle : (q_arg as).length ≤ q_ml M) (hlo : q_arg as ++ List.replicate (q_ml M - (q_arg as).length) none = lo)
    (h : q_Wp G M K X 0 0 0 lo [] A) : q_Wc G M as A K X := by
  subst hlo
  refine vx_ofW (cc := q_cc M) (maxL := q_ml M) (ret := q_rt M) (ws' := q_UW) hp ?_ ?_
  · show q_hd M :: q_UW = _
    have e : q_hd M = Cond.code M.1 (q_cc M) (q_ml M) (q_rt M) := by
      unfold q_hd
      split
      · rfl
      · rename_i h9; rw [show M.2.2.2.2.1 = [] from hh] at h9; cases h9
    rw [e]
  · intro p e s m args below meth c s₁ B hml ht hv
    obtain ⟨rfl, hR, hA⟩ := hv
    rw [lg_entry_eq]
    refine h p e s m as.toArray below meth c ⟨B.exec, B.bytes, B.returns, hml, findClass_of_methodNamed B.named, fun w hw => atoms_spec (ws := q_ws M) B.pre w (List.mem_cons_of_mem _ hw), B.notSynchronized, (name_of_methodNamed B.named B.method).1, ?_, hA, hR.2.2.2⟩ s.heap [] _ hR va_S.rf (q_has.entry as hle)
    rw [show q_hh M = [] from hh]
    cases hx : c.exceptionTable.toList with
    | nil => rfl
    | cons x t => exact absurd (by rw [hx]; exact List.mem_cons_self) (ht x)

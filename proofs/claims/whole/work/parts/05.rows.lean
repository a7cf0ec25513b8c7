/-! ROWS OVER q_Wp -/
/-- pairs of place and value -/
def q_pr (lo : List (Option Value)) : List (Nat × Value) := lo.zipIdx.filterMap fun q => q.1.map fun v => (q.2, v)
theorem q_pr_mem {lo : List (Option Value)} {j : Nat} {w : Value} : (j, w) ∈ q_pr lo ↔ lo[j]? = some (some w) := by
  unfold q_pr
  rw [List.mem_filterMap]
  constructor
  · rintro ⟨⟨o, i⟩, h1, h2⟩
    have h3 := List.mem_zipIdx_iff_getElem?.mp h1
    cases o with
    | none => simp at h2
    | some v =>
      simp at h2
      obtain ⟨rfl, rfl⟩ := h2
      exact h3
  · intro h
    exact ⟨(some w, j), List.mem_zipIdx_iff_getElem?.mpr h, by simp⟩
theorem q_has.lv {ls : Array Slot} {lo : List (Option Value)} {n : Nat} (h : q_has ls lo n) : lv_has ls n (q_pr lo) := ⟨h.1, h.2.2.1, fun q hq => h.2.2.2 q.1 q.2 (q_pr_mem.mp hq)⟩
def q_clr (lo : List (Option Value)) (i : Nat) : List (Option Value) := match i with
  | 0 => lo
  | j + 1 => match lo[j]? with
    | some (some w) => if w.category = 2 then lo.set j none else lo
    | _ => lo
def q_sto (lo : List (Option Value)) (i : Nat) (v : Value) : List (Option Value) := if v.category = 2 then ((q_clr lo i).set i (some v)).set (i + 1) none else (q_clr lo i).set i (some v)
theorem q_clr_len (lo : List (Option Value)) (i : Nat) : (q_clr lo i).length = lo.length := by
  unfold q_clr
  split
  · rfl
  · split
    · split <;> simp
    · rfl
theorem q_sto_len (lo : List (Option Value)) (i : Nat) (v : Value) : (q_sto lo i v).length = lo.length := by
  unfold q_sto
  split <;> simp [q_clr_len]
theorem q_clr_get {lo : List (Option Value)} {i j : Nat} {w : Value} (h : (q_clr lo i)[j]? = some (some w)) : lo[j]? = some (some w) ∧ ¬ (j + 1 = i ∧ w.category = 2) := by
  unfold q_clr at h
  split at h
  · exact ⟨h, by omega⟩
  · rename_i j0
    split at h
    · rename_i w0 hw0
      split at h
      · rename_i hc
        by_cases hj : j = j0
        · subst hj
          have hl := (List.getElem?_eq_some_iff.mp hw0).1
          rw [List.getElem?_set_self hl] at h
          cases h
        · rw [List.getElem?_set_ne (Ne.symm hj)] at h
          exact ⟨h, by omega⟩
      · rename_i hc
        refine ⟨h, fun q => ?_⟩
        have : j = j0 := by omega
        subst this
        rw [hw0] at h
        cases h
        exact hc q.2
    · rename_i hn
      refine ⟨h, fun q => ?_⟩
      have : j = j0 := by omega
      subst this
      exact hn w h
theorem q_sto1 {lo : List (Option Value)} {i : Nat} {v : Value} (hc : v.category = 1) {j : Nat} {w : Value} (h : (q_sto lo i v)[j]? = some (some w)) : (j, w) ∈ (i, v) :: (q_pr lo).filter (fun q => !(q.1 == i) && !(q.1 + 1 == i && q.2.category == 2)) := by
  have hc2 : ¬ v.category = 2 := by omega
  unfold q_sto at h
  rw [if_neg hc2] at h
  by_cases hj : j = i
  · subst hj
    by_cases hl : j < (q_clr lo j).length
    · rw [List.getElem?_set_self hl] at h
      cases h
      exact List.mem_cons_self
    · rw [List.getElem?_eq_none (by simp; omega)] at h
      cases h
  · rw [List.getElem?_set_ne (Ne.symm hj)] at h
    obtain ⟨h1, h2⟩ := q_clr_get h
    refine List.mem_cons_of_mem _ (List.mem_filter.mpr ⟨q_pr_mem.mpr h1, ?_⟩)
    simp only [Bool.and_eq_true, Bool.not_eq_true', beq_eq_false_iff_ne, Bool.and_eq_false_iff, ne_eq]
    refine ⟨hj, ?_⟩
    by_cases q : j + 1 = i
    · exact Or.inr (fun z => h2 ⟨q, z⟩)
    · exact Or.inl q
theorem q_sto2 {lo : List (Option Value)} {i : Nat} {v : Value} (hc : v.category = 2) {j : Nat} {w : Value} (h : (q_sto lo i v)[j]? = some (some w)) : (j, w) ∈ (i, v) :: (q_pr lo).filter (fun q => !(q.1 == i) && (!(q.1 == i + 1) && !(q.1 + 1 == i && q.2.category == 2))) := by
  unfold q_sto at h
  rw [if_pos hc] at h
  by_cases hj1 : j = i + 1
  · subst hj1
    by_cases hl : i + 1 < ((q_clr lo i).set i (some v)).length
    · rw [List.getElem?_set_self hl] at h
      cases h
    · rw [List.getElem?_eq_none (by simp at hl ⊢; omega)] at h
      cases h
  · rw [List.getElem?_set_ne (Ne.symm hj1)] at h
    by_cases hj : j = i
    · subst hj
      by_cases hl : j < (q_clr lo j).length
      · rw [List.getElem?_set_self hl] at h
        cases h
        exact List.mem_cons_self
      · rw [List.getElem?_eq_none (by simp; omega)] at h
        cases h
    · rw [List.getElem?_set_ne (Ne.symm hj)] at h
      obtain ⟨h1, h2⟩ := q_clr_get h
      refine List.mem_cons_of_mem _ (List.mem_filter.mpr ⟨q_pr_mem.mpr h1, ?_⟩)
      simp only [Bool.and_eq_true, Bool.not_eq_true', beq_eq_false_iff_ne, Bool.and_eq_false_iff, ne_eq]
      refine ⟨hj, hj1, ?_⟩
      by_cases q : j + 1 = i
      · exact Or.inr (fun z => h2 ⟨q, z⟩)
      · exact Or.inl q
theorem q_has.st1 {ls' : Array Slot} {lo : List (Option Value)} {n i : Nat} {v : Value} (hc : v.category = 1) (hl : lo.length = n) (h : lv_has ls' n ((i, v) :: (q_pr lo).filter (fun q => !(q.1 == i) && !(q.1 + 1 == i && q.2.category == 2)))) : q_has ls' (q_sto lo i v) n :=
  ⟨h.1, by rw [q_sto_len]; exact hl, h.2.1, fun j w hj => h.2.2 (j, w) (q_sto1 hc hj)⟩
theorem q_has.st2 {ls' : Array Slot} {lo : List (Option Value)} {n i : Nat} {v : Value} (hc : v.category = 2) (hl : lo.length = n) (h : lv_has ls' n ((i, v) :: (q_pr lo).filter (fun q => !(q.1 == i) && (!(q.1 == i + 1) && !(q.1 + 1 == i && q.2.category == 2))))) : q_has ls' (q_sto lo i v) n :=
  ⟨h.1, by rw [q_sto_len]; exact hl, h.2.1, fun j w hj => h.2.2 (j, w) (q_sto2 hc hj)⟩
/-- one instruction that moves the locals and the stack alone -/
def q_ldI (lo : List (Option Value)) (st : List Value) (i : Nat) : Option (List (Option Value) × List Value) := match lo[i]? with
  | some (some (.int x)) => some (lo, .int x :: st)
  | _ => none
def q_ldL (lo : List (Option Value)) (st : List Value) (i : Nat) : Option (List (Option Value) × List Value) := match lo[i]? with
  | some (some (.long x)) => some (lo, .long x :: st)
  | _ => none
def q_ldD (lo : List (Option Value)) (st : List Value) (i : Nat) : Option (List (Option Value) × List Value) := match lo[i]? with
  | some (some (.double x)) => some (lo, .double x :: st)
  | _ => none
def q_ldA (lo : List (Option Value)) (st : List Value) (i : Nat) : Option (List (Option Value) × List Value) := match lo[i]? with
  | some (some (.ref x)) => some (lo, .ref x :: st)
  | some (some .null) => some (lo, .null :: st)
  | _ => none
def q_stI (lo : List (Option Value)) (st : List Value) (i : Nat) : Option (List (Option Value) × List Value) := match st with
  | .int x :: r => if i < lo.length then some (q_sto lo i (.int x), r) else none
  | _ => none
def q_stA (lo : List (Option Value)) (st : List Value) (i : Nat) : Option (List (Option Value) × List Value) := match st with
  | .ref x :: r => if i < lo.length then some (q_sto lo i (.ref x), r) else none
  | .null :: r => if i < lo.length then some (q_sto lo i .null, r) else none
  | _ => none
def q_stL (lo : List (Option Value)) (st : List Value) (i : Nat) : Option (List (Option Value) × List Value) := match st with
  | .long x :: r => if i + 1 < lo.length then some (q_sto lo i (.long x), r) else none
  | _ => none
def q_stD (lo : List (Option Value)) (st : List Value) (i : Nat) : Option (List (Option Value) × List Value) := match st with
  | .double x :: r => if i + 1 < lo.length then some (q_sto lo i (.double x), r) else none
  | _ => none
def q_b2 (lo : List (Option Value)) (st : List Value) (f : Int32 → Int32 → Value) : Option (List (Option Value) × List Value) := match st with
  | .int y :: .int x :: r => some (lo, f x y :: r)
  | _ => none
def q_l2 (lo : List (Option Value)) (st : List Value) (f : Int64 → Int64 → Value) : Option (List (Option Value) × List Value) := match st with
  | .long y :: .long x :: r => some (lo, f x y :: r)
  | _ => none
def q_d2 (lo : List (Option Value)) (st : List Value) (f : UInt64 → UInt64 → Value) : Option (List (Option Value) × List Value) := match st with
  | .double y :: .double x :: r => some (lo, f x y :: r)
  | _ => none
def q_u1 (lo : List (Option Value)) (st : List Value) (f : Int32 → Value) : Option (List (Option Value) × List Value) := match st with
  | .int x :: r => some (lo, f x :: r)
  | _ => none
def q_ul (lo : List (Option Value)) (st : List Value) (f : Int64 → Value) : Option (List (Option Value) × List Value) := match st with
  | .long x :: r => some (lo, f x :: r)
  | _ => none
def q_dup (lo : List (Option Value)) (st : List Value) : Option (List (Option Value) × List Value) := match st with
  | v :: r => if v.category = 1 then some (lo, v :: v :: r) else none
  | _ => none
def q_pop (lo : List (Option Value)) (st : List Value) : Option (List (Option Value) × List Value) := match st with
  | v :: r => if v.category = 1 then some (lo, r) else none
  | _ => none
def q_dup2 (lo : List (Option Value)) (st : List Value) : Option (List (Option Value) × List Value) := match st with
  | v :: w :: r => if v.category = 1 then (if w.category = 1 then some (lo, v :: w :: v :: w :: r) else none) else none
  | _ => none
def q_inc (lo : List (Option Value)) (st : List Value) (i : Nat) (n : Int) : Option (List (Option Value) × List Value) := match lo[i]? with
  | some (some (.int x)) => some (q_sto lo i (.int (x + Int32.ofInt n)), st)
  | _ => none
def q_sx (i : Instr) (lo : List (Option Value)) (st : List Value) : Option (List (Option Value) × List Value) := match i with
  | .iconst n => some (lo, .int (Int32.ofInt n) :: st)
  | .bipush n => some (lo, .int ((Int8.ofInt n).toInt32) :: st)
  | .sipush n => some (lo, .int ((Int16.ofInt n).toInt32) :: st)
  | .lconst n => some (lo, .long (Int64.ofNat (n : Nat)) :: st)
  | .aconst_null => some (lo, .null :: st)
  | .iload_n k => q_ldI lo st k
  | .iload k => q_ldI lo st k
  | .lload_n k => q_ldL lo st k
  | .lload k => q_ldL lo st k
  | .dload_n k => q_ldD lo st k
  | .dload k => q_ldD lo st k
  | .aload_n k => q_ldA lo st k
  | .aload k => q_ldA lo st k
  | .istore_n k => q_stI lo st k
  | .istore k => q_stI lo st k
  | .lstore_n k => q_stL lo st k
  | .lstore k => q_stL lo st k
  | .dstore_n k => q_stD lo st k
  | .dstore k => q_stD lo st k
  | .astore_n k => q_stA lo st k
  | .astore k => q_stA lo st k
  | .iinc k n => q_inc lo st k n
  | .iadd => q_b2 lo st fun x y => .int (x + y)
  | .isub => q_b2 lo st fun x y => .int (x - y)
  | .imul => q_b2 lo st fun x y => .int (x * y)
  | .iand => q_b2 lo st fun x y => .int (x &&& y)
  | .ishr => q_b2 lo st fun x y => .int (x >>> (y &&& 31))
  | .iushr => q_b2 lo st fun x y => .int ((x.toUInt32 >>> (y.toUInt32 &&& Int32.toUInt32 31)).toInt32)
  | .ineg => q_u1 lo st fun x => .int (-x)
  | .i2l => q_u1 lo st fun x => .long x.toInt64
  | .i2b => q_u1 lo st fun x => .int x.toInt8.toInt32
  | .i2d => q_u1 lo st fun x => .double (FP.i2d x)
  | .i2f => q_u1 lo st fun x => .float (FP.i2f x)
  | .l2i => q_ul lo st fun x => .int x.toInt32
  | .ladd => q_l2 lo st fun x y => .long (x + y)
  | .lsub => q_l2 lo st fun x y => .long (x - y)
  | .lmul => q_l2 lo st fun x y => .long (x * y)
  | .lcmp => q_l2 lo st fun x y => .int (lg_cmp x y)
  | .dcmp op => q_d2 lo st fun x y => .int (Op.cmpValue (FP.dcmp x y) op)
  | .dup => q_dup lo st
  | .dup2 => q_dup2 lo st
  | .pop => q_pop lo st
  | _ => none
section QS
variable {G : q_G} {M : q_M} {K : Option Value → q_H → Prop} {X : String → q_H → Prop} {k n pc : Nat} {lo lo' : List (Option Value)} {st st' : List Value} {A : q_H}
theorem q_wI {i : Nat} (h : q_ldI lo st i = some (lo', st')) : ∃ x, lo[i]? = some (some (.int x)) ∧ lo' = lo ∧ st' = .int x :: st := by
  unfold q_ldI at h
  split at h
  · rename_i x hx; cases h; exact ⟨x, hx, rfl, rfl⟩
  · cases h
theorem q_wL {i : Nat} (h : q_ldL lo st i = some (lo', st')) : ∃ x, lo[i]? = some (some (.long x)) ∧ lo' = lo ∧ st' = .long x :: st := by
  unfold q_ldL at h
  split at h
  · rename_i x hx; cases h; exact ⟨x, hx, rfl, rfl⟩
  · cases h
theorem q_wD {i : Nat} (h : q_ldD lo st i = some (lo', st')) : ∃ x, lo[i]? = some (some (.double x)) ∧ lo' = lo ∧ st' = .double x :: st := by
  unfold q_ldD at h
  split at h
  · rename_i x hx; cases h; exact ⟨x, hx, rfl, rfl⟩
  · cases h
theorem q_wA {i : Nat} (h : q_ldA lo st i = some (lo', st')) : (∃ x, lo[i]? = some (some (.ref x)) ∧ lo' = lo ∧ st' = .ref x :: st) ∨ (lo[i]? = some (some .null) ∧ lo' = lo ∧ st' = .null :: st) := by
  unfold q_ldA at h
  split at h
  · rename_i x hx; cases h; exact Or.inl ⟨x, hx, rfl, rfl⟩
  · rename_i hx; cases h; exact Or.inr ⟨hx, rfl, rfl⟩
  · cases h
theorem q_wsI {i : Nat} (h : q_stI lo st i = some (lo', st')) : ∃ x, st = .int x :: st' ∧ i < lo.length ∧ lo' = q_sto lo i (.int x) := by
  unfold q_stI at h
  split at h
  · split at h
    · rename_i hl; cases h; exact ⟨_, rfl, hl, rfl⟩
    · cases h
  · cases h
theorem q_wsL {i : Nat} (h : q_stL lo st i = some (lo', st')) : ∃ x, st = .long x :: st' ∧ i + 1 < lo.length ∧ lo' = q_sto lo i (.long x) := by
  unfold q_stL at h
  split at h
  · split at h
    · rename_i hl; cases h; exact ⟨_, rfl, hl, rfl⟩
    · cases h
  · cases h
theorem q_wsD {i : Nat} (h : q_stD lo st i = some (lo', st')) : ∃ x, st = .double x :: st' ∧ i + 1 < lo.length ∧ lo' = q_sto lo i (.double x) := by
  unfold q_stD at h
  split at h
  · split at h
    · rename_i hl; cases h; exact ⟨_, rfl, hl, rfl⟩
    · cases h
  · cases h
theorem q_wsA {i : Nat} (h : q_stA lo st i = some (lo', st')) : (∃ x, st = .ref x :: st' ∧ i < lo.length ∧ lo' = q_sto lo i (.ref x)) ∨ (st = .null :: st' ∧ i < lo.length ∧ lo' = q_sto lo i .null) := by
  unfold q_stA at h
  split at h
  · split at h
    · rename_i hl; cases h; exact Or.inl ⟨_, rfl, hl, rfl⟩
    · cases h
  · split at h
    · rename_i hl; cases h; exact Or.inr ⟨rfl, hl, rfl⟩
    · cases h
  · cases h
theorem q_wb2 {f : Int32 → Int32 → Value} (h : q_b2 lo st f = some (lo', st')) : ∃ x y r, st = .int y :: .int x :: r ∧ lo' = lo ∧ st' = f x y :: r := by
  unfold q_b2 at h
  split at h
  · cases h; exact ⟨_, _, _, rfl, rfl, rfl⟩
  · cases h
theorem q_wl2 {f : Int64 → Int64 → Value} (h : q_l2 lo st f = some (lo', st')) : ∃ x y r, st = .long y :: .long x :: r ∧ lo' = lo ∧ st' = f x y :: r := by
  unfold q_l2 at h
  split at h
  · cases h; exact ⟨_, _, _, rfl, rfl, rfl⟩
  · cases h
theorem q_wd2 {f : UInt64 → UInt64 → Value} (h : q_d2 lo st f = some (lo', st')) : ∃ x y r, st = .double y :: .double x :: r ∧ lo' = lo ∧ st' = f x y :: r := by
  unfold q_d2 at h
  split at h
  · cases h; exact ⟨_, _, _, rfl, rfl, rfl⟩
  · cases h
theorem q_wu1 {f : Int32 → Value} (h : q_u1 lo st f = some (lo', st')) : ∃ x r, st = .int x :: r ∧ lo' = lo ∧ st' = f x :: r := by
  unfold q_u1 at h
  split at h
  · cases h; exact ⟨_, _, rfl, rfl, rfl⟩
  · cases h
theorem q_wul {f : Int64 → Value} (h : q_ul lo st f = some (lo', st')) : ∃ x r, st = .long x :: r ∧ lo' = lo ∧ st' = f x :: r := by
  unfold q_ul at h
  split at h
  · cases h; exact ⟨_, _, rfl, rfl, rfl⟩
  · cases h
theorem q_wdup (h : q_dup lo st = some (lo', st')) : ∃ v r, st = v :: r ∧ v.category = 1 ∧ lo' = lo ∧ st' = v :: v :: r := by
  unfold q_dup at h
  split at h
  · split at h
    · rename_i hc; cases h; exact ⟨_, _, rfl, hc, rfl, rfl⟩
    · cases h
  · cases h
theorem q_wpop (h : q_pop lo st = some (lo', st')) : ∃ v r, st = v :: r ∧ v.category = 1 ∧ lo' = lo ∧ st' = r := by
  unfold q_pop at h
  split at h
  · split at h
    · rename_i hc; cases h; exact ⟨_, _, rfl, hc, rfl, rfl⟩
    · cases h
  · cases h
theorem q_wdup2 (h : q_dup2 lo st = some (lo', st')) : ∃ v w r, st = v :: w :: r ∧ v.category = 1 ∧ w.category = 1 ∧ lo' = lo ∧ st' = v :: w :: v :: w :: r := by
  unfold q_dup2 at h
  split at h
  · split at h
    · split at h
      · rename_i hc hw; cases h; exact ⟨_, _, _, rfl, hc, hw, rfl, rfl⟩
      · cases h
    · cases h
  · cases h
theorem q_winc {i : Nat} {z : Int} (h : q_inc lo st i z = some (lo', st')) : ∃ x, lo[i]? = some (some (.int x)) ∧ lo' = q_sto lo i (.int (x + Int32.ofInt z)) ∧ st' = st := by
  unfold q_inc at h
  split at h
  · rename_i x hx; cases h; exact ⟨_, hx, rfl, rfl⟩
  · cases h
/-- the lengths of those instructions -/
def q_il (i : Instr) : Nat := match i with
  | .bipush _ => 2
  | .sipush _ => 3
  | .iload _ => 2
  | .lload _ => 2
  | .dload _ => 2
  | .aload _ => 2
  | .istore _ => 2
  | .lstore _ => 2
  | .dstore _ => 2
  | .astore _ => 2
  | .iinc _ _ => 3
  | _ => 1
set_option maxHeartbeats 4000000 in
theorem q_one {i : Instr} (hd : decode (q_cc M) pc = .ok (i, q_il i)) (h : q_sx i lo st = some (lo', st')) (kk : q_Wp G M K X k n (pc + q_il i) lo' st' A) : q_Wp G M K X k n pc lo st A := by
  intro p e s m args below meth c C H locs ls hR hS hl
  have k2 := kk p e s m args below meth c C H locs
  obtain ⟨hx, hb, -⟩ := C
  have hlen := hl.2.1
  cases i with
  | iconst z =>
    cases h
    exact lv_iconst hx hb hd rfl (k2 ls hR hS hl)
  | bipush z =>
    cases h
    exact lv_bipush hx hb hd rfl (k2 ls hR hS hl)
  | sipush z =>
    cases h
    exact lv_sipush hx hb hd rfl (k2 ls hR hS hl)
  | lconst z =>
    cases h
    exact lv_lconst hx hb hd rfl (k2 ls hR hS hl)
  | aconst_null =>
    cases h
    exact lv_null hx hb hd (k2 ls hR hS hl)
  | iload_n z =>
    obtain ⟨x, hv, rfl, rfl⟩ := q_wI h
    exact lv_iload_n hx hb hd rfl (hl.2.2.2 _ _ hv) (k2 ls hR hS hl)
  | iload z =>
    obtain ⟨x, hv, rfl, rfl⟩ := q_wI h
    exact lv_iload hx hb hd (hl.2.2.2 _ _ hv) (k2 ls hR hS hl)
  | lload_n z =>
    obtain ⟨x, hv, rfl, rfl⟩ := q_wL h
    exact lv_lload_n hx hb hd rfl (hl.2.2.2 _ _ hv) (k2 ls hR hS hl)
  | lload z =>
    obtain ⟨x, hv, rfl, rfl⟩ := q_wL h
    exact lv_lload hx hb hd (hl.2.2.2 _ _ hv) (k2 ls hR hS hl)
  | dload_n z =>
    obtain ⟨x, hv, rfl, rfl⟩ := q_wD h
    exact lv_dload_n hx hb hd rfl (hl.2.2.2 _ _ hv) (k2 ls hR hS hl)
  | dload z =>
    obtain ⟨x, hv, rfl, rfl⟩ := q_wD h
    exact lv_dload hx hb hd (hl.2.2.2 _ _ hv) (k2 ls hR hS hl)
  | aload_n z =>
    rcases q_wA h with ⟨x, hv, rfl, rfl⟩ | ⟨hv, rfl, rfl⟩
    · exact lv_aload_n hx hb hd rfl (hl.2.2.2 _ _ hv) (k2 ls hR hS hl)
    · exact lv_aload_nN hx hb hd rfl (hl.2.2.2 _ _ hv) (k2 ls hR hS hl)
  | aload z =>
    rcases q_wA h with ⟨x, hv, rfl, rfl⟩ | ⟨hv, rfl, rfl⟩
    · exact lv_aload hx hb hd (hl.2.2.2 _ _ hv) (k2 ls hR hS hl)
    · exact lv_aloadN hx hb hd (hl.2.2.2 _ _ hv) (k2 ls hR hS hl)
  | istore_n z =>
    obtain ⟨x, rfl, hi, rfl⟩ := q_wsI h
    exact lv_istore_n hx hb hd rfl hl.lv (by omega) rfl (fun ls2 h2 => k2 ls2 hR hS (q_has.st1 rfl hlen h2))
  | istore z =>
    obtain ⟨x, rfl, hi, rfl⟩ := q_wsI h
    exact lv_istore hx hb hd hl.lv (by omega) rfl (fun ls2 h2 => k2 ls2 hR hS (q_has.st1 rfl hlen h2))
  | lstore_n z =>
    obtain ⟨x, rfl, hi, rfl⟩ := q_wsL h
    exact lv_lstore_n hx hb hd rfl hl.lv (by omega) rfl (fun ls2 h2 => k2 ls2 hR hS (q_has.st2 rfl hlen h2))
  | lstore z =>
    obtain ⟨x, rfl, hi, rfl⟩ := q_wsL h
    exact lv_lstore hx hb hd hl.lv (by omega) rfl (fun ls2 h2 => k2 ls2 hR hS (q_has.st2 rfl hlen h2))
  | dstore_n z =>
    obtain ⟨x, rfl, hi, rfl⟩ := q_wsD h
    exact lv_dstore_n hx hb hd rfl hl.lv (by omega) rfl (fun ls2 h2 => k2 ls2 hR hS (q_has.st2 rfl hlen h2))
  | dstore z =>
    obtain ⟨x, rfl, hi, rfl⟩ := q_wsD h
    exact lv_dstore hx hb hd hl.lv (by omega) rfl (fun ls2 h2 => k2 ls2 hR hS (q_has.st2 rfl hlen h2))
  | astore_n z =>
    rcases q_wsA h with ⟨x, rfl, hi, rfl⟩ | ⟨rfl, hi, rfl⟩
    · exact lv_astore_n hx hb hd rfl hl.lv (by omega) rfl (fun ls2 h2 => k2 ls2 hR hS (q_has.st1 rfl hlen h2))
    · exact lv_astore_nN hx hb hd rfl hl.lv (by omega) rfl (fun ls2 h2 => k2 ls2 hR hS (q_has.st1 rfl hlen h2))
  | astore z =>
    rcases q_wsA h with ⟨x, rfl, hi, rfl⟩ | ⟨rfl, hi, rfl⟩
    · exact lv_astore hx hb hd hl.lv (by omega) rfl (fun ls2 h2 => k2 ls2 hR hS (q_has.st1 rfl hlen h2))
    · exact lv_astoreN hx hb hd hl.lv (by omega) rfl (fun ls2 h2 => k2 ls2 hR hS (q_has.st1 rfl hlen h2))
  | iinc z w =>
    obtain ⟨x, hv, rfl, rfl⟩ := q_winc h
    obtain ⟨k9, hk9⟩ := List.getElem?_of_mem (q_pr_mem.mpr hv)
    have hi : z < lo.length := (List.getElem?_eq_some_iff.mp hv).1
    exact lv_iinc hx hb hd hl.lv hk9 rfl (by omega) rfl (fun ls2 h2 => k2 ls2 hR hS (q_has.st1 rfl hlen h2))
  | iadd =>
    obtain ⟨x, y, r, rfl, rfl, rfl⟩ := q_wb2 h
    exact lv_iadd hx hb hd (k2 ls hR hS hl)
  | isub =>
    obtain ⟨x, y, r, rfl, rfl, rfl⟩ := q_wb2 h
    exact lv_isub hx hb hd (k2 ls hR hS hl)
  | imul =>
    obtain ⟨x, y, r, rfl, rfl, rfl⟩ := q_wb2 h
    exact lv_imul hx hb hd (k2 ls hR hS hl)
  | iand =>
    obtain ⟨x, y, r, rfl, rfl, rfl⟩ := q_wb2 h
    exact lv_iand hx hb hd (k2 ls hR hS hl)
  | ishr =>
    obtain ⟨x, y, r, rfl, rfl, rfl⟩ := q_wb2 h
    exact lv_ishr hx hb hd (k2 ls hR hS hl)
  | iushr =>
    obtain ⟨x, y, r, rfl, rfl, rfl⟩ := q_wb2 h
    exact lv_iushr hx hb hd rfl (k2 ls hR hS hl)
  | ineg =>
    obtain ⟨x, r, rfl, rfl, rfl⟩ := q_wu1 h
    exact lv_ineg hx hb hd (k2 ls hR hS hl)
  | i2l =>
    obtain ⟨x, r, rfl, rfl, rfl⟩ := q_wu1 h
    exact lv_i2l hx hb hd rfl (k2 ls hR hS hl)
  | i2b =>
    obtain ⟨x, r, rfl, rfl, rfl⟩ := q_wu1 h
    exact lv_i2b hx hb hd rfl (k2 ls hR hS hl)
  | i2d =>
    obtain ⟨x, r, rfl, rfl, rfl⟩ := q_wu1 h
    exact lv_i2d hx hb hd (k2 ls hR hS hl)
  | i2f =>
    obtain ⟨x, r, rfl, rfl, rfl⟩ := q_wu1 h
    exact lv_i2f hx hb hd (k2 ls hR hS hl)
  | l2i =>
    obtain ⟨x, r, rfl, rfl, rfl⟩ := q_wul h
    exact lv_l2i hx hb hd rfl (k2 ls hR hS hl)
  | ladd =>
    obtain ⟨x, y, r, rfl, rfl, rfl⟩ := q_wl2 h
    exact lv_ladd hx hb hd (k2 ls hR hS hl)
  | lsub =>
    obtain ⟨x, y, r, rfl, rfl, rfl⟩ := q_wl2 h
    exact lv_lsub hx hb hd (k2 ls hR hS hl)
  | lmul =>
    obtain ⟨x, y, r, rfl, rfl, rfl⟩ := q_wl2 h
    exact lv_lmul hx hb hd (k2 ls hR hS hl)
  | lcmp =>
    obtain ⟨x, y, r, rfl, rfl, rfl⟩ := q_wl2 h
    exact W.lcmp hx hb hd (k2 ls hR hS hl)
  | dcmp op =>
    obtain ⟨x, y, r, rfl, rfl, rfl⟩ := q_wd2 h
    exact lv_dcmp hx hb hd (k2 ls hR hS hl)
  | dup =>
    obtain ⟨v, r, rfl, hc, rfl, rfl⟩ := q_wdup h
    exact lv_dup hx hb hd hc (k2 ls hR hS hl)
  | dup2 =>
    obtain ⟨v, w, r, rfl, hc, hw, rfl, rfl⟩ := q_wdup2 h
    exact lv_dup2_11 hx hb hd hc hw (k2 ls hR hS hl)
  | pop =>
    obtain ⟨v, r, rfl, hc, rfl, rfl⟩ := q_wpop h
    exact lv_pop hx hb hd hc (k2 ls hR hS hl)
  | _ => cases h
/-- a stretch of them -/
def q_sxs : List Instr → Nat → List (Option Value) → List Value → Option (Nat × List (Option Value) × List Value)
  | [], pc, lo, st => some (pc, lo, st)
  | i :: t, pc, lo, st => match q_sx i lo st with
    | some (lo2, st2) => q_sxs t (pc + q_il i) lo2 st2
    | none => none
def q_dec (cc : ByteArray) : List Instr → Nat → Bool
  | [], _ => true
  | i :: t, pc => decide (decode cc pc = .ok (i, q_il i)) && q_dec cc t (pc + q_il i)
theorem q_blk {pc' : Nat} (is : List Instr) (hd : q_dec (q_cc M) is pc = true) (h : q_sxs is pc lo st = some (pc', lo', st')) (kk : q_Wp G M K X k n pc' lo' st' A) : q_Wp G M K X k n pc lo st A := by
  induction is generalizing pc lo st with
  | nil => cases h; exact kk
  | cons i t ih =>
    rw [q_dec, Bool.and_eq_true, decide_eq_true_eq] at hd
    obtain ⟨h1, h2⟩ := hd
    unfold q_sxs at h
    split at h
    · rename_i lo2 st2 h3
      exact q_one h1 h3 (ih h2 h)
    · cases h
theorem q_if_eq {x : Int32} {off : Int} (tgt : Nat) (hd : decode (q_cc M) pc = .ok (.ifCond .eq off, 3)) (ht : (pc : Int) + off = (tgt : Int)) (h1 : x = 0 → q_Wp G M K X k n tgt lo st A) (h2 : ¬ x = 0 → q_Wp G M K X k n (pc + 3) lo st A) : q_Wp G M K X k n pc lo (.int x :: st) A :=
  fun p e s m args below meth c C H locs ls hR hS hl => lv_if_eq C.1 C.2.1 hd ht (fun q => h1 q p e s m args below meth c C H locs ls hR hS hl) (fun q => h2 q p e s m args below meth c C H locs ls hR hS hl)
theorem q_icmp_eq {x y : Int32} {off : Int} (tgt : Nat) (hd : decode (q_cc M) pc = .ok (.if_icmp .eq off, 3)) (ht : (pc : Int) + off = (tgt : Int)) (h1 : x = y → q_Wp G M K X k n tgt lo st A) (h2 : ¬ x = y → q_Wp G M K X k n (pc + 3) lo st A) : q_Wp G M K X k n pc lo (.int y :: .int x :: st) A :=
  fun p e s m args below meth c C H locs ls hR hS hl => lv_icmp_eq C.1 C.2.1 hd ht (fun q => h1 q p e s m args below meth c C H locs ls hR hS hl) (fun q => h2 q p e s m args below meth c C H locs ls hR hS hl)
theorem q_if_ne {x : Int32} {off : Int} (tgt : Nat) (hd : decode (q_cc M) pc = .ok (.ifCond .ne off, 3)) (ht : (pc : Int) + off = (tgt : Int)) (h1 : ¬ x = 0 → q_Wp G M K X k n tgt lo st A) (h2 : x = 0 → q_Wp G M K X k n (pc + 3) lo st A) : q_Wp G M K X k n pc lo (.int x :: st) A :=
  fun p e s m args below meth c C H locs ls hR hS hl => lv_if_ne C.1 C.2.1 hd ht (fun q => h1 q p e s m args below meth c C H locs ls hR hS hl) (fun q => h2 q p e s m args below meth c C H locs ls hR hS hl)
theorem q_icmp_ne {x y : Int32} {off : Int} (tgt : Nat) (hd : decode (q_cc M) pc = .ok (.if_icmp .ne off, 3)) (ht : (pc : Int) + off = (tgt : Int)) (h1 : ¬ x = y → q_Wp G M K X k n tgt lo st A) (h2 : x = y → q_Wp G M K X k n (pc + 3) lo st A) : q_Wp G M K X k n pc lo (.int y :: .int x :: st) A :=
  fun p e s m args below meth c C H locs ls hR hS hl => lv_icmp_ne C.1 C.2.1 hd ht (fun q => h1 q p e s m args below meth c C H locs ls hR hS hl) (fun q => h2 q p e s m args below meth c C H locs ls hR hS hl)
theorem q_if_lt {x : Int32} {off : Int} (tgt : Nat) (hd : decode (q_cc M) pc = .ok (.ifCond .lt off, 3)) (ht : (pc : Int) + off = (tgt : Int)) (h1 : x < 0 → q_Wp G M K X k n tgt lo st A) (h2 : ¬ x < 0 → q_Wp G M K X k n (pc + 3) lo st A) : q_Wp G M K X k n pc lo (.int x :: st) A :=
  fun p e s m args below meth c C H locs ls hR hS hl => lv_if_lt C.1 C.2.1 hd ht (fun q => h1 q p e s m args below meth c C H locs ls hR hS hl) (fun q => h2 q p e s m args below meth c C H locs ls hR hS hl)
theorem q_icmp_lt {x y : Int32} {off : Int} (tgt : Nat) (hd : decode (q_cc M) pc = .ok (.if_icmp .lt off, 3)) (ht : (pc : Int) + off = (tgt : Int)) (h1 : x < y → q_Wp G M K X k n tgt lo st A) (h2 : ¬ x < y → q_Wp G M K X k n (pc + 3) lo st A) : q_Wp G M K X k n pc lo (.int y :: .int x :: st) A :=
  fun p e s m args below meth c C H locs ls hR hS hl => lv_icmp_lt C.1 C.2.1 hd ht (fun q => h1 q p e s m args below meth c C H locs ls hR hS hl) (fun q => h2 q p e s m args below meth c C H locs ls hR hS hl)
theorem q_if_ge {x : Int32} {off : Int} (tgt : Nat) (hd : decode (q_cc M) pc = .ok (.ifCond .ge off, 3)) (ht : (pc : Int) + off = (tgt : Int)) (h1 : 0 ≤ x → q_Wp G M K X k n tgt lo st A) (h2 : ¬ 0 ≤ x → q_Wp G M K X k n (pc + 3) lo st A) : q_Wp G M K X k n pc lo (.int x :: st) A :=
  fun p e s m args below meth c C H locs ls hR hS hl => lv_if_ge C.1 C.2.1 hd ht (fun q => h1 q p e s m args below meth c C H locs ls hR hS hl) (fun q => h2 q p e s m args below meth c C H locs ls hR hS hl)
theorem q_icmp_ge {x y : Int32} {off : Int} (tgt : Nat) (hd : decode (q_cc M) pc = .ok (.if_icmp .ge off, 3)) (ht : (pc : Int) + off = (tgt : Int)) (h1 : y ≤ x → q_Wp G M K X k n tgt lo st A) (h2 : ¬ y ≤ x → q_Wp G M K X k n (pc + 3) lo st A) : q_Wp G M K X k n pc lo (.int y :: .int x :: st) A :=
  fun p e s m args below meth c C H locs ls hR hS hl => lv_icmp_ge C.1 C.2.1 hd ht (fun q => h1 q p e s m args below meth c C H locs ls hR hS hl) (fun q => h2 q p e s m args below meth c C H locs ls hR hS hl)
theorem q_if_gt {x : Int32} {off : Int} (tgt : Nat) (hd : decode (q_cc M) pc = .ok (.ifCond .gt off, 3)) (ht : (pc : Int) + off = (tgt : Int)) (h1 : 0 < x → q_Wp G M K X k n tgt lo st A) (h2 : ¬ 0 < x → q_Wp G M K X k n (pc + 3) lo st A) : q_Wp G M K X k n pc lo (.int x :: st) A :=
  fun p e s m args below meth c C H locs ls hR hS hl => lv_if_gt C.1 C.2.1 hd ht (fun q => h1 q p e s m args below meth c C H locs ls hR hS hl) (fun q => h2 q p e s m args below meth c C H locs ls hR hS hl)
theorem q_icmp_gt {x y : Int32} {off : Int} (tgt : Nat) (hd : decode (q_cc M) pc = .ok (.if_icmp .gt off, 3)) (ht : (pc : Int) + off = (tgt : Int)) (h1 : y < x → q_Wp G M K X k n tgt lo st A) (h2 : ¬ y < x → q_Wp G M K X k n (pc + 3) lo st A) : q_Wp G M K X k n pc lo (.int y :: .int x :: st) A :=
  fun p e s m args below meth c C H locs ls hR hS hl => lv_icmp_gt C.1 C.2.1 hd ht (fun q => h1 q p e s m args below meth c C H locs ls hR hS hl) (fun q => h2 q p e s m args below meth c C H locs ls hR hS hl)
theorem q_if_le {x : Int32} {off : Int} (tgt : Nat) (hd : decode (q_cc M) pc = .ok (.ifCond .le off, 3)) (ht : (pc : Int) + off = (tgt : Int)) (h1 : x ≤ 0 → q_Wp G M K X k n tgt lo st A) (h2 : ¬ x ≤ 0 → q_Wp G M K X k n (pc + 3) lo st A) : q_Wp G M K X k n pc lo (.int x :: st) A :=
  fun p e s m args below meth c C H locs ls hR hS hl => lv_if_le C.1 C.2.1 hd ht (fun q => h1 q p e s m args below meth c C H locs ls hR hS hl) (fun q => h2 q p e s m args below meth c C H locs ls hR hS hl)
theorem q_icmp_le {x y : Int32} {off : Int} (tgt : Nat) (hd : decode (q_cc M) pc = .ok (.if_icmp .le off, 3)) (ht : (pc : Int) + off = (tgt : Int)) (h1 : x ≤ y → q_Wp G M K X k n tgt lo st A) (h2 : ¬ x ≤ y → q_Wp G M K X k n (pc + 3) lo st A) : q_Wp G M K X k n pc lo (.int y :: .int x :: st) A :=
  fun p e s m args below meth c C H locs ls hR hS hl => lv_icmp_le C.1 C.2.1 hd ht (fun q => h1 q p e s m args below meth c C H locs ls hR hS hl) (fun q => h2 q p e s m args below meth c C H locs ls hR hS hl)
theorem q_goto {off : Int} (tgt : Nat) (hd : decode (q_cc M) pc = .ok (.goto off, 3)) (ht : (pc : Int) + off = (tgt : Int)) (h : q_Wp G M K X k n tgt lo st A) : q_Wp G M K X k n pc lo st A :=
  fun p e s m args below meth c C H locs ls hR hS hl => lv_goto C.1 C.2.1 hd ht (h p e s m args below meth c C H locs ls hR hS hl)
theorem q_nul_y {off : Int} (tgt : Nat) (hd : decode (q_cc M) pc = .ok (.ifnull off, 3)) (ht : (pc : Int) + off = (tgt : Int)) (h : q_Wp G M K X k n tgt lo st A) : q_Wp G M K X k n pc lo (.null :: st) A :=
  fun p e s m args below meth c C H locs ls hR hS hl => lv_ifnullN C.1 C.2.1 hd ht (h p e s m args below meth c C H locs ls hR hS hl)
theorem q_nul_n {off : Int} {x : Nat} (hd : decode (q_cc M) pc = .ok (.ifnull off, 3)) (h : q_Wp G M K X k n (pc + 3) lo st A) : q_Wp G M K X k n pc lo (.ref x :: st) A :=
  fun p e s m args below meth c C H locs ls hR hS hl => lv_ifnull C.1 C.2.1 hd (h p e s m args below meth c C H locs ls hR hS hl)
theorem q_nnl_y {off : Int} {x : Nat} (tgt : Nat) (hd : decode (q_cc M) pc = .ok (.ifnonnull off, 3)) (ht : (pc : Int) + off = (tgt : Int)) (h : q_Wp G M K X k n tgt lo st A) : q_Wp G M K X k n pc lo (.ref x :: st) A :=
  fun p e s m args below meth c C H locs ls hR hS hl => lv_ifnonnull C.1 C.2.1 hd ht (h p e s m args below meth c C H locs ls hR hS hl)
theorem q_nnl_n {off : Int} (hd : decode (q_cc M) pc = .ok (.ifnonnull off, 3)) (h : q_Wp G M K X k n (pc + 3) lo st A) : q_Wp G M K X k n pc lo (.null :: st) A :=
  fun p e s m args below meth c C H locs ls hR hS hl => lv_ifnonnullN C.1 C.2.1 hd (h p e s m args below meth c C H locs ls hR hS hl)
theorem q_idiv {x y : Int32} (hd : decode (q_cc M) pc = .ok (.idiv, 1)) (hne : ¬ y = 0) (h : q_Wp G M K X k n (pc + 1) lo (.int (x / y) :: st) A) : q_Wp G M K X k n pc lo (.int y :: .int x :: st) A :=
  fun p e s m args below meth c C H locs ls hR hS hl => lv_idiv C.1 C.2.1 hd hne (h p e s m args below meth c C H locs ls hR hS hl)
theorem q_irem {x y : Int32} (hd : decode (q_cc M) pc = .ok (.irem, 1)) (hne : ¬ y = 0) (h : q_Wp G M K X k n (pc + 1) lo (.int (x - x / y * y) :: st) A) : q_Wp G M K X k n pc lo (.int y :: .int x :: st) A :=
  fun p e s m args below meth c C H locs ls hR hS hl => lv_irem C.1 C.2.1 hd hne (h p e s m args below meth c C H locs ls hR hS hl)
theorem q_ldiv {x y : Int64} (hd : decode (q_cc M) pc = .ok (.ldiv, 1)) (hne : ¬ y = 0) (h : q_Wp G M K X k n (pc + 1) lo (.long (x / y) :: st) A) : q_Wp G M K X k n pc lo (.long y :: .long x :: st) A :=
  fun p e s m args below meth c C H locs ls hR hS hl => lv_ldiv C.1 C.2.1 hd hne (h p e s m args below meth c C H locs ls hR hS hl)
theorem q_ddiv {x y : UInt64} (hd : decode (q_cc M) pc = .ok (.ddiv, 1)) (hne : vf_n64 (FP.ddiv x y)) (h : q_Wp G M K X k n (pc + 1) lo (.double (FP.ddiv x y) :: st) A) : q_Wp G M K X k n pc lo (.double y :: .double x :: st) A :=
  fun p e s m args below meth c C H locs ls hR hS hl => lv_ddiv C.1 C.2.1 hd hne (h p e s m args below meth c C H locs ls hR hS hl)
theorem q_fdiv {x y : UInt32} (hd : decode (q_cc M) pc = .ok (.fdiv, 1)) (hne : vf_n32 (FP.fdiv x y)) (h : q_Wp G M K X k n (pc + 1) lo (.float (FP.fdiv x y) :: st) A) : q_Wp G M K X k n pc lo (.float y :: .float x :: st) A :=
  fun p e s m args below meth c C H locs ls hR hS hl => lv_fdiv C.1 C.2.1 hd hne (h p e s m args below meth c C H locs ls hR hS hl)
theorem q_f2d {x : UInt32} (hd : decode (q_cc M) pc = .ok (.f2d, 1)) (hne : vf_n64 (FP.f2d x)) (h : q_Wp G M K X k n (pc + 1) lo (.double (FP.f2d x) :: st) A) : q_Wp G M K X k n pc lo (.float x :: st) A :=
  fun p e s m args below meth c C H locs ls hR hS hl => lv_f2d C.1 C.2.1 hd hne (h p e s m args below meth c C H locs ls hR hS hl)
theorem q_fconst0 (hd : decode (q_cc M) pc = .ok (.fconst 0, 1)) (h : q_Wp G M K X k n (pc + 1) lo (.float FP.fconst0 :: st) A) : q_Wp G M K X k n pc lo st A :=
  fun p e s m args below meth c C H locs ls hR hS hl => lv_fconst0 C.1 C.2.1 hd (h p e s m args below meth c C H locs ls hR hS hl)
theorem q_dconst0 (hd : decode (q_cc M) pc = .ok (.dconst 0, 1)) (h : q_Wp G M K X k n (pc + 1) lo (.double FP.dconst0 :: st) A) : q_Wp G M K X k n pc lo st A :=
  fun p e s m args below meth c C H locs ls hR hS hl => lv_dconst0 C.1 C.2.1 hd (h p e s m args below meth c C H locs ls hR hS hl)
theorem q_ldc2 {i : Nat} {v : Int64} (hw : Cond.constantLong M.1.cls i v ∈ q_UW) (hd : decode (q_cc M) pc = .ok (.ldc2_w i, 3)) (h : q_Wp G M K X k n (pc + 3) lo (.long v :: st) A) : q_Wp G M K X k n pc lo st A :=
  fun p e s m args below meth c C H locs ls hR hS hl => lv_ldc2 C.1 C.2.1 C.2.2.2.2.1 (C.2.2.2.2.2.1 _ hw) hd (h p e s m args below meth c C H locs ls hR hS hl)
/-- fewer locals known -/
theorem q_weak (lo' : List (Option Value)) (hl2 : lo'.length = lo.length) (hw : ∀ (i : Nat) (v : Value), lo'[i]? = some (some v) → lo[i]? = some (some v)) (h : q_Wp G M K X k n pc lo' st A) : q_Wp G M K X k n pc lo st A :=
  fun p e s m args below meth c C H locs ls hR hS hl => h p e s m args below meth c C H locs ls hR hS ⟨hl.1, hl2.trans hl.2.1, hl.2.2.1, fun i v hv => hl.2.2.2 i v (hw i v hv)⟩
def q_le : List (Option Value) → List (Option Value) → Prop
  | [], [] => True
  | none :: t, _ :: t' => q_le t t'
  | some v :: t, o :: t' => o = some v ∧ q_le t t'
  | _, _ => False
theorem q_le_get : ∀ (a b : List (Option Value)), q_le a b → a.length = b.length ∧ ∀ (i : Nat) (v : Value), a[i]? = some (some v) → b[i]? = some (some v)
  | [], [], _ => ⟨rfl, fun i v h => by simp at h⟩
  | none :: t, o :: t', h => by
    obtain ⟨h1, h2⟩ := q_le_get t t' h
    refine ⟨by simp [h1], fun i v hv => ?_⟩
    match i, hv with
    | 0, hv => simp at hv
    | i + 1, hv => simpa using h2 i v (by simpa using hv)
  | some w :: t, o :: t', h => by
    obtain ⟨h0, h⟩ := h
    obtain ⟨h1, h2⟩ := q_le_get t t' h
    refine ⟨by simp [h1], fun i v hv => ?_⟩
    match i, hv with
    | 0, hv => simp at hv; subst hv; simp [h0]
    | i + 1, hv => simpa using h2 i v (by simpa using hv)
  | [], _ :: _, h => h.elim
  | none :: _, [], h => h.elim
  | some _ :: _, [], h => h.elim
theorem q_wk (lo' : List (Option Value)) (hw : q_le lo' lo) (h : q_Wp G M K X k n pc lo' st A) : q_Wp G M K X k n pc lo st A := q_weak lo' (q_le_get _ _ hw).1 (q_le_get _ _ hw).2 h
theorem q_more (k2 n2 : Nat) (h1 : k ≤ k2) (h2 : n ≤ n2) (h : q_Wp G M K X k2 n2 pc lo st A) : q_Wp G M K X k n pc lo st A :=
  fun p e s m args below meth c C H locs ls hR hS hl => W.widen h1 h2 (h p e s m args below meth c C H locs ls hR hS hl)
/-! ENDS -/
def q_KV (f : q_H → Prop) : Option Value → q_H → Prop := fun v A => v = none ∧ f A
def q_KI (f : Int32 → q_H → Prop) : Option Value → q_H → Prop := fun v A => ∃ r : Int32, v = some (.int r) ∧ f r A
def q_i (b : Bool) : Int32 := if b = true then 1 else 0
def q_KB (f : Bool → q_H → Prop) : Option Value → q_H → Prop := fun v A => ∃ b : Bool, v = some (.int (q_i b)) ∧ f b A
def q_KL (f : Int64 → q_H → Prop) : Option Value → q_H → Prop := fun v A => ∃ r : Int64, v = some (.long r) ∧ f r A
def q_KF (f : UInt32 → q_H → Prop) : Option Value → q_H → Prop := fun v A => ∃ r : UInt32, v = some (.float r) ∧ f r A
def q_KD (f : UInt64 → q_H → Prop) : Option Value → q_H → Prop := fun v A => ∃ r : UInt64, v = some (.double r) ∧ f r A
def q_KR (f : Option Nat → q_H → Prop) : Option Value → q_H → Prop := fun v A => ∃ r : Option Nat, v = some (va_rf r) ∧ f r A
def q_nX : String → q_H → Prop := fun _ _ => False
theorem q_ends {p : Program} {e : Env} {s : State} {m : MethodId} {args : Array Value} {below : List Frame} {meth : Method} {c : Code} {H : Heap} {locs : List Loc} {g : JFrame} (hk : k ≤ (q_rm M).cells) (hn : n ≤ (q_rm M).slots) (h : W p (q_l G) e (q_rm M) s m args below meth c H locs (q_rm M).cells (q_rm M).slots (MQ below (q_Q G K) args s (q_rm M).cells (q_rm M).slots (q_F G)) g) :
    W p (q_l G) e (q_rm M) s m args below meth c H locs k n (vx_MQ below (q_Q G K) (q_XC G X) args s (q_rm M).cells (q_rm M).slots (q_F G)) g := W.widen hk hn (vx_ret h)
theorem q_ret0 (hrt : q_rt M = none) (hk : k ≤ (q_rm M).cells) (hn : n ≤ (q_rm M).slots) (hd : decode (q_cc M) pc = .ok (.return_, 1)) (h : K none A) : q_Wp G M K X k n pc lo [] A := by
  intro p e s m args below meth c C H locs ls hR hS hl
  obtain ⟨hx, hb, hr, -, -, -, hlk, -⟩ := C
  exact q_ends hk hn (W.vret hx hb (hr.trans hrt) (fun t ht hW => ⟨none, A, rfl, by rw [ht]; exact hR.moved hW.alike, hS.F ht, h⟩) hS.2.2 hd hlk)
theorem q_retI {r : Int32} (hrt : q_rt M = some .int) (hk : k ≤ (q_rm M).cells) (hn : n ≤ (q_rm M).slots) (hd : decode (q_cc M) pc = .ok (.ireturn, 1)) (h : K (some (.int r)) A) : q_Wp G M K X k n pc lo [.int r] A := by
  intro p e s m args below meth c C H locs ls hR hS hl
  obtain ⟨hx, hb, hr, -, -, -, hlk, -⟩ := C
  exact q_ends hk hn (W.iret hx hb (hr.trans hrt) (fun t ht hW => ⟨_, A, rfl, by rw [ht]; exact hR.moved hW.alike, hS.F ht, h⟩) hS.2.2 hd hlk)
theorem q_retZ {r : Int32} {ty : FieldType} (hrt : q_rt M = some ty) (hz : narrow ty (.int r) = .int r) (hk : k ≤ (q_rm M).cells) (hn : n ≤ (q_rm M).slots) (hd : decode (q_cc M) pc = .ok (.ireturn, 1)) (h : K (some (.int r)) A) : q_Wp G M K X k n pc lo [.int r] A := by
  intro p e s m args below meth c C H locs ls hR hS hl
  obtain ⟨hx, hb, hr, -, -, -, hlk, -⟩ := C
  exact q_ends hk hn (W.zret hx hb (hr.trans hrt) hz (fun t ht hW => ⟨_, A, rfl, by rw [ht]; exact hR.moved hW.alike, hS.F ht, h⟩) hS.2.2 hd hlk)
theorem q_retL {r : Int64} (hrt : q_rt M = some .long) (hk : k ≤ (q_rm M).cells) (hn : n ≤ (q_rm M).slots) (hd : decode (q_cc M) pc = .ok (.lreturn, 1)) (h : K (some (.long r)) A) : q_Wp G M K X k n pc lo [.long r] A := by
  intro p e s m args below meth c C H locs ls hR hS hl
  obtain ⟨hx, hb, hr, -, -, -, hlk, -⟩ := C
  exact q_ends hk hn (W.lret hx hb (hr.trans hrt) (fun t ht hW => ⟨_, A, rfl, by rw [ht]; exact hR.moved hW.alike, hS.F ht, h⟩) hS.2.2 hd hlk)
theorem q_retF {r : UInt32} (hrt : q_rt M = some .float) (hk : k ≤ (q_rm M).cells) (hn : n ≤ (q_rm M).slots) (hd : decode (q_cc M) pc = .ok (.freturn, 1)) (h : K (some (.float r)) A) : q_Wp G M K X k n pc lo [.float r] A := by
  intro p e s m args below meth c C H locs ls hR hS hl
  obtain ⟨hx, hb, hr, -, -, -, hlk, -⟩ := C
  exact q_ends hk hn (W.fret hx hb (hr.trans hrt) (fun t ht hW => ⟨_, A, rfl, by rw [ht]; exact hR.moved hW.alike, hS.F ht, h⟩) hS.2.2 hd hlk)
theorem q_retD {r : UInt64} (hrt : q_rt M = some .double) (hk : k ≤ (q_rm M).cells) (hn : n ≤ (q_rm M).slots) (hd : decode (q_cc M) pc = .ok (.dreturn, 1)) (h : K (some (.double r)) A) : q_Wp G M K X k n pc lo [.double r] A := by
  intro p e s m args below meth c C H locs ls hR hS hl
  obtain ⟨hx, hb, hr, -, -, -, hlk, -⟩ := C
  exact q_ends hk hn (W.dret hx hb (hr.trans hrt) (fun t ht hW => ⟨_, A, rfl, by rw [ht]; exact hR.moved hW.alike, hS.F ht, h⟩) hS.2.2 hd hlk)
theorem q_retR {r : Option Nat} {rt : FieldType} (hrt : q_rt M = some rt) (hty : (∃ n, rt = .object n) ∨ ∃ t, rt = .array t) (hk : k ≤ (q_rm M).cells) (hn : n ≤ (q_rm M).slots) (hd : decode (q_cc M) pc = .ok (.areturn, 1)) (h : K (some (va_rf r)) A) : q_Wp G M K X k n pc lo [va_rf r] A := by
  intro p e s m args below meth c C H locs ls hR hS hl
  obtain ⟨hx, hb, hr, -, -, -, hlk, -⟩ := C
  refine q_ends hk hn (W.aret hx hb (hr.trans hrt) hty ?_ (fun t ht hW => ⟨_, A, rfl, by rw [ht]; exact hR.moved hW.alike, hS.F ht, h⟩) hS.2.2 hd hlk)
  cases r with
  | none => exact Or.inl rfl
  | some a => exact Or.inr ⟨a, rfl⟩
end QS

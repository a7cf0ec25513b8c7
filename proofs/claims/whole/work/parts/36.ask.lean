/-! QUESTIONS ABOUT A LINE -/
def o_belt (S : s_T) : Nat := sm (fun s => if S 4 s 0 = 0 then 0 else 1) (S 8 1 0)
def o_bmass (S : s_T) : Nat := sm (fun s => s6 (S 0 (11 + s))) (S 8 1 0)
def o_kmass (S : s_T) : Nat := sm (fun s => s6 (S 0 (3 + s))) (S 8 1 0)
def o_hmass (S : s_T) : Nat := sm (fun k => s6 (S 0 (19 + k))) (S 2 10 0)
def o_smass (S : s_T) : Nat := sm (fun b => s6 (S 0 (49 + b))) (S 2 11 0)
def o_gt (S : s_T) : Nat → Nat
  | 0 => 0
  | n + 1 => if o_gt S n < S 5 n 1 then S 5 n 1 else o_gt S n
def p_worth (price gra : Nat) : Nat := if gra = 0 then price else if gra = 1 then price * 70 / 100 else price * 40 / 100
def p_claim (price pur tol rate : Nat) : Nat := price * (100 - pur - tol) * rate / 100
def p_pay (price pur gra tol rate : Nat) : Nat := if tol < 100 - pur then p_worth price gra - (if p_worth price gra < p_claim price pur tol rate then p_worth price gra else p_claim price pur tol rate) else p_worth price gra
section CQ
variable {G : q_G} {X : String → q_H → Prop} {A0 A : q_H} {l : l_T} {S : s_T} {R : Nat} {B : Nat → Nat} {P : Nat}
theorem L_hasMat {f : Bool → q_H → Prop} (h : Lp A0 A l S) (h6 : S 8 0 0 ≤ 6) {x : Int32} (k1 : ∀ m, m < S 8 0 0 → x = nI m → f true A) (k2 : (∀ m, m < S 8 0 0 → ¬ x = nI m) → f false A) : q_Wc G M_X4_hasMaterial [.ref (l_a l), .int x] A (q_KB f) X := by
  refine f_X4_hasMaterial ⟨fun c => k2 fun s hs e => ?_, fun c => ⟨h.line, ?_⟩⟩
  · rw [e] at c; exact nI_pos (by omega) c
  · rw [h.mats]
    refine ⟨fun c2 => k2 fun s hs e => ?_, fun c2 => ?_⟩
    · rw [e] at c2; exact nI_ge hs (by omega) c2
    · rcases pk_ix x (n := S 8 0 0) (by omega) with c3 | c3 | ⟨j, hj, e⟩
      · exact absurd c3 c
      · exact absurd c3 c2
      · exact k1 j hj e
theorem L_buyerAt {f : Option Nat → q_H → Prop} (h : Lp A0 A l S) {x : Int32} (k1 : ∀ s, s < S 8 2 0 → x = nI s → f (some (l_a l + 273 + s)) A) (k2 : (∀ s, s < S 8 2 0 → ¬ x = nI s) → f none A) : q_Wc G M_X4_buyerAt [.ref (l_a l), .int x] A (q_KR f) X := by
  have hb := h.b
  unfold Lb at hb
  refine f_X4_buyerAt ⟨fun c => k2 fun s hs e => ?_, fun c => ⟨h.line, ?_⟩⟩
  · rw [e] at c; exact nI_pos (by omega) c
  · rw [h.nby]
    refine ⟨fun c2 => k2 fun s hs e => ?_, fun c2 => ?_⟩
    · rw [e] at c2; exact nI_ge hs (by omega) c2
    · rcases pk_ix x (n := S 8 2 0) (by omega) with c3 | c3 | ⟨j, hj, e⟩
      · exact absurd c3 c
      · exact absurd c3 c2
      · exact ⟨_, h.r4, 4, h.z3, by decide, j, e, by omega, _, h.rb (by omega), k1 j hj e⟩
theorem L_baleAt {f : Option Nat → q_H → Prop} (h : Lp A0 A l S) {x : Int32} (k1 : ∀ b, b < S 2 11 0 → x = nI b → f (some (l_b l b)) A) (k2 : (∀ b, b < S 2 11 0 → ¬ x = nI b) → f none A) : q_Wc G M_X7_baleAt [.ref (l_a l + 96), .int x] A (q_KR f) X := by
  have hb := h.b
  unfold Lb at hb
  refine f_X7_baleAt ⟨fun c => k2 fun s hs e => ?_, fun c => ⟨h.z96, ?_⟩⟩
  · rw [e] at c; exact nI_pos (by omega) c
  · rw [h.stock]
    refine ⟨fun c2 => k2 fun s hs e => ?_, fun c2 => ?_⟩
    · rw [e] at c2; exact nI_ge hs (by omega) c2
    · rcases pk_ix x (n := S 2 11 0) (by omega) with c3 | c3 | ⟨j, hj, e⟩
      · exact absurd c3 c
      · exact absurd c3 c2
      · exact ⟨_, h.r960, 40, h.z97, by decide, j, e, by omega, _, h.rk (by omega), k1 j hj e⟩
/-- the buyer of a name, if there is one -/
theorem w_buyerNamed {f : Int32 → q_H → Prop} (h : Lp A0 A l S) {x : Int32} (k1 : ∀ b, b < S 8 2 0 → nI (S 11 b 0) = x → (∀ c, c < b → ¬ nI (S 11 c 0) = x) → f (nI b) A) (k2 : (∀ b, b < S 8 2 0 → ¬ nI (S 11 b 0) = x) → f (-1) A) : ∀ (d i : Nat), i + d = S 8 2 0 → (∀ c, c < i → ¬ nI (S 11 c 0) = x) → q_Wp G M_X4_buyerNamed (q_KI f) X 0 0 2 [some (.ref (l_a l)), some (.int x), some (.int (nI i))] [] A
  | 0, i, e, hi => by
    have hb := h.b
    unfold Lb at hb
    have : i = S 8 2 0 := by omega
    rw [this] at hi ⊢
    refine f_X4_buyerNamed_2 ⟨h.line, ?_⟩
    rw [h.nby]
    exact ⟨fun _ => k2 hi, fun c => absurd (nI_le (Nat.le_refl _) (by omega)) c⟩
  | d + 1, i, e, hi => by
    have hb := h.b
    unfold Lb at hb
    refine f_X4_buyerNamed_2 ⟨h.line, ?_⟩
    rw [h.nby]
    refine ⟨fun c => absurd c (nI_ge (by omega) (by omega)), fun _ => ⟨_, h.r4, 4, h.z3, by decide, i, rfl, by omega, _, h.rb (by omega), h.zb (by omega), ?_⟩⟩
    rw [h.name (by omega)]
    refine ⟨fun c => k1 i (by omega) c hi, fun c => ?_⟩
    rw [nI_add]
    exact w_buyerNamed h k1 k2 d (i + 1) (by omega) fun c' hc' => by
      by_cases q : c' = i
      · subst q; exact c
      · exact hi c' (by omega)
theorem L_buyerNamed {f : Int32 → q_H → Prop} (h : Lp A0 A l S) {x : Int32} (k1 : ∀ b, b < S 8 2 0 → nI (S 11 b 0) = x → (∀ c, c < b → ¬ nI (S 11 c 0) = x) → f (nI b) A) (k2 : (∀ b, b < S 8 2 0 → ¬ nI (S 11 b 0) = x) → f (-1) A) : q_Wc G M_X4_buyerNamed [.ref (l_a l), .int x] A (q_KI f) X :=
  f_X4_buyerNamed (w_buyerNamed h k1 k2 _ 0 (Nat.zero_add _) (fun c hc => by omega))
theorem w_belt {f : Int32 → q_H → Prop} (h : Lp A0 A l S) (q : iv_t S) (k : f (nI (o_belt S)) A) : ∀ (d i : Nat), i + d = S 8 1 0 → q_Wp G M_X4_parcelsOnBelt (q_KI f) X 0 0 4 [some (.ref (l_a l)), some (.int (nI (sm (fun s => if S 4 s 0 = 0 then 0 else 1) i))), some (.int (nI i))] [] A
  | 0, i, e => by
    have hb := h.b
    unfold Lb at hb
    have : i = S 8 1 0 := by omega
    subst this
    refine f_X4_parcelsOnBelt_4 ⟨h.line, ?_⟩
    rw [h.nst]
    exact ⟨fun _ => k, fun c => absurd (nI_le (Nat.le_refl _) (by omega)) c⟩
  | d + 1, i, e => by
    have hb := h.b
    unfold Lb at hb
    have a := q i (by omega)
    have ih := w_belt h q k d (i + 1) (by omega)
    have es : sm (fun s => if S 4 s 0 = 0 then 0 else 1) (i + 1) = sm (fun s => if S 4 s 0 = 0 then 0 else 1) i + (if S 4 i 0 = 0 then 0 else 1) := rfl
    refine f_X4_parcelsOnBelt_4 ⟨h.line, ?_⟩
    rw [h.nst]
    refine ⟨fun c => absurd c (nI_ge (by omega) (by omega)), fun _ => ⟨_, h.r2, 8, h.z2, by decide, i, rfl, by omega, _, h.rs (by omega), h.zs (by omega), L_isSlotEmpty h (by omega) (by omega) fun b hb => ⟨fun e2 => ?_, fun e2 => ?_⟩⟩⟩
    · rw [nI_add, nI_add]
      rw [es, if_pos (a.2.2.2.2.mpr (hb.mp e2))] at ih
      exact ih
    · rw [nI_add, nI_add]
      rw [es, if_neg (fun z => by rw [hb.mpr (a.2.2.2.2.mp z)] at e2; cases e2)] at ih
      exact ih
theorem L_belt {f : Int32 → q_H → Prop} (h : Lp A0 A l S) (q : iv_t S) (k : f (nI (o_belt S)) A) : q_Wc G M_X4_parcelsOnBelt [.ref (l_a l)] A (q_KI f) X :=
  f_X4_parcelsOnBelt (w_belt h q k _ 0 (Nat.zero_add _))
theorem w_bmass {f : Int32 → q_H → Prop} (h : Lp A0 A l S) (k : f (nI (o_bmass S)) A) : ∀ (d i : Nat), i + d = S 8 1 0 → q_Wp G M_X4_massOnBelt (q_KI f) X 0 0 4 [some (.ref (l_a l)), some (.int (nI (sm (fun s => s6 (S 0 (11 + s))) i))), some (.int (nI i))] [] A
  | 0, i, e => by
    have hb := h.b
    unfold Lb at hb
    have : i = S 8 1 0 := by omega
    subst this
    refine f_X4_massOnBelt_4 ⟨h.line, ?_⟩
    rw [h.nst]
    exact ⟨fun _ => k, fun c => absurd (nI_le (Nat.le_refl _) (by omega)) c⟩
  | d + 1, i, e => by
    have hb := h.b
    unfold Lb at hb
    have ih := w_bmass h k d (i + 1) (by omega)
    have es : sm (fun s => s6 (S 0 (11 + s))) (i + 1) = sm (fun s => s6 (S 0 (11 + s))) i + s6 (S 0 (11 + i)) := rfl
    refine f_X4_massOnBelt_4 ⟨h.line, ?_⟩
    rw [h.nst]
    refine ⟨fun c => absurd c (nI_ge (by omega) (by omega)), fun _ => ⟨_, h.r2, 8, h.z2, by decide, i, rfl, by omega, _, h.rs (by omega), h.zs (by omega), _, h.rs7 (by omega), h.zsl (by omega), _, h.rsl (by omega), h.zh (by omega), ?_⟩⟩
    rw [h.t (lv_slot (by omega)), nI_add, nI_add, ← es]
    exact ih
theorem L_bmass {f : Int32 → q_H → Prop} (h : Lp A0 A l S) (k : f (nI (o_bmass S)) A) : q_Wc G M_X4_massOnBelt [.ref (l_a l)] A (q_KI f) X :=
  f_X4_massOnBelt (w_bmass h k _ 0 (Nat.zero_add _))
theorem w_kmass {f : Int32 → q_H → Prop} (h : Lp A0 A l S) (k : f (nI (o_kmass S)) A) : ∀ (d i : Nat), i + d = S 8 1 0 → q_Wp G M_X4_massInBunkers (q_KI f) X 0 0 4 [some (.ref (l_a l)), some (.int (nI (sm (fun s => s6 (S 0 (3 + s))) i))), some (.int (nI i))] [] A
  | 0, i, e => by
    have hb := h.b
    unfold Lb at hb
    have : i = S 8 1 0 := by omega
    subst this
    refine f_X4_massInBunkers_4 ⟨h.line, ?_⟩
    rw [h.nst]
    exact ⟨fun _ => k, fun c => absurd (nI_le (Nat.le_refl _) (by omega)) c⟩
  | d + 1, i, e => by
    have hb := h.b
    unfold Lb at hb
    have ih := w_kmass h k d (i + 1) (by omega)
    have es : sm (fun s => s6 (S 0 (3 + s))) (i + 1) = sm (fun s => s6 (S 0 (3 + s))) i + s6 (S 0 (3 + i)) := rfl
    refine f_X4_massInBunkers_4 ⟨h.line, ?_⟩
    rw [h.nst]
    refine ⟨fun c => absurd c (nI_ge (by omega) (by omega)), fun _ => ⟨_, h.r2, 8, h.z2, by decide, i, rfl, by omega, _, h.rs (by omega), h.zs (by omega), _, h.rbn (by omega), h.zh (by omega), ?_⟩⟩
    rw [h.t (lv_bun (by omega)), nI_add, nI_add, ← es]
    exact ih
theorem L_kmass {f : Int32 → q_H → Prop} (h : Lp A0 A l S) (k : f (nI (o_kmass S)) A) : q_Wc G M_X4_massInBunkers [.ref (l_a l)] A (q_KI f) X :=
  f_X4_massInBunkers (w_kmass h k _ 0 (Nat.zero_add _))
theorem w_hmass {f : Int32 → q_H → Prop} (h : Lp A0 A l S) (k : f (nI (o_hmass S)) A) : ∀ (d i : Nat), i + d = S 2 10 0 → q_Wp G M_X3_totalMass (q_KI f) X 0 0 4 [some (.ref (l_a l + 4)), some (.int (nI (sm (fun k => s6 (S 0 (19 + k))) i))), some (.int (nI i))] [] A
  | 0, i, e => by
    have hb := h.b
    unfold Lb at hb
    have : i = S 2 10 0 := by omega
    subst this
    refine f_X3_totalMass_4 ⟨h.z4, ?_⟩
    rw [h.wait]
    exact ⟨fun _ => k, fun c => absurd (nI_le (Nat.le_refl _) (by omega)) c⟩
  | d + 1, i, e => by
    have hb := h.b
    have hw := h.w.2.2.2.2
    unfold Lb at hb
    have ih := w_hmass h k d (i + 1) (by omega)
    have es : sm (fun k => s6 (S 0 (19 + k))) (i + 1) = sm (fun k => s6 (S 0 (19 + k))) i + s6 (S 0 (19 + i)) := rfl
    refine f_X3_totalMass_4 ⟨h.z4, ?_⟩
    rw [h.wait]
    refine ⟨fun c => absurd c (nI_ge (by omega) (by omega)), fun _ => ⟨_, h.r40, 30, h.z5, by decide, (l_f l + i) % 30, by rw [h.fs, rem30 (by omega) (by omega)], by omega, _, h.rpk i, h.zp i, _, h.rpa (by omega), h.zh (by omega), ?_⟩⟩
    rw [h.t (lv_par (by omega)), nI_add, nI_add, ← es]
    exact ih
theorem L_hmass {f : Int32 → q_H → Prop} (h : Lp A0 A l S) (k : f (nI (o_hmass S)) A) : q_Wc G M_X3_totalMass [.ref (l_a l + 4)] A (q_KI f) X :=
  f_X3_totalMass (w_hmass h k _ 0 (Nat.zero_add _))
theorem w_smass {f : Int32 → q_H → Prop} (h : Lp A0 A l S) (k : f (nI (o_smass S)) A) : ∀ (d i : Nat), i + d = S 2 11 0 → q_Wp G M_X7_totalMass (q_KI f) X 0 0 4 [some (.ref (l_a l + 96)), some (.int (nI (sm (fun b => s6 (S 0 (49 + b))) i))), some (.int (nI i))] [] A
  | 0, i, e => by
    have hb := h.b
    unfold Lb at hb
    have : i = S 2 11 0 := by omega
    subst this
    refine f_X7_totalMass_4 ⟨h.z96, ?_⟩
    rw [h.stock]
    exact ⟨fun _ => k, fun c => absurd (nI_le (Nat.le_refl _) (by omega)) c⟩
  | d + 1, i, e => by
    have hb := h.b
    unfold Lb at hb
    have ih := w_smass h k d (i + 1) (by omega)
    have es : sm (fun b => s6 (S 0 (49 + b))) (i + 1) = sm (fun b => s6 (S 0 (49 + b))) i + s6 (S 0 (49 + i)) := rfl
    refine f_X7_totalMass_4 ⟨h.z96, ?_⟩
    rw [h.stock]
    refine ⟨fun c => absurd c (nI_ge (by omega) (by omega)), fun _ => ⟨_, h.r960, 40, h.z97, by decide, i, rfl, by omega, _, h.rk (by omega), (h.kb (by omega)).1, _, h.rba (by omega), h.zh (by omega), ?_⟩⟩
    rw [h.t (lv_bal (by omega)), nI_add, nI_add, ← es]
    exact ih
theorem L_smass {f : Int32 → q_H → Prop} (h : Lp A0 A l S) (k : f (nI (o_smass S)) A) : q_Wc G M_X7_totalMass [.ref (l_a l + 96)] A (q_KI f) X :=
  f_X7_totalMass (w_smass h k _ 0 (Nat.zero_add _))
theorem gt_le (S : s_T) (h : ∀ s, s < S 8 1 0 → S 5 s 1 ≤ 60) : ∀ n, n ≤ S 8 1 0 → o_gt S n ≤ 60
  | 0, _ => by simp [o_gt]
  | n + 1, hn => by
    unfold o_gt
    have := h n (by omega)
    have := gt_le S h n (by omega)
    split <;> omega
theorem w_gt {f : Int32 → q_H → Prop} (h : Lp A0 A l S) (q : iv_t S) (k : f (nI (o_gt S (S 8 1 0))) A) : ∀ (d i : Nat), i + d = S 8 1 0 → q_Wp G M_X4_greatestTiredness (q_KI f) X 0 0 4 [some (.ref (l_a l)), some (.int (nI (o_gt S i))), some (.int (nI i))] [] A
  | 0, i, e => by
    have hb := h.b
    unfold Lb at hb
    have : i = S 8 1 0 := by omega
    subst this
    refine f_X4_greatestTiredness_4 ⟨h.line, ?_⟩
    rw [h.nst]
    exact ⟨fun _ => k, fun c => absurd (nI_le (Nat.le_refl _) (by omega)) c⟩
  | d + 1, i, e => by
    have hb := h.b
    unfold Lb at hb
    have ih := w_gt h q k d (i + 1) (by omega)
    have hg := gt_le S (fun s hs => (q s hs).2.1) i (by omega)
    have a := (q i (by omega)).2.1
    refine f_X4_greatestTiredness_4 ⟨h.line, ?_⟩
    rw [h.nst]
    refine ⟨fun c => absurd c (nI_ge (by omega) (by omega)), fun _ => ⟨_, h.r2, 8, h.z2, by decide, i, rfl, by omega, _, h.rs (by omega), h.zs (by omega), ?_⟩⟩
    rw [h.ti (by omega), nI_add]
    have e2 : (if nI (o_gt S i) < nI (S 5 i 1) then nI (S 5 i 1) else nI (o_gt S i)) = nI (o_gt S (i + 1)) := by
      show _ = nI (if o_gt S i < S 5 i 1 then S 5 i 1 else o_gt S i)
      by_cases c : o_gt S i < S 5 i 1
      · rw [if_pos c, if_pos (nI_lt c (by omega))]
      · rw [if_neg c, if_neg (nI_nlt (by omega) (by omega))]
    rw [e2]
    exact ih
theorem L_gt {f : Int32 → q_H → Prop} (h : Lp A0 A l S) (q : iv_t S) (k : f (nI (o_gt S (S 8 1 0))) A) : q_Wc G M_X4_greatestTiredness [.ref (l_a l)] A (q_KI f) X :=
  f_X4_greatestTiredness (w_gt h q k _ 0 (Nat.zero_add _))
theorem belt_le (S : s_T) : o_belt S ≤ S 8 1 0 := by
  have := sm_bd (f := fun s => if S 4 s 0 = 0 then 0 else 1) (c := 1) (n := S 8 1 0) (fun i _ => by show (if _ then _ else _) ≤ 1; split <;> omega)
  unfold o_belt; omega
theorem L_isEmptied {f : Bool → q_H → Prop} (h : Lp A0 A l S) (q : iv_t S) (k : f (decide (S 2 10 0 = 0 ∧ o_belt S = 0)) A) : q_Wc G M_X4_isEmptied [.ref (l_a l)] A (q_KB f) X := by
  have hb := h.b
  unfold Lb at hb
  have hbl := belt_le S
  refine f_X4_isEmptied ⟨h.line, _, h.r6, h.z4, ?_⟩
  rw [h.wait]
  refine ⟨fun c => L_belt h q ⟨fun c2 => ?_, fun c2 => ?_⟩, fun c => ?_⟩
  · have e1 : S 2 10 0 = 0 := (nI_eq (by omega) (by decide)).mp c
    have e2 : o_belt S = 0 := (nI_eq (by omega) (by decide)).mp c2
    rw [decide_eq_true ⟨e1, e2⟩] at k; exact k
  · have e2 : ¬ o_belt S = 0 := fun z => c2 (by rw [z])
    rw [decide_eq_false (fun z => e2 z.2)] at k; exact k
  · have e1 : ¬ S 2 10 0 = 0 := fun z => c (by rw [z])
    rw [decide_eq_false (fun z => e1 z.1)] at k; exact k
/-- the heap at a place -/
theorem L_heapAt {f : Option Nat → q_H → Prop} (h : Lp A0 A l S) {p : Nat} (hp : p ≤ 46) (k : ∀ o, o = (if p = 46 then some (ha l 0) else if 16 ≤ p then (if p - 16 < S 2 10 0 then some (ha l (19 + (p - 16))) else none) else if 8 ≤ p then (if p - 8 < S 8 1 0 then some (ha l (11 + (p - 8))) else none) else if p < S 8 1 0 then some (ha l (3 + p)) else none) → f o A) : q_Wc G M_X4_heapAt [.ref (l_a l), .int (nI p)] A (q_KR f) X := by
  have hb := h.b
  unfold Lb at hb
  refine f_X4_heapAt ⟨fun c => ?_, fun c => ⟨fun c2 => ⟨fun c3 => ?_, fun c3 => ?_⟩, fun c2 => ?_⟩⟩
  · have : p = 46 := (nI_eq (by omega) (by decide)).mp c
    exact ⟨h.line, _, h.r8, k _ (by rw [if_pos this]; rfl)⟩
  · have c0 : ¬ p = 46 := fun z => c (by rw [z])
    have d2 : p < 16 := (nI_ltI (by omega) (by decide)).mp c2
    have d3 : p < 8 := (nI_ltI (by omega) (by decide)).mp c3
    rw [if_neg c0, if_neg (by omega), if_neg (by omega)] at k
    refine ⟨h.line, L_stationAt h (fun s hs e => ⟨fun e2 => (by cases e2), fun r e2 => ?_⟩) (fun hn => ⟨fun _ => k _ (by rw [if_neg (fun z => hn p z rfl)]), fun r e2 => (by cases e2)⟩)⟩
    cases e2
    have : p = s := (nI_eq (by omega) (by omega)).mp e
    subst this
    exact ⟨h.zs (by omega), _, h.rbn (by omega), k _ (by rw [if_pos hs])⟩
  · have c0 : ¬ p = 46 := fun z => c (by rw [z])
    have d2 : p < 16 := (nI_ltI (by omega) (by decide)).mp c2
    have d3 : ¬ p < 8 := fun z => c3 (nI_lt z (by decide))
    rw [if_neg c0, if_neg (by omega), if_pos (by omega)] at k
    rw [pk_sub (by omega)]
    refine ⟨h.line, L_stationAt h (fun s hs e => ⟨fun e2 => (by cases e2), fun r e2 => ?_⟩) (fun hn => ⟨fun _ => k _ (by rw [if_neg (fun z => hn (p - 8) z rfl)]), fun r e2 => (by cases e2)⟩)⟩
    cases e2
    have : p - 8 = s := (nI_eq (by omega) (by omega)).mp e
    subst this
    exact ⟨h.zs (by omega), _, h.rs7 (by omega), h.zsl (by omega), _, h.rsl (by omega), k _ (by rw [if_pos hs])⟩
  · have c0 : ¬ p = 46 := fun z => c (by rw [z])
    have d2 : ¬ p < 16 := fun z => c2 (nI_lt z (by decide))
    rw [if_neg c0, if_pos (by omega)] at k
    rw [pk_sub (by omega)]
    refine ⟨h.line, _, h.r6, h.z4, L_parcelAt h (fun s hs e => ⟨fun e2 => (by cases e2), fun r e2 => ?_⟩) (fun hn => ⟨fun _ => k _ (by rw [if_neg (fun z => hn (p - 16) z rfl)]), fun r e2 => (by cases e2)⟩)⟩
    cases e2
    have : p - 16 = s := (nI_eq (by omega) (by omega)).mp e
    subst this
    exact ⟨h.zp _, _, h.rpa (by omega), k _ (by rw [if_pos hs])⟩
/-! buyers -/
theorem c_takes {f : Bool → q_H → Prop} {y b : Nat} {m w i g : Nat} (zy : q_sh A y = (2, 0)) (zb : q_sh A b = (1, 0)) (h1 : q_I A y 1 = nI m) (h2 : q_I A y 2 = nI w) (h3 : q_I A b 1 = nI i) (h4 : q_I A b 3 = nI g) (hm : m < 100) (hw : w < 100) (hi : i < 100) (hg : g < 100) (k : f (decide (i = m ∧ g ≤ w)) A) : q_Wc G M_X1_takes [.ref y, .ref b] A (q_KB f) X := by
  refine f_X1_takes ⟨zb, zy, ?_⟩
  rw [h1, h2, h3, h4]
  refine ⟨fun c => ⟨fun c2 => ?_, fun c2 => ?_⟩, fun c => ?_⟩
  · have := (nI_ltI (by omega) (by omega)).mp c2
    rw [decide_eq_false (by omega)] at k; exact k
  · have e1 := (nI_eq (by omega) (by omega)).mp c
    have e2 : ¬ w < g := fun z => c2 (nI_lt z (by omega))
    rw [decide_eq_true (by omega)] at k; exact k
  · have e1 : ¬ i = m := fun z => c (by rw [z])
    rw [decide_eq_false (by omega)] at k; exact k
theorem c_sendsBack {f : Bool → q_H → Prop} {y b : Nat} {lim p : Nat} (zy : q_sh A y = (2, 0)) (zb : q_sh A b = (1, 0)) (h1 : q_I A y 5 = nI lim) (h2 : q_I A b 2 = nI p) (hl : lim ≤ 100) (hp : p ≤ 100) (k : f (decide (lim < 100 - p)) A) : q_Wc G M_X1_sendsBack [.ref y, .ref b] A (q_KB f) X := by
  refine f_X1_sendsBack ⟨zb, zy, ?_⟩
  rw [h1, h2, pk_sub hp]
  refine ⟨fun c => ?_, fun c => ?_⟩
  · have := (nI_leI (by omega) (by omega)).mp c
    rw [decide_eq_false (by omega)] at k; exact k
  · have : ¬ 100 - p ≤ lim := fun z => c (nI_le z (by omega))
    rw [decide_eq_true (by omega)] at k; exact k
theorem c_claimsFor {f : Bool → q_H → Prop} {y b : Nat} {tol p : Nat} (zy : q_sh A y = (2, 0)) (zb : q_sh A b = (1, 0)) (h1 : q_I A y 4 = nI tol) (h2 : q_I A b 2 = nI p) (hl : tol ≤ 100) (hp : p ≤ 100) (k : f (decide (tol < 100 - p)) A) : q_Wc G M_X1_claimsFor [.ref y, .ref b] A (q_KB f) X := by
  refine f_X1_claimsFor ⟨zb, zy, ?_⟩
  rw [h1, h2, pk_sub hp]
  refine ⟨fun c => ?_, fun c => ?_⟩
  · have := (nI_leI (by omega) (by omega)).mp c
    rw [decide_eq_false (by omega)] at k; exact k
  · have : ¬ 100 - p ≤ tol := fun z => c (nI_le z (by omega))
    rw [decide_eq_true (by omega)] at k; exact k
theorem worth_le (price gra : Nat) : p_worth price gra ≤ price := by
  unfold p_worth
  split
  · omega
  · split <;> omega
theorem c_worthOf {f : Int32 → q_H → Prop} {y : Nat} {price g : Nat} (zy : q_sh A y = (2, 0)) (h1 : q_I A y 3 = nI price) (hp : price ≤ 9999) (hg : g < 100) (k : f (nI (p_worth price g)) A) : q_Wc G M_X1_worthOf [.ref y, .int (nI g)] A (q_KI f) X := by
  refine f_X1_worthOf ⟨fun c => ⟨zy, ?_⟩, fun c => ⟨zy, ?_⟩, fun c c2 => ⟨zy, ?_⟩⟩
  · have : g = 0 := (nI_eq (by omega) (by decide)).mp c
    subst this
    rw [h1]; exact k
  · have : g = 1 := (nI_eq (by omega) (by decide)).mp c
    subst this
    rw [h1, pk_mul, pk_div (by omega) (by decide) (by decide)]; exact k
  · have e0 : ¬ g = 0 := fun z => c (by rw [z])
    have e1 : ¬ g = 1 := fun z => c2 (by rw [z])
    unfold p_worth at k
    rw [if_neg e0, if_neg e1] at k
    rw [h1, pk_mul, pk_div (by omega) (by decide) (by decide)]; exact k
theorem claim_bd {price pur tol rate : Nat} (hp : price ≤ 9999) (hr : rate ≤ 20) : price * (100 - pur - tol) * rate ≤ 19998000 := by
  have a : price * (100 - pur - tol) ≤ 9999 * 100 := Nat.mul_le_mul hp (by omega)
  have b : price * (100 - pur - tol) * rate ≤ 9999 * 100 * 20 := Nat.mul_le_mul a hr
  omega
theorem c_payFor {f : Int32 → q_H → Prop} {y b : Nat} {price tol p g rate : Nat} (zy : q_sh A y = (2, 0)) (zb : q_sh A b = (1, 0)) (h1 : q_I A y 3 = nI price) (h2 : q_I A y 4 = nI tol) (h3 : q_I A b 2 = nI p) (h4 : q_I A b 3 = nI g) (hpr : price ≤ 9999) (ht : tol ≤ 100) (hp : p ≤ 100) (hg : g < 100) (hr : rate ≤ 20) (k : f (nI (p_pay price p g tol rate)) A) : q_Wc G M_X1_payFor [.ref y, .ref b, .int (nI rate)] A (q_KI f) X := by
  have hw := worth_le price g
  refine f_X1_payFor ⟨zb, zy, ?_⟩
  rw [h4]
  refine c_worthOf zy h1 hpr hg ⟨zy, c_claimsFor zy zb h2 h3 ht hp ⟨fun c => ⟨zy, zb, ?_⟩, fun c => ?_⟩⟩
  · have c1 : tol < 100 - p := of_decide_eq_true c
    have hc := claim_bd (pur := p) (tol := tol) hpr hr
    rw [h1, h2, h3, pk_sub hp, pk_sub (by omega), pk_mul, pk_mul, pk_div (by omega) (by decide) (by decide)]
    unfold p_pay at k
    rw [if_pos c1] at k
    have hcl : p_claim price p tol rate ≤ 19998000 := Nat.le_trans (Nat.div_le_self _ _) hc
    have e : (if nI (p_worth price g) < nI (price * (100 - p - tol) * rate / 100) then nI (p_worth price g) else nI (price * (100 - p - tol) * rate / 100)) = nI (if p_worth price g < p_claim price p tol rate then p_worth price g else p_claim price p tol rate) := by
      show (if nI (p_worth price g) < nI (p_claim price p tol rate) then nI (p_worth price g) else nI (p_claim price p tol rate)) = _
      by_cases c2 : p_worth price g < p_claim price p tol rate
      · rw [if_pos c2, if_pos (nI_lt c2 (by omega))]
      · rw [if_neg c2, if_neg (nI_nlt (by omega) (by omega))]
    rw [e, pk_sub (by split <;> omega)]
    exact k
  · have c1 : ¬ tol < 100 - p := of_decide_eq_false c
    unfold p_pay at k
    rw [if_neg c1] at k
    exact k
end CQ

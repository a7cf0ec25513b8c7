/-! WHAT LEAVES THE BELT, WHAT IS FED -/
theorem isT_iff (S : s_T) (m : Nat) : ∀ n, o_isT S m n = true ↔ ∃ s, s < n ∧ S 9 s 0 = m
  | 0 => by simp [o_isT]
  | n + 1 => by
    unfold o_isT
    rw [Bool.or_eq_true, isT_iff S m n, decide_eq_true_eq]
    constructor
    · rintro (⟨s, h1, h2⟩ | h)
      · exact ⟨s, by omega, h2⟩
      · exact ⟨n, by omega, h⟩
    · rintro ⟨s, h1, h2⟩
      by_cases c : s = n
      · exact Or.inr (by rw [← c]; exact h2)
      · exact Or.inl ⟨s, by omega, h2⟩
section CB
variable {G : q_G} {X : String → q_H → Prop} {A0 A : q_H} {l : l_T} {S : s_T} {R : Nat} {B : Nat → Nat} {P : Nat}
theorem L_isFull {f : Bool → q_H → Prop} (h : Lp A0 A l S) (k : ∀ b : Bool, (b = true ↔ 30 ≤ S 2 10 0) → f b A) : q_Wc G M_X3_isFull [.ref (l_a l + 4)] A (q_KB f) X := by
  have hb := h.b
  unfold Lb at hb
  refine f_X3_isFull ⟨h.z4, ?_⟩
  rw [h.wait]
  refine ⟨fun c => k _ ?_, fun c => k _ ?_⟩
  · have := (nI_ltI (by omega) (by omega)).mp c
    simp; omega
  · have : ¬ S 2 10 0 < 30 := fun q => c (nI_lt q (by omega))
    simp; omega
theorem L_isSlotEmpty {f : Bool → q_H → Prop} (h : Lp A0 A l S) {s : Nat} (hs : s < S 8 1 0) (hb : s6 (S 0 (11 + s)) < 2147483648) (k : ∀ b : Bool, (b = true ↔ s6 (S 0 (11 + s)) = 0) → f b A) : q_Wc G M_X6_isSlotEmpty [.ref (l_a l + 225 + 6 * s)] A (q_KB f) X := by
  have hs8 := h.nst8 hs
  have hp := h.ks hs8
  refine f_X6_isSlotEmpty ⟨h.zs hs8, _, h.rs7 hs8, hp.1, _, hp.2.1, hp.2.2.1, ?_⟩
  have ht := h.t (lv_slot hs)
  rw [ha_slot l hs8] at ht
  rw [ht]
  refine ⟨fun c => k _ ?_, fun c => k _ ?_⟩
  · have := (nI_eq (by omega) (by omega)).mp c
    simp; exact this
  · have : ¬ s6 (S 0 (11 + s)) = 0 := fun q => c (by rw [q])
    simp; exact this
/-- a station, if there is one -/
theorem L_stationAt {f : Option Nat → q_H → Prop} (h : Lp A0 A l S) {x : Int32} (k1 : ∀ s, s < S 8 1 0 → x = nI s → f (some (l_a l + 225 + 6 * s)) A) (k2 : (∀ s, s < S 8 1 0 → ¬ x = nI s) → f none A) : q_Wc G M_X4_stationAt [.ref (l_a l), .int x] A (q_KR f) X := by
  have hb := h.b
  unfold Lb at hb
  refine f_X4_stationAt ⟨fun c => k2 fun s hs e => ?_, fun c => ⟨h.line, ?_⟩⟩
  · rw [e] at c; exact nI_pos (by omega) c
  · rw [h.nst]
    refine ⟨fun c2 => k2 fun s hs e => ?_, fun c2 => ?_⟩
    · rw [e] at c2; exact nI_ge hs (by omega) c2
    · rcases pk_ix x (n := S 8 1 0) (by omega) with c3 | c3 | ⟨j, hj, e⟩
      · exact absurd c3 c
      · exact absurd c3 c2
      · exact ⟨_, h.r2, 8, h.z2, by decide, j, e, by omega, _, h.rs (by omega), k1 j hj e⟩
theorem L_stationAtN {f : Option Nat → q_H → Prop} (h : Lp A0 A l S) {s : Nat} (hs : s < S 8 1 0) (k1 : f (some (l_a l + 225 + 6 * s)) A) : q_Wc G M_X4_stationAt [.ref (l_a l), .int (nI s)] A (q_KR f) X := by
  have hb := h.b
  unfold Lb at hb
  refine L_stationAt h (fun s' hs' e => ?_) (fun q => absurd rfl (q s hs))
  have : s = s' := (nI_eq (by omega) (by omega)).mp e
  subst this
  exact k1
theorem w_isTarget {f : Bool → q_H → Prop} (h : Lp A0 A l S) (hc : iv_c S) {m : Nat} (hm : m < 2147483648) (k : f (o_isT S m (S 8 1 0)) A) : ∀ (d i : Nat), i + d = S 8 1 0 → o_isT S m i = false → q_Wp G M_X4_isTarget (q_KB f) X 0 0 2 [some (.ref (l_a l)), some (.int (nI m)), some (.int (nI i))] [] A
  | 0, i, e, hi => by
    have hb := h.b
    unfold Lb at hb
    have : i = S 8 1 0 := by omega
    rw [this] at hi ⊢
    refine f_X4_isTarget_2 ⟨h.line, ?_⟩
    rw [h.nst]
    refine ⟨fun _ => by rw [hi] at k; exact k, fun c => absurd (nI_le (Nat.le_refl _) (by omega)) c⟩
  | d + 1, i, e, hi => by
    have hb := h.b
    unfold Lb at hb
    have ht := hc.2.2.2.2.2.1 i (by omega)
    have hm6 := hc.2.1
    refine f_X4_isTarget_2 ⟨h.line, ?_⟩
    rw [h.nst]
    refine ⟨fun c => absurd c (nI_ge (by omega) (by omega)), fun _ => ⟨_, h.r2, 8, h.z2, by decide, i, rfl, by omega, _, h.rs (by omega), h.zs (by omega), ?_⟩⟩
    rw [h.tg (by omega)]
    refine ⟨fun c => ?_, fun c => ?_⟩
    · have e1 : S 9 i 0 = m := (nI_eq (by omega) (by omega)).mp c
      have : o_isT S m (S 8 1 0) = true := (isT_iff S m _).mpr ⟨i, by omega, e1⟩
      rw [this] at k; exact k
    · rw [nI_add]
      refine w_isTarget h hc hm k d (i + 1) (by omega) ?_
      unfold o_isT
      rw [hi, Bool.false_or, decide_eq_false_iff_not]
      exact fun e2 => c (by rw [e2])
theorem L_isTarget {f : Bool → q_H → Prop} (h : Lp A0 A l S) (hc : iv_c S) {m : Nat} (hm : m < 2147483648) (k : f (o_isT S m (S 8 1 0)) A) : q_Wc G M_X4_isTarget [.ref (l_a l), .int (nI m)] A (q_KB f) X :=
  f_X4_isTarget (w_isTarget h hc hm k _ 0 (Nat.zero_add _) rfl)
theorem want_le (S : s_T) (s : Nat) (h : S 8 0 0 ≤ 6) : o_want S s ≤ s6 (S 0 (11 + s)) := by
  unfold o_want
  refine Nat.le_trans (sm_le (g := S 0 (11 + s)) fun i _ => ?_) (sm_s6 h)
  split <;> omega
theorem w_goesRound {f : Bool → q_H → Prop} (h : Lp A0 A l S) (q : iw R B P S) {s : Nat} (hs : s < S 8 1 0) (h0 : S 4 s 0 ≠ 0) (hr : S 4 s 0 - 1 < S 1 5 0) (hw : S 2 10 0 < 30) (k : ∀ b : Bool, (b = true ↔ o_again S s) → f b A) :
    ∀ (d m : Nat), m + d = S 8 0 0 → q_Wp G M_X4_goesRound (q_KB f) X 0 0 29 [some (.ref (l_a l)), some (.ref (l_s l s)), some (.int (nI (sm (fun m => if o_isT S m (S 8 1 0) = true then S 0 (11 + s) m else 0) m))), some (.int (nI m))] [] A
  | 0, m, e => by
    have q1 := q.1
    have q2 := q.2.1
    unfold iv_c at q1
    unfold iv_s at q2
    have hs8 := h.nst8 hs
    have hp := h.ks hs8
    have a := q.2.2.2.1 s hs
    have hm : m = S 8 0 0 := by omega
    subst hm
    have hwl := want_le S s q1.2.1
    have ew : sm (fun m => if o_isT S m (S 8 1 0) = true then S 0 (11 + s) m else 0) (S 8 0 0) = o_want S s := rfl
    have ht := h.t (lv_slot hs)
    rw [ha_slot l hs8] at ht
    have htot : s6 (S 0 (11 + s)) ≠ 0 := fun z => h0 (a.2.2.2.2.mpr z)
    refine f_X4_goesRound_29 ⟨h.line, ?_⟩
    rw [h.mats, ew]
    refine ⟨fun _ => ⟨hp.1, _, hp.2.1, hp.2.2.1, ?_⟩, fun c => absurd (nI_le (Nat.le_refl _) (by omega)) c⟩
    refine ⟨fun c => k _ ?_, fun c => ?_⟩
    · have c1 := (nI_ltI (by omega) (by omega)).mp c
      simp only [o_again]
      simp; omega
    · have c1 : 1 ≤ o_want S s := Nat.le_of_not_lt fun z => c (nI_lt z (by omega))
      rw [ht]
      refine ⟨fun c2 => absurd c2 (nI_nle (by omega) (by omega)), fun _ => ⟨nI_ne0 (by omega) (by omega), _, h.r1, 8, h.z1, by decide, by decide, ?_⟩⟩
      rw [h.set (by decide), pk_mul, pk_div (by omega) (by omega) (by omega)]
      have hdl : o_want S s * 100 / s6 (S 0 (11 + s)) ≤ o_want S s * 100 := Nat.div_le_self _ _
      refine ⟨fun c2 => k _ ?_, fun c2 => k _ ?_⟩
      · have := (nI_ltI (by omega) (by omega)).mp c2
        simp only [o_again]
        simp; omega
      · have : ¬ o_want S s * 100 / s6 (S 0 (11 + s)) < S 1 4 0 := fun z => c2 (nI_lt z (by omega))
        simp only [o_again]
        simp
        exact ⟨by omega, c1, hr, hw⟩
  | d + 1, m, e => by
    have q1 := q.1
    unfold iv_c at q1
    have hs8 := h.nst8 hs
    have hp := h.ks hs8
    have ih := w_goesRound h q hs h0 hr hw k d (m + 1) (by omega)
    have esm : sm (fun m => if o_isT S m (S 8 1 0) = true then S 0 (11 + s) m else 0) (m + 1) = sm (fun m => if o_isT S m (S 8 1 0) = true then S 0 (11 + s) m else 0) m + (if o_isT S m (S 8 1 0) = true then S 0 (11 + s) m else 0) := rfl
    refine f_X4_goesRound_29 ⟨h.line, ?_⟩
    rw [h.mats]
    refine ⟨fun c => absurd c (nI_ge (by omega) (by omega)), fun _ => L_isTarget h q.1 (by omega) ⟨fun c => ⟨hp.1, _, hp.2.1, hp.2.2.1, ?_⟩, fun c => ?_⟩⟩
    · have := L_of (G := G) (X := q_nX) (f := fun r25 A24 => q_Wp G M_X4_goesRound (q_KB f) X 0 0 29 [some (.ref (l_a l)), some (.ref (l_s l s)), some (.int (nI (sm (fun m => if o_isT S m (S 8 1 0) = true then S 0 (11 + s) m else 0) m) + r25)), some (.int (nI m + nI 1))] [] A24) h (lv_slot hs) (m := m) (by omega) (by
        rw [nI_add, nI_add]
        rw [esm, if_pos c] at ih
        exact ih)
      rw [ha_slot l hs8] at this
      exact this
    · rw [nI_add, nI_add]
      rw [esm, if_neg (by rw [c]; decide)] at ih
      exact ih
theorem L_goesRound {f : Bool → q_H → Prop} (h : Lp A0 A l S) (q : iw R B P S) {s : Nat} (hs : s < S 8 1 0) (h0 : S 4 s 0 ≠ 0) (k : ∀ b : Bool, (b = true ↔ o_again S s) → f b A) : q_Wc G M_X4_goesRound [.ref (l_a l), .ref (l_s l s)] A (q_KB f) X := by
  have q2 := q.2.1
  unfold iv_s at q2
  have a := q.2.2.2.1 s hs
  have hp := h.ks (h.nst8 hs)
  refine f_X4_goesRound ⟨hp.1, h.line, _, h.r1, 8, h.z1, by decide, by decide, ?_⟩
  rw [h.set (by decide), h.rnd hs h0]
  refine ⟨fun c => k _ ?_, fun c => ⟨_, h.r6, h.z4, L_isFull h fun b hb => ⟨fun e => k _ ?_, fun e => ?_⟩⟩⟩
  · have := (nI_leI (by omega) (by omega)).mp c
    simp only [o_again]
    simp; omega
  · have := hb.mp e
    simp only [o_again]
    simp; omega
  · have h1 : S 4 s 0 - 1 < S 1 5 0 := Nat.lt_of_not_le fun z => c (nI_le z (by omega))
    have h2 : ¬ 30 ≤ S 2 10 0 := fun z => by rw [hb.mpr z] at e; cases e
    exact w_goesRound h q hs h0 h1 (by omega) k _ 0 (Nat.zero_add _)
end CB

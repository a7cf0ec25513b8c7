/-! TICKS OF THE CLASS -/
section CT
variable {G : q_G} {X : String → q_H → Prop} {A0 A : q_H} {l : l_T} {S : s_T} {R : Nat} {B : Nat → Nat} {P : Nat}
theorem w_pressBales {f : q_H → Prop} {s : Nat} : ∀ (d : Nat) {P : Nat} {S : s_T} {A : q_H}, Lp A0 A l S → iw R B P S → s < S 8 1 0 → B s ≤ 2100000 → d + S 2 11 0 = 40 → (∀ A', Lp A0 A' l (o_pressN s d S) → f A') → q_Wp G M_X4_pressBales (q_KV f) X 0 0 8 [some (.ref (l_a l)), some (.ref (l_a l + 225 + 6 * s)), some (.int (nI (S 2 11 0)))] [] A
  | 0, P, S, A, h, q, hs, hB, e, k => by
    have : S 2 11 0 = 40 := by omega
    rw [this]
    exact f_X4_pressBales_8 ⟨fun _ => k A h, fun c => absurd (nI_le (Nat.le_refl _) (by decide)) c⟩
  | d + 1, P, S, A, h, q, hs, hB, e, k => by
    have hs8 := h.nst8 hs
    have q2 := q.2.1
    have qm := q.2.2.2.2.2.2.2.2.1 s hs
    unfold iv_s at q2
    refine f_X4_pressBales_8 ⟨fun c => absurd c (nI_ge (by omega) (by decide)), fun _ => ⟨h.zs hs8, _, h.rbn hs8, h.zh (by omega), h.line, _, h.r1, 8, h.z1, by decide, by decide, ?_⟩⟩
    rw [h.set (by decide), h.t (lv_bun hs)]
    refine ⟨fun c => ?_, fun c => k A ?_⟩
    · have hb : S 1 1 0 ≤ s6 (S 0 (3 + s)) := (nI_leI (by omega) (by omega)).mp c
      refine L_pressBale h q hs (by omega) hb (by omega) fun A1 h1 => ?_
      have e11 := pr_2 s S 11
      simp at e11
      have e8 : o_press1 s S 8 = S 8 := (cf_press1 s S).2.1
      have := w_pressBales d h1 (iw_press1 q hs hb (by omega)) (by rw [e8]; exact hs) hB (by omega) (fun A' h' => k A' (by
        have en : o_pressN s (d + 1) S = o_pressN s d (o_press1 s S) := by
          show (if _ then _ else _) = _
          rw [if_neg (by omega)]
        rw [en]; exact h'))
      rw [e11] at this
      rw [nI_add]
      exact this
    · have hb : s6 (S 0 (3 + s)) < S 1 1 0 := Nat.lt_of_not_le fun z => c (nI_le z (by omega))
      show Lp A0 A l (if _ then _ else _)
      rw [if_pos hb]; exact h
theorem L_pressBales {f : q_H → Prop} (h : Lp A0 A l S) (q : iw R B P S) {s : Nat} (hs : s < S 8 1 0) (hB : B s ≤ 2100000) (k : ∀ A', Lp A0 A' l (o_press s S) → f A') : q_Wc G M_X4_pressBales [.ref (l_a l), .ref (l_a l + 225 + 6 * s)] A (q_KV f) X := by
  have hk := q.2.2.1
  unfold iv_n at hk
  refine f_X4_pressBales ⟨h.line, _, h.r7, h.z96, ?_⟩
  rw [h.stock]
  exact w_pressBales (40 - S 2 11 0) h q hs hB (by omega) k
theorem w_mt53 {f : q_H → Prop} {x1 x2 : Int32} {U : s_T} (n : Nat) (hn : n = U 8 1 0) (hB : ∀ s, s < n → B s ≤ 2100000) (k : ∀ A', Lp A0 A' l (o_presses n U) → q_Wp G M_X4_makeTicks (q_KV f) X 0 0 2 [some (.ref (l_a l)), some (.int x1), some (.int (x2 + nI 1)), none] [] (q_setI A' (l_a l + 220) 0 (q_I A' (l_a l + 220) 0 + nI 1))) :
    ∀ (d i : Nat) {P : Nat} {A : q_H}, i + d = n → Lp A0 A l (o_presses i U) → iw R B P (o_presses i U) → q_Wp G M_X4_makeTicks (q_KV f) X 0 0 53 [some (.ref (l_a l)), some (.int x1), some (.int x2), some (.int (nI i))] [] A
  | 0, i, P, A, e, h, q => by
    have e8 : o_presses i U 8 = U 8 := (cf_presses i U).2.1
    have hb := h.b
    unfold Lb at hb
    rw [e8] at hb
    have hi : i = n := by omega
    refine f_X4_makeTicks_53 ⟨h.line, ?_⟩
    rw [h.nst, e8]
    refine ⟨fun _ => ⟨_, h.r9, h.z220, k A (by rw [← hi]; exact h)⟩, fun c => absurd (nI_le (by omega) (by omega)) c⟩
  | d + 1, i, P, A, e, h, q => by
    have e8 : o_presses i U 8 = U 8 := (cf_presses i U).2.1
    have hb := h.b
    unfold Lb at hb
    rw [e8] at hb
    refine f_X4_makeTicks_53 ⟨h.line, ?_⟩
    rw [h.nst, e8]
    refine ⟨fun c => absurd c (nI_ge (by omega) (by omega)), fun _ => ⟨_, h.r2, 8, h.z2, by decide, i, rfl, by omega, _, h.rs (by omega), L_pressBales h q (by rw [e8]; omega) (hB i (by omega)) fun A' h' => ?_⟩⟩
    rw [nI_add]
    exact w_mt53 n hn hB k d (i + 1) (by omega) h' (iw_press q (by rw [e8]; omega))
theorem w_mt21 {f : q_H → Prop} {x1 x2 : Int32} {U : s_T} (n : Nat) (hn : n = U 8 1 0) (q : iw R B P U) (k : ∀ A', Lp A0 A' l (o_picks n U) → q_Wp G M_X4_makeTicks (q_KV f) X 0 0 53 [some (.ref (l_a l)), some (.int x1), some (.int x2), some (.int (nI 0))] [] A') :
    ∀ (d i : Nat) {A : q_H}, i + d = n → Lp A0 A l (o_picks i U) → q_Wp G M_X4_makeTicks (q_KV f) X 0 0 21 [some (.ref (l_a l)), some (.int x1), some (.int x2), some (.int (nI i))] [] A
  | 0, i, A, e, h => by
    have e8 : o_picks i U 8 = U 8 := (cf_picks i U).2.1
    have hb := h.b
    unfold Lb at hb
    rw [e8] at hb
    have hi : i = n := by omega
    refine f_X4_makeTicks_21 ⟨h.line, ?_⟩
    rw [h.nst, e8]
    refine ⟨fun _ => k A (by rw [← hi]; exact h), fun c => absurd (nI_le (by omega) (by omega)) c⟩
  | d + 1, i, A, e, h => by
    have e8 : o_picks i U 8 = U 8 := (cf_picks i U).2.1
    have hb := h.b
    unfold Lb at hb
    rw [e8] at hb
    refine f_X4_makeTicks_21 ⟨h.line, ?_⟩
    rw [h.nst, e8]
    refine ⟨fun c => absurd c (nI_ge (by omega) (by omega)), fun _ => ⟨_, h.r2, 8, h.z2, by decide, i, rfl, by omega, _, h.rs (by omega), _, h.r1, 8, h.z1, by decide, by decide, h.zs (by omega), ?_⟩⟩
    rw [h.set (by decide)]
    refine L_pick h (iw_picks i q (by omega)) (by rw [e8]; omega) fun A' h' => ?_
    rw [nI_add]
    exact w_mt21 n hn q k d (i + 1) (by omega) h'
theorem leave_slot {R B P S} (q : iw R B P S) : s6 (o_move (o_leave S) 0 11) = 0 := by
  have q1 := q.1
  unfold iv_c at q1
  have e8 : o_leave S 8 = S 8 := (cf_leave S).2.1
  have e : o_move (o_leave S) 0 11 = o_leave S 0 (11 + (S 8 1 0 - 1)) := by
    funext m
    unfold o_move
    rw [e8, if_pos ⟨rfl, by omega, by omega⟩, if_pos rfl]
  rw [e]
  have a := q.2.2.2.1 (S 8 1 0 - 1) (by omega)
  unfold o_leave
  split
  · rename_i h0; exact a.2.2.2.2.mp h0
  · split
    · unfold o_lE; rw [s_p_00 (by decide), s_h_s]; rfl
    · unfold o_lE; rw [s_p_00 (by decide), s_h_s]; rfl
theorem w_mt2 {f : q_H → Prop} {S : s_T} (n : Nat) (hn : n < 2147483648) (a : Nat) (q : iv S) (hT : S 2 0 0 + n ≤ 10400) (k : ∀ A' l', l_a l' = a → Lp A0 A' l' (o_ticks n S) → f A') :
    ∀ (d i : Nat) {A : q_H} {l : l_T}, i + d = n → l_a l = a → Lp A0 A l (o_ticks i S) → q_Wp G M_X4_makeTicks (q_KV f) X 0 0 2 [some (.ref a), some (.int (nI n)), some (.int (nI i)), none] [] A
  | 0, i, A, l, e, ha, h => by
    have : i = n := by omega
    subst this
    exact f_X4_makeTicks_2 ⟨fun _ => k A l ha h, fun c => absurd (nI_le (Nat.le_refl _) hn) c⟩
  | d + 1, i, A, l, e, ha, h => by
    have qi : iv (o_ticks i S) := iv_ticks i q
    have hti := ticks_0 i S
    obtain ⟨U, hU⟩ : ∃ U, U = o_ticks i S := ⟨_, rfl⟩
    have ih : ∀ {A : q_H} {l : l_T}, l_a l = a → Lp A0 A l (o_ticks (i + 1) S) → _ := fun {A l} hl hh => w_mt2 n hn a q hT k d (i + 1) (A := A) (l := l) (by omega) hl hh
    rw [show o_ticks (i + 1) S = o_tick (o_ticks i S) from rfl] at ih
    rw [← hU] at h qi hti ih
    have q1 := qi.1
    have q1' := qi.1
    unfold iv_c at q1
    subst ha
    refine f_X4_makeTicks_2 ⟨fun c => absurd c (nI_ge (by omega) hn), fun _ => ⟨h.line, L_leaveBelt h qi fun A1 h1 => ⟨h1.line, L_moveBelt h1 (by rw [(cf_leave U).2.1]; exact q1.2.2.1) fun A2 h2 => ⟨h2.line, L_feedBelt (l := (l_a l, m_t l (o_leave U 8 1 0), l_b l, l_f l)) h2 (iw_move (iw_leave qi)) (leave_slot qi) fun A3 l3 hl3 h3 => ?_⟩⟩⟩⟩
    have hl3' : l_a l3 = l_a l := hl3
    rw [← hl3'] at ih ⊢
    have h3' : Lp A0 A3 l3 (o_pre U) := h3
    have qp := iw_pre qi
    have e8 : o_pre U 8 = U 8 := (pre_cf U).2.1
    have e81 : o_picks (U 8 1 0) (o_pre U) 8 = U 8 := (cf_picks _ _).2.1.trans e8
    refine w_mt21 (U 8 1 0) (by rw [e8]) qp (fun A4 h4 => ?_) (U 8 1 0) 0 (by omega) h3'
    refine w_mt53 (B := fun i => if i < U 8 1 0 then 200 * U 2 0 0 + 200 else 200 * U 2 0 0) (U 8 1 0) (by rw [e81]) (fun s hs => ?_) (fun A5 h5 => ?_) (U 8 1 0) 0 (by omega) h4 (iw_picks (U 8 1 0) qp (by rw [e8]; exact Nat.le_refl _))
    · show (if s < U 8 1 0 then 200 * U 2 0 0 + 200 else 200 * U 2 0 0) ≤ 2100000
      rw [if_pos hs]; omega
    · have et := h5.tal (i := 0) (by decide)
      rw [et, nI_add, nI_add]
      refine ih rfl ?_
      have := h5.put (t := 2) (i := 0) (j := 0) (o_presses (U 8 1 0) (o_picks (U 8 1 0) (o_pre U)) 2 0 0 + 1) (by unfold dm0; omega) ⟨fun _ => by decide, fun e => absurd e (by decide)⟩
      rw [tick_e]
      exact this
theorem L_makeTicks {f : q_H → Prop} {n : Nat} (h : Lp A0 A l S) (q : iv S) (hT : S 2 0 0 + n ≤ 10400) (k : ∀ A' l', l_a l' = l_a l → Lp A0 A' l' (o_ticks n S) → f A') : q_Wc G M_X4_makeTicks [.ref (l_a l), .int (nI n)] A (q_KV f) X :=
  f_X4_makeTicks (w_mt2 n (by omega) (l_a l) q hT k n 0 (by omega) rfl h)
end CT

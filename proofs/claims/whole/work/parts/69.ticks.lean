/-! THE REFERENCE: ticks -/
section MTK
variable {G : q_G} {X : String → q_H → Prop} {A A0 : q_H} {mo : Nat} {S : s_T}
theorem leave_4 (S : s_T) : o_leave S 4 (S 8 1 0 - 1) 0 = 0 := by
  unfold o_leave
  split
  · rename_i h; exact h
  · split
    · unfold o_lE; rw [s_p_s]
    · unfold o_lE; rw [s_p_s]
theorem v_t38 {f : q_H → Prop} {x1 x2 : Int32} {U : s_T} {B : Nat → Nat} {R : Nat} (n : Nat) (hn : n = U 8 1 0) (hB : ∀ s, s < n → B s ≤ 2100000) (k : ∀ A', bq A0 A' mo U (o_presses n U) → MP A' mo (o_presses n U) → q_Wp G M_X11_ticks (q_KV f) X 0 0 2 [some (.ref mo), some (.int x1), some (.int (x2 + nI 1)), none] [] (q_setI A' (mo + 6) 8 (q_I A' (mo + 6) 8 + nI 1))) :
    ∀ (d i : Nat) {P : Nat} {A : q_H}, i + d = n → bq A0 A mo U (o_presses i U) → MP A mo (o_presses i U) → iw R B P (o_presses i U) → q_Wp G M_X11_ticks (q_KV f) X 0 0 38 [some (.ref mo), some (.int x1), some (.int x2), some (.int (nI i))] [] A
  | 0, i, P, A, e, b, h, q => by
    have e8 : o_presses i U 8 = U 8 := (cf_presses i U).2.1
    have hb := h.2.1.b
    unfold Lb at hb
    rw [e8] at hb
    have hi : i = n := by omega
    refine f_X11_ticks_38 ⟨h.1.z, M_sts h.mt ?_⟩
    rw [e8]
    exact ⟨fun _ => ⟨h.1.z, _, h.1.r6, 788, h.1.z6, by decide, by decide, k A (by rw [← hi]; exact b) (by rw [← hi]; exact h)⟩, fun c => absurd (nI_le (by omega) (by omega)) c⟩
  | d + 1, i, P, A, e, b, h, q => by
    have e8 : o_presses i U 8 = U 8 := (cf_presses i U).2.1
    have hb := h.2.1.b
    unfold Lb at hb
    rw [e8] at hb
    refine f_X11_ticks_38 ⟨h.1.z, M_sts h.mt ?_⟩
    rw [e8]
    refine ⟨fun c => absurd c (nI_ge (by omega) (by omega)), fun _ => ⟨h.1.z, M_presses h q (by have := hB i (by omega); omega) (by rw [e8]; omega) fun A' b' h' => ?_⟩⟩
    rw [nI_add]
    exact v_t38 n hn hB k d (i + 1) (by omega) (b.t b') h' (iw_press q (by rw [e8]; omega))
theorem v_t17 {f : q_H → Prop} {x1 x2 : Int32} {U : s_T} {R : Nat} {B : Nat → Nat} {P : Nat} (n : Nat) (hn : n = U 8 1 0) (q : iw R B P U) (k : ∀ A', mg A0 A' mo → MP A' mo (o_picks n U) → q_Wp G M_X11_ticks (q_KV f) X 0 0 38 [some (.ref mo), some (.int x1), some (.int x2), some (.int (nI 0))] [] A') :
    ∀ (d i : Nat) {A : q_H}, i + d = n → mg A0 A mo → MP A mo (o_picks i U) → q_Wp G M_X11_ticks (q_KV f) X 0 0 17 [some (.ref mo), some (.int x1), some (.int x2), some (.int (nI i))] [] A
  | 0, i, A, e, o, h => by
    have e8 : o_picks i U 8 = U 8 := (cf_picks i U).2.1
    have hb := h.2.1.b
    unfold Lb at hb
    rw [e8] at hb
    have hi : i = n := by omega
    refine f_X11_ticks_17 ⟨h.1.z, M_sts h.mt ?_⟩
    rw [e8]
    exact ⟨fun _ => k A o (by rw [← hi]; exact h), fun c => absurd (nI_le (by omega) (by omega)) c⟩
  | d + 1, i, A, e, o, h => by
    have e8 : o_picks i U 8 = U 8 := (cf_picks i U).2.1
    have hb := h.2.1.b
    unfold Lb at hb
    rw [e8] at hb
    refine f_X11_ticks_17 ⟨h.1.z, M_sts h.mt ?_⟩
    rw [e8]
    refine ⟨fun c => absurd c (nI_ge (by omega) (by omega)), fun _ => ⟨h.1.z, M_picks h (iw_picks i q (by omega)) (by rw [e8]; omega) fun A' o' h' => ?_⟩⟩
    rw [nI_add]
    exact v_t17 n hn q k d (i + 1) (by omega) (o.t o') h'
theorem v_t2 {f : q_H → Prop} {S : s_T} (n : Nat) (hn : n < 2147483648) (q : iv S) (hT : S 2 0 0 + n ≤ 10400) (k : ∀ A', bq A0 A' mo S (o_ticks n S) → MP A' mo (o_ticks n S) → f A') :
    ∀ (d i : Nat) {A : q_H}, i + d = n → bq A0 A mo S (o_ticks i S) → MP A mo (o_ticks i S) → q_Wp G M_X11_ticks (q_KV f) X 0 0 2 [some (.ref mo), some (.int (nI n)), some (.int (nI i)), none] [] A
  | 0, i, A, e, b, h => by
    have : i = n := by omega
    subst this
    exact f_X11_ticks_2 ⟨fun _ => k A b h, fun c => absurd (nI_le (Nat.le_refl _) hn) c⟩
  | d + 1, i, A, e, b, h => by
    have qi : iv (o_ticks i S) := iv_ticks i q
    have hti := ticks_0 i S
    have ih : ∀ {A : q_H}, bq A0 A mo S (o_ticks (i + 1) S) → MP A mo (o_ticks (i + 1) S) → _ := fun {A} bb hh => v_t2 n hn q hT k d (i + 1) (A := A) (by omega) bb hh
    rw [show o_ticks (i + 1) S = o_tick (o_ticks i S) from rfl] at ih
    obtain ⟨U, hU⟩ : ∃ U, U = o_ticks i S := ⟨_, rfl⟩
    rw [← hU] at h qi hti ih b
    have q1 := qi.1
    unfold iv_c at q1
    refine f_X11_ticks_2 ⟨fun c => absurd c (nI_ge (by omega) hn), fun _ => ⟨h.1.z, M_leaves h qi fun A1 o1 h1 => ⟨h1.1.z, M_moves h1 (iw_leave qi) (by rw [(cf_leave U).2.1]; exact leave_4 U) fun A2 o2 h2 => ?_⟩⟩⟩
    have h2' : MP A2 mo (o_pre U) := h2
    have qp := iw_pre qi
    have e8 : o_pre U 8 = U 8 := (pre_cf U).2.1
    have e81 : o_picks (U 8 1 0) (o_pre U) 8 = U 8 := (cf_picks _ _).2.1.trans e8
    refine v_t17 (A0 := A) (U 8 1 0) (by rw [e8]) qp (fun A4 o4 h4 => ?_) (U 8 1 0) 0 (by omega) (o1.t o2) h2'
    have e22 : o_picks (U 8 1 0) (o_pre U) 2 2 0 = U 2 2 0 := by rw [picks_2]; unfold o_pre; rw [feed_2 _ _ (by decide), move_2, leave_2 _ _ (by decide) (by decide)]
    have b4 : bq A0 A4 mo S (o_picks (U 8 1 0) (o_pre U)) := b.t (bq.of o4 e22)
    refine v_t38 (A0 := A4) (B := fun i => if i < U 8 1 0 then 200 * U 2 0 0 + 200 else 200 * U 2 0 0) (U 8 1 0) (by rw [e81]) (fun s hs => ?_) (fun A5 b5 h5 => ?_) (U 8 1 0) 0 (by omega) (bq.of (mg.r A4 mo) rfl) h4 (iw_picks (U 8 1 0) qp (by rw [e8]; exact Nat.le_refl _))
    · show (if s < U 8 1 0 then 200 * U 2 0 0 + 200 else 200 * U 2 0 0) ≤ 2100000
      rw [if_pos hs]; omega
    · have et : q_I A5 (mo + 6) 8 = _ := h5.2.1.tal (i := 0) (by decide) (by decide)
      rw [et, nI_add, nI_add]
      have w := h5.2.1.put (R' := q_I (q_setI A5 (mo + 6) 8 (nI (o_presses (U 8 1 0) (o_picks (U 8 1 0) (o_pre U)) 2 0 0 + 1))) (mo + 6)) (t := 2) (i := 0) (j := 0) (o_presses (U 8 1 0) (o_picks (U 8 1 0) (o_pre U)) 2 0 0 + 1) (by unfold dR0; omega) (fun _ => by decide) (fun x => ix_set _ _ _ _ _)
      have et2 : s_p (o_presses (U 8 1 0) (o_picks (U 8 1 0) (o_pre U))) 2 0 0 (o_presses (U 8 1 0) (o_picks (U 8 1 0) (o_pre U)) 2 0 0 + 1) = o_tick U := (tick_e U).symm
      rw [et2] at w
      have o6 : mg A5 (q_setI A5 (mo + 6) 8 (nI (o_presses (U 8 1 0) (o_picks (U 8 1 0) (o_pre U)) 2 0 0 + 1))) mo := (mg.r A5 mo).set (Or.inl rfl)
      have e22' : o_tick U 2 2 0 = o_presses (U 8 1 0) (o_picks (U 8 1 0) (o_pre U)) 2 2 0 := by rw [tick_e, s_p_i (by decide)]
      refine ih ((b4.t b5).t (bq.of o6 e22')) (h5.to o6.1 w ?_)
      rw [← et2]
      exact cf_p (by decide)
theorem M_ticks {f : q_H → Prop} {n : Nat} (h : MP A mo S) (q : iv S) (hT : S 2 0 0 + n ≤ 10400) (k : ∀ A', bq A A' mo S (o_ticks n S) → MP A' mo (o_ticks n S) → f A') : q_Wc G M_X11_ticks [.ref mo, .int (nI n)] A (q_KV f) X :=
  f_X11_ticks (v_t2 n (by omega) q hT k n 0 (by omega) (bq.of (mg.r A mo) rfl) h)
end MTK

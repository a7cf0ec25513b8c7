/-! leaveBelt, feedBelt -/
theorem add_h (S : s_T) (f g : Nat → Nat) (r : Nat) : s_h (o_add S f r) (19 + S 2 10 0) g = o_add S g r := by
  unfold o_add
  rw [← s_p_h (by decide), ← s_p_h (by decide), s_h_h]
theorem add_0 (S : s_T) (f : Nat → Nat) (r : Nat) : o_add S f r 0 (19 + S 2 10 0) = f := by
  unfold o_add
  rw [s_p_00 (by decide), s_p_00 (by decide), s_h_s]
theorem add_n (S : s_T) (f : Nat → Nat) (r : Nat) {x : Nat} (h : x ≠ 19 + S 2 10 0) : o_add S f r 0 x = S 0 x := by
  unfold o_add
  rw [s_p_00 (by decide), s_p_00 (by decide), s_h_n h]
theorem add_t (S : s_T) (f : Nat → Nat) (r : Nat) {t : Nat} (h0 : t ≠ 0) (h2 : t ≠ 2) (h3 : t ≠ 3) : o_add S f r t = S t := by
  unfold o_add
  rw [s_p_t h2, s_p_t h3, s_h_t h0]
theorem add_2 (S : s_T) (f : Nat → Nat) (r : Nat) {x : Nat} (h : x ≠ 10) : o_add S f r 2 x 0 = S 2 x 0 := by
  unfold o_add
  rw [s_p_i h, s_p_t (by decide), s_h_t (by decide)]
theorem add_w (S : s_T) (f : Nat → Nat) (r : Nat) : o_add S f r 2 10 0 = S 2 10 0 + 1 := by
  unfold o_add
  rw [s_p_s]
section CF
variable {G : q_G} {X : String → q_H → Prop} {A0 A : q_H} {l : l_T} {S : s_T} {R : Nat} {B : Nat → Nat} {P : Nat}
theorem Lp.rsl (h : Lp A0 A l S) {s : Nat} (hs : s < 8) : q_R A (l_s l s) 0 = some (ha l (11 + s)) := by rw [ha_slot l hs]; exact (h.ks hs).2.1
theorem Lp.rpa (h : Lp A0 A l S) {k : Nat} (hk : k < 30) : q_R A (pa l k) 0 = some (ha l (19 + k)) := by rw [ha_pa l hk]; exact (h.kp (i := (l_f l + k) % 30) (by omega)).2.1
theorem Lp.rbn (h : Lp A0 A l S) {s : Nat} (hs : s < 8) : q_R A (l_a l + 225 + 6 * s) 8 = some (ha l (3 + s)) := by rw [ha_bun l hs]; exact h.rs8 hs
theorem Lp.rba (h : Lp A0 A l S) {b : Nat} (hb : b < 40) : q_R A (l_b l b) 4 = some (ha l (49 + b)) := by rw [ha_bal l b]; exact (h.kb hb).2.1
theorem Lp.zh (h : Lp A0 A l S) {x : Nat} (hx : x < 89) : q_sh A (ha l x) = (3, 0) := (h.kh hx).1
theorem Lp.zp (h : Lp A0 A l S) (k : Nat) : q_sh A (pa l k) = (6, 0) := (h.kp (i := (l_f l + k) % 30) (by omega)).1
theorem Lp.zsl (h : Lp A0 A l S) {s : Nat} (hs : s < 8) : q_sh A (l_s l s) = (6, 0) := (h.ks hs).1
theorem rem30 {a b : Nat} (ha : a < 1000) (hb : b < 1000) : nI a + nI b - (nI a + nI b) / nI 30 * nI 30 = nI ((a + b) % 30) := by
  rw [nI_add, pk_rem (by omega) (by decide) (by decide)]
theorem Lp.rpk (h : Lp A0 A l S) (k : Nat) : q_R A (l_a l + 5) ((l_f l + k) % 30) = some (pa l k) := h.rp (by omega)
/-- the parcel at a place -/
theorem L_parcelAt {f : Option Nat → q_H → Prop} (h : Lp A0 A l S) {x : Int32} (k1 : ∀ k, k < S 2 10 0 → x = nI k → f (some (pa l k)) A) (k2 : (∀ k, k < S 2 10 0 → ¬ x = nI k) → f none A) : q_Wc G M_X3_parcelAt [.ref (l_a l + 4), .int x] A (q_KR f) X := by
  have hb := h.b
  have hw := h.w.2.2.2.2
  unfold Lb at hb
  refine f_X3_parcelAt ⟨fun c => k2 fun s hs e => ?_, fun c => ⟨h.z4, ?_⟩⟩
  · rw [e] at c; exact nI_pos (by omega) c
  · rw [h.wait]
    refine ⟨fun c2 => ?_, fun c2 => k2 fun s hs e => ?_⟩
    · rcases pk_ix x (n := S 2 10 0) (by omega) with c3 | c3 | ⟨j, hj, e⟩
      · exact absurd c3 c
      · exact absurd c2 (Int32.not_lt.mpr c3)
      · refine ⟨_, h.r40, 30, h.z5, by decide, (l_f l + j) % 30, ?_, by omega, _, h.rpk j, k1 j hj e⟩
        rw [h.fs, e, rem30 (by omega) (by omega)]
    · rw [e] at c2; exact c2 (nI_lt hs (by omega))
theorem L_parcelAtN {f : Option Nat → q_H → Prop} (h : Lp A0 A l S) {k : Nat} (hk : k < S 2 10 0) (k1 : f (some (pa l k)) A) : q_Wc G M_X3_parcelAt [.ref (l_a l + 4), .int (nI k)] A (q_KR f) X := by
  have hb := h.b
  unfold Lb at hb
  refine L_parcelAt h (fun s' hs' e => ?_) (fun q => absurd rfl (q k hk))
  have : k = s' := (nI_eq (by omega) (by omega)).mp e
  subst this
  exact k1
theorem L_addLast {f : Option Nat → q_H → Prop} (h : Lp A0 A l S) {r : Nat} (hw : S 2 10 0 < 30) (k : ∀ A', Lp A0 A' l (o_add S (fun _ => 0) r) → f (some (pa l (S 2 10 0))) A') : q_Wc G M_X3_addLast [.ref (l_a l + 4), .int (nI r)] A (q_KR f) X := by
  have hwf := h.w.2.2.2.2
  refine f_X3_addLast ⟨h.z4, L_isFull h fun b hb => ⟨fun e => absurd (hb.mp e) (by omega), fun _ => ⟨h.z4, _, h.r40, 30, h.z5, by decide, (l_f l + S 2 10 0) % 30, by rw [h.fs, h.wait, rem30 (by omega) (by omega)], by omega, _, h.rpk _, h.zp _, _, h.rpa hw, h.zh (by omega), ?_⟩⟩⟩
  have hx9 : 19 + S 2 10 0 < 89 := by omega
  have hpne : pa l (S 2 10 0) ≠ l_a l + 4 := by unfold pa; omega
  have hn := ha_fs l h.w hx9
  refine c_clear (h.kh hx9) ⟨h.zp _, h.z4, ?_⟩
  rw [I_set (Or.inl (Ne.symm hpne)), I_set (Or.inl (Ne.symm hn.1)), I_row (Ne.symm hn.2), h.wait, nI_add]
  refine k _ (h.add r (fun _ => 0) hw (h.heap _ hx9 rfl rfl rfl (fun y a b => ((q_same.r A y).rowI b).setI a) (fun j hj => ?_) ?_) (fun j hj => ?_) ?_)
  · rw [I_set (Or.inl (by omega)), I_row_s, if_pos hj]
  · rw [I_set_s, s6_0]
  · rw [I_set (Or.inl (by omega)), I_row_s, if_pos hj]
  · rw [I_set_s, s6_0]
theorem L_addLastF {f : Option Nat → q_H → Prop} (h : Lp A0 A l S) {x : Int32} (hw : ¬ S 2 10 0 < 30) (k : f none A) : q_Wc G M_X3_addLast [.ref (l_a l + 4), .int x] A (q_KR f) X :=
  f_X3_addLast ⟨h.z4, L_isFull h fun b hb => ⟨fun _ => k, fun e => by rw [hb.mpr (by omega)] at e; cases e⟩⟩
theorem L_dropFirst {f : q_H → Prop} (h : Lp A0 A l S) (hw : 0 < S 2 10 0) (k : ∀ A', Lp A0 A' (l_a l, l_s l, l_b l, (l_f l + 1) % 30) (o_drop S) → f A') : q_Wc G M_X3_dropFirst [.ref (l_a l + 4)] A (q_KV f) X := by
  have hb := h.b
  have hwf := h.w.2.2.2.2
  unfold Lb at hb
  refine f_X3_dropFirst ⟨h.z4, ?_⟩
  rw [h.wait]
  refine ⟨fun c => absurd c (nI_nle hw (by omega)), fun _ A3 e => ?_⟩
  rw [I_set (Or.inr (by decide)), h.wait, h.fs, rem30 (by omega) (by omega), pk_sub (by omega)] at e
  subst e
  exact k _ (h.drop hw)
theorem L_leaveBelt {f : q_H → Prop} (h : Lp A0 A l S) (q : iw R B P S) (k : ∀ A', Lp A0 A' l (o_leave S) → f A') : q_Wc G M_X4_leaveBelt [.ref (l_a l)] A (q_KV f) X := by
  obtain ⟨s, hs⟩ : ∃ s, s = S 8 1 0 - 1 := ⟨_, rfl⟩
  have q1 := q.1
  unfold iv_c at q1
  have hn : s < S 8 1 0 := by omega
  have hs8 : s < 8 := by omega
  have a := q.2.2.2.1 s hn
  have es : nI (S 8 1 0) - nI 1 = nI s := by rw [pk_sub q1.2.2.1, hs]
  refine f_X4_leaveBelt ⟨h.line, ?_⟩
  rw [h.nst, es]
  refine L_stationAtN h hn ⟨fun e => (by cases e), fun r3 e3 => ?_⟩
  cases e3
  refine ⟨h.zs hs8, L_isSlotEmpty h hn (by omega) fun b hb => ⟨fun e => k A ?_, fun e => ?_⟩⟩
  · have : S 4 s 0 = 0 := a.2.2.2.2.mpr (hb.mp e)
    unfold o_leave
    rw [← hs, if_pos this]; exact h
  · have h0 : S 4 s 0 ≠ 0 := fun z => by rw [hb.mpr (a.2.2.2.2.mp z)] at e; cases e
    refine ⟨h.zs hs8, _, h.rs7 hs8, h.line, L_goesRound h q hn h0 fun b2 hb2 => ⟨fun e2 => ?_, fun e2 => ?_⟩⟩
    · have hg := hb2.mp e2
      have hw := hg.2.2.2
      refine ⟨h.line, _, h.r6, h.zsl hs8, h.z4, ?_⟩
      rw [h.rnd hn h0, nI_add, show S 4 s 0 - 1 + 1 = S 4 s 0 by omega]
      refine L_addLast h hw fun A1 h1 => ⟨fun e3 => (by cases e3), fun r38 e3 => ?_⟩
      cases e3
      have e8 : o_add S (fun _ => 0) (S 4 s 0) 8 = S 8 := add_t _ _ _ (by decide) (by decide) (by decide)
      have l1 : lv (o_add S (fun _ => 0) (S 4 s 0)) (19 + S 2 10 0) := lv_par (by rw [add_w]; omega)
      have l2 : lv (o_add S (fun _ => 0) (S 4 s 0)) (11 + s) := lv_slot (by rw [e8]; exact hn)
      refine ⟨h1.zp _, _, h1.rpa hw, h1.zsl hs8, _, h1.rsl hs8, h1.zh (by omega), L_putAll h1 l1 l2 (by omega) fun A2 _ _ h2 => ?_⟩
      refine ⟨h2.line, _, h2.r9, h2.z220, h2.zsl hs8, _, h2.rsl hs8, h2.zh (by omega), ?_⟩
      rw [add_0, add_n _ _ _ (by omega), add_h] at h2
      have h3 : Lp A0 A2 l (o_add S (S 0 (11 + s)) (S 4 s 0)) := by
        have e : (fun m => 0 + S 0 (11 + s) m) = S 0 (11 + s) := by funext m; omega
        rw [e] at h2; exact h2
      have h4 := h3.put (t := 2) (i := 3) (j := 0) (S 2 3 0 + 1) (by unfold dm0; omega) ⟨fun _ => by decide, fun e => absurd e (by decide)⟩
      rw [h2.tal (by decide), add_2 _ _ _ (by decide), nI_add]
      refine L_clear h4 (by omega) fun A3 _ _ h5 => k _ ?_
      unfold o_leave
      rw [← hs, if_neg h0, if_pos hg]
      exact h5.sr0 s
    · have hg : ¬ o_again S s := fun z => by rw [hb2.mpr z] at e2; cases e2
      refine ⟨h.line, _, h.r8, h.zsl hs8, _, h.rsl hs8, h.k218.1, L_putAll (x := 0) h (Or.inl (by decide)) (lv_slot hn) (by omega) fun A1 _ _ h1 => ⟨h1.zsl hs8, _, h1.rsl hs8, h1.zh (by omega), L_clear h1 (by omega) fun A2 _ _ h2 => k _ ?_⟩⟩
      unfold o_leave
      rw [← hs, if_neg h0, if_neg hg]
      exact h2.sr0 s
theorem L_feedBelt {f : q_H → Prop} (h : Lp A0 A l S) (q : iw R B P S) (he : s6 (S 0 11) = 0) (k : ∀ A' l', l_a l' = l_a l → Lp A0 A' l' (o_feed S) → f A') : q_Wc G M_X4_feedBelt [.ref (l_a l)] A (q_KV f) X := by
  have q1 := q.1
  have q2 := q.2.1
  unfold iv_c at q1
  unfold iv_s at q2
  have hn : 0 < S 8 1 0 := by omega
  refine f_X4_feedBelt ⟨h.line, _, h.r6, h.z4, ?_⟩
  by_cases hw : S 2 10 0 = 0
  · refine L_parcelAt h (fun k hk _ => by omega) (fun _ => ⟨fun _ => ⟨h.line, ?_⟩, fun r e => (by cases e)⟩)
    have : o_feed S = S := by unfold o_feed; rw [if_pos hw]
    rw [this] at k
    exact L_stationAtN h hn ⟨fun e => (by cases e), fun _ _ => k A l rfl h⟩
  · have a := q.2.2.2.2.1 0 (by omega)
    have a1 : s6 (S 0 19) ≤ 5994 := a.2.1
    refine L_parcelAtN h (by omega) ⟨fun e => (by cases e), fun r5 e5 => ⟨h.line, L_stationAtN h hn ⟨fun e => (by cases e), fun r13 e13 => ?_⟩⟩⟩
    cases e5; cases e13
    refine ⟨h.zp 0, _, h.rpa (by decide), h.line, _, h.r1, 8, h.z1, by decide, by decide, h.zs (by decide), _, h.rs7 (by decide), h.zsl (by decide), _, h.rsl (by decide), h.zh (by decide), ?_⟩
    rw [h.set (by decide)]
    have l19 : lv S 19 := lv_par (k := 0) (by omega)
    have l11 : lv S 11 := lv_slot (s := 0) hn
    have hb1 : s6 (S 0 19) * S 1 0 0 < 2147483648 := Nat.lt_of_le_of_lt (Nat.mul_le_mul a1 q2.2.1) (by decide)
    refine L_portion (x := 19) (y := 11) h l19 l11 (by decide) (fun m hm => by have := s6_at (S 0 11) hm; omega) (by omega) hb1 (by omega) fun A1 h1 => ?_
    have hw1 : 0 < s_2 S 19 11 (rs (S 0 19) (S 1 0 0)) (tk (S 0 19) (S 1 0 0)) 2 10 0 := by unfold s_2; rw [s_h_t (by decide), s_h_t (by decide)]; omega
    have er : q_I A1 (pa l 0) 1 = nI (S 3 0 0) := by
      have := h1.par hw1
      unfold s_2 at this
      rw [s_h_t (by decide), s_h_t (by decide)] at this
      exact this
    have h2 := h1.putr (s := 0) (S 3 0 0) (by decide)
    have efd : s_p (s_2 S 19 11 (rs (S 0 19) (S 1 0 0)) (tk (S 0 19) (S 1 0 0))) 4 0 0 (S 3 0 0 + 1) = o_fd S := by unfold s_2 o_fd; rw [s_h_c (by decide)]
    rw [efd] at h2
    have e2 : o_fd S 0 19 = rs (S 0 19) (S 1 0 0) := by unfold o_fd; rw [s_p_00 (by decide), s_h_s]
    have hwd : o_fd S 2 10 0 = S 2 10 0 := by unfold o_fd; rw [s_p_t (by decide), s_h_t (by decide), s_h_t (by decide)]
    have ht := h2.t (x := 19) (lv_par (k := 0) (by omega))
    rw [e2] at ht
    have hrb : s6 (rs (S 0 19) (S 1 0 0)) < 2147483648 := by rw [s6_rs]; omega
    refine ⟨h1.zs (by decide), _, h1.rs7 (by decide), h1.zp 0, h1.zsl (by decide), _, h1.rpa (by decide), h1.zh (by decide), ?_⟩
    rw [er]
    have ht' : q_I (q_setI A1 (l_s l 0) 1 (nI (S 3 0 0))) (ha l (19 + 0)) 1 = nI (s6 (rs (S 0 19) (S 1 0 0))) := ht
    rw [ht']
    refine ⟨fun c => ⟨h1.line, _, h1.r6, h1.z4, L_dropFirst h2 (by omega) fun A3 h3 => k _ (l_a l, l_s l, l_b l, (l_f l + 1) % 30) rfl ?_⟩, fun c => k _ l rfl ?_⟩
    · have : s6 (rs (S 0 19) (S 1 0 0)) = 0 := (nI_eq hrb (by decide)).mp c
      unfold o_feed
      rw [if_neg hw, if_pos this]; exact h3
    · have : ¬ s6 (rs (S 0 19) (S 1 0 0)) = 0 := fun z => c (by rw [z])
      unfold o_feed
      rw [if_neg hw, if_neg this]; exact h2
end CF

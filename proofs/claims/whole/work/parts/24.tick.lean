/-! A TICK KEEPS WHAT ALWAYS HOLDS -/
theorem iw.P {R B P S} (q : iw R B P S) : iw R B (S 2 1 0) S := ⟨q.1, q.2.1, q.2.2.1, q.2.2.2.1, q.2.2.2.2.1, q.2.2.2.2.2.1, q.2.2.2.2.2.2.1, q.2.2.2.2.2.2.2.1, q.2.2.2.2.2.2.2.2.1, Nat.le_refl _, q.2.2.2.2.2.2.2.2.2.2⟩
theorem iw.toP {R B P P' S} (q : iw R B P S) (h : S 2 1 0 ≤ P') : iw R B P' S := ⟨q.1, q.2.1, q.2.2.1, q.2.2.2.1, q.2.2.2.2.1, q.2.2.2.2.2.1, q.2.2.2.2.2.2.1, q.2.2.2.2.2.2.2.1, q.2.2.2.2.2.2.2.2.1, h, q.2.2.2.2.2.2.2.2.2.2⟩
theorem iw.toB {R B B' P S} (q : iw R B P S) (h : ∀ s, s < S 8 1 0 → B s ≤ B' s) : iw R B' P S := q.mono (Nat.le_refl _) h (Nat.le_refl _)
theorem iw_picks {R B P} : ∀ (n : Nat) {S : s_T}, iw R B P S → n ≤ S 8 1 0 → iw R (fun i => if i < n then B i + 200 else B i) P (o_picks n S)
  | 0, S, q, _ => q.toB fun s _ => by simp
  | n + 1, S, q, hn => by
    have ih := iw_picks n q (by omega)
    have e8 : o_picks n S 8 = S 8 := (cf_picks n S).2.1
    have h := iw_pick n ih (by rw [e8]; omega)
    refine h.toB fun s _ => ?_
    by_cases c : s = n
    · subst c; simp
    · by_cases d : s < n
      · simp [c, d, show s < n + 1 by omega]
      · simp [c, d, show ¬ s < n + 1 by omega]
theorem pressN_num (s : Nat) : ∀ (n : Nat) (S : s_T), o_pressN s n S 2 1 0 + S 2 11 0 = S 2 1 0 + o_pressN s n S 2 11 0 ∧ S 2 11 0 ≤ o_pressN s n S 2 11 0 ∧ o_pressN s n S 2 0 0 = S 2 0 0
  | 0, S => ⟨rfl, Nat.le_refl _, rfl⟩
  | n + 1, S => by
    unfold o_pressN
    split
    · exact ⟨rfl, Nat.le_refl _, rfl⟩
    · have ih := pressN_num s n (o_press1 s S)
      have e1 := pr_2 s S 1
      have e11 := pr_2 s S 11
      have e0 := pr_2 s S 0
      simp at e1 e11 e0
      omega
theorem iw_pressN {R B} {s : Nat} : ∀ (n : Nat) {S : s_T} {P : Nat}, iw R B P S → s < S 8 1 0 → n + S 2 11 0 ≤ 40 → iw R B (o_pressN s n S 2 1 0) (o_pressN s n S)
  | 0, S, P, q, _, _ => q.P
  | n + 1, S, P, q, hs, hn => by
    unfold o_pressN
    split
    · exact q.P
    · rename_i hb
      have e11 := pr_2 s S 11
      simp at e11
      have e8 : o_press1 s S 8 = S 8 := (cf_press1 s S).2.1
      exact iw_pressN n (iw_press1 q hs (by omega) (by omega)) (by rw [e8]; exact hs) (by rw [e11]; omega)
theorem iw_press {R B P S} {s : Nat} (q : iw R B P S) (hs : s < S 8 1 0) : iw R B (o_press s S 2 1 0) (o_press s S) := iw_pressN _ q hs (by have := q.2.2.1; unfold iv_n at this; omega)
theorem iw_presses {R B} : ∀ (n : Nat) {S : s_T} {P : Nat}, iw R B P S → n ≤ S 8 1 0 → iw R B (o_presses n S 2 1 0) (o_presses n S)
  | 0, S, P, q, _ => q.P
  | n + 1, S, P, q, hn => by
    have ih := iw_presses n q (by omega)
    have e8 : o_presses n S 8 = S 8 := (cf_presses n S).2.1
    exact iw_press ih (by rw [e8]; omega)
theorem presses_num : ∀ (n : Nat) (S : s_T), o_presses n S 2 1 0 + S 2 11 0 = S 2 1 0 + o_presses n S 2 11 0 ∧ S 2 11 0 ≤ o_presses n S 2 11 0 ∧ o_presses n S 2 0 0 = S 2 0 0
  | 0, S => ⟨rfl, Nat.le_refl _, rfl⟩
  | n + 1, S => by
    have ih := presses_num n S
    have h := pressN_num n (40 - o_presses n S 2 11 0) (o_presses n S)
    have e : o_presses (n + 1) S = o_pressN n (40 - o_presses n S 2 11 0) (o_presses n S) := rfl
    rw [e]
    omega
/-- numbers of tag 2 that the steps ahead of pressing leave -/
theorem lE_2 (S : s_T) (s x : Nat) : o_lE S s 2 x 0 = S 2 x 0 := by unfold o_lE; rw [s_p_t (by decide), s_h_t (by decide)]
theorem leave_2 (S : s_T) (x : Nat) (h1 : x ≠ 3) (h2 : x ≠ 10) : o_leave S 2 x 0 = S 2 x 0 := by
  unfold o_leave
  split
  · rfl
  · split
    · rw [lE_2]; unfold o_lA o_add; rw [s_p_i h1, s_p_i h2, s_p_t (by decide), s_h_t (by decide)]
    · rw [lE_2]; unfold o_lR; rw [s_h_t (by decide)]
theorem move_2 (S : s_T) (x : Nat) : o_move S 2 x 0 = S 2 x 0 := by simp [o_move]
theorem feed_2 (S : s_T) (x : Nat) (h : x ≠ 10) : o_feed S 2 x 0 = S 2 x 0 := by
  have e : o_fd S 2 x 0 = S 2 x 0 := by unfold o_fd; rw [s_p_t (by decide), s_h_t (by decide), s_h_t (by decide)]
  unfold o_feed
  split
  · rfl
  · split
    · rw [← e]; simp [o_drop, h]
    · exact e
theorem pick_2 (s : Nat) (S : s_T) : o_pick s S 2 = S 2 := by
  unfold o_pick
  split
  · rw [s_p_t (by decide)]
  · rw [s_p_t (by decide), s_p_t (by decide), s_p_t (by decide)]
    unfold o_pkd
    rw [go_t _ _ _ _ (by decide), go_t _ _ _ _ (by decide)]
theorem picks_2 : ∀ n S, o_picks n S 2 = S 2
  | 0, S => rfl
  | n + 1, S => by show o_pick n (o_picks n S) 2 = _; rw [pick_2, picks_2 n S]
theorem tick_0 (S : s_T) : o_tick S 2 0 0 = S 2 0 0 + 1 := by
  unfold o_tick
  show s_p _ 2 0 0 _ 2 0 0 = _
  rw [s_p_s, (presses_num _ _).2.2, picks_2, feed_2 _ _ (by decide), move_2, leave_2 _ _ (by decide) (by decide)]
/-- up to the pressing -/
def o_pre (S : s_T) : s_T := o_feed (o_move (o_leave S))
theorem pre_cf (S : s_T) : s_cf S (o_pre S) := cf_t (cf_t (cf_leave S) (cf_move _)) (cf_feed _)
theorem tick_e (S : s_T) : o_tick S = s_p (o_presses (S 8 1 0) (o_picks (S 8 1 0) (o_pre S))) 2 0 0 (o_presses (S 8 1 0) (o_picks (S 8 1 0) (o_pre S)) 2 0 0 + 1) := rfl
theorem iw_pre {R B P S} (q : iw R B P S) : iw (R + 200) B P (o_pre S) := iw_feed (iw_move (iw_leave q))
theorem iv_tick {S : s_T} (q : iv S) : iv (o_tick S) := by
  have e8 : o_pre S 8 = S 8 := (pre_cf S).2.1
  have h4 := iw_picks (S 8 1 0) (iw_pre q) (by rw [e8]; exact Nat.le_refl _)
  have e84 : o_picks (S 8 1 0) (o_pre S) 8 = S 8 := (cf_picks _ _).2.1.trans e8
  have h5 := iw_presses (S 8 1 0) h4 (by rw [e84]; exact Nat.le_refl _)
  have e85 : o_presses (S 8 1 0) (o_picks (S 8 1 0) (o_pre S)) 8 = S 8 := (cf_presses _ _).2.1.trans e84
  have hn := presses_num (S 8 1 0) (o_picks (S 8 1 0) (o_pre S))
  have e21 : o_picks (S 8 1 0) (o_pre S) 2 1 0 = S 2 1 0 := by rw [picks_2]; unfold o_pre; rw [feed_2 _ _ (by decide), move_2, leave_2 _ _ (by decide) (by decide)]
  have k40 := h5.2.2.1
  unfold iv_n at k40
  have p0 := q.2.2.2.2.2.2.2.2.2.1
  have t0 := tick_0 S
  have h6 := iw_p 2 0 0 (o_presses (S 8 1 0) (o_picks (S 8 1 0) (o_pre S)) 2 0 0 + 1) h5 (by decide) (fun _ => by decide) (fun h => absurd h (by decide)) (fun h => absurd h (by decide)) (fun h => absurd h (by decide)) (fun h => absurd h (by decide))
  rw [← tick_e] at h6
  have e1 : o_tick S 2 1 0 = o_presses (S 8 1 0) (o_picks (S 8 1 0) (o_pre S)) 2 1 0 := by rw [tick_e, s_p_i (by decide)]
  unfold iv
  rw [t0]
  refine (h6.mono (R' := 200 * (S 2 0 0 + 1)) (B' := fun _ => 200 * (S 2 0 0 + 1)) (P' := _) (by omega) (fun s hs => ?_) (Nat.le_refl _)).toP (by rw [e1]; omega)
  show (if s < S 8 1 0 then 200 * S 2 0 0 + 200 else 200 * S 2 0 0) ≤ 200 * (S 2 0 0 + 1)
  split <;> omega
theorem ticks_0 : ∀ n (S : s_T), o_ticks n S 2 0 0 = S 2 0 0 + n
  | 0, S => rfl
  | n + 1, S => by
    show o_tick (o_ticks n S) 2 0 0 = _
    rw [tick_0, ticks_0 n S]; omega
theorem iv_ticks : ∀ n {S : s_T}, iv S → iv (o_ticks n S)
  | 0, _, q => q
  | n + 1, _, q => iv_tick (iv_ticks n q)

/-! THE REFERENCE: moves -/
theorem am_cg {f g : Nat → Nat} {b : Nat} : ∀ n, (∀ m, m < n → f m = g m) → am f b n = am g b n
  | 0, _ => rfl
  | n + 1, h => by
    have ih := am_cg (b := b) n fun m hm => h m (by omega)
    have hl := am_le g b n
    have e1 : am f b (n + 1) = if n ≠ b ∧ (am f b n = 0 ∨ f (am f b n - 1) < f n) then n + 1 else am f b n := rfl
    have e2 : am g b (n + 1) = if n ≠ b ∧ (am g b n = 0 ∨ g (am g b n - 1) < g n) then n + 1 else am g b n := rfl
    rw [e1, e2, ih, h n (by omega)]
    by_cases c : am g b n = 0
    · simp [c]
    · rw [h (am g b n - 1) (by omega)]
theorem dl_cg : ∀ n {f g : Nat → Nat}, (∀ m, m < 6 → f m = g m) → ∀ m, m < 6 → dl n f m = dl n g m
  | 0, f, g, h, m, hm => h m hm
  | n + 1, f, g, h, m, hm => by
    show dl n (fun m => if m + 1 = am f 99 6 then f m - 1 else f m) m = dl n (fun m => if m + 1 = am g 99 6 then g m - 1 else g m) m
    refine dl_cg n (fun i hi => ?_) m hm
    show (if i + 1 = am f 99 6 then f i - 1 else f i) = (if i + 1 = am g 99 6 then g i - 1 else g i)
    rw [am_cg 6 h, h i hi]
theorem rs_cg {f g : Nat → Nat} {p : Nat} (h : ∀ m, m < 6 → f m = g m) : ∀ m, m < 6 → rs f p m = rs g p m := fun m hm => by
  have e : s6 f = s6 g := s6_cg h
  have e2 : s6 (fun m => f m * p / s6 f) = s6 (fun m => g m * p / s6 g) := s6_cg fun i hi => by rw [h i hi, e]
  unfold rs
  rw [e2, e]
  split
  · rfl
  · exact dl_cg _ (fun i hi => by rw [h i hi]) m hm
section RWM
variable {R R' : Nat → Int32} {S S' : s_T}
theorem RW.move (r : RW R S) {n : Nat} (en : n = S 8 1 0) (h1 : 1 ≤ n) (h0 : S 4 (n - 1) 0 = 0) (h' : ∀ x, R' x = if x = 258 then -1 else if 259 ≤ x ∧ x < 252 + 7 * n then R (x - 7) else R x) : RW R' (o_move S) := by
  have hb := r.b
  unfold Lb at hb
  have e8 : o_move S 8 = S 8 := (cf_move S).2.1
  have e2 : ∀ x, o_move S 2 x 0 = S 2 x 0 := fun x => move_2 S x
  have et : ∀ t, t ≠ 0 → t ≠ 4 → o_move S t = S t := fun t a b => by funext i j; simp [o_move, a, b]
  have e4 : ∀ s, o_move S 4 s 0 = if s < n then S 4 (if s = 0 then n - 1 else s - 1) 0 else S 4 s 0 := fun s => by
    rw [en]
    simp [o_move]
  have e0 : ∀ h, ¬ (11 ≤ h ∧ h < 11 + n) → o_move S 0 h = S 0 h := fun h hh => by
    funext m
    rw [en] at hh
    simp [o_move, hh]
  have e0s : ∀ s, 0 < s → s < n → o_move S 0 (11 + s) = S 0 (11 + (s - 1)) := fun s h1 h2 => by
    funext m
    have c1 : 11 ≤ 11 + s ∧ 11 + s < 11 + S 8 1 0 := by omega
    have c2 : 11 + s ≠ 11 := by omega
    have c3 : 11 + s - 1 = 11 + (s - 1) := by omega
    unfold o_move
    rw [if_pos ⟨rfl, c1⟩, if_neg c2, c3]
  have off : ∀ x, (x < 252 ∨ 308 ≤ x) → R' x = R x := fun x hx => by
    rw [h', if_neg (by omega), if_neg (by omega)]
  refine ⟨by unfold Lb; rw [e8, e2, e2]; exact r.b, fun t i j d => ?_, fun h m q hm => ?_, fun s hs => ?_, ?_⟩
  · have d1 := d.1
    have d2 : dR S t i j := by
      unfold dR at d ⊢
      rw [e8, e2, e2] at d; exact d
    rw [et t (by unfold dR0 at d1; omega) (by unfold dR0 at d1; omega), off]
    · exact r.c d2
    · rcases ri_cases d1 with ⟨-, q⟩ | ⟨-, a, b, -, e⟩ | ⟨-, q⟩ | ⟨-, q⟩ | ⟨-, q⟩ | ⟨-, q⟩ <;>
      first
      | omega
      | (have := r2_bd a b; omega)
  · by_cases c : 11 ≤ h ∧ h < 11 + n
    · obtain ⟨s, hs⟩ : ∃ s, h = 11 + s := ⟨h - 11, by omega⟩
      subst hs
      have hs8 : s < 8 := by omega
      unfold lR at q
      rw [e8, e2, e2, show 11 + s - 11 = s by omega, e4, if_pos (by omega)] at q
      by_cases cs : s = 0
      · subst cs
        rw [if_pos rfl] at q
        omega
      · rw [if_neg cs] at q
        rw [hi_slot hs8, h', if_neg (by omega), if_pos (by omega), e0s s (by omega) (by omega)]
        have hl : lR S (11 + (s - 1)) := by
          unfold lR
          rw [show 11 + (s - 1) - 11 = s - 1 by omega]
          omega
        have := r.m hl hm
        rw [hi_slot (by omega)] at this
        rw [show 252 + 7 * s + m - 7 = 252 + 7 * (s - 1) + m by omega]
        exact this
    · have q2 : lR S h := by
        unfold lR at q ⊢
        rw [e8, e2, e2] at q
        omega
      have h9 := lR_89 r.b q2
      rw [e0 h c, off]
      · exact r.m q2 hm
      · unfold lR at q2
        rcases hi_cases h9 with ⟨-, e'⟩ | ⟨-, e'⟩ | ⟨-, e'⟩ | ⟨s', hs', -, e'⟩ | ⟨s', hs', g, e'⟩ | ⟨s', hs', -, e'⟩ | ⟨s', hs', -, e'⟩ <;> omega
  · rw [e8] at hs
    rw [e4, if_pos (by omega)]
    by_cases cs : s = 0
    · subst cs
      rw [if_pos rfl, h0, h', if_pos rfl]; rfl
    · rw [if_neg cs, h', if_neg (by omega), if_pos (by omega), show 258 + 7 * s - 7 = 258 + 7 * (s - 1) by omega]
      exact r.rd (by omega)
  · rw [off 19 (by omega), e0 1 (by omega)]; exact r.al
theorem RW.drop (r : RW R S) {w : Nat} (ew : S 2 10 0 = w + 1) (h' : ∀ x, R' x = if x = 9 then nI w else if 42 ≤ x ∧ x < 42 + 7 * w then R (x + 7) else R x) : RW R' (o_drop S) := by
  have hb := r.b
  unfold Lb at hb
  have e8 : o_drop S 8 = S 8 := (cf_drop S).2.1
  have e2 : ∀ x, x ≠ 10 → o_drop S 2 x 0 = S 2 x 0 := fun x hx => by simp [o_drop, hx]
  have e210 : o_drop S 2 10 0 = w := by simp [o_drop, ew]
  have e4 : o_drop S 4 = S 4 := by funext i j; simp [o_drop]
  have et : ∀ t, t ≠ 0 → t ≠ 2 → t ≠ 3 → o_drop S t = S t := fun t a b c => by funext i j; simp [o_drop, a, b, c]
  have e3 : ∀ k, o_drop S 3 k 0 = S 3 (k + 1) 0 := fun k => by simp [o_drop]
  have e0 : ∀ h, ¬ (19 ≤ h ∧ h < 48) → o_drop S 0 h = S 0 h := fun h hh => by funext m; simp [o_drop, hh]
  have e0p : ∀ k, k < 29 → o_drop S 0 (19 + k) = S 0 (19 + (k + 1)) := fun k hk => by
    funext m
    have c1 : 19 ≤ 19 + k ∧ 19 + k < 48 := by omega
    unfold o_drop
    rw [if_pos ⟨rfl, c1⟩]
    rfl
  have off : ∀ x, (x < 42 ∨ 252 ≤ x) → x ≠ 9 → R' x = R x := fun x hx h9 => by
    rw [h', if_neg h9, if_neg (by omega)]
  refine ⟨by unfold Lb; rw [e8, e210, e2 11 (by decide)]; omega, fun t i j d => ?_, fun h m q hm => ?_, fun s hs => ?_, ?_⟩
  · have d1 := d.1
    by_cases c2 : t = 2 ∧ i = 10 ∧ j = 0
    · obtain ⟨rfl, rfl, rfl⟩ := c2
      rw [e210, h']; exact if_pos rfl
    · by_cases c3 : t = 3
      · subst c3
        have hj : j = 0 := by unfold dR0 at d1; omega
        subst hj
        have hi := d.2.1 rfl
        rw [e210] at hi
        rw [e3]
        show R' (48 + 7 * i) = _
        rw [h', if_neg (by omega), if_pos (by omega), show 48 + 7 * i + 7 = 48 + 7 * (i + 1) by omega]
        exact r.pr (by omega)
      · have d2 : dR S t i j := by
          have d4 := d.2
          unfold dR
          rw [e8, e2 11 (by decide)] at d4
          exact ⟨d1, fun e => absurd e c3, d4.2⟩
        have ev : o_drop S t i j = S t i j := by
          by_cases ct : t = 2
          · subst ct
            have hj : j = 0 := by unfold dR0 at d1; omega
            subst hj
            exact e2 i (by omega)
          · rw [et t (by unfold dR0 at d1; omega) ct c3]
        rw [ev, off]
        · exact r.c d2
        · rcases ri_cases d1 with ⟨-, q⟩ | ⟨-, a, b, -, e⟩ | ⟨c, q⟩ | ⟨-, q⟩ | ⟨-, q⟩ | ⟨-, q⟩ <;>
          first
          | omega
          | (have := r2_bd a b; omega)
        · intro e
          exact ri_ne (t := 2) (i := 10) (j := 0) (by unfold dR0; omega) d1 c2 e
  · by_cases c : 19 ≤ h ∧ h < 48
    · obtain ⟨k, hk⟩ : ∃ k, h = 19 + k := ⟨h - 19, by omega⟩
      subst hk
      have hkw : k < w := by
        unfold lR at q
        rw [e8, e210, e2 11 (by decide)] at q
        omega
      rw [e0p k (by omega), hi_par (by omega), h', if_neg (by omega), if_pos (by omega)]
      have hl : lR S (19 + (k + 1)) := by unfold lR; omega
      have := r.m hl hm
      rw [hi_par (by omega)] at this
      rw [show 42 + 7 * k + m + 7 = 42 + 7 * (k + 1) + m by omega]
      exact this
    · have q2 : lR S h := by
        unfold lR at q ⊢
        rw [e8, e210, e2 11 (by decide), e4] at q
        omega
      have h9 := lR_89 r.b q2
      have hx : ¬ (h = 48) := by
        intro e
        subst e
        unfold lR at q
        rw [e8, e210, e2 11 (by decide), e4] at q
        omega
      rw [e0 h c, off]
      · exact r.m q2 hm
      · rcases hi_cases h9 with ⟨-, e'⟩ | ⟨-, e'⟩ | ⟨-, e'⟩ | ⟨s', hs', -, e'⟩ | ⟨s', hs', g, e'⟩ | ⟨s', hs', g, e'⟩ | ⟨s', hs', -, e'⟩ <;> omega
      · intro e
        exact ri_hi (t := 2) (i := 10) (j := 0) (by unfold dR0; omega) h9 hm e.symm
  · rw [e8] at hs
    rw [e4, off _ (by omega) (by omega)]; exact r.rd hs
  · rw [off 19 (by omega) (by omega), e0 1 (by omega)]; exact r.al
end RWM
section MV
variable {G : q_G} {X : String → q_H → Prop} {A A0 : q_H} {mo : Nat} {S : s_T}
theorem v_drop {f : q_H → Prop} {w : Nat} (h0 : MS A0 mo) (hw : w < 30) (e9 : q_I A0 (mo + 6) 9 = nI w) (k : ∀ A', mg A0 A' mo → (∀ x, q_I A' (mo + 6) x = if 42 ≤ x ∧ x < 42 + 7 * w then q_I A0 (mo + 6) (x + 7) else q_I A0 (mo + 6) x) → f A') :
    ∀ (d i : Nat) (A : q_H), i + d = 7 * w → mg A0 A mo → (∀ x, q_I A (mo + 6) x = if 42 ≤ x ∧ x < 42 + i then q_I A0 (mo + 6) (x + 7) else q_I A0 (mo + 6) x) → q_Wp G M_X11_moves (q_KV f) X 0 0 146 [some (.ref mo), none, some (.int (nI (42 + i)))] [] A
  | 0, i, A, e, o, h1 => by
    have : i = 7 * w := by omega
    subst this
    have ms := o.1.ms h0
    refine f_X11_moves_146 ⟨ms.z, _, ms.r6, 788, ms.z6, by decide, by decide, ?_⟩
    rw [h1 9, if_neg (by omega), e9]
    exact M_parcelAt ⟨fun _ => k A o h1, fun c => absurd (nI_le (Nat.le_refl _) (by omega)) c⟩
  | d + 1, i, A, e, o, h1 => by
    have ms := o.1.ms h0
    refine f_X11_moves_146 ⟨ms.z, _, ms.r6, 788, ms.z6, by decide, by decide, ?_⟩
    rw [h1 9, if_neg (by omega), e9]
    refine M_parcelAt ⟨fun c => absurd c (nI_ge (by omega) (by omega)), fun _ => ⟨ms.z, _, ms.r6, 788, ms.z6, by decide, 42 + i + 7, by rw [nI_add], by omega, 42 + i, rfl, by omega, ?_⟩⟩
    rw [nI_add, h1 (42 + i + 7), if_neg (by omega), Nat.add_assoc 42 i 1]
    refine v_drop h0 hw e9 k d (i + 1) _ (by omega) (o.set (Or.inl rfl)) (fun x => ?_)
    rw [ix_set]
    by_cases c : x = 42 + i
    · subst c
      rw [if_pos rfl, if_pos (by omega)]
    · rw [if_neg c, h1 x]
      by_cases c2 : 42 ≤ x ∧ x < 42 + i
      · rw [if_pos c2, if_pos (by omega)]
      · rw [if_neg c2, if_neg (by omega)]
/-- feeding -/
theorem v_feed {f : q_H → Prop} {R : Nat} {B : Nat → Nat} {P : Nat} (h : MP A mo S) (q : iw R B P S) (h0 : S 4 0 0 = 0) (k : ∀ A', mg A A' mo → MP A' mo (o_feed S) → f A') :
    q_sh A mo = (12, 0) ∧ ∃ r14 : Nat, q_R A mo 6 = some r14 ∧ ∃ z17 : Nat, q_sh A r14 = (50, z17) ∧ z17 < 2147483648 ∧ 9 < z17 ∧ (((q_I A r14 9) = nI 0 → f A) ∧ (¬ (q_I A r14 9) = nI 0 → q_Wc G M_X11_parcelAt [.int (nI 0)] A (q_KI fun r22 A21 => q_sh A21 mo = (12, 0) ∧ ∃ r24 : Nat, q_R A21 mo 6 = some r24 ∧ ∃ z27 : Nat, q_sh A21 r24 = (50, z27) ∧ z27 < 2147483648 ∧ 0 < z27 ∧ q_Wc G M_X11_takes [.ref mo, .int r22, .int (q_I A21 r24 0)] A21 (q_KV fun A30 => q_Wc G M_X11_slotAt [.int (nI 0)] A30 (q_KI fun r33 A32 => q_sh A32 mo = (12, 0) ∧ q_Wc G M_X11_lays_ [.ref mo, .int r33] A32 (q_KV fun A34 => q_sh A34 mo = (12, 0) ∧ ∃ r38 : Nat, q_R A34 mo 6 = some r38 ∧ q_Wc G M_X11_slotAt [.int (nI 0)] A34 (q_KI fun r41 A40 => q_sh A40 mo = (12, 0) ∧ ∃ r43 : Nat, q_R A40 mo 6 = some r43 ∧ ∃ z46 : Nat, q_sh A40 r43 = (50, z46) ∧ z46 < 2147483648 ∧ ∃ j48 : Nat, (r22 + (nI 6)) = nI j48 ∧ j48 < z46 ∧ ∃ z52 : Nat, q_sh A40 r38 = (50, z52) ∧ z52 < 2147483648 ∧ ∃ j54 : Nat, (r41 + (nI 6)) = nI j54 ∧ j54 < z52 ∧ q_Wc G M_X11_total [.ref mo, .int r22] (q_setI A40 r38 j54 (q_I A40 r43 j48)) (q_KI fun r58 A57 => ((r58 ≤ nI 0 → q_sh A57 mo = (12, 0) ∧ ∃ r61 : Nat, q_R A57 mo 6 = some r61 ∧ ∃ z64 : Nat, q_sh A57 r61 = (50, z64) ∧ z64 < 2147483648 ∧ 9 < z64 ∧ q_Wp G M_X11_moves (q_KV f) X 0 0 146 [some (.ref mo), none, some (.int r22)] [] (q_setI A57 r61 9 ((q_I A57 r61 9) - (nI 1)))) ∧ (¬ r58 ≤ nI 0 → f A57))) q_nX) q_nX) q_nX) q_nX) q_nX) q_nX)) := by
  have q1 := q.1
  unfold iv_c at q1
  have q2 := q.2.1
  unfold iv_s at q2
  have q3 := q.2.2.1
  unfold iv_n at q3
  have e9 : q_I A (mo + 6) 9 = nI (S 2 10 0) := h.2.1.tal (i := 10) (by decide) (by decide)
  refine ⟨h.1.z, _, h.1.r6, 788, h.1.z6, by decide, by decide, ?_⟩
  rw [e9]
  refine ⟨fun c => k A (mg.r A mo) ?_, fun c => ?_⟩
  · have hw : S 2 10 0 = 0 := (nI_eq (by omega) (by decide)).mp c
    have : o_feed S = S := by unfold o_feed; rw [if_pos hw]
    rw [this]; exact h
  · have hw : S 2 10 0 ≠ 0 := fun e => c (by rw [e])
    have a := q.2.2.2.2.1 0 (by omega)
    have a2 : s6 (S 0 19) ≤ 5994 := a.2.1
    have hl : lR S 19 := by unfold lR; omega
    have hg : ∀ m, m < 6 → q_I A (mo + 6) (42 + m) = nI (S 0 19 m) := fun m hm => by
      have := h.2.1.m hl hm
      rw [hi_par (k := 0) (by decide)] at this; exact this
    have hz : ∀ m, S 8 0 0 ≤ m → m < 6 → S 0 19 m = 0 := fun m h1 h2 => q.2.2.2.2.2.2.1 19 (lv_par (k := 0) (by omega)) m h1 h2
    have e0 : q_I A (mo + 6) 0 = nI (S 1 0 0) := h.2.1.set (by decide)
    have m31 : ∀ m, m < 6 → S 0 19 m < 2147483648 := fun m hm => by have := s6_at (S 0 19) hm; omega
    -- masses of no material are never looked at
    obtain ⟨g, eg⟩ : ∃ g : Nat → Nat, g = fun m => if m < 6 then S 0 19 m else 0 := ⟨_, rfl⟩
    have g6 : ∀ m, m < 6 → g m = S 0 19 m := fun m hm => by rw [eg]; exact if_pos hm
    have gb : ∀ m, g m < 2147483648 := fun m => by
      rw [eg]
      show (if m < 6 then S 0 19 m else 0) < _
      split
      · exact m31 m (by assumption)
      · decide
    have gs : s6 g = s6 (S 0 19) := s6_cg g6
    have gr : ∀ m, m < 6 → rs g (S 1 0 0) m = rs (S 0 19) (S 1 0 0) m := rs_cg g6
    have gt : ∀ m, m < 6 → tk g (S 1 0 0) m = tk (S 0 19) (S 1 0 0) m := fun m hm => by unfold tk; rw [gr m hm, g6 m hm]
    refine M_parcelAt (s := 0) ⟨h.1.z, _, h.1.r6, 788, h.1.z6, by decide, by decide, ?_⟩
    rw [e0]
    refine M_takes (g := g) (p := S 1 0 0) h.mt (by omega) (by decide) (by omega) (by omega) gb (fun m h1 h2 => by rw [g6 m h2]; exact hz m h1 h2) (fun m hm => by rw [g6 m hm]; exact hg m hm) fun A1 o1 r1 v1 t1 => ?_
    have w1 : RW (q_I A1 (mo + 6)) (s_h S 19 (rs (S 0 19) (S 1 0 0))) := h.2.1.heap (x := 19) _ (by decide) (by decide) (fun y hy => by rw [hi_par (k := 0) (by decide)] at hy; exact r1 y hy) (fun m hm => by rw [hi_par (k := 0) (by decide)]; rw [← gr m hm]; exact v1 m hm)
    have ms1 := o1.1.ms h.1
    refine M_slotAt (s := 0) ⟨ms1.z, M_lays (w := fun m => nI (tk (S 0 19) (S 1 0 0) m)) ms1 (by decide) (fun m hm => by rw [← gt m hm]; exact t1 m hm) fun A2 o2 r2 v2 _ => ?_⟩
    have w2 : RW (q_I A2 (mo + 6)) (s_h (s_h S 19 (rs (S 0 19) (S 1 0 0))) 11 (tk (S 0 19) (S 1 0 0))) := w1.heap (x := 11) _ (by decide) (by decide) (fun y hy => by rw [hi_slot (s := 0) (by decide)] at hy; exact r2 y hy) (fun m hm => by rw [hi_slot (s := 0) (by decide)]; exact v2 m hm)
    have ms2 := o2.1.ms ms1
    have e48 : q_I A2 (mo + 6) 48 = nI (S 3 0 0) := w2.pr (k := 0) (by rw [s_h_t (by decide), s_h_t (by decide)]; omega)
    refine ⟨ms2.z, _, ms2.r6, M_slotAt (s := 0) ⟨ms2.z, _, ms2.r6, 788, ms2.z6, by decide, 48, by rw [nI_add], by decide, 788, ms2.z6, by decide, 258, by rw [nI_add], by decide, ?_⟩⟩
    rw [e48]
    have w3 : RW (q_I (q_setI A2 (mo + 6) 258 (nI (S 3 0 0))) (mo + 6)) (s_p (s_h (s_h S 19 (rs (S 0 19) (S 1 0 0))) 11 (tk (S 0 19) (S 1 0 0))) 4 0 0 (S 3 0 0 + 1)) := by
      refine w2.rn (s := 0) (S 3 0 0 + 1) (by rw [s_h_t (by decide), s_h_t (by decide)]; omega) (fun x => ?_) (fun _ _ m hm => ?_)
      · rw [ix_set]
        show _ = if x = 258 then rnd (S 3 0 0 + 1) else _
        rfl
      · rw [s_h_s]
        exact v2 m hm
    have efd : s_p (s_h (s_h S 19 (rs (S 0 19) (S 1 0 0))) 11 (tk (S 0 19) (S 1 0 0))) 4 0 0 (S 3 0 0 + 1) = o_fd S := by unfold o_fd; rw [s_h_c (by decide)]
    rw [efd] at w3
    have o3 : mg A (q_setI A2 (mo + 6) 258 (nI (S 3 0 0))) mo := (o1.t o2).set (Or.inl rfl)
    have ms3 := o3.1.ms h.1
    have p3 : MP (q_setI A2 (mo + 6) 258 (nI (S 3 0 0))) mo (o_fd S) := h.to o3.1 w3 (cf_fd S)
    have e019 : o_fd S 0 19 = rs (S 0 19) (S 1 0 0) := by unfold o_fd; rw [s_p_00 (by decide), s_h_s]
    have e210 : o_fd S 2 10 0 = S 2 10 0 := by unfold o_fd; rw [s_p_t (by decide), s_h_t (by decide), s_h_t (by decide)]
    have hl3 : lR (o_fd S) 19 := by unfold lR; rw [e210]; omega
    refine M_total (g := rs (S 0 19) (S 1 0 0)) ms3 (by decide) (fun m hm => ?_) ?_
    · have := w3.m hl3 hm
      rw [hi_par (k := 0) (by decide), e019] at this; exact this
    · have hrb : s6 (rs (S 0 19) (S 1 0 0)) ≤ 5994 := by rw [s6_rs]; omega
      refine ⟨fun c => ?_, fun c => ?_⟩
      · have h6 : s6 (rs (S 0 19) (S 1 0 0)) = 0 := Nat.le_zero.mp ((nI_leI (by omega) (by decide)).mp c)
        have e93 : q_I (q_setI A2 (mo + 6) 258 (nI (S 3 0 0))) (mo + 6) 9 = nI (S 2 10 0) := by
          have : q_I (q_setI A2 (mo + 6) 258 (nI (S 3 0 0))) (mo + 6) 9 = nI (o_fd S 2 10 0) := w3.tal (i := 10) (by decide) (by decide)
          rw [this, e210]
        refine ⟨ms3.z, _, ms3.r6, 788, ms3.z6, by decide, by decide, ?_⟩
        rw [e93, pk_sub (by omega)]
        have ms4 : MS (q_setI (q_setI A2 (mo + 6) 258 (nI (S 3 0 0))) (mo + 6) 9 (nI (S 2 10 0 - 1))) mo := ms3.to rfl rfl
        refine v_drop (A0 := q_setI (q_setI A2 (mo + 6) 258 (nI (S 3 0 0))) (mo + 6) 9 (nI (S 2 10 0 - 1))) (w := S 2 10 0 - 1) ms4 (by omega) (I_set_s _ _ _ _) (fun A5 o5 h5 => ?_) (7 * (S 2 10 0 - 1)) 0 _ (by omega) (mg.r _ mo) (fun x => ?_)
        · have el : o_feed S = o_drop (o_fd S) := by unfold o_feed; rw [if_neg hw, if_pos h6]
          have o6 : mg A A5 mo := (o3.set (Or.inl rfl)).t o5
          refine k A5 o6 ?_
          rw [el]
          refine h.to o6.1 (w3.drop (w := S 2 10 0 - 1) (by rw [e210]; omega) fun x => ?_) (cf_t (cf_fd S) (cf_drop _))
          rw [h5 x, ix_set (q_setI A2 (mo + 6) 258 (nI (S 3 0 0))) (mo + 6) 9 (nI (S 2 10 0 - 1)) (x + 7), ix_set (q_setI A2 (mo + 6) 258 (nI (S 3 0 0))) (mo + 6) 9 (nI (S 2 10 0 - 1)) x]
          by_cases c9 : x = 9
          · subst c9
            rw [if_neg (by omega), if_pos rfl, if_pos rfl]
          · by_cases c42 : 42 ≤ x ∧ x < 42 + 7 * (S 2 10 0 - 1)
            · rw [if_pos c42, if_neg (by omega), if_neg c9, if_pos c42]
            · rw [if_neg c42, if_neg c9, if_neg c9, if_neg c42]
        · rw [if_neg (by omega)]
      · have h6 : ¬ s6 (rs (S 0 19) (S 1 0 0)) = 0 := fun e => c (by rw [e]; exact nI_le (Nat.le_refl _) (by decide))
        have el : o_feed S = o_fd S := by unfold o_feed; rw [if_neg hw, if_neg h6]
        refine k _ o3 ?_
        rw [el]; exact p3
/-- the belt moves on -/
theorem v_sh13 {f : q_H → Prop} {n s : Nat} {R0 : Nat → Int32} (h0 : MS A0 mo) (hn : n ≤ 8) (hs : 0 < s) (hsn : s < n) (k : ∀ A', mg A0 A' mo → (∀ x, q_I A' (mo + 6) x = if 252 + 7 * s ≤ x ∧ x < 252 + 7 * n then R0 (x - 7) else R0 x) → q_Wp G M_X11_moves (q_KV f) X 0 0 7 [some (.ref mo), some (.int (nI (s - 1))), none] [] A') :
    ∀ (d i : Nat) (A : q_H), i + d = 7 → mg A0 A mo → (∀ x, q_I A (mo + 6) x = if (252 + 7 * s ≤ x ∧ x < 252 + 7 * s + i) ∨ (252 + 7 * (s + 1) ≤ x ∧ x < 252 + 7 * n) then R0 (x - 7) else R0 x) → q_Wp G M_X11_moves (q_KV f) X 0 0 13 [some (.ref mo), some (.int (nI s)), some (.int (nI i))] [] A
  | 0, i, A, e, o, h1 => by
    have : i = 7 := by omega
    subst this
    refine f_X11_moves_13 ⟨fun _ => ?_, fun c => absurd (by decide) c⟩
    have em1 : nI s + Int32.ofInt (-1) = nI (s - 1) := by
      rw [show s = (s - 1) + 1 by omega, Nat.add_sub_cancel]
      exact pk_m1 _
    rw [em1]
    refine k A o fun x => ?_
    rw [h1 x]
    by_cases c : 252 + 7 * s ≤ x ∧ x < 252 + 7 * n
    · rw [if_pos c, if_pos (by omega)]
    · rw [if_neg c, if_neg (by omega)]
  | d + 1, i, A, e, o, h1 => by
    have ms := o.1.ms h0
    refine f_X11_moves_13 ⟨fun c => absurd c (nI_nlt (by omega) (by decide)), fun _ => ⟨ms.z, _, ms.r6, M_slotAt ⟨ms.z, _, ms.r6, ?_⟩⟩⟩
    rw [pk_sub (by omega)]
    refine M_slotAt ⟨788, ms.z6, by decide, 252 + 7 * (s - 1) + i, by rw [nI_add], by omega, 788, ms.z6, by decide, 252 + 7 * s + i, by rw [nI_add], by omega, ?_⟩
    rw [nI_add, h1 (252 + 7 * (s - 1) + i), if_neg (by omega)]
    refine v_sh13 h0 hn hs hsn k d (i + 1) _ (by omega) (o.set (Or.inl rfl)) (fun x => ?_)
    rw [ix_set]
    by_cases c : x = 252 + 7 * s + i
    · subst c
      rw [if_pos rfl, if_pos (by omega)]
      congr 1
      omega
    · rw [if_neg c, h1 x]
      by_cases c2 : (252 + 7 * s ≤ x ∧ x < 252 + 7 * s + i) ∨ (252 + 7 * (s + 1) ≤ x ∧ x < 252 + 7 * n)
      · rw [if_pos c2, if_pos (by omega)]
      · rw [if_neg c2, if_neg (by omega)]
theorem v_moves {f : q_H → Prop} {R : Nat} {B : Nat → Nat} {P n : Nat} (h : MP A0 mo S) (q : iw R B P S) (en : n = S 8 1 0) (h0 : S 4 (n - 1) 0 = 0) (k : ∀ A', mg A0 A' mo → MP A' mo (o_feed (o_move S)) → f A') :
    ∀ (s : Nat) (A : q_H), s < n → mg A0 A mo → (∀ x, q_I A (mo + 6) x = if 252 + 7 * (s + 1) ≤ x ∧ x < 252 + 7 * n then q_I A0 (mo + 6) (x - 7) else q_I A0 (mo + 6) x) → q_Wp G M_X11_moves (q_KV f) X 0 0 7 [some (.ref mo), some (.int (nI s)), none] [] A
  | 0, A, hs, o, h1 => by
    have ms := o.1.ms h.1
    have q1 := q.1
    unfold iv_c at q1
    have w1 : RW (q_I (q_setI A (mo + 6) 258 (-1)) (mo + 6)) (o_move S) := h.2.1.move en (by omega) h0 (fun x => by
      rw [ix_set]
      by_cases c : x = 258
      · rw [if_pos c, if_pos c]
      · rw [if_neg c, if_neg c, h1 x])
    have o1 : mg A0 (q_setI A (mo + 6) 258 (-1)) mo := o.set (Or.inl rfl)
    have p1 : MP (q_setI A (mo + 6) 258 (-1)) mo (o_move S) := h.to o1.1 w1 (cf_move S)
    have e4 : o_move S 4 0 0 = 0 := by
      have : o_move S 4 0 0 = S 4 (S 8 1 0 - 1) 0 := by
        have c : 0 < S 8 1 0 := by omega
        simp [o_move, c]
      rw [this, ← en]; exact h0
    have fd := v_feed (G := G) (X := X) (f := f) p1 (iw_move q) e4 fun A' o' p' => k A' (o1.t o') p'
    exact f_X11_moves_7 ⟨fun _ => ⟨ms.z, _, ms.r6, M_slotAt (s := 0) ⟨788, ms.z6, by decide, 258, by rw [nI_add], by decide, fd⟩⟩, fun c => absurd (by decide) c⟩
  | s + 1, A, hs, o, h1 => by
    have q1 := q.1
    unfold iv_c at q1
    refine f_X11_moves_7 ⟨fun c => absurd ((nI_leI (by omega) (by decide)).mp c) (by omega), fun _ => ?_⟩
    refine v_sh13 (A0 := A0) (n := n) (s := s + 1) (R0 := q_I A0 (mo + 6)) h.1 (by omega) (by omega) hs (fun A' o' h' => ?_) 7 0 A (by omega) o (fun x => ?_)
    · rw [Nat.add_sub_cancel]
      exact v_moves h q en h0 k s A' (by omega) o' h'
    · rw [h1 x]
      by_cases c : 252 + 7 * (s + 1 + 1) ≤ x ∧ x < 252 + 7 * n
      · rw [if_pos c, if_pos (by omega)]
      · rw [if_neg c, if_neg (by omega)]
theorem M_moves {f : q_H → Prop} {R : Nat} {B : Nat → Nat} {P : Nat} (h : MP A mo S) (q : iw R B P S) (h0 : S 4 (S 8 1 0 - 1) 0 = 0) (k : ∀ A', mg A A' mo → MP A' mo (o_feed (o_move S)) → f A') : q_Wc G M_X11_moves [.ref mo] A (q_KV f) X := by
  have q1 := q.1
  unfold iv_c at q1
  refine f_X11_moves ⟨h.1.z, M_sts h.mt ?_⟩
  rw [pk_sub q1.2.2.1]
  exact v_moves h q rfl h0 k (S 8 1 0 - 1) A (by omega) (mg.r A mo) (fun x => by rw [if_neg (by omega)])
end MV

/-! WHAT IS TRIED ON A COPY: outlook, bestStaff, emptied -/
def iv5 (S : s_T) : Prop := ∀ s, s < S 8 1 0 → S 5 s 3 ≤ 200 * S 2 0 0
theorem pkd_5 (S : s_T) (s : Nat) : o_pkd S s 5 = S 5 := by
  unfold o_pkd
  rw [go_t _ _ _ _ (by decide), go_t _ _ _ _ (by decide)]
theorem pick_5n (s : Nat) (S : s_T) {s' : Nat} (h : s' ≠ s) : o_pick s S 5 s' = S 5 s' := by
  unfold o_pick
  split
  · rw [s_p_ir h]
  · rw [s_p_t (by decide), s_p_ir h, s_p_ir h, pkd_5]
theorem rw_le (S : s_T) {s : Nat} (hs : s < 8) (ht : S 9 s 0 < 6) : o_right S s + o_wrong (o_go S s (S 9 s 0) (o_right S s)) s (o_right S s) ≤ s6 (S 0 (11 + s)) := by
  have h1 := right_le S s
  have h2 := wrong_le (o_go S s (S 9 s 0) (o_right S s)) s (o_right S s)
  have hg := go_slot S s (S 9 s 0) (o_right S s) hs
  have h3 := s6_if (f := S 0 (11 + s)) ht h1
  rw [← hg] at h3
  by_cases c : o_oth (o_go S s (S 9 s 0) (o_right S s)) s = 0
  · have : o_wrong (o_go S s (S 9 s 0) (o_right S s)) s (o_right S s) = 0 := by unfold o_wrong; rw [if_pos c]
    omega
  · have h4 : o_oth (o_go S s (S 9 s 0) (o_right S s)) s ≤ 6 := am_le _ _ _
    have h5 := s6_at (o_go S s (S 9 s 0) (o_right S s) 0 (11 + s)) (m := o_oth (o_go S s (S 9 s 0) (o_right S s)) s - 1) (by omega)
    omega
theorem pick_53 {R B P S} (s : Nat) (q : iw R B P S) (hs : s < S 8 1 0) : S 5 s 3 ≤ o_pick s S 5 s 3 ∧ o_pick s S 5 s 3 ≤ S 5 s 3 + 200 := by
  have q1 := q.1
  unfold iv_c at q1
  have ht := q1.2.2.2.2.2.1 s hs
  have h := rw_le S (s := s) (by omega) (by omega)
  have h2 := (q.2.2.2.1 s hs).2.2.2.1
  unfold o_pick
  split
  · rw [s_p_j _ (by decide)]; omega
  · rw [s_p_t (by decide), s_p_j _ (by decide), s_p_s]; omega
theorem picks_53 {R B P} : ∀ (n : Nat) {S : s_T}, iw R B P S → n ≤ S 8 1 0 → ∀ s, S 5 s 3 ≤ o_picks n S 5 s 3 ∧ o_picks n S 5 s 3 ≤ S 5 s 3 + (if s < n then 200 else 0)
  | 0, S, q, _, s => ⟨Nat.le_refl _, by simp [o_picks]⟩
  | n + 1, S, q, hn, s => by
    have ih := picks_53 n q (by omega) s
    have e8 : o_picks n S 8 = S 8 := (cf_picks n S).2.1
    have e : o_picks (n + 1) S = o_pick n (o_picks n S) := rfl
    rw [e]
    by_cases c : s = n
    · subst c
      have h := pick_53 s (iw_picks s q (by omega)) (by rw [e8]; omega)
      rw [if_neg (by omega)] at ih
      rw [if_pos (by omega)]
      omega
    · rw [pick_5n n _ c]
      by_cases d : s < n
      · rw [if_pos d] at ih
        rw [if_pos (by omega)]; exact ih
      · rw [if_neg d] at ih
        rw [if_neg (by omega)]; exact ih
theorem press1_53 (s : Nat) (S : s_T) (i : Nat) : o_press1 s S 5 i 3 = S 5 i 3 := by simp [o_press1, s_p, s_h, o_dat]
theorem pressN_53 (s : Nat) : ∀ (n : Nat) (S : s_T) (i : Nat), o_pressN s n S 5 i 3 = S 5 i 3
  | 0, S, i => rfl
  | n + 1, S, i => by
    unfold o_pressN
    split
    · rfl
    · rw [pressN_53 s n, press1_53]
theorem presses_53 : ∀ (n : Nat) (S : s_T) (i : Nat), o_presses n S 5 i 3 = S 5 i 3
  | 0, S, i => rfl
  | n + 1, S, i => by
    show o_pressN n _ (o_presses n S) 5 i 3 = _
    rw [pressN_53, presses_53 n]
theorem pre_53 (S : s_T) (i : Nat) : o_pre S 5 i 3 = S 5 i 3 := by
  have e1 : o_leave S 5 i 3 = S 5 i 3 := by
    unfold o_leave
    split
    · rfl
    · split
      · simp [o_lE, o_lA, o_add, s_p, s_h]
      · simp [o_lE, o_lR, s_p, s_h]
  have e2 : o_move (o_leave S) 5 i 3 = o_leave S 5 i 3 := by simp [o_move]
  have e3 : ∀ U : s_T, o_feed U 5 i 3 = U 5 i 3 := fun U => by
    unfold o_feed
    split
    · rfl
    · split
      · simp [o_drop, o_fd, s_p, s_h]
      · simp [o_fd, s_p, s_h]
  unfold o_pre
  rw [e3, e2, e1]
theorem tick_53 {S : s_T} (q : iv S) (s : Nat) : S 5 s 3 ≤ o_tick S 5 s 3 ∧ o_tick S 5 s 3 ≤ S 5 s 3 + 200 := by
  have e8 : o_pre S 8 = S 8 := (pre_cf S).2.1
  have h := picks_53 (S 8 1 0) (iw_pre q) (by rw [e8]; exact Nat.le_refl _) s
  rw [pre_53] at h
  rw [tick_e, s_p_t (by decide), presses_53]
  refine ⟨h.1, Nat.le_trans h.2 ?_⟩
  split <;> omega
theorem ticks_53 : ∀ (n : Nat) {S : s_T}, iv S → ∀ s, S 5 s 3 ≤ o_ticks n S 5 s 3 ∧ o_ticks n S 5 s 3 ≤ S 5 s 3 + 200 * n
  | 0, S, q, s => ⟨Nat.le_refl _, Nat.le_refl _⟩
  | n + 1, S, q, s => by
    have ih := ticks_53 n q s
    have h := tick_53 (iv_ticks n q) s
    show _ ≤ o_tick (o_ticks n S) 5 s 3 ∧ o_tick (o_ticks n S) 5 s 3 ≤ _
    omega
theorem iv5_ticks (n : Nat) {S : s_T} (q : iv S) (q5 : iv5 S) : iv5 (o_ticks n S) := fun s hs => by
  have e8 : o_ticks n S 8 = S 8 := (cf_ticks n S).2.1
  rw [e8] at hs
  have h := ticks_53 n q s
  have h5 := q5 s hs
  rw [ticks_0]; omega
def a_outlook (S : s_T) (x y : Int32) : q_An := match ix x 201 with
  | none => (1, 0)
  | some n => if n = 0 then (1, 0) else match ix y 5 with
    | none => (1, 0)
    | some w => (0, if w = 0 then nI (o_ticks n S 2 1 0) - nI (S 2 1 0) else if w = 1 then nI (o_ticks n S 2 2 0) - nI (S 2 2 0) else if w = 2 then nI (s6 (o_ticks n S 0 0)) - nI (s6 (S 0 0)) else if w = 3 then nI (o_ticks n S 2 3 0) - nI (S 2 3 0) else nI (o_gt (o_ticks n S) (S 8 1 0)))
/-- what a station has picked after k ticks with p pickers -/
def o_bv (S : s_T) (s k p : Nat) : Nat := o_ticks k (o_staff S s p) 5 s 3
def o_bs (S : s_T) (s k : Nat) : Nat → Nat
  | 0 => 0
  | n + 1 => if n = 0 ∨ o_bv S s k (o_bs S s k n) < o_bv S s k n then n else o_bs S s k n
def a_bestStaff (S : s_T) (x y : Int32) : q_An := match ix x (S 8 1 0) with
  | none => (1, 0)
  | some s => match ix y 101 with
    | none => (2, 0)
    | some k => if k = 0 then (2, 0) else (0, nI (o_bs S s k 10))
def o_em (S : s_T) (k : Nat) : Prop := o_ticks k S 2 10 0 = 0 ∧ o_belt (o_ticks k S) = 0
/-- the first from k on, d left -/
def o_es (S : s_T) : Nat → Nat → Int32
  | 0, k => if o_ticks k S 2 10 0 = 0 ∧ o_belt (o_ticks k S) = 0 then nI k else -1
  | d + 1, k => if o_ticks k S 2 10 0 = 0 ∧ o_belt (o_ticks k S) = 0 then nI k else o_es S d (k + 1)
def a_emptied (S : s_T) : Int32 := o_es S 400 0
section TRY
variable {G : q_G} {X : String → q_H → Prop} {A0 A A' : q_H} {rl m W : Nat} {L : L_T} {S S' : s_T} {h : Nat → s_T} {n x len : Nat} {T : Nat → Int32}
theorem Rc.sp (r : Rc A0 A rl m W L S h n x len T) {t t' : l_T} (e : L 1 = some t) (ea : l_a t' = l_a t) (p : Lp A A' t' S') : Rc A0 A' rl m W (L_up L 1 t') S h n x len T := by
  have f := p.2
  rw [ea] at f
  exact r.spare e ea f p.1.g
theorem C_outlook {f : Int32 → q_H → Prop} {y1 y2 : Int32} (r : Rc A0 A rl m W L S h n x len T) (q : iv S) (hT : S 2 0 0 ≤ 9999)
    (k0 : (a_outlook S y1 y2).1 = 0 → ∀ A' L', Rc A0 A' rl m W L' S h n x len T → f (a_outlook S y1 y2).2 A') (k1 : (a_outlook S y1 y2).1 = 1 → ∀ z, q_sz A ≤ z → X "java/lang/IllegalArgumentException" (q_grow A z)) : q_Wc G M_X10_outlook [.ref rl, .int y1, .int y2] A (q_KI f) X := by
  have bad : ¬ (∃ v w, v < 201 ∧ v ≠ 0 ∧ y1 = nI v ∧ w < 5 ∧ y2 = nI w) → ∀ z, q_sz A ≤ z → X "java/lang/IllegalArgumentException" (q_grow A z) := fun hv => by
    have : (a_outlook S y1 y2).1 = 1 := by
      unfold a_outlook
      rcases ix_cases y1 201 (by decide) with ⟨v, hv1, ev, e3⟩ | ⟨-, e3⟩
      · rw [e3]
        by_cases c : v = 0
        · subst c; rfl
        · show (if v = 0 then _ else _ : q_An).1 = 1
          rw [if_neg c]
          rcases ix_cases y2 5 (by decide) with ⟨w, hw1, ew, e4⟩ | ⟨-, e4⟩
          · exact absurd ⟨v, w, hv1, c, ev, hw1, ew⟩ hv
          · rw [e4]
      · rw [e3]
    exact k1 this
  refine f_X10_outlook ⟨fun c => bad ?_, fun c1 => ⟨fun c2 => bad ?_, fun c2 => ⟨fun c3 => bad ?_, fun c3 => ⟨fun c4 => ?_, fun c4 => bad ?_⟩⟩⟩⟩
  · rintro ⟨v, w, hv, hv0, ev, -, -⟩
    rw [ev] at c; exact nI_nlt (by omega) (by omega) c
  · rintro ⟨v, w, hv, hv0, ev, -, -⟩
    rw [ev] at c2; exact nI_nlt (by omega) (by decide) c2
  · rintro ⟨v, w, hv, hv0, -, hw, ew⟩
    rw [ew] at c3; exact nI_pos (by omega) c3
  · have hv : ∃ v, v < 201 ∧ v ≠ 0 ∧ y1 = nI v := by
      rcases pk_ix y1 (n := 201) (by decide) with c5 | c5 | ⟨j, hj, e⟩
      · exact absurd (Int32.lt_trans c5 (show (0 : Int32) < nI 1 by decide)) c1
      · exact absurd (Int32.lt_of_lt_of_le (show nI 200 < nI 201 by decide) c5) c2
      · refine ⟨j, hj, fun e0 => ?_, e⟩
        rw [e, e0] at c1
        exact c1 (by decide)
    have hw : ∃ w, w < 5 ∧ y2 = nI w := by
      rcases pk_ix y2 (n := 5) (by decide) with c5 | c5 | ⟨j, hj, e⟩
      · exact absurd c5 c3
      · exact absurd (Int32.le_trans c5 c4) (by decide)
      · exact ⟨j, hj, e⟩
    obtain ⟨v, hv, hv0, e⟩ := hv
    obtain ⟨w, hw, e2⟩ := hw
    subst e
    have e8 : o_ticks v S 8 = S 8 := (cf_ticks v S).2.1
    have ee : a_outlook S (nI v) y2 = (0, if w = 0 then nI (o_ticks v S 2 1 0) - nI (S 2 1 0) else if w = 1 then nI (o_ticks v S 2 2 0) - nI (S 2 2 0) else if w = 2 then nI (s6 (o_ticks v S 0 0)) - nI (s6 (S 0 0)) else if w = 3 then nI (o_ticks v S 2 3 0) - nI (S 2 3 0) else nI (o_gt (o_ticks v S) (S 8 1 0))) := by
      unfold a_outlook
      rw [ix_nI hv (by decide), e2]
      show (if v = 0 then _ else _) = _
      rw [if_neg hv0, ix_nI hw (by decide)]
    rw [ee] at k0
    refine ⟨r.1.1.1, C_copyOfLine r fun A5 L5 t5 r5 e0 e1 l5 => ⟨_, rfl, l5.2.1.1.1.1, L_makeTicks (A0 := A5) ⟨l5, fr.r _ _ _⟩ q (by omega) fun A9 t9 ea p9 => ?_⟩⟩
    have rc := r5.sp e1 ea p9
    obtain ⟨u, eu, hu, zu, ru, pu, qu⟩ := rc.t
    have p9' : Lp A5 A9 t9 (o_ticks v S) := p9
    rw [← ea]
    have kk := k0 rfl A9 _ rc
    have h0 : q_I A9 (l_a t9 + 218) 1 = nI (s6 (o_ticks v S 0 0)) := p9'.t (x := 0) (Or.inl (by decide))
    have h1 : q_I A9 (l_a u + 218) 1 = nI (s6 (S 0 0)) := pu.t (x := 0) (Or.inl (by decide))
    refine ⟨fun e => ?_, fun e => ?_, fun e => ?_, fun e => ?_, fun hn => ?_⟩
    · have hw0 : w = 0 := (nI_eq (by omega) (by decide)).mp (e2.symm.trans e)
      subst hw0
      exact ⟨p9'.line, _, p9'.r9, p9'.z220, zu, _, ru, pu.line, _, pu.r9, pu.z220, by rw [p9'.tal (by decide), pu.tal (by decide)]; exact kk⟩
    · have hw0 : w = 1 := (nI_eq (by omega) (by decide)).mp (e2.symm.trans e)
      subst hw0
      exact ⟨p9'.line, _, p9'.r9, p9'.z220, zu, _, ru, pu.line, _, pu.r9, pu.z220, by rw [p9'.tal (by decide), pu.tal (by decide)]; exact kk⟩
    · have hw0 : w = 2 := (nI_eq (by omega) (by decide)).mp (e2.symm.trans e)
      subst hw0
      exact ⟨p9'.line, _, p9'.r8, p9'.k218.1, zu, _, ru, pu.line, _, pu.r8, pu.k218.1, by rw [h0, h1]; exact kk⟩
    · have hw0 : w = 3 := (nI_eq (by omega) (by decide)).mp (e2.symm.trans e)
      subst hw0
      exact ⟨p9'.line, _, p9'.r9, p9'.z220, zu, _, ru, pu.line, _, pu.r9, pu.z220, by rw [p9'.tal (by decide), pu.tal (by decide)]; exact kk⟩
    · have hw0 : w = 4 := by
        have := hn w
        have h2 : ¬ w < 4 := fun c => this c e2
        omega
      subst hw0
      refine ⟨p9'.line, L_gt p9' (iv_ticks v q).2.2.2.1 ?_⟩
      rw [e8]
      exact kk
  · rintro ⟨v, w, hv, hv0, -, hw, ew⟩
    rw [ew] at c4; exact c4 (nI_le (by omega) (by decide))
theorem C_picked {f : Int32 → q_H → Prop} {s p k : Nat} (q : iv S) (hT : S 2 0 0 ≤ 9999) (hs : s < S 8 1 0) (hp : p ≤ 9) (hk : k ≤ 100) (r : Rc A0 A rl m W L S h n x len T) {t : l_T} (e1 : L 1 = some t) (l1 : Lr A t S)
    (kk : ∀ A' L' t', Rc A0 A' rl m W L' S h n x len T → L' 1 = some t' → f (nI (o_bv S s k p) - nI (S 5 s 3)) A') :
    q_sh A (l_a t) = (5, 0) ∧ q_Wc G M_X4_stationAt [.ref (l_a t), .int (nI s)] A (q_KR fun o8 A5 => (o8 = none → f (nI 0) A5) ∧ (∀ r6 : Nat, o8 = some r6 → q_sh A5 r6 = (7, 0) ∧ q_Wc G M_X6_relieve [.ref r6, .int (nI p)] A5 (q_KV fun A10 => q_sh A10 (l_a t) = (5, 0) ∧ q_Wc G M_X4_makeTicks [.ref (l_a t), .int (nI k)] A10 (q_KV fun A12 => q_sh A12 r6 = (7, 0) ∧ f ((q_I A12 r6 6) - (q_I A5 r6 6)) A12) q_nX) q_nX)) q_nX := by
  have p0 : Lp A A t S := ⟨l1, fr.r _ _ _⟩
  have hs8 := p0.nst8 hs
  refine ⟨p0.line, L_stationAtN p0 hs ⟨fun e => (by cases e), fun r6 e6 => ?_⟩⟩
  cases e6
  have p4 := p0.put (t := 5) (i := s) (j := 0) p (by unfold dm0; omega) ⟨fun e => absurd e (by decide), fun e => absurd e (by decide)⟩
  have p5 : Lp A _ t (o_staff S s p) := p4.put (t := 5) (i := s) (j := 1) 0 (by unfold dm0; omega) ⟨fun e => absurd e (by decide), fun e => absurd e (by decide)⟩
  have q5 := iv_staff (s := s) q hp
  refine ⟨p0.zs hs8, f_X6_relieve ⟨p0.zs hs8, p0.line, L_makeTicks p5 q5 (by show S 2 0 0 + k ≤ 10400; omega) fun A12 t12 ea p12 => ?_⟩⟩
  have e8 : o_ticks k (o_staff S s p) 8 = S 8 := (cf_ticks k _).2.1
  have hs' : s < o_ticks k (o_staff S s p) 8 1 0 := by rw [e8]; exact hs
  have z6 := p12.zs hs8
  have v6 := p12.pd hs'
  rw [ea] at z6 v6
  refine ⟨z6, ?_⟩
  rw [v6, p0.pd hs]
  exact kk _ _ t12 (r.sp e1 ea p12) (L_up_s _ _ _)
theorem Rc.copy0 {f : Option Nat → q_H → Prop} (r : Rc A0 A rl m W L S h n x len T) {t0 : l_T} (e1 : L 1 = some t0) (k : ∀ A' L' t, Rc A0 A' rl m W L' S h n x len T → L' 1 = some t → Lr A' t S → f (some (l_a t)) A') : q_Wc G M_X10_copyOfLine0 [.ref rl] A (q_KR f) X := by
  have r3 : q_R A rl 3 = some (l_a t0) := by
    rw [r.1.2.1.2.1]
    unfold L_at
    rw [e1]; rfl
  obtain ⟨u, eu, hu, zu, ru, pu, qu⟩ := r.t
  refine f_X10_copyOfLine0 ⟨zu, f_X10_spareLine0 ⟨zu, fun c => (by rw [r3] at c; cases c), fun a ha => ⟨fun c => (by rw [r3] at c; cases c), fun b hb => ?_⟩⟩⟩
  rw [r3] at hb
  cases hb
  refine ⟨_, rfl, zu, _, ru, (r.1.line (by decide) e1).1.2.1.1.1.1, r.copy e1 eu fun A8 t' et r8 l8 => ?_⟩
  have := k A8 (L_up L 1 t') t' r8 (L_up_s _ _ _) l8
  rw [et] at this
  exact this
theorem C_pickedWith0 {f : Int32 → q_H → Prop} {s p k : Nat} (q : iv S) (hT : S 2 0 0 ≤ 9999) (hs : s < S 8 1 0) (hp : p ≤ 9) (hk : k ≤ 100) (r : Rc A0 A rl m W L S h n x len T) {t0 : l_T} (e1 : L 1 = some t0)
    (kk : ∀ A' L' t', Rc A0 A' rl m W L' S h n x len T → L' 1 = some t' → f (nI (o_bv S s k p) - nI (S 5 s 3)) A') : q_Wc G M_X10_pickedWith0 [.ref rl, .int (nI s), .int (nI p), .int (nI k)] A (q_KI f) X :=
  f_X10_pickedWith0 ⟨r.1.1.1, r.copy0 e1 fun A1 L1 t1 r1 e11 l1 => ⟨_, rfl, C_picked (f := f) (s := s) (p := p) (k := k) q hT hs hp hk r1 e11 l1 kk⟩⟩
theorem C_pickedWith {f : Int32 → q_H → Prop} {s p k : Nat} (q : iv S) (hT : S 2 0 0 ≤ 9999) (hs : s < S 8 1 0) (hp : p ≤ 9) (hk : k ≤ 100) (r : Rc A0 A rl m W L S h n x len T)
    (kk : ∀ A' L' t', Rc A0 A' rl m W L' S h n x len T → L' 1 = some t' → f (nI (o_bv S s k p) - nI (S 5 s 3)) A') : q_Wc G M_X10_pickedWith [.ref rl, .int (nI s), .int (nI p), .int (nI k)] A (q_KI f) X :=
  f_X10_pickedWith ⟨r.1.1.1, C_copyOfLine r fun A1 L1 t1 r1 e0 e11 l1 => ⟨_, rfl, C_picked (f := f) (s := s) (p := p) (k := k) q hT hs hp hk r1 e11 l1 kk⟩⟩
theorem bv_bd (S : s_T) (s k p : Nat) (q : iv S) (hp : p ≤ 9) : S 5 s 3 ≤ o_bv S s k p ∧ o_bv S s k p ≤ S 5 s 3 + 200 * k := by
  have := ticks_53 k (iv_staff (s := s) q hp) s
  have e : o_staff S s p 5 s 3 = S 5 s 3 := by unfold o_staff; rw [s_p_j _ (by decide), s_p_j _ (by decide)]
  rw [e] at this
  exact this
theorem bs_le (S : s_T) (s k : Nat) : ∀ n, o_bs S s k n ≤ n - 1
  | 0 => Nat.le_refl _
  | n + 1 => by
    have := bs_le S s k n
    unfold o_bs
    split <;> omega
theorem bs_up {S : s_T} {s k i : Nat} (q : iv S) (q5 : iv5 S) (hT : S 2 0 0 ≤ 9999) (hs : s < S 8 1 0) (hk : k ≤ 100) (hi : i < 10) :
    (nI (o_bv S s k i) - nI (S 5 s 3) ≤ (if i = 0 then -1 else nI (o_bv S s k (o_bs S s k i)) - nI (S 5 s 3)) → o_bs S s k (i + 1) = o_bs S s k i ∧ i ≠ 0) ∧ (¬ nI (o_bv S s k i) - nI (S 5 s 3) ≤ (if i = 0 then -1 else nI (o_bv S s k (o_bs S s k i)) - nI (S 5 s 3)) → o_bs S s k (i + 1) = i) := by
  have h5 := q5 s hs
  have b1 := bv_bd S s k i q (by omega)
  have hle := bs_le S s k i
  have b2 := bv_bd S s k (o_bs S s k i) q (by omega)
  have eu : o_bs S s k (i + 1) = if i = 0 ∨ o_bv S s k (o_bs S s k i) < o_bv S s k i then i else o_bs S s k i := rfl
  rw [pk_sub b1.1, pk_sub b2.1]
  by_cases c : i = 0
  · rw [if_pos c]
    refine ⟨fun c2 => absurd (Int32.le_trans (nI_pos' (n := o_bv S s k i - S 5 s 3) (by omega)) c2) (by decide), fun _ => by rw [eu, if_pos (Or.inl c)]⟩
  · rw [if_neg c]
    refine ⟨fun c2 => ?_, fun c2 => ?_⟩
    · have := (nI_leI (by omega) (by omega)).mp c2
      exact ⟨by rw [eu, if_neg (by omega)], c⟩
    · have : ¬ o_bv S s k i - S 5 s 3 ≤ o_bv S s k (o_bs S s k i) - S 5 s 3 := fun h => c2 (nI_le h (by omega))
      rw [eu, if_pos (Or.inr (by omega))]
theorem w_bs {f : Int32 → q_H → Prop} {s k : Nat} (q : iv S) (q5 : iv5 S) (hT : S 2 0 0 ≤ 9999) (hs : s < S 8 1 0) (hk : k ≤ 100) (kk : ∀ A' L', Rc A0 A' rl m W L' S h n x len T → f (nI (o_bs S s k 10)) A') :
    ∀ (d i : Nat) (A : q_H) (L : L_T) (t : l_T), i + d = 10 → 0 < i → Rc A0 A rl m W L S h n x len T → L 1 = some t → q_Wp G M_X10_bestStaff (q_KI f) X 277 1205 54 [some (.ref rl), some (.int (nI s)), some (.int (nI k)), none, some (.int (nI (o_bs S s k i))), some (.int (if i = 0 then -1 else nI (o_bv S s k (o_bs S s k i)) - nI (S 5 s 3))), some (.int (nI i)), none] [] A
  | 0, i, A, L, t, e, hi, r, e1 => by
    have ei : i = 10 := by omega
    subst ei
    exact f_X10_bestStaff_v54 ⟨fun _ => ⟨⟨by decide, by decide⟩, kk A L r⟩, fun c => absurd (show nI 9 < nI 10 by decide) c⟩
  | d + 1, i, A, L, t, e, hi, r, e1 => by
    have up := bs_up (i := i) q q5 hT hs hk (by omega)
    refine f_X10_bestStaff_v54 ⟨fun c => absurd c (nI_nlt (by omega) (by decide)), fun _ => ⟨⟨by decide, by decide⟩, r.1.1.1, C_pickedWith0 (s := s) (p := i) (k := k) q hT hs (by omega) hk r e1 fun A2 L2 t2 r2 e2 => ?_⟩⟩
    have ih := w_bs q q5 hT hs hk kk d (i + 1) A2 L2 t2 (by omega) (by omega) r2 e2
    rw [if_neg (by omega)] at ih
    rw [nI_add]
    refine ⟨fun c => ?_, fun c => ?_⟩
    · obtain ⟨u1, u2⟩ := up.1 c
      rw [u1] at ih
      rw [if_neg u2]
      exact ih
    · rw [up.2 c] at ih
      exact ih
theorem C_bestStaff {f : Int32 → q_H → Prop} {y1 y2 : Int32} (r : Rc A0 A rl m W L S h n x len T) (q : iv S) (q5 : iv5 S) (hT : S 2 0 0 ≤ 9999)
    (k0 : (a_bestStaff S y1 y2).1 = 0 → ∀ A' L', Rc A0 A' rl m W L' S h n x len T → f (a_bestStaff S y1 y2).2 A') (k1 : (a_bestStaff S y1 y2).1 = 1 → ∀ z, q_sz A ≤ z → X "java/lang/IndexOutOfBoundsException" (q_grow A z)) (k2 : (a_bestStaff S y1 y2).1 = 2 → ∀ z, q_sz A ≤ z → X "java/lang/IllegalArgumentException" (q_grow A z)) : q_Wc G M_X10_bestStaff [.ref rl, .int y1, .int y2] A (q_KI f) X := by
  obtain ⟨t, et, ht, z, rr, p, qq⟩ := r.t
  have hb := p.b
  unfold Lb at hb
  refine f_X10_bestStaff ⟨z, _, rr, p.line, L_stationAt p (fun s hs e => ?_) (fun hn => ?_)⟩
  · have hx := ix_nI hs (by omega)
    subst e
    refine ⟨fun e => (by cases e), fun r5 e5 => ?_⟩
    cases e5
    have bad : (∀ v, v < 101 → v ≠ 0 → ¬ y2 = nI v) → ∀ z, q_sz A ≤ z → X "java/lang/IllegalArgumentException" (q_grow A z) := fun hv => by
      have : (a_bestStaff S (nI s) y2).1 = 2 := by
        unfold a_bestStaff
        rw [hx]
        rcases ix_cases y2 101 (by decide) with ⟨v, hv1, ev, e3⟩ | ⟨-, e3⟩
        · rw [e3]
          by_cases c : v = 0
          · subst c; rfl
          · exact absurd ev (hv v hv1 c)
        · rw [e3]
      exact k2 this
    refine ⟨fun c => bad fun v hv hv0 e => ?_, fun c1 => ⟨fun c2 => ?_, fun c2 => bad fun v hv hv0 e => ?_⟩⟩
    · rw [e] at c; exact nI_nlt (by omega) (by omega) c
    · have hv : ∃ v, v < 101 ∧ v ≠ 0 ∧ y2 = nI v := by
        rcases pk_ix y2 (n := 101) (by decide) with c3 | c3 | ⟨j, hj, e⟩
        · exact absurd (Int32.lt_trans c3 (show (0 : Int32) < nI 1 by decide)) c1
        · exact absurd (Int32.le_trans c3 c2) (by decide)
        · refine ⟨j, hj, fun e0 => ?_, e⟩
          rw [e, e0] at c1
          exact c1 (by decide)
      obtain ⟨v, hv, hv0, e⟩ := hv
      subst e
      have ee : a_bestStaff S (nI s) (nI v) = (0, nI (o_bs S s v 10)) := by
        unfold a_bestStaff
        rw [hx, ix_nI hv (by decide)]
        show (if v = 0 then _ else _) = _
        rw [if_neg hv0]
      rw [ee] at k0
      have up := bs_up (k := v) (i := 0) q q5 hT hs (by omega) (by decide)
      refine f_X10_bestStaff_54 ⟨fun c => absurd c (by decide), fun _ => ⟨⟨by decide, by decide⟩, z, C_pickedWith (s := s) (p := 0) (k := v) q hT hs (by decide) (by omega) r fun A2 L2 t2 r2 e2 => ?_⟩⟩
      have ih := w_bs (G := G) (X := X) q q5 hT hs (by omega : v ≤ 100) (k0 rfl) 9 1 A2 L2 t2 (by omega) (by omega) r2 e2
      rw [if_neg (by decide)] at ih
      rw [nI_add]
      rw [if_pos rfl] at up
      refine ⟨fun c => absurd rfl (up.1 c).2, fun c => ?_⟩
      rw [up.2 c] at ih
      exact ih
    · rw [e] at c2; exact c2 (nI_le (by omega) (by decide))
  · have : (a_bestStaff S y1 y2).1 = 1 := by
      unfold a_bestStaff
      rcases ix_cases y1 (S 8 1 0) (by omega) with ⟨j, hj, h1, -⟩ | ⟨-, h2⟩
      · exact absurd h1 (hn j hj)
      · rw [h2]
    exact ⟨fun _ => k1 this, fun r5 e5 => by cases e5⟩
theorem w_em {f : Int32 → q_H → Prop} (q : iv S) (hT : S 2 0 0 ≤ 9999) (kk : ∀ A' L', Rc A0 A' rl m W L' S h n x len T → f (a_emptied S) A') (a : Nat) :
    ∀ (d k : Nat) (A : q_H) (L : L_T) (t : l_T), k + d = 400 → o_es S d k = a_emptied S → Rc A0 A rl m W L S h n x len T → L 1 = some t → l_a t = a → Lr A t (o_ticks k S) → q_Wp G M_X10_emptied (q_KI f) X 277 1205 7 [none, some (.ref a), some (.int (nI k))] [] A
  | 0, k, A, L, t, e, ee, r, e1, ea, l => by
    have ek : k = 400 := by omega
    subst ek
    subst ea
    have p : Lp A A t (o_ticks 400 S) := ⟨l, fr.r _ _ _⟩
    have kx := kk A L r
    refine f_X10_emptied_7 ⟨fun _ => ⟨⟨by decide, by decide⟩, p.line, L_isEmptied p (iv_ticks _ q).2.2.2.1 ⟨fun c => ⟨⟨by decide, by decide⟩, ?_⟩, fun c => ⟨⟨by decide, by decide⟩, ?_⟩⟩⟩, fun c => absurd (nI_le (Nat.le_refl _) (by decide)) c⟩
    · have c1 := of_decide_eq_true c
      rw [← ee] at kx
      unfold o_es at kx
      rw [if_pos c1] at kx
      exact kx
    · have c1 := of_decide_eq_false c
      rw [← ee] at kx
      unfold o_es at kx
      rw [if_neg c1] at kx
      exact kx
  | d + 1, k, A, L, t, e, ee, r, e1, ea, l => by
    subst ea
    have p : Lp A A t (o_ticks k S) := ⟨l, fr.r _ _ _⟩
    refine f_X10_emptied_7 ⟨fun c => absurd c (nI_ge (by omega) (by decide)), fun _ => ⟨⟨by decide, by decide⟩, p.line, L_isEmptied p (iv_ticks _ q).2.2.2.1 ⟨fun c => ⟨⟨by decide, by decide⟩, ?_⟩, fun c => ⟨⟨by decide, by decide⟩, p.line, L_makeTicks (n := 1) p (iv_ticks k q) (by rw [ticks_0]; omega) fun A2 t2 ea2 p2 => ?_⟩⟩⟩⟩
    · have c1 := of_decide_eq_true c
      have kx := kk A L r
      rw [← ee] at kx
      unfold o_es at kx
      rw [if_pos c1] at kx
      exact kx
    · have c1 := of_decide_eq_false c
      unfold o_es at ee
      rw [if_neg c1] at ee
      rw [nI_add]
      exact w_em q hT kk (l_a t) d (k + 1) A2 _ t2 (by omega) ee (r.sp e1 ea2 p2) (L_up_s _ _ _) ea2 p2.1
theorem C_emptied {f : Int32 → q_H → Prop} (r : Rc A0 A rl m W L S h n x len T) (q : iv S) (hT : S 2 0 0 ≤ 9999) (kk : ∀ A' L', Rc A0 A' rl m W L' S h n x len T → f (a_emptied S) A') : q_Wc G M_X10_emptied [.ref rl] A (q_KI f) X :=
  f_X10_emptied ⟨r.1.1.1, C_copyOfLine r fun A1 L1 t1 r1 e0 e1 l1 => ⟨_, rfl, w_em q hT kk (l_a t1) 400 0 A1 L1 t1 (by omega) rfl r1 e1 rfl l1⟩⟩
end TRY

/-! CHANGES: (0, value, the state then), or (which exception, 0, as it was) -/
abbrev q_Ch : Type := Nat × Int32 × s_T
def s_lo (i : Nat) : Nat := [1, 20, 0, 0, 0, 0, 0, 0].getD i 0
def s_hi (i : Nat) : Nat := [200, 500, 100, 100, 100, 5, 5, 20].getD i 0
def o_load (S : s_T) (m v : Nat) : s_T := s_p (o_add S (fun j => if j = m then v else 0) 0) 2 7 0 (S 2 7 0 + v)
def o_clean (S : s_T) (s : Nat) : s_T := s_p (s_h S (3 + s) (fun _ => 0)) 2 9 0 (S 2 9 0 + s6 (S 0 (3 + s)))
def o_staff (S : s_T) (s p : Nat) : s_T := s_p (s_p S 5 s 0 p) 5 s 1 0
def e_load (S : s_T) (x y : Int32) : q_Ch := match ix x (S 8 0 0) with
  | none => (1, 0, S)
  | some m => match ix y 1000 with
    | none => (2, 0, S)
    | some v => if v = 0 then (2, 0, S) else if S 2 10 0 < 30 then (0, nI (S 2 10 0 + 1), o_load S m v) else (3, 0, S)
def e_set (S : s_T) (x y : Int32) : q_Ch := match ix x 8 with
  | none => (1, 0, S)
  | some i => match ix y (s_hi i + 1) with
    | none => (2, 0, S)
    | some v => if v < s_lo i then (2, 0, S) else (0, nI (S 1 i 0), s_p S 1 i 0 v)
def e_staff (S : s_T) (x y : Int32) : q_Ch := match ix x (S 8 1 0) with
  | none => (1, 0, S)
  | some s => match ix y 10 with
    | none => (2, 0, S)
    | some p => (0, nI (S 5 s 0), o_staff S s p)
def e_run (S : s_T) (y : Int32) : q_Ch := match ix y 201 with
  | none => (1, 0, S)
  | some n => if n = 0 then (1, 0, S) else if S 2 0 0 + n ≤ 9999 then (0, nI (o_ticks n S 2 1 0) - nI (S 2 1 0), o_ticks n S) else (2, 0, S)
def e_sell (S : s_T) (x y : Int32) : q_Ch := match ix x (S 2 11 0) with
  | none => (1, 0, S)
  | some b => match ix y (S 8 2 0) with
    | none => (1, 0, S)
    | some w => if p_tk S w b then (if p_bk S w b then (if S 2 10 0 < 30 then (0, -1, o_back S b) else (3, 0, S)) else (0, nI (p_py S w b), o_sold S b w (p_py S w b))) else (2, 0, S)
def e_clean (S : s_T) (x : Int32) : q_Ch := match ix x (S 8 1 0) with
  | none => (1, 0, S)
  | some s => (0, nI (s6 (S 0 (3 + s))), o_clean S s)
/-! what always holds goes on -/
theorem iv_add {S : s_T} (f : Nat → Nat) (r : Nat) (q : iv S) (hw : S 2 10 0 < 30) (h1 : 1 ≤ s6 f) (h2 : s6 f ≤ 5994) (h3 : r ≤ 5) (hz : ∀ m, S 8 0 0 ≤ m → m < 6 → f m = 0) : iv (o_add S f r) := by
  have := iw_add f r q hw h1 h2 h3 hz
  unfold iv
  rw [add_2 _ _ _ (by decide)]; exact this
theorem iv_2 {S : s_T} (i v : Nat) (q : iv S) (hi : i ≠ 0 ∧ i ≠ 1 ∧ i ≠ 10 ∧ i ≠ 11) : iv (s_p S 2 i 0 v) := by
  have := iw_p 2 i 0 v q (by decide) (fun _ => ⟨hi.2.1, hi.2.2.1, hi.2.2.2⟩) (fun e => absurd e (by decide)) (fun e => absurd e (by decide)) (fun e => absurd e (by decide)) (fun e => absurd e (by decide))
  unfold iv
  rw [s_p_i (Ne.symm hi.1)]; exact this
theorem s6_only {m : Nat} (v : Nat) (hm : m < 6) : s6 (fun j => if j = m then v else 0) = v := by
  match m, hm with
  | 0, _ => simp [s6]
  | 1, _ => simp [s6]
  | 2, _ => simp [s6]
  | 3, _ => simp [s6]
  | 4, _ => simp [s6]
  | 5, _ => simp [s6]
theorem iv_load {S : s_T} {m v : Nat} (q : iv S) (hw : S 2 10 0 < 30) (hm : m < S 8 0 0) (h1 : 1 ≤ v) (h2 : v ≤ 999) : iv (o_load S m v) := by
  have h6 := q.1.2.1
  exact iv_2 7 _ (iv_add _ 0 q hw (by rw [s6_only v (by omega)]; exact h1) (by rw [s6_only v (by omega)]; omega) (by decide) (fun j hj _ => if_neg (by omega))) (by decide)
theorem iv_staff {S : s_T} {s p : Nat} (q : iv S) (hp : p ≤ 9) : iv (o_staff S s p) := by
  have a := iw_p 5 s 0 p q (by decide) (fun e => absurd e (by decide)) (fun e => absurd e (by decide)) (fun e => absurd e (by decide)) (fun _ => ⟨fun _ => hp, fun e => absurd e (by decide)⟩) (fun e => absurd e (by decide))
  have b := iw_p 5 s 1 0 a (by decide) (fun e => absurd e (by decide)) (fun e => absurd e (by decide)) (fun e => absurd e (by decide)) (fun _ => ⟨fun e => absurd e (by decide), fun _ => by decide⟩) (fun e => absurd e (by decide))
  exact b
theorem iv_set {S : s_T} {i v : Nat} (q : iv S) (hi : i < 8) (h1 : s_lo i ≤ v) (h2 : v ≤ s_hi i) : iv (s_p S 1 i 0 v) := by
  obtain ⟨q1, q2, q3, q4, q5, q6, q7, q8⟩ := q
  refine ⟨q1, ?_, q3, q4, q5, q6, q7, q8⟩
  unfold iv_s at q2 ⊢
  match i, hi with
  | 0, _ => simp only [s_lo, s_hi, List.getD_cons_zero, List.getD_cons_succ] at h1 h2; simp only [s_p]; simp; omega
  | 1, _ => simp only [s_lo, s_hi, List.getD_cons_zero, List.getD_cons_succ] at h1 h2; simp only [s_p]; simp; omega
  | 2, _ => simp only [s_lo, s_hi, List.getD_cons_zero, List.getD_cons_succ] at h1 h2; simp only [s_p]; simp; omega
  | 3, _ => simp only [s_lo, s_hi, List.getD_cons_zero, List.getD_cons_succ] at h1 h2; simp only [s_p]; simp; omega
  | 4, _ => simp only [s_lo, s_hi, List.getD_cons_zero, List.getD_cons_succ] at h1 h2; simp only [s_p]; simp; omega
  | 5, _ => simp only [s_lo, s_hi, List.getD_cons_zero, List.getD_cons_succ] at h1 h2; simp only [s_p]; simp; omega
  | 6, _ => simp only [s_lo, s_hi, List.getD_cons_zero, List.getD_cons_succ] at h1 h2; simp only [s_p]; simp; omega
  | 7, _ => simp only [s_lo, s_hi, List.getD_cons_zero, List.getD_cons_succ] at h1 h2; simp only [s_p]; simp; omega
theorem iv_clean {S : s_T} {s : Nat} (q : iv S) (hs : s < S 8 1 0) : iv (o_clean S s) := by
  have hb := q.1.2.2.2.1
  have h0 := q.2.2.2.2.2.2.2
  have a : iw (200 * S 2 0 0) (fun _ => 200 * S 2 0 0) (40 * S 2 0 0) (s_h S (3 + s) (fun _ => 0)) := iw_h (3 + s) _ q (fun _ _ _ _ => rfl) _ _ (by rw [s_h_n (by omega)]; exact h0.1) (fun e => by omega) (fun s' hs' => by
    by_cases c : s' = s
    · rw [c, s_h_s, s6_0]; omega
    · rw [s_h_n (by omega)]; exact h0.2.1 s' hs') (fun s' hs' e => by omega) (fun k hk e => by omega) (fun b hb e => by omega)
  exact iv_2 (S := s_h S (3 + s) (fun _ => 0)) 9 _ a (by decide)
theorem iv_dropB {S : s_T} {b : Nat} (q : iv S) (hb : b < S 2 11 0) : iv (o_dropB S b) := by
  have := iw_dropB q hb
  unfold iv
  have e : o_dropB S b 2 0 0 = S 2 0 0 := by rw [db_2, if_neg (by decide)]
  rw [e]; exact this
theorem iv_back {S : s_T} {b : Nat} (q : iv S) (hb : b < S 2 11 0) (hw : S 2 10 0 < 30) : iv (o_back S b) := by
  have qb := q.2.2.2.2.2.1 b hb
  have e : o_dropB S b 2 10 0 = S 2 10 0 := by rw [db_2, if_neg (by decide)]
  have e8 : o_dropB S b 8 = S 8 := (cf_dropB S b).2.1
  exact iv_2 5 _ (iv_add _ 0 (iv_dropB q hb) (by omega) qb.1 (by omega) (by decide) (fun j hj hj6 => by rw [e8] at hj; exact q.2.2.2.2.2.2.1 _ (lv_bal hb) j hj hj6)) (by decide)
theorem iv_sold {S : s_T} {b w v : Nat} (q : iv S) (hb : b < S 2 11 0) : iv (o_sold S b w v) := by
  have a := iv_dropB q hb
  have b1 : iv (s_p (o_dropB S b) 7 w 0 (S 7 w 0 + v)) := iw_p 7 w 0 _ a (by decide) (fun e => absurd e (by decide)) (fun e => absurd e (by decide)) (fun e => absurd e (by decide)) (fun e => absurd e (by decide)) (fun e => absurd e (by decide))
  exact iv_2 8 _ (iv_2 6 _ (iv_2 4 _ b1 (by decide)) (by decide)) (by decide)
section CH
variable {G : q_G} {X : String → q_H → Prop} {A0 A A' : q_H} {rl m W : Nat} {L : L_T} {S S' : s_T} {h : Nat → s_T} {n x len : Nat} {T : Nat → Int32}
theorem Rc.to_t (r : Rc A0 A rl m W L S h n x len T) {t : l_T} (e : L 0 = some t) : q_sh A rl = (11, 0) ∧ q_R A rl 2 = some (l_a t) ∧ Lp A A t S := by
  obtain ⟨u, eu, hu, zu, ru, pu, qu⟩ := r.t
  rw [e] at eu
  cases eu
  exact ⟨zu, ru, pu⟩
theorem C_load {f : Int32 → q_H → Prop} {y1 y2 : Int32} (r : Rc A0 A rl m W L S h n x len T) (q : iv S)
    (k0 : (e_load S y1 y2).1 = 0 → ∀ A' L', Rc A0 A' rl m W L' (e_load S y1 y2).2.2 (hp S h) (mn6 n) ((x + 1) % 6) len T → f (e_load S y1 y2).2.1 A')
    (k1 : (e_load S y1 y2).1 = 1 → ∀ z, q_sz A ≤ z → X "java/lang/IndexOutOfBoundsException" (q_grow A z)) (k2 : (e_load S y1 y2).1 = 2 → ∀ z, q_sz A ≤ z → X "java/lang/IllegalArgumentException" (q_grow A z)) (k3 : (e_load S y1 y2).1 = 3 → ∀ z, q_sz A ≤ z → X "java/lang/IllegalStateException" (q_grow A z)) : q_Wc G M_X10_load [.ref rl, .int y1, .int y2] A (q_KI f) X := by
  obtain ⟨t, et, ht, z, rr, p, qq⟩ := r.t
  have h6 := q.1.2.1
  refine f_X10_load ⟨z, _, rr, p.line, L_hasMat p h6 (fun i hi e => ⟨fun _ => ?_, fun e2 => (by cases e2)⟩) (fun hn => ⟨fun e2 => (by cases e2), fun _ => ?_⟩)⟩
  · have hx := ix_nI hi (by omega)
    subst e
    have bad : (∀ v, v < 1000 → v ≠ 0 → ¬ y2 = nI v) → ∀ z, q_sz A ≤ z → X "java/lang/IllegalArgumentException" (q_grow A z) := fun hv => by
      have : (e_load S (nI i) y2).1 = 2 := by
        unfold e_load
        rw [hx]
        rcases ix_cases y2 1000 (by decide) with ⟨v, hv1, ev, e3⟩ | ⟨-, e3⟩
        · rw [e3]
          by_cases c : v = 0
          · subst c; rfl
          · exact absurd ev (hv v hv1 c)
        · rw [e3]
      exact k2 this
    refine ⟨fun c => bad fun v hv hv0 e => ?_, fun c1 => ⟨fun c2 => ?_, fun c2 => bad fun v hv hv0 e => ?_⟩⟩
    · rw [e] at c; exact nI_nlt (by omega) (by omega) c
    · have hv : ∃ v, v < 1000 ∧ v ≠ 0 ∧ y2 = nI v := by
        rcases pk_ix y2 (n := 1000) (by decide) with c3 | c3 | ⟨j, hj, e⟩
        · exact absurd (Int32.lt_trans c3 (show (0 : Int32) < nI 1 by decide)) c1
        · exact absurd (Int32.le_trans c3 c2) (by decide)
        · refine ⟨j, hj, fun e0 => ?_, e⟩
          rw [e, e0] at c1
          exact c1 (by decide)
      obtain ⟨v, hv, hv0, e⟩ := hv
      subst e
      have hy := ix_nI hv (by decide)
      refine ⟨z, _, rr, p.line, _, p.r6, p.z4, L_isFull p fun b hb => ⟨fun e => ?_, fun e => ⟨z, C_remember r fun A1 L1 r1 e1 => ?_⟩⟩⟩
      · have hw : ¬ S 2 10 0 < 30 := by have := hb.mp e; omega
        have : (e_load S (nI i) (nI v)).1 = 3 := by
          unfold e_load
          rw [hx, hy]
          show (if v = 0 then _ else _ : q_Ch).1 = 3
          rw [if_neg hv0, if_neg hw]
        exact k3 this
      · have hw : S 2 10 0 < 30 := Nat.lt_of_not_le fun c => by rw [hb.mpr c] at e; cases e
        have ee : e_load S (nI i) (nI v) = (0, nI (S 2 10 0 + 1), o_load S i v) := by
          unfold e_load
          rw [hx, hy]
          show (if v = 0 then _ else _) = _
          rw [if_neg hv0, if_pos hw]
        rw [ee] at k0
        rw [et] at e1
        obtain ⟨z1, rr1, p1⟩ := r1.to_t e1
        refine ⟨z1, _, rr1, p1.line, _, p1.r6, p1.z4, L_addLast p1 hw fun A2 p2 => ⟨fun e => (by cases e), fun r32 e32 => ?_⟩⟩
        cases e32
        have l1 : lv (o_add S (fun _ => 0) 0) (19 + S 2 10 0) := lv_par (by rw [add_w]; omega)
        refine ⟨p2.zp _, _, p2.rpa (by omega), p2.zh (by omega), L_put p2 l1 (by omega) fun A3 _ _ p3 => ?_⟩
        rw [add_h, add_0] at p3
        have ef : (fun j => if j = i then 0 + v else (fun _ => 0) j) = (fun j => if j = i then v else 0) := by
          funext j
          by_cases c : j = i
          · rw [if_pos c, if_pos c]; omega
          · rw [if_neg c, if_neg c]
        rw [ef] at p3
        have p4 := p3.put (t := 2) (i := 7) (j := 0) (S 2 7 0 + v) (by unfold dm0; omega) ⟨fun _ => by decide, fun e => absurd e (by decide)⟩
        have rc := r1.cur e1 rfl p4
        obtain ⟨z4, rr4, p4'⟩ := rc.to_t (L_up_s _ _ _)
        have e7 : q_I A3 (l_a t + 220) 7 = nI (S 2 7 0) := by rw [p3.tal (by decide), add_2 _ _ _ (by decide)]
        have ew := p4'.wait
        rw [s_p_i (by decide), add_w] at ew
        refine ⟨z4, _, rr4, p4'.line, _, p4'.r9, p4'.z220, _, p4'.r6, p4'.z4, ?_⟩
        rw [e7, nI_add]
        have ew' : q_I (q_setI A3 (l_a t + 220) 7 (nI (S 2 7 0 + v))) (l_a t + 4) 2 = nI (S 2 10 0 + 1) := ew
        rw [ew']
        exact k0 rfl _ _ rc
    · rw [e] at c2; exact c2 (nI_le (by omega) (by decide))
  · have : (e_load S y1 y2).1 = 1 := by
      unfold e_load
      rcases ix_cases y1 (S 8 0 0) (by omega) with ⟨j, hj, h1, -⟩ | ⟨-, h2⟩
      · exact absurd h1 (hn j hj)
      · rw [h2]
    exact k1 this
theorem sv_lo : ∀ i, i < 8 → (q_sval 0).getD i 0 = nI (s_lo i) := by
  intro i hi
  match i, hi with
  | 0, _ => decide
  | 1, _ => decide
  | 2, _ => decide
  | 3, _ => decide
  | 4, _ => decide
  | 5, _ => decide
  | 6, _ => decide
  | 7, _ => decide
theorem sv_hi : ∀ i, i < 8 → (q_sval 1).getD i 0 = nI (s_hi i) := by
  intro i hi
  match i, hi with
  | 0, _ => decide
  | 1, _ => decide
  | 2, _ => decide
  | 3, _ => decide
  | 4, _ => decide
  | 5, _ => decide
  | 6, _ => decide
  | 7, _ => decide
theorem hi_le : ∀ i, s_hi i ≤ 500 ∧ s_lo i ≤ 20
  | 0 => by decide
  | 1 => by decide
  | 2 => by decide
  | 3 => by decide
  | 4 => by decide
  | 5 => by decide
  | 6 => by decide
  | 7 => by decide
  | n + 8 => by simp [s_hi, s_lo]
theorem C_set {f : Int32 → q_H → Prop} {y1 y2 : Int32} (r : Rc A0 A rl m W L S h n x len T)
    (k0 : (e_set S y1 y2).1 = 0 → ∀ A' L', Rc A0 A' rl m W L' (e_set S y1 y2).2.2 (hp S h) (mn6 n) ((x + 1) % 6) len T → f (e_set S y1 y2).2.1 A')
    (k1 : (e_set S y1 y2).1 = 1 → ∀ z, q_sz A ≤ z → X "java/lang/IndexOutOfBoundsException" (q_grow A z)) (k2 : (e_set S y1 y2).1 = 2 → ∀ z, q_sz A ≤ z → X "java/lang/IllegalArgumentException" (q_grow A z)) : q_Wc G M_X10_set [.ref rl, .int y1, .int y2] A (q_KI f) X := by
  obtain ⟨t, et, ht, z, rr, p, qq⟩ := r.t
  rcases ix_cases y1 8 (by decide) with ⟨i, hi, e, hx⟩ | ⟨hn, hx⟩
  · subst e
    have hh := hi_le i
    have bad : (∀ v, s_lo i ≤ v → v ≤ s_hi i → ¬ y2 = nI v) → ∀ z, q_sz A ≤ z → X "java/lang/IllegalArgumentException" (q_grow A z) := fun hv => by
      have : (e_set S (nI i) y2).1 = 2 := by
        unfold e_set
        rw [hx]
        rcases ix_cases y2 (s_hi i + 1) (by omega) with ⟨v, hv1, ev, e3⟩ | ⟨-, e3⟩
        · show (match ix y2 (s_hi i + 1) with | none => _ | some v => _ : q_Ch).1 = 2
          rw [e3]
          show (if v < s_lo i then _ else _ : q_Ch).1 = 2
          by_cases c : v < s_lo i
          · rw [if_pos c]
          · exact absurd ev (hv v (by omega) (by omega))
        · show (match ix y2 (s_hi i + 1) with | none => _ | some v => _ : q_Ch).1 = 2
          rw [e3]
      exact k2 this
    refine f_X10_set ⟨fun c => absurd c (nI_pos (by omega)), fun _ => ⟨fun _ => ⟨i, rfl, hi, ?_⟩, fun c => absurd (nI_lt hi (by decide)) c⟩⟩
    rw [sv_lo i hi, sv_hi i hi]
    refine ⟨fun c => bad fun v h1 h2 e => ?_, fun c1 => ⟨fun c2 => ?_, fun c2 => bad fun v h1 h2 e => ?_⟩⟩
    · rw [e] at c; exact nI_nlt h1 (by omega) c
    · have hv : ∃ v, s_lo i ≤ v ∧ v ≤ s_hi i ∧ y2 = nI v := by
        rcases pk_ix y2 (n := s_hi i + 1) (by omega) with c3 | c3 | ⟨j, hj, e⟩
        · exact absurd (Int32.lt_of_lt_of_le c3 (nI_pos' (n := s_lo i) (by omega))) c1
        · exact absurd (Int32.le_trans c3 c2) (fun c => by have := (nI_leI (by omega) (by omega)).mp c; omega)
        · refine ⟨j, Nat.le_of_not_lt fun c => c1 (by rw [e]; exact nI_lt c (by omega)), by omega, e⟩
      obtain ⟨v, h1, h2, e⟩ := hv
      subst e
      have ee : e_set S (nI i) (nI v) = (0, nI (S 1 i 0), s_p S 1 i 0 v) := by
        unfold e_set
        rw [hx]
        show (match ix (nI v) (s_hi i + 1) with | none => _ | some v => _) = _
        rw [ix_nI (n := s_hi i + 1) (by omega) (by omega)]
        show (if v < s_lo i then _ else _) = _
        rw [if_neg (by omega)]
      rw [ee] at k0
      refine ⟨z, C_remember r fun A1 L1 r1 e1 => ?_⟩
      rw [et] at e1
      obtain ⟨z1, rr1, p1⟩ := r1.to_t e1
      have p4 := p1.put (t := 1) (i := i) (j := 0) v (by unfold dm0; omega) ⟨fun e => absurd e (by decide), fun e => absurd e (by decide)⟩
      have rc := r1.cur e1 rfl p4
      refine ⟨z1, _, rr1, p1.line, _, p1.r1, 8, p1.z1, by decide, hi, ?_⟩
      rw [p1.set hi]
      exact k0 rfl _ _ rc
    · rw [e] at c2; exact c2 (nI_le h2 (by omega))
  · have ea : (e_set S y1 y2).1 = 1 := by unfold e_set; rw [hx]
    refine f_X10_set ⟨fun _ => k1 ea, fun c => ⟨fun c2 => ?_, fun _ => k1 ea⟩⟩
    rcases pk_ix y1 (n := 8) (by decide) with c3 | c3 | ⟨j, hj, e⟩
    · exact absurd c3 c
    · exact absurd c2 (Int32.not_lt.mpr c3)
    · exact absurd e (hn j hj)
theorem C_staff {f : Int32 → q_H → Prop} {y1 y2 : Int32} (r : Rc A0 A rl m W L S h n x len T)
    (k0 : (e_staff S y1 y2).1 = 0 → ∀ A' L', Rc A0 A' rl m W L' (e_staff S y1 y2).2.2 (hp S h) (mn6 n) ((x + 1) % 6) len T → f (e_staff S y1 y2).2.1 A')
    (k1 : (e_staff S y1 y2).1 = 1 → ∀ z, q_sz A ≤ z → X "java/lang/IndexOutOfBoundsException" (q_grow A z)) (k2 : (e_staff S y1 y2).1 = 2 → ∀ z, q_sz A ≤ z → X "java/lang/IllegalArgumentException" (q_grow A z)) : q_Wc G M_X10_staff [.ref rl, .int y1, .int y2] A (q_KI f) X := by
  obtain ⟨t, et, ht, z, rr, p, qq⟩ := r.t
  have hb := p.b
  unfold Lb at hb
  refine f_X10_staff ⟨z, _, rr, p.line, L_stationAt p (fun s hs e => ?_) (fun hn => ?_)⟩
  · have hx := ix_nI hs (by omega)
    have hs8 := p.nst8 hs
    subst e
    refine ⟨fun e => (by cases e), fun r5 e5 => ?_⟩
    cases e5
    have bad : (∀ v, v < 10 → ¬ y2 = nI v) → ∀ z, q_sz A ≤ z → X "java/lang/IllegalArgumentException" (q_grow A z) := fun hv => by
      have : (e_staff S (nI s) y2).1 = 2 := by
        unfold e_staff
        rw [hx]
        rcases ix_cases y2 10 (by decide) with ⟨v, hv1, ev, e3⟩ | ⟨-, e3⟩
        · exact absurd ev (hv v hv1)
        · rw [e3]
      exact k2 this
    refine ⟨fun c => bad fun v hv e => ?_, fun c1 => ⟨fun c2 => ?_, fun c2 => bad fun v hv e => ?_⟩⟩
    · rw [e] at c; exact nI_pos (by omega) c
    · have hv : ∃ v, v < 10 ∧ y2 = nI v := by
        rcases pk_ix y2 (n := 10) (by decide) with c3 | c3 | ⟨j, hj, e⟩
        · exact absurd c3 c1
        · exact absurd (Int32.le_trans c3 c2) (by decide)
        · exact ⟨j, hj, e⟩
      obtain ⟨v, hv, e⟩ := hv
      subst e
      have ee : e_staff S (nI s) (nI v) = (0, nI (S 5 s 0), o_staff S s v) := by
        unfold e_staff
        rw [hx, ix_nI hv (by decide)]
      rw [ee] at k0
      refine ⟨z, C_remember r fun A1 L1 r1 e1 => ?_⟩
      rw [et] at e1
      obtain ⟨z1, rr1, p1⟩ := r1.to_t e1
      have p4 := p1.put (t := 5) (i := s) (j := 0) v (by unfold dm0; omega) ⟨fun e => absurd e (by decide), fun e => absurd e (by decide)⟩
      have p5 := p4.put (t := 5) (i := s) (j := 1) 0 (by unfold dm0; omega) ⟨fun e => absurd e (by decide), fun e => absurd e (by decide)⟩
      have rc := r1.cur e1 rfl p5
      refine ⟨p1.zs hs8, f_X6_relieve ⟨p1.zs hs8, ?_⟩⟩
      rw [p1.pk hs]
      exact k0 rfl _ _ rc
    · rw [e] at c2; exact c2 (nI_le (by omega) (by decide))
  · have : (e_staff S y1 y2).1 = 1 := by
      unfold e_staff
      rcases ix_cases y1 (S 8 1 0) (by omega) with ⟨j, hj, h1, -⟩ | ⟨-, h2⟩
      · exact absurd h1 (hn j hj)
      · rw [h2]
    exact ⟨fun _ => k1 this, fun r5 e5 => by cases e5⟩
theorem C_run {f : Int32 → q_H → Prop} {y : Int32} (r : Rc A0 A rl m W L S h n x len T) (q : iv S) (hT : S 2 0 0 ≤ 9999)
    (k0 : (e_run S y).1 = 0 → ∀ A' L', Rc A0 A' rl m W L' (e_run S y).2.2 (hp S h) (mn6 n) ((x + 1) % 6) len T → f (e_run S y).2.1 A')
    (k1 : (e_run S y).1 = 1 → ∀ z, q_sz A ≤ z → X "java/lang/IllegalArgumentException" (q_grow A z)) (k2 : (e_run S y).1 = 2 → ∀ z, q_sz A ≤ z → X "java/lang/IllegalStateException" (q_grow A z)) : q_Wc G M_X10_run [.ref rl, .int y] A (q_KI f) X := by
  obtain ⟨t, et, ht, z, rr, p, qq⟩ := r.t
  have bad : (∀ v, v < 201 → v ≠ 0 → ¬ y = nI v) → ∀ z, q_sz A ≤ z → X "java/lang/IllegalArgumentException" (q_grow A z) := fun hv => by
    have : (e_run S y).1 = 1 := by
      unfold e_run
      rcases ix_cases y 201 (by decide) with ⟨v, hv1, ev, e3⟩ | ⟨-, e3⟩
      · rw [e3]
        by_cases c : v = 0
        · subst c; rfl
        · exact absurd ev (hv v hv1 c)
      · rw [e3]
    exact k1 this
  refine f_X10_run ⟨fun c => bad fun v hv hv0 e => ?_, fun c1 => ⟨fun c2 => ?_, fun c2 => bad fun v hv hv0 e => ?_⟩⟩
  · rw [e] at c; exact nI_nlt (by omega) (by omega) c
  · have hv : ∃ v, v < 201 ∧ v ≠ 0 ∧ y = nI v := by
      rcases pk_ix y (n := 201) (by decide) with c3 | c3 | ⟨j, hj, e⟩
      · exact absurd (Int32.lt_trans c3 (show (0 : Int32) < nI 1 by decide)) c1
      · exact absurd (Int32.le_trans c3 c2) (by decide)
      · refine ⟨j, hj, fun e0 => ?_, e⟩
        rw [e, e0] at c1
        exact c1 (by decide)
    obtain ⟨v, hv, hv0, e⟩ := hv
    subst e
    refine ⟨z, _, rr, p.line, _, p.r9, p.z220, ?_⟩
    rw [p.tal (by decide), nI_add]
    refine ⟨fun c3 => C_remember r fun A1 L1 r1 e1 => ?_, fun c3 => k2 ?_⟩
    · have hle := (nI_leI (by omega) (by decide)).mp c3
      have ee : e_run S (nI v) = (0, nI (o_ticks v S 2 1 0) - nI (S 2 1 0), o_ticks v S) := by
        unfold e_run
        rw [ix_nI hv (by decide)]
        show (if v = 0 then _ else _) = _
        rw [if_neg hv0, if_pos hle]
      rw [ee] at k0
      rw [et] at e1
      obtain ⟨z1, rr1, p1⟩ := r1.to_t e1
      refine ⟨z1, _, rr1, p1.line, _, p1.r9, p1.z220, L_makeTicks p1 q (by omega) fun A2 t2 ea p2 => ?_⟩
      have rc := r1.cur e1 ea p2
      obtain ⟨z4, rr4, p4'⟩ := rc.to_t (L_up_s _ _ _)
      refine ⟨z4, _, rr4, p4'.line, _, p4'.r9, p4'.z220, ?_⟩
      rw [p1.tal (by decide), p4'.tal (by decide)]
      exact k0 rfl _ _ rc
    · unfold e_run
      rw [ix_nI hv (by decide)]
      show (if v = 0 then _ else _ : q_Ch).1 = 2
      rw [if_neg hv0, if_neg (fun hle => c3 (nI_le hle (by decide)))]
  · rw [e] at c2; exact c2 (nI_le (by omega) (by decide))
theorem C_clean {f : Int32 → q_H → Prop} {y : Int32} (r : Rc A0 A rl m W L S h n x len T)
    (k0 : (e_clean S y).1 = 0 → ∀ A' L', Rc A0 A' rl m W L' (e_clean S y).2.2 (hp S h) (mn6 n) ((x + 1) % 6) len T → f (e_clean S y).2.1 A')
    (k1 : (e_clean S y).1 = 1 → ∀ z, q_sz A ≤ z → X "java/lang/IndexOutOfBoundsException" (q_grow A z)) : q_Wc G M_X10_clean [.ref rl, .int y] A (q_KI f) X := by
  obtain ⟨t, et, ht, z, rr, p, qq⟩ := r.t
  have hb := p.b
  unfold Lb at hb
  refine f_X10_clean ⟨z, _, rr, p.line, L_stationAt p (fun s hs e => ?_) (fun hn => ?_)⟩
  · have hx := ix_nI hs (by omega)
    have hs8 := p.nst8 hs
    subst e
    refine ⟨fun e => (by cases e), fun r5 e5 => ?_⟩
    cases e5
    have ee : e_clean S (nI s) = (0, nI (s6 (S 0 (3 + s))), o_clean S s) := by
      unfold e_clean
      rw [hx]
    rw [ee] at k0
    refine ⟨z, C_remember r fun A1 L1 r1 e1 => ?_⟩
    rw [et] at e1
    obtain ⟨z1, rr1, p1⟩ := r1.to_t e1
    refine ⟨p1.zs hs8, _, p1.rbn hs8, p1.zh (by omega), L_clear p1 (by omega) fun A2 _ _ p2 => ?_⟩
    have p4 := p2.put (t := 2) (i := 9) (j := 0) (S 2 9 0 + s6 (S 0 (3 + s))) (by unfold dm0; omega) ⟨fun _ => by decide, fun e => absurd e (by decide)⟩
    have rc := r1.cur e1 rfl p4
    obtain ⟨z4, rr4, p4'⟩ := rc.to_t (L_up_s _ _ _)
    refine ⟨z4, _, rr4, p4'.line, _, p4'.r9, p4'.z220, ?_⟩
    rw [p1.t (lv_bun hs), p2.tal (by decide), s_h_t (by decide), nI_add]
    exact k0 rfl _ _ rc
  · have : (e_clean S y).1 = 1 := by
      unfold e_clean
      rcases ix_cases y (S 8 1 0) (by omega) with ⟨j, hj, h1, -⟩ | ⟨-, h2⟩
      · exact absurd h1 (hn j hj)
      · rw [h2]
    exact ⟨fun _ => k1 this, fun r5 e5 => by cases e5⟩
end CH

/-! THE REFERENCE: picks -/
theorem go_0 (S : s_T) (s m : Nat) (hs : s < 8) : o_go S s m 0 = S := by
  unfold o_go
  funext t i j
  unfold s_h
  by_cases c : t = 0 ∧ i = 3 + s
  · obtain ⟨rfl, rfl⟩ := c
    rw [if_pos ⟨rfl, rfl⟩]
    show (if j = m then S 0 (3 + s) m + 0 else S 0 (3 + s) j) = _
    by_cases cj : j = m
    · rw [if_pos cj, cj]; omega
    · rw [if_neg cj]
  · rw [if_neg c]
    by_cases c2 : t = 0 ∧ i = 11 + s
    · obtain ⟨rfl, rfl⟩ := c2
      rw [if_pos ⟨rfl, rfl⟩]
      show (if j = m then S 0 (11 + s) m - 0 else S 0 (11 + s) j) = _
      by_cases cj : j = m
      · rw [if_pos cj, cj]; omega
      · rw [if_neg cj]
    · rw [if_neg c2]
theorem p_self {S : s_T} {t i j v : Nat} (h : S t i j = v) : s_p S t i j v = S := by
  funext a b c
  unfold s_p
  split
  · rename_i q
    obtain ⟨rfl, rfl, rfl⟩ := q
    exact h.symm
  · rfl
theorem p_p_ (S : s_T) (t i j v w : Nat) : s_p (s_p S t i j v) t i j w = s_p S t i j w := by
  funext a b c
  unfold s_p
  split
  · rfl
  · rfl
theorem go_p (S : s_T) (s m v t i j w : Nat) (ht : t ≠ 0) : o_go (s_p S t i j w) s m v = s_p (o_go S s m v) t i j w := by
  unfold o_go
  rw [s_p_00 ht, s_p_h ht, s_p_h ht]
/-- a mass goes, the count of what is picked too -/
def o_gp (S : s_T) (s m v : Nat) : s_T := s_p (o_go S s m v) 5 s 3 (S 5 s 3 + v)
theorem gp_0 (S : s_T) (s m : Nat) (hs : s < 8) : o_gp S s m 0 = S := by
  unfold o_gp
  rw [go_0 S s m hs]
  exact p_self (by omega)
section PK
variable {G : q_G} {X : String → q_H → Prop} {A A0 : q_H} {mo : Nat} {S : s_T}
theorem M_cap {f : Int32 → q_H → Prop} (h : MP A mo S) {s : Nat} (hs : s < S 8 1 0) (h1 : S 5 s 0 ≤ 9) (h2 : S 9 s 1 ≤ 50) (h3 : S 5 s 1 ≤ 60) (k : f (nI (o_cap S s)) A) : q_Wc G M_X11_capacity [.ref mo, .int (nI s)] A (q_KI f) X := by
  have hb := h.2.1.b
  unfold Lb at hb
  have t1 := h.2.2.2.1 s 1 hs (by decide)
  refine f_X11_capacity ⟨h.1.z, _, h.1.r6, M_placeAt (j := 0) ⟨788, h.1.z6, by decide, 308 + 10 * s + 0, rfl, by omega, h.1.z, _, h.1.r2, 47, h.1.z2, by decide, 3 + 3 * s + 1, by rw [pk_mul, nI_add, nI_add], by omega, _, h.1.r6, M_placeAt (j := 1) ⟨788, h.1.z6, by decide, 308 + 10 * s + 1, rfl, by omega, ?_⟩⟩⟩
  have e : S 5 s 0 * S 9 s 1 * (100 - S 5 s 1) ≤ 9 * 50 * 100 := Nat.mul_le_mul (Nat.mul_le_mul h1 h2) (by omega)
  rw [h.2.1.st hs (j := 0) (by decide), h.2.1.st hs (j := 1) (by decide), t1, pk_sub (by omega), pk_mul, pk_mul, pk_div (by omega) (by decide) (by decide)]
  exact k
theorem M_goes {f : q_H → Prop} (h : MP A mo S) {s m v : Nat} (hs : s < S 8 1 0) (h4 : S 4 s 0 ≠ 0) (hm : m < 6) (hv : v ≤ S 0 (11 + s) m) (k : ∀ A', mg A A' mo → MP A' mo (o_gp S s m v) → f A') : q_Wc G M_X11_goes [.ref mo, .int (nI s), .int (nI m), .int (nI v)] A (q_KV f) X := by
  have hb := h.2.1.b
  unfold Lb at hb
  have hs8 : s < 8 := by omega
  have hl : lR S (11 + s) := by unfold lR; rw [show 11 + s - 11 = s by omega]; omega
  have e1 := h.2.1.m hl hm
  rw [hi_slot hs8] at e1
  have w1 : RW (q_I (q_setI A (mo + 6) (252 + 7 * s + m) (nI (S 0 (11 + s) m - v))) (mo + 6)) (s_h S (11 + s) (fun j => if j = m then S 0 (11 + s) m - v else S 0 (11 + s) j)) := by
    refine h.2.1.heap _ (by omega) (by omega) (fun y hy => ?_) (fun j hj => ?_)
    · rw [hi_slot hs8] at hy
      rw [ix_set, if_neg (by omega)]
    · rw [hi_slot hs8, ix_set]
      by_cases c : j = m
      · rw [if_pos (by omega), if_pos c]
      · rw [if_neg (by omega), if_neg c]
        have := h.2.1.m hl hj
        rw [hi_slot hs8] at this; exact this
  have hl2 : lR (s_h S (11 + s) (fun j => if j = m then S 0 (11 + s) m - v else S 0 (11 + s) j)) (3 + s) := by unfold lR; rw [s_h_t (by decide)]; omega
  have eb : ∀ j, j < 6 → q_I (q_setI A (mo + 6) (252 + 7 * s + m) (nI (S 0 (11 + s) m - v))) (mo + 6) (312 + 10 * s + j) = nI (S 0 (3 + s) j) := fun j hj => by
    have := w1.m hl2 hj
    rw [hi_bun hs8, s_h_n (by omega)] at this; exact this
  have w2 : RW (q_I (q_setI (q_setI A (mo + 6) (252 + 7 * s + m) (nI (S 0 (11 + s) m - v))) (mo + 6) (312 + 10 * s + m) (nI (S 0 (3 + s) m + v))) (mo + 6)) (o_go S s m v) := by
    unfold o_go
    refine w1.heap _ (by omega) (by omega) (fun y hy => ?_) (fun j hj => ?_)
    · rw [hi_bun hs8] at hy
      rw [ix_set, if_neg (by omega)]
    · rw [hi_bun hs8, ix_set]
      by_cases c : j = m
      · rw [if_pos (by omega), if_pos c]
      · rw [if_neg (by omega), if_neg c]; exact eb j hj
  have e8 : o_go S s m v 8 = S 8 := go_t S s m v (by decide)
  have e5 : o_go S s m v 5 = S 5 := go_t S s m v (by decide)
  have e3 : q_I (q_setI (q_setI A (mo + 6) (252 + 7 * s + m) (nI (S 0 (11 + s) m - v))) (mo + 6) (312 + 10 * s + m) (nI (S 0 (3 + s) m + v))) (mo + 6) (308 + 10 * s + 3) = nI (S 5 s 3) := by
    have := w2.st (s := s) (j := 3) (by rw [e8]; exact hs) (by decide)
    rw [e5] at this; exact this
  have w3 : RW (q_I (q_setI (q_setI (q_setI A (mo + 6) (252 + 7 * s + m) (nI (S 0 (11 + s) m - v))) (mo + 6) (312 + 10 * s + m) (nI (S 0 (3 + s) m + v))) (mo + 6) (308 + 10 * s + 3) (nI (S 5 s 3 + v))) (mo + 6)) (o_gp S s m v) :=
    w2.put (t := 5) (i := s) (j := 3) (S 5 s 3 + v) (by unfold dR0; omega) (fun e => absurd e (by decide)) (fun x => ix_set _ _ _ _ _)
  have o3 : mg A (q_setI (q_setI (q_setI A (mo + 6) (252 + 7 * s + m) (nI (S 0 (11 + s) m - v))) (mo + 6) (312 + 10 * s + m) (nI (S 0 (3 + s) m + v))) (mo + 6) (308 + 10 * s + 3) (nI (S 5 s 3 + v))) mo := (((mg.r A mo).set (Or.inl rfl)).set (Or.inl rfl)).set (Or.inl rfl)
  refine f_X11_goes ⟨h.1.z, _, h.1.r6, M_slotAt ⟨788, h.1.z6, by decide, 252 + 7 * s + m, by rw [nI_add], by omega, h.1.z, _, h.1.r6, ?_⟩⟩
  rw [e1, pk_sub hv]
  refine M_placeAt (j := 4) ⟨788, h.1.z6, by decide, 312 + 10 * s + m, by rw [nI_add]; congr 1; omega, by omega, h.1.z, _, h.1.r6, ?_⟩
  rw [eb m hm, nI_add]
  refine M_placeAt (j := 3) ⟨788, h.1.z6, by decide, 308 + 10 * s + 3, rfl, by omega, ?_⟩
  rw [e3, nI_add]
  exact k _ o3 (h.to o3.1 w3 (cf_t (cf_go _ _ _ _) (cf_p (by decide))))
/-- the station's tiredness -/
theorem v_tire {f : q_H → Prop} {s r : Nat} (h : MP A mo S) (q : iv_s S) (hs : s < S 8 1 0) (h5 : S 5 s 1 ≤ 60) (hr : r < 2147483648) {z r54 : Int32} (hz : r54 = nI (308 + 10 * s + 1)) (k : ∀ A', mg A A' mo → MP A' mo (s_p S 5 s 1 (if r = 0 then S 5 s 1 - 2 else if 60 < S 5 s 1 + S 1 6 0 then 60 else S 5 s 1 + S 1 6 0)) → f A') :
    q_sh A mo = (12, 0) ∧ ∃ r56 : Nat, q_R A mo 6 = some r56 ∧ ((nI r ≤ nI 0 → ∃ z60 : Nat, q_sh A r56 = (50, z60) ∧ z60 < 2147483648 ∧ ∃ j62 : Nat, r54 = nI j62 ∧ j62 < z60 ∧ f (q_setI A r56 j62 (if (nI 0) < ((q_I A r56 j62) - (nI 2)) then ((q_I A r56 j62) - (nI 2)) else (nI 0)))) ∧ (¬ nI r ≤ nI 0 → ∃ z66 : Nat, q_sh A r56 = (50, z66) ∧ z66 < 2147483648 ∧ ∃ j68 : Nat, r54 = nI j68 ∧ j68 < z66 ∧ 6 < z66 ∧ f (q_setI A r56 j68 (if ((q_I A r56 j68) + (q_I A r56 6)) < (nI 60) then ((q_I A r56 j68) + (q_I A r56 6)) else (nI 60))))) := by
  have hb := h.2.1.b
  unfold Lb at hb
  have q7 := q.2.2.2.2.2.2.2.2.1
  have e1 : q_I A (mo + 6) (308 + 10 * s + 1) = nI (S 5 s 1) := h.2.1.st hs (by decide)
  have e6 : q_I A (mo + 6) 6 = nI (S 1 6 0) := h.2.1.set (by decide)
  have fin : ∀ v, v = (if r = 0 then S 5 s 1 - 2 else if 60 < S 5 s 1 + S 1 6 0 then 60 else S 5 s 1 + S 1 6 0) → f (q_setI A (mo + 6) (308 + 10 * s + 1) (nI v)) := fun v ev => by
    subst ev
    refine k _ ((mg.r A mo).set (Or.inl rfl)) (h.to ((mf.r A mo).set (Or.inl rfl)) (h.2.1.put (t := 5) (i := s) (j := 1) _ (by unfold dR0; omega) (fun e => absurd e (by decide)) (fun x => ix_set _ _ _ _ _)) (cf_p (by decide)))
  refine ⟨h.1.z, _, h.1.r6, fun c => ⟨788, h.1.z6, by decide, _, hz, by omega, ?_⟩, fun c => ⟨788, h.1.z6, by decide, _, hz, by omega, by decide, ?_⟩⟩
  · have r0 : r = 0 := Nat.le_zero.mp ((nI_leI hr (by decide)).mp c)
    rw [e1]
    have ev : (if nI 0 < nI (S 5 s 1) - nI 2 then nI (S 5 s 1) - nI 2 else nI 0) = nI (S 5 s 1 - 2) := by
      by_cases c2 : 2 ≤ S 5 s 1
      · rw [pk_sub c2]
        by_cases c3 : 0 < S 5 s 1 - 2
        · rw [if_pos (nI_lt c3 (by omega))]
        · rw [if_neg (nI_nlt (by omega) (by omega))]; congr 1; omega
      · rw [if_neg (fun c4 => absurd (Int32.lt_trans c4 (pk_sneg (a := S 5 s 1) (b := 2) (by decide) (by omega))) (by decide))]
        congr 1; omega
    rw [ev]
    exact fin _ (by rw [if_pos r0])
  · have r0 : r ≠ 0 := fun e => c (by rw [e]; exact nI_le (Nat.le_refl _) (by decide))
    rw [e1, e6, nI_add]
    have ev : (if nI (S 5 s 1 + S 1 6 0) < nI 60 then nI (S 5 s 1 + S 1 6 0) else nI 60) = nI (if 60 < S 5 s 1 + S 1 6 0 then 60 else S 5 s 1 + S 1 6 0) := by
      by_cases c2 : S 5 s 1 + S 1 6 0 < 60
      · rw [if_pos (nI_lt c2 (by decide)), if_neg (by omega)]
      · rw [if_neg (nI_nlt (by omega) (by omega))]
        by_cases c3 : 60 < S 5 s 1 + S 1 6 0
        · rw [if_pos c3]
        · rw [if_neg c3]; congr 1; omega
    rw [ev]
    exact fin _ (by rw [if_neg r0])
theorem v_tail {f : q_H → Prop} {s r : Nat} {pk : Int32} (h : MP A mo S) (q : iv_s S) (hs : s < S 8 1 0) (h4 : S 4 s 0 ≠ 0) (h5 : S 5 s 1 ≤ 60) (h6 : s6 (S 0 (11 + s)) < 2147483648) (hr : r < 2147483648) (hp : pk = nI r)
    (k : ∀ A', mg A A' mo → MP A' mo (s_p (s_p S 5 s 1 (if r = 0 then S 5 s 1 - 2 else if 60 < S 5 s 1 + S 1 6 0 then 60 else S 5 s 1 + S 1 6 0)) 4 s 0 (if s6 (S 0 (11 + s)) = 0 then 0 else S 4 s 0)) → f A') :
    q_sh A mo = (12, 0) ∧ q_Wc G M_X11_total [.ref mo, .int (nI (252 + 7 * s))] A (q_KI fun r50 A49 => ((r50 = nI 0 → q_sh A49 mo = (12, 0) ∧ ∃ r73 : Nat, q_R A49 mo 6 = some r73 ∧ ∃ z76 : Nat, q_sh A49 r73 = (50, z76) ∧ z76 < 2147483648 ∧ (258 + 7 * s) < z76 ∧ q_Wc G M_X11_placeAt [.int (nI s), .int (nI 1)] (q_setI A49 r73 (258 + 7 * s) (-1)) (q_KI fun r80 A79 => q_sh A79 mo = (12, 0) ∧ ∃ r82 : Nat, q_R A79 mo 6 = some r82 ∧ ((pk ≤ nI 0 → ∃ z86 : Nat, q_sh A79 r82 = (50, z86) ∧ z86 < 2147483648 ∧ ∃ j88 : Nat, r80 = nI j88 ∧ j88 < z86 ∧ f (q_setI A79 r82 j88 (if (nI 0) < ((q_I A79 r82 j88) - (nI 2)) then ((q_I A79 r82 j88) - (nI 2)) else (nI 0)))) ∧ (¬ pk ≤ nI 0 → ∃ z92 : Nat, q_sh A79 r82 = (50, z92) ∧ z92 < 2147483648 ∧ ∃ j94 : Nat, r80 = nI j94 ∧ j94 < z92 ∧ 6 < z92 ∧ f (q_setI A79 r82 j94 (if ((q_I A79 r82 j94) + (q_I A79 r82 6)) < (nI 60) then ((q_I A79 r82 j94) + (q_I A79 r82 6)) else (nI 60)))))) q_nX) ∧ (¬ r50 = nI 0 → q_Wc G M_X11_placeAt [.int (nI s), .int (nI 1)] A49 (q_KI fun r54 A53 => q_sh A53 mo = (12, 0) ∧ ∃ r56 : Nat, q_R A53 mo 6 = some r56 ∧ ((pk ≤ nI 0 → ∃ z60 : Nat, q_sh A53 r56 = (50, z60) ∧ z60 < 2147483648 ∧ ∃ j62 : Nat, r54 = nI j62 ∧ j62 < z60 ∧ f (q_setI A53 r56 j62 (if (nI 0) < ((q_I A53 r56 j62) - (nI 2)) then ((q_I A53 r56 j62) - (nI 2)) else (nI 0)))) ∧ (¬ pk ≤ nI 0 → ∃ z66 : Nat, q_sh A53 r56 = (50, z66) ∧ z66 < 2147483648 ∧ ∃ j68 : Nat, r54 = nI j68 ∧ j68 < z66 ∧ 6 < z66 ∧ f (q_setI A53 r56 j68 (if ((q_I A53 r56 j68) + (q_I A53 r56 6)) < (nI 60) then ((q_I A53 r56 j68) + (q_I A53 r56 6)) else (nI 60)))))) q_nX))) q_nX := by
  subst hp
  have hb := h.2.1.b
  unfold Lb at hb
  have hs8 : s < 8 := by omega
  have hl : lR S (11 + s) := by unfold lR; rw [show 11 + s - 11 = s by omega]; omega
  refine ⟨h.1.z, M_total (g := S 0 (11 + s)) h.1 (by omega) (fun m hm => by
    have := h.2.1.m hl hm
    rw [hi_slot hs8] at this; exact this) ⟨fun c => ⟨h.1.z, _, h.1.r6, 788, h.1.z6, by decide, by omega, ?_⟩, fun c => ?_⟩⟩
  · have h0 : s6 (S 0 (11 + s)) = 0 := (nI_eq h6 (by decide)).mp c
    rw [if_pos h0] at k
    have w1 : RW (q_I (q_setI A (mo + 6) (258 + 7 * s) (-1)) (mo + 6)) (s_p S 4 s 0 0) := h.2.1.rn 0 hs (fun x => ix_set _ _ _ _ _) (fun c => absurd rfl c)
    have o1 : mg A (q_setI A (mo + 6) (258 + 7 * s) (-1)) mo := (mg.r A mo).set (Or.inl rfl)
    have p1 := h.to o1.1 w1 (cf_p (by decide))
    refine M_placeAt (j := 1) (v_tire (s := s) (r := r) (z := 0) p1 q hs h5 hr rfl fun A' o' p' => k A' (o1.t o') ?_)
    rw [s_p_c (by omega)] at p'
    exact p'
  · have h0 : ¬ s6 (S 0 (11 + s)) = 0 := fun e => c (by rw [e])
    rw [if_neg h0] at k
    refine M_placeAt (j := 1) (v_tire (s := s) (r := r) (z := 0) h q hs h5 hr rfl fun A' o' p' => k A' o' ?_)
    rw [p_self (t := 4) (by rw [s_p_t (by decide)])]
    exact p'
theorem M_picks {f : q_H → Prop} {R : Nat} {B : Nat → Nat} {P : Nat} (h : MP A mo S) (q : iw R B P S) {s : Nat} (hs : s < S 8 1 0) (k : ∀ A', mg A A' mo → MP A' mo (o_pick s S) → f A') : q_Wc G M_X11_picks [.ref mo, .int (nI s)] A (q_KV f) X := by
  have hb := h.2.1.b
  unfold Lb at hb
  have hs8 : s < 8 := by omega
  have q1 := q.1
  unfold iv_c at q1
  have qs := q1.2.2.2.2.2.1 s hs
  have qt := q.2.2.2.1 s hs
  refine f_X11_picks (M_slotAt ⟨h.1.z, _, h.1.r6, 788, h.1.z6, by decide, 258 + 7 * s, by rw [nI_add]; congr 1; omega, by omega, ?_⟩)
  rw [h.2.1.rd hs]
  by_cases c0 : S 4 s 0 = 0
  · refine ⟨fun _ => M_placeAt (j := 1) ?_, fun c => absurd (by rw [rnd, if_pos c0]) c⟩
    have kk : ∀ A', mg A A' mo → MP A' mo (s_p S 5 s 1 (if (0 : Nat) = 0 then S 5 s 1 - 2 else if 60 < S 5 s 1 + S 1 6 0 then 60 else S 5 s 1 + S 1 6 0)) → f A' := fun A' o' p' => k A' o' (by
      have : o_pick s S = s_p S 5 s 1 (S 5 s 1 - 2) := by unfold o_pick; rw [if_pos (Or.inl c0)]
      rw [this]; exact p')
    obtain ⟨z1, r56, z2, z3, -⟩ := v_tire (f := f) (s := s) (r := 0) (z := 0) h q.2.1 hs qt.2.1 (by decide) rfl kk
    exact ⟨z1, r56, z2, z3 (by decide)⟩
  · have hrnd : ¬ rnd (S 4 s 0) = -1 := fun c => by
      rw [rnd, if_neg c0] at c
      exact absurd (show nI (S 4 s 0 - 1) < 0 by rw [c]; decide) (nI_pos (by omega))
    refine ⟨fun c => absurd c hrnd, fun _ => ?_⟩
    have hl : lR S (11 + s) := by unfold lR; rw [show 11 + s - 11 = s by omega]; omega
    have hg : ∀ m, m < 6 → q_I A (mo + 6) (252 + 7 * s + m) = nI (S 0 (11 + s) m) := fun m hm => by
      have := h.2.1.m hl hm
      rw [hi_slot hs8] at this; exact this
    have htg : S 9 s 0 < 6 := by omega
    have hcap : o_cap S s ≤ 450 := by
      have e : S 5 s 0 * S 9 s 1 * (100 - S 5 s 1) ≤ 9 * 50 * 100 := Nat.mul_le_mul (Nat.mul_le_mul qt.1 qs.2.2.1) (by omega)
      unfold o_cap
      omega
    have hms := s6_at (S 0 (11 + s)) htg
    have hrl := right_le S s
    refine M_target h.mt hs ⟨788, h.1.z6, by decide, 252 + 7 * s + S 9 s 0, by rw [nI_add], by omega, h.1.z, M_cap h hs qt.1 qs.2.2.1 qt.2.1 ⟨h.1.z, M_target h.mt hs ⟨h.1.z, ?_⟩⟩⟩
    rw [hg _ htg]
    have er : (if nI (o_cap S s) < nI (S 0 (11 + s) (S 9 s 0)) then nI (o_cap S s) else nI (S 0 (11 + s) (S 9 s 0))) = nI (o_right S s) := by
      unfold o_right
      by_cases c : o_cap S s < S 0 (11 + s) (S 9 s 0)
      · rw [if_pos (nI_lt c (by omega)), if_pos c]
      · rw [if_neg (nI_nlt (by omega) (by omega)), if_neg c]
    rw [er]
    obtain ⟨r, er'⟩ : ∃ r, r = o_right S s := ⟨_, rfl⟩
    rw [← er'] at hrl ⊢
    refine M_goes h hs c0 htg hrl fun A1 o1 p1 => ?_
    obtain ⟨T, eT⟩ : ∃ T, T = o_gp S s (S 9 s 0) r := ⟨_, rfl⟩
    rw [← eT] at p1
    have cT : s_cf S T := by rw [eT]; exact cf_t (cf_go _ _ _ _) (cf_p (by decide))
    have t8 : T 8 = S 8 := cT.2.1
    have t9 : T 9 = S 9 := cT.2.2.1
    have t1 : T 1 = S 1 := cT.1
    have t4 : T 4 = S 4 := by rw [eT]; unfold o_gp; rw [s_p_t (by decide), go_t _ _ _ _ (by decide)]
    have t0 : T 0 (11 + s) = fun j => if j = S 9 s 0 then S 0 (11 + s) (S 9 s 0) - r else S 0 (11 + s) j := by rw [eT]; unfold o_gp; rw [s_p_00 (by decide), go_slot S s _ _ hs8]
    have t51 : T 5 s 1 = S 5 s 1 := by rw [eT]; unfold o_gp; rw [s_p_j _ (by decide), go_t _ _ _ _ (by decide)]
    have t53 : T 5 s 3 = S 5 s 3 + r := by rw [eT]; unfold o_gp; rw [s_p_s]
    have tle : ∀ m, T 0 (11 + s) m ≤ S 0 (11 + s) m := fun m => by
      rw [t0]
      show (if m = S 9 s 0 then _ else _) ≤ _
      split
      · rename_i c; rw [c]; omega
      · exact Nat.le_refl _
    have ts : s6 (T 0 (11 + s)) ≤ s6 (S 0 (11 + s)) := s6_mono fun m _ => tle m
    have hsT : s < T 8 1 0 := by rw [t8]; exact hs
    have h4T : T 4 s 0 ≠ 0 := by rw [t4]; exact c0
    have hlT : lR T (11 + s) := by unfold lR; rw [show 11 + s - 11 = s by omega]; omega
    have hgT : ∀ m, m < 6 → q_I A1 (mo + 6) (252 + 7 * s + m) = nI (T 0 (11 + s) m) := fun m hm => by
      have := p1.2.1.m hlT hm
      rw [hi_slot hs8] at this; exact this
    have hzS : ∀ m, S 8 0 0 ≤ m → m < 6 → S 0 (11 + s) m = 0 := fun m h1 h2 => q.2.2.2.2.2.2.1 _ (lv_slot hs) m h1 h2
    have hzT : ∀ m, S 8 0 0 ≤ m → m < 6 → T 0 (11 + s) m = 0 := fun m h1 h2 => by have := tle m; have := hzS m h1 h2; omega
    have qsT : iv_s T := q.2.1.cf cT
    -- masses of no material are never looked at
    obtain ⟨g, eg⟩ : ∃ g : Nat → Nat, g = fun m => if m < 6 then T 0 (11 + s) m else 0 := ⟨_, rfl⟩
    have g6 : ∀ m, m < 6 → g m = T 0 (11 + s) m := fun m hm => by rw [eg]; exact if_pos hm
    have gb : ∀ m, g m < 2147483648 := fun m => by
      rw [eg]
      show (if m < 6 then T 0 (11 + s) m else 0) < _
      split
      · rename_i c; have := s6_at (T 0 (11 + s)) c; omega
      · decide
    have et : o_pkd S s = o_go (o_go S s (S 9 s 0) r) s (o_oth (o_go S s (S 9 s 0) r) s - 1) (o_wrong (o_go S s (S 9 s 0) r) s r) := by rw [er']; rfl
    have g9 : o_go S s (S 9 s 0) r 9 = S 9 := go_t _ _ _ _ (by decide)
    have eoth : o_oth (o_go S s (S 9 s 0) r) s = am (T 0 (11 + s)) (S 9 s 0) 6 := by
      unfold o_oth
      rw [g9, eT]
      unfold o_gp
      rw [s_p_00 (by decide)]
    have ewr : o_wrong (o_go S s (S 9 s 0) r) s r = if am (T 0 (11 + s)) (S 9 s 0) 6 = 0 then 0 else if r * S 9 s 2 / 100 < T 0 (11 + s) (am (T 0 (11 + s)) (S 9 s 0) 6 - 1) then r * S 9 s 2 / 100 else T 0 (11 + s) (am (T 0 (11 + s)) (S 9 s 0) 6 - 1) := by
      unfold o_wrong
      rw [eoth, g9, eT]
      unfold o_gp
      rw [s_p_00 (by decide)]
    -- the end, once U is what the slot holds
    have fin : ∀ (A2 : q_H) (U : s_T) (w : Nat), mg A A2 mo → MP A2 mo U → U = o_gp T s (am (T 0 (11 + s)) (S 9 s 0) 6 - 1) w → w = o_wrong (o_go S s (S 9 s 0) r) s r → U 8 = S 8 → U 1 = S 1 → U 4 s 0 = S 4 s 0 → U 5 s 1 = S 5 s 1 → iv_s U → s6 (U 0 (11 + s)) ≤ 200 → (∀ A', mg A2 A' mo → MP A' mo (s_p (s_p U 5 s 1 (if r = 0 then U 5 s 1 - 2 else if 60 < U 5 s 1 + U 1 6 0 then 60 else U 5 s 1 + U 1 6 0)) 4 s 0 (if s6 (U 0 (11 + s)) = 0 then 0 else U 4 s 0)) → f A') := fun A2 U w o2 p2 eU ew u8 u1 u4 u51 us u6 A' o' p' => by
      refine k A' (o2.t o') ?_
      by_cases r0 : r = 0
      · have hop : o_pick s S = s_p S 5 s 1 (S 5 s 1 - 2) := by unfold o_pick; rw [if_pos (Or.inr (by rw [← er', r0]))]
        have hT : T = S := by rw [eT, r0]; exact gp_0 S s _ hs8
        have hw0 : w = 0 := by
          rw [ew, ewr, r0]
          split
          · rfl
          · rw [Nat.zero_mul, Nat.zero_div]
            split <;> omega
        have hU : U = S := by rw [eU, hw0, gp_0 T s _ hs8, hT]
        rw [hU] at p'
        have hne : s6 (S 0 (11 + s)) ≠ 0 := fun z => c0 (qt.2.2.2.2.mpr z)
        rw [if_pos r0, if_neg hne, p_self (t := 4) (by rw [s_p_t (by decide)])] at p'
        rw [hop]; exact p'
      · have hU : U = s_p (o_pkd S s) 5 s 3 (S 5 s 3 + (r + w)) := by
          rw [eU]
          unfold o_gp
          rw [t53, et, eoth, ← ew, eT]
          unfold o_gp
          rw [go_p _ _ _ _ _ _ _ _ (by decide), p_p_]
          congr 1
          omega
        have e6 : U 0 (11 + s) = o_pkd S s 0 (11 + s) := by rw [hU, s_p_00 (by decide)]
        rw [if_neg r0, u51, u1, u4, e6, hU] at p'
        have hop : o_pick s S = s_p (s_p (s_p (o_pkd S s) 5 s 3 (S 5 s 3 + (r + w))) 5 s 1 (if 60 < S 5 s 1 + S 1 6 0 then 60 else S 5 s 1 + S 1 6 0)) 4 s 0 (if s6 (o_pkd S s 0 (11 + s)) = 0 then 0 else S 4 s 0) := by
          unfold o_pick
          rw [if_neg (fun e => e.elim c0 (fun e => r0 (by rw [er']; exact e))), ← er', ← ew]
        rw [hop]; exact p'
    refine ⟨(o1.1.ms h.1).z, M_target p1.mt hsT ?_⟩
    rw [t9]
    refine ⟨(o1.1.ms h.1).z, M_mostOf (g := g) (x := S 9 s 0) p1.mt (by rw [t8]; exact q1.2.1) (by omega) (fun m hm => by rw [g6 m hm]; exact hgT m hm) gb (fun m hm => nI_eq (by omega) (by omega)) ?_⟩
    rw [t8]
    have eam : am g (S 9 s 0) (S 8 0 0) = am (T 0 (11 + s)) (S 9 s 0) (S 8 0 0) := am_cg _ fun m hm => g6 m (by omega)
    rw [eam]
    by_cases ca : am (T 0 (11 + s)) (S 9 s 0) (S 8 0 0) = 0
    · refine ⟨fun _ => ?_, fun c => absurd (by rw [mb, if_pos ca]) c⟩
      have hw0 : 0 = o_wrong (o_go S s (S 9 s 0) r) s r := by
        rw [ewr]
        by_cases c6 : am (T 0 (11 + s)) (S 9 s 0) 6 = 0
        · rw [if_pos c6]
        · rw [if_neg c6]
          have hl6 := am_le (T 0 (11 + s)) (S 9 s 0) 6
          have hidx : S 8 0 0 ≤ am (T 0 (11 + s)) (S 9 s 0) 6 - 1 := Nat.le_of_not_lt fun c7 => (am_ge (T 0 (11 + s)) (S 9 s 0) (S 8 0 0) _ c7 (am_ne _ _ _ c6)).1 ca
          rw [hzT _ hidx (by omega)]
          split <;> omega
      exact v_tail (s := s) (r := r) p1 qsT hsT h4T (by rw [t51]; exact qt.2.1) (by omega) (by omega) rfl (fin A1 T 0 o1 p1 (gp_0 T s _ hs8).symm hw0 t8 t1 (by rw [t4]) t51 qsT (by omega))
    · have e6 := am_6 (f := T 0 (11 + s)) (b := S 9 s 0) (n := S 8 0 0) q1.2.1 ca hzT
      have hl6 := am_le (T 0 (11 + s)) (S 9 s 0) (S 8 0 0)
      obtain ⟨x, ex⟩ : ∃ x, x = am (T 0 (11 + s)) (S 9 s 0) (S 8 0 0) - 1 := ⟨_, rfl⟩
      have emb : mb (am (T 0 (11 + s)) (S 9 s 0) (S 8 0 0)) = nI x := by rw [mb, if_neg ca, ex]
      rw [emb]
      have t2 : q_I A1 (mo + 2) (3 + 3 * s + 2) = nI (S 9 s 2) := by have := p1.2.2.2.1 s 2 hsT (by decide); rw [t9] at this; exact this
      refine ⟨fun c => absurd (show nI x < 0 by rw [c]; decide) (nI_pos (by omega)), fun _ => ⟨p1.1.z, _, p1.1.r6, 788, p1.1.z6, by decide, 252 + 7 * s + x, by rw [nI_add], by omega, _, p1.1.r2, 47, p1.1.z2, by decide, 3 + 3 * s + 2, by rw [pk_mul, nI_add, nI_add], by omega, ?_⟩⟩
      have hr450 : r * S 9 s 2 ≤ 450 * 30 := Nat.mul_le_mul (by rw [er']; unfold o_right; split <;> omega) qs.2.2.2
      rw [hgT x (by omega), t2, pk_mul, pk_div (by omega) (by decide) (by decide)]
      have hx200 := s6_at (T 0 (11 + s)) (m := x) (by omega)
      obtain ⟨w, ew⟩ : ∃ w, w = o_wrong (o_go S s (S 9 s 0) r) s r := ⟨_, rfl⟩
      have ew2 : w = if r * S 9 s 2 / 100 < T 0 (11 + s) x then r * S 9 s 2 / 100 else T 0 (11 + s) x := by
        rw [ew, ewr, if_neg (by rw [e6]; exact ca), e6, ← ex]
      have ev : (if nI (r * S 9 s 2 / 100) < nI (T 0 (11 + s) x) then nI (r * S 9 s 2 / 100) else nI (T 0 (11 + s) x)) = nI w := by
        rw [ew2]
        by_cases c : r * S 9 s 2 / 100 < T 0 (11 + s) x
        · rw [if_pos (nI_lt c (by omega)), if_pos c]
        · rw [if_neg (nI_nlt (by omega) (by omega)), if_neg c]
      rw [ev]
      have hwx : w ≤ T 0 (11 + s) x := by rw [ew2]; split <;> omega
      refine M_goes p1 hsT h4T (by omega) hwx fun A2 o2 p2 => ?_
      have cU : s_cf T (o_gp T s x w) := cf_t (cf_go _ _ _ _) (cf_p (by decide))
      have u4 : o_gp T s x w 4 = T 4 := by unfold o_gp; rw [s_p_t (by decide), go_t _ _ _ _ (by decide)]
      have u51 : o_gp T s x w 5 s 1 = T 5 s 1 := by unfold o_gp; rw [s_p_j _ (by decide), go_t _ _ _ _ (by decide)]
      have u0 : s6 (o_gp T s x w 0 (11 + s)) ≤ 200 := by
        have : s6 (o_gp T s x w 0 (11 + s)) ≤ s6 (T 0 (11 + s)) := s6_mono fun m _ => by
          unfold o_gp
          rw [s_p_00 (by decide), go_slot T s _ _ hs8]
          show (if m = x then T 0 (11 + s) x - w else T 0 (11 + s) m) ≤ _
          split
          · rename_i c; rw [c]; omega
          · exact Nat.le_refl _
        omega
      have qsU : iv_s (o_gp T s x w) := qsT.cf cU
      exact v_tail (s := s) (r := r) p2 qsU (by rw [cU.2.1]; exact hsT) (by rw [u4]; exact h4T) (by rw [u51, t51]; exact qt.2.1) (by omega) (by omega) rfl (fin A2 _ w (o1.t o2) p2 (by rw [e6, ← ex]) ew (by rw [cU.2.1]; exact t8) (by rw [cU.1]; exact t1) (by rw [u4, t4]) (by rw [u51]; exact t51) qsU u0)
end PK

/-! THE REFERENCE DRAFTS A LINE: loads -/
/-- masses from material m on: d may still come -/
def q58 (T : Nat → Nat) (N : Nat) : Nat → Nat → (Nat → Nat) → T_k → q_Pr ((Nat → Nat) × T_k)
  | 0, _, _, t => .error (8 * t.2.1 + 1)
  | d + 1, m, g, t => match p_num T N 0 999 t with
    | .error c => .error c
    | .ok (v, t1) => if t1.1 = 2 then q58 T N d (m + 1) (fun j => if j = m then v else g j) t1 else .ok (fun j => if j = m then v else g j, t1)
theorem q58_mass {T : Nat → Nat} {N : Nat} : ∀ (d m : Nat) (g : Nat → Nat) (t : T_k), t.1 = 2 → (∀ g' t', q58 T N d m g t = .ok (g', t') → p_mass T N d m g t = .ok (g', t')) ∧ ∀ c, q58 T N d m g t = .error c → p_mass T N d m g t = .error c ∨ ∃ g' t', p_mass T N d m g t = .ok (g', t') ∧ p_end T N t' = .error c
  | 0, m, g, t, h => ⟨fun g' t' e => (by cases e), fun c e => Or.inr ⟨g, t, rfl, by
      cases e
      unfold p_end
      rw [if_neg (by omega)]⟩⟩
  | d + 1, m, g, t, h => by
    have e1 : p_mass T N (d + 1) m g t = if t.1 = 2 then (match p_num T N 0 999 t with
      | .error c => .error c
      | .ok (v, t1) => p_mass T N d (m + 1) (fun j => if j = m then v else g j) t1) else .ok (g, t) := rfl
    have e2 : q58 T N (d + 1) m g t = match p_num T N 0 999 t with
      | .error c => .error c
      | .ok (v, t1) => if t1.1 = 2 then q58 T N d (m + 1) (fun j => if j = m then v else g j) t1 else .ok (fun j => if j = m then v else g j, t1) := rfl
    rw [e1, e2, if_pos h]
    cases en : p_num T N 0 999 t with
    | error c => exact ⟨fun g' t' e => (by cases e), fun c' e => Or.inl e⟩
    | ok q =>
      obtain ⟨v, t1⟩ := q
      show (∀ g' t', (if t1.1 = 2 then q58 T N d (m + 1) (fun j => if j = m then v else g j) t1 else .ok (fun j => if j = m then v else g j, t1)) = .ok (g', t') → p_mass T N d (m + 1) (fun j => if j = m then v else g j) t1 = .ok (g', t')) ∧ ∀ c, (if t1.1 = 2 then q58 T N d (m + 1) (fun j => if j = m then v else g j) t1 else .ok (fun j => if j = m then v else g j, t1)) = .error c → p_mass T N d (m + 1) (fun j => if j = m then v else g j) t1 = .error c ∨ ∃ g' t', p_mass T N d (m + 1) (fun j => if j = m then v else g j) t1 = .ok (g', t') ∧ p_end T N t' = .error c
      by_cases c2 : t1.1 = 2
      · rw [if_pos c2]
        exact q58_mass d (m + 1) _ t1 c2
      · rw [if_neg c2]
        refine ⟨fun g' t' e => ?_, fun c e => (by cases e)⟩
        rw [← e]
        cases d with
        | zero => rfl
        | succ d => exact if_neg c2
/-- a load as the reference reads it -/
theorem q58_load {T : Nat → Nat} {N : Nat} {S : s_T} {t : T_k} {d : Nat} (hw : S 2 10 0 < 30) (hd : d + 1 = S 8 0 0) : (∀ g' t', q58 T N (d + 1) 0 (fun _ => 0) (tok T N t.2.2) = .ok (g', t') → p_load T N S t = .ok (o_put S g', t')) ∧ ∀ c, q58 T N (d + 1) 0 (fun _ => 0) (tok T N t.2.2) = .error c → p_load T N S t = .error c ∨ ∃ S' t', p_load T N S t = .ok (S', t') ∧ p_end T N t' = .error c := by
  have ed : S 8 0 0 - 1 = d := by omega
  have e1 : p_load T N S t = match p_num T N 0 999 (tok T N t.2.2) with
    | .error c => .error c
    | .ok (v, t1) => match p_mass T N d 1 (fun j => if j = 0 then v else 0) t1 with
      | .error c => .error c
      | .ok (f, t2) => .ok (o_put S f, t2) := by
    unfold p_load
    rw [if_pos hw, ed]
    rfl
  have e2 : q58 T N (d + 1) 0 (fun _ => 0) (tok T N t.2.2) = match p_num T N 0 999 (tok T N t.2.2) with
    | .error c => .error c
    | .ok (v, t1) => if t1.1 = 2 then q58 T N d 1 (fun j => if j = 0 then v else 0) t1 else .ok (fun j => if j = 0 then v else 0, t1) := rfl
  rw [e1, e2]
  cases en : p_num T N 0 999 (tok T N t.2.2) with
  | error c => exact ⟨fun g' t' e => (by cases e), fun c' e => Or.inl (by cases e; rfl)⟩
  | ok q =>
    obtain ⟨v, t1⟩ := q
    simp only
    by_cases c2 : t1.1 = 2
    · rw [if_pos c2]
      have q := q58_mass (T := T) (N := N) d 1 (fun j => if j = 0 then v else 0) t1 c2
      refine ⟨fun g' t' e => ?_, fun c e => ?_⟩
      · rw [q.1 g' t' e]
      · rcases q.2 c e with e' | ⟨g', t', e', e3⟩
        · exact Or.inl (by rw [e'])
        · exact Or.inr ⟨o_put S g', t', by rw [e'], e3⟩
    · rw [if_neg c2]
      refine ⟨fun g' t' e => ?_, fun c e => (by cases e)⟩
      have e3 : p_mass T N d 1 (fun j => if j = 0 then v else 0) t1 = .ok (fun j => if j = 0 then v else 0, t1) := by
        cases d with
        | zero => rfl
        | succ d => exact if_neg c2
      rw [e3]
      cases e
      rfl
/-- the parcel w holds g -/
def LI (A0 A : q_H) (mo w : Nat) (g : Nat → Nat) : Prop := df A0 A mo ∧ q_I A (mo + 3) = q_I A0 (mo + 3) ∧ q_L A (mo + 5) = q_L A0 (mo + 5) ∧ (∀ x, (x < 42 + 7 * w ∨ 49 + 7 * w ≤ x) → q_I A (mo + 7) x = q_I A0 (mo + 7) x) ∧ (∀ j, j < 6 → q_I A (mo + 7) (42 + 7 * w + j) = nI (g j)) ∧ q_I A (mo + 7) (48 + 7 * w) = nI 0
/-- a load's end -/
def LF (G : q_G) (f : Bool → q_H → Prop) (mo : Nat) (x1 : Int32) (A33 : q_H) : Prop := ∃ r39 : Nat, q_R A33 mo 7 = some r39 ∧ q_Wc G M_X11_totalOf [.ref r39, .int x1] A33 (q_KI fun r42 A41 => q_sh A41 mo = (12, 0) ∧ ∃ r44 : Nat, q_R A41 mo 7 = some r44 ∧ ∃ z47 : Nat, q_sh A41 r44 = (50, z47) ∧ z47 < 2147483648 ∧ 16 < z47 ∧ 9 < z47 ∧ ((r42 ≤ nI 0 → f true (q_setI (q_setI A41 r44 16 ((q_I A41 r44 16) + r42)) r44 9 ((q_I (q_setI A41 r44 16 ((q_I A41 r44 16) + r42)) r44 9) + (nI 0)))) ∧ (¬ r42 ≤ nI 0 → f true (q_setI (q_setI A41 r44 16 ((q_I A41 r44 16) + r42)) r44 9 ((q_I (q_setI A41 r44 16 ((q_I A41 r44 16) + r42)) r44 9) + (nI 1)))))) q_nX
theorem put_ct (S : s_T) (g : Nat → Nat) : s_ct S (o_put S g) := by
  unfold o_put
  by_cases c : s6 g = 0
  · rw [if_pos c]; exact ct_r S
  · rw [if_neg c]; exact ct_t (s_cf.ct (cf_add S g 0)) (ct_p (by decide))
section LD
variable {G : q_G} {X : String → q_H → Prop} {A A0 : q_H} {mo N : Nat} {T : Nat → Nat} {t : T_k} {S : s_T}
theorem v_LF {f : Bool → q_H → Prop} {w : Nat} {g : Nat → Nat} (ew : w = S 2 10 0) (hw : w < 30) (d : DR A0 mo S) (rg : Rgs (q_I A0 (mo + 1))) (l : LI A0 A mo w g) (b : Mb A mo N T) (k : Mk A mo N T t) (h9 : ∀ j, g j ≤ 999)
    (k0 : ∀ A', df A0 A' mo → Dk A' mo N T t (o_put S g) → f true A') : LF G f mo (nI (42 + 7 * w)) A := by
  obtain ⟨l1, l2, l3, l4, l5, l6⟩ := l
  obtain ⟨d1, d2, d3, d4, d5⟩ := d
  have hb := d1.b
  unfold Lb at hb
  have hs : s6 g ≤ 5994 := by
    have := h9 0; have := h9 1; have := h9 2; have := h9 3; have := h9 4; have := h9 5
    unfold s6; omega
  refine ⟨_, b.1.r7, M_totalOf b.1.z7 (by decide) (b := 42 + 7 * w) (by omega) l5 ⟨b.1.z, _, b.1.r7, 788, b.1.z7, by decide, by decide, by decide, ?_⟩⟩
  have e16 : q_I A0 (mo + 7) 16 = nI (S 2 7 0) := d1.tal (i := 7) (by decide) (by decide)
  have e9 : q_I A0 (mo + 7) 9 = nI w := by rw [ew]; exact d1.tal (i := 10) (by decide) (by decide)
  have ct := put_ct S g
  -- what the two numbers leave
  have fin : ∀ v, (v = if s6 g = 0 then 0 else 1) → f true (q_setI (q_setI A (mo + 7) 16 (q_I A (mo + 7) 16 + nI (s6 g))) (mo + 7) 9 (q_I (q_setI A (mo + 7) 16 (q_I A (mo + 7) 16 + nI (s6 g))) (mo + 7) 9 + nI v)) := fun v ev => by
    obtain ⟨A', eA'⟩ : ∃ A', A' = q_setI (q_setI A (mo + 7) 16 (q_I A (mo + 7) 16 + nI (s6 g))) (mo + 7) 9 (q_I (q_setI A (mo + 7) 16 (q_I A (mo + 7) 16 + nI (s6 g))) (mo + 7) 9 + nI v) := ⟨_, rfl⟩
    have E7 : ∀ x, q_I A' (mo + 7) x = if x = 9 then nI (w + v) else if x = 16 then nI (S 2 7 0 + s6 g) else q_I A (mo + 7) x := fun x => by
      have h9' : q_I (q_setI A (mo + 7) 16 (q_I A (mo + 7) 16 + nI (s6 g))) (mo + 7) 9 = nI w := by rw [I_set (Or.inr (show (9 : Nat) ≠ 16 by decide)), l4 9 (by omega), e9]
      rw [eA', h9', l4 16 (by omega), e16, nI_add, nI_add, ix_set, ix_set]
    have fA : df A A' mo := by rw [eA']; exact ((df.r A mo).set (Or.inr (Or.inl rfl))).set (Or.inr (Or.inl rfl))
    have r3 : q_I A' (mo + 3) = q_I A0 (mo + 3) := by rw [eA', row_set (by omega), row_set (by omega), l2]
    have r5 : q_L A' (mo + 5) = q_L A0 (mo + 5) := by rw [eA', q_L_setI, q_L_setI, l3]
    have rm : q_I A' mo = q_I A mo := by rw [eA', row_set (by omega), row_set (by omega)]
    have rw' : RW (q_I A' (mo + 7)) (o_put S g) := by
      unfold o_put
      by_cases c : s6 g = 0
      · rw [if_pos c] at ev ⊢
        refine d1.out fun x hx => ?_
        rw [E7]
        by_cases c9 : x = 9
        · rw [if_pos c9, c9, e9, ev]; rfl
        · rw [if_neg c9]
          by_cases c16 : x = 16
          · rw [if_pos c16, c16, e16, c]; rfl
          · rw [if_neg c16, l4 x (by omega)]
      · rw [if_neg c] at ev ⊢
        have w1 : RW (fun x => if x = 16 then nI (S 2 7 0) else q_I A' (mo + 7) x) (o_add S g 0) := by
          refine d1.add (by omega) (fun y hy hy9 => ?_) (fun j hj => ?_) ?_ ?_
          · show (if y = 16 then _ else _) = _
            by_cases c16 : y = 16
            · rw [if_pos c16, c16, e16]
            · rw [if_neg c16, E7, if_neg hy9, if_neg c16]; exact l4 y (by omega)
          · show (if 42 + 7 * S 2 10 0 + j = 16 then _ else _) = _
            rw [if_neg (by omega), E7, if_neg (by omega), if_neg (by omega), ← ew]; exact l5 j hj
          · show (if 48 + 7 * S 2 10 0 = 16 then _ else _) = _
            rw [if_neg (by omega), E7, if_neg (by omega), if_neg (by omega), ← ew]; exact l6
          · show (if 9 = 16 then _ else _) = _
            rw [if_neg (by decide), E7, if_pos rfl, ev, ew]
        refine w1.put (t := 2) (i := 7) (j := 0) (S 2 7 0 + s6 g) (by unfold dR0; omega) (fun _ => by decide) (fun x => ?_)
        by_cases c16 : x = 16
        · rw [c16, E7]; rfl
        · rw [if_neg (show ¬ x = ri 2 7 0 from c16)]
          show _ = if x = 16 then _ else _
          rw [if_neg c16]
    have e81 : o_put S g 8 = S 8 := ct.1
    have kx := k0 A' (l1.t fA) ⟨b.df fA, k.to rm, ⟨rw', by rw [r3]; exact d2.ct ct, by rw [r5]; exact d3.ct ct, fun s hs hs8 => ?_, fun y hy hy4 => ?_⟩, (l1.t fA).rg rg⟩
    · rw [eA'] at kx; exact kx
    · rw [e81] at hs
      have := d4 s hs hs8
      exact ⟨by rw [E7, if_neg (by omega), if_neg (by omega), l4 _ (by omega)]; exact this.1, fun j hj => by rw [E7, if_neg (by omega), if_neg (by omega), l4 _ (by omega)]; exact this.2 j hj⟩
    · rw [e81] at hy
      rw [E7, if_neg (by omega), if_neg (by omega), l4 _ (by omega)]
      exact d5 y hy hy4
  refine ⟨fun c => fin 0 ?_, fun c => fin 1 ?_⟩
  · have := (nI_leI (by omega) (by decide)).mp c
    rw [if_pos (by omega)]
  · have : ¬ s6 g = 0 := fun e => c (by rw [e]; exact nI_le (Nat.le_refl _) (by decide))
    rw [if_neg this]
theorem v_ld58 {f : Bool → q_H → Prop} {w M : Nat} (ew : w = S 2 10 0) (hw : w < 30) (eM : M = S 8 0 0) (hM : M ≤ 6) (d0 : DR A0 mo S) (rg : Rgs (q_I A0 (mo + 1))) :
    ∀ (d m : Nat) (g : Nat → Nat) (t : T_k) (A : q_H), m + d = M → (m ≠ 0 → t.1 = 2) → (0 < d ∨ m ≠ 0) → LI A0 A mo w g → Mb A mo N T → Mk A mo N T t → (∀ j, g j ≤ 999) →
    (∀ g' t', q58 T N d m g t = .ok (g', t') → ∀ A', df A0 A' mo → Dk A' mo N T t' (o_put S g') → f true A') → (∀ c, q58 T N d m g t = .error c → ∀ A', df A0 A' mo → er A' mo c → f false A') → q_Wp G M_X11_readsLoad (q_KB f) X 0 0 58 [some (.ref mo), some (.int (nI (42 + 7 * w))), some (.int (nI m)), none] [] A
  | 0, m, g, t, A, e, h2, hp, l, b, k, h9, k0, k1 => by
    have hm : m ≠ 0 := by omega
    have e0 : q_I A (mo + 3) 0 = nI M := by rw [l.2.1, eM]; exact d0.2.1.1.1
    have ht := h2 hm
    refine f_X11_readsLoad_58 ⟨b.1.z, fun _ => ⟨_, b.1.r3, 47, b.1.z3, by decide, by decide, ?_⟩, fun c => absurd (by rw [k.1, ht]; rfl) c⟩
    rw [e0]
    exact ⟨fun _ => M_bad b k (by decide) (by decide) fun A' o r => k1 _ rfl A' (l.1.t o.df) r, fun c => absurd (by rw [show m = M by omega]) c⟩
  | d + 1, m, g, t, A, e, h2, hp, l, b, k, h9, k0, k1 => by
    have e0 : q_I A (mo + 3) 0 = nI M := by rw [l.2.1, eM]; exact d0.2.1.1.1
    have e2 : q58 T N (d + 1) m g t = match p_num T N 0 999 t with
      | .error c => .error c
      | .ok (v, t1) => if t1.1 = 2 then q58 T N d (m + 1) (fun j => if j = m then v else g j) t1 else .ok (fun j => if j = m then v else g j, t1) := rfl
    rw [e2] at k0 k1
    have RD : q_Wc G M_X11_reads [.ref mo, .ref (mo + 7), .int (nI (42 + 7 * w) + nI m), .int (nI 0), .int (nI 999)] A (q_KB fun b34 A33 => ((b34 = true → q_sh A33 mo = (12, 0) ∧ (((q_I A33 mo 16) = (nI 3) → q_Wp G M_X11_readsLoad (q_KB f) X 0 0 58 [some (.ref mo), some (.int (nI (42 + 7 * w))), some (.int (nI m + (nI 1))), none] [] A33) ∧ (¬ (q_I A33 mo 16) = (nI 3) → LF G f mo (nI (42 + 7 * w)) A33))) ∧ (b34 = false → f false A33))) q_nX := by
      rw [nI_add]
      refine M_reads b k b.1.z7 (by decide) (by omega) (Or.inr (Or.inl rfl)) (by decide) (by decide) (fun v t1 p1 A1 o1 b1 k1' => ⟨fun _ => ⟨b1.1.z, ?_⟩, fun e => (by cases e)⟩) (fun c p1 A1 o1 r1 => ⟨fun e => (by cases e), fun _ => k1 c (by rw [p1]) A1 (l.1.t o1.df) r1⟩)
      have hv := num_ok p1
      have l1 : LI A0 A1 mo w (fun j => if j = m then v else g j) := by
        obtain ⟨l1, l2, l3, l4, l5, l6⟩ := l
        refine ⟨(l1.set (Or.inr (Or.inl rfl))).t o1.df, by rw [o1.row (by omega), row_set (by omega), l2], by rw [o1.2.2.2.1, q_L_setI, l3], fun x hx => ?_, fun j hj => ?_, ?_⟩
        · rw [o1.row (by omega), I_set (Or.inr (by omega))]; exact l4 x hx
        · rw [o1.row (by omega), ix_set]
          show _ = nI (if j = m then v else g j)
          by_cases c : j = m
          · rw [if_pos c, if_pos (by omega)]
          · rw [if_neg c, if_neg (by omega)]; exact l5 j hj
        · rw [o1.row (by omega), I_set (Or.inr (by omega))]; exact l6
      have h9' : ∀ j, (fun j => if j = m then v else g j) j ≤ 999 := fun j => by
        show (if j = m then v else g j) ≤ 999
        split
        · exact hv.2.1
        · exact h9 j
      simp only [p1] at k0 k1
      rw [k1'.1, nI_add]
      have w5 := k1'.2.2.2.2.2.2.1
      refine ⟨fun c => ?_, fun c => ?_⟩
      · have c2 : t1.1 = 2 := (sg_eq w5 2 (by decide)).mp c
        rw [if_pos c2] at k0 k1
        exact v_ld58 ew hw eM hM d0 rg d (m + 1) _ t1 A1 (by omega) (fun _ => c2) (Or.inr (by omega)) l1 b1 k1' h9' k0 k1
      · have c2 : ¬ t1.1 = 2 := fun e => c (by rw [e]; rfl)
        rw [if_neg c2] at k0
        exact v_LF ew hw d0 rg l1 b1 k1' h9' (k0 _ t1 rfl)
    refine f_X11_readsLoad_58 ⟨b.1.z, fun _ => ⟨_, b.1.r3, 47, b.1.z3, by decide, by decide, ?_⟩, fun _ => ⟨_, b.1.r7, RD⟩⟩
    rw [e0]
    exact ⟨fun c => absurd ((nI_eq (by omega) (by omega)).mp c) (by omega), fun _ => ⟨_, b.1.r7, RD⟩⟩
theorem v_ld35 {f : Bool → q_H → Prop} {w : Nat} (hw : w < 30) (k0 : ∀ A', LI A0 A' mo w (fun _ => 0) → Mb A' mo N T → Mk A' mo N T t → q_Wp G M_X11_readsLoad (q_KB f) X 0 0 58 [some (.ref mo), some (.int (nI (42 + 7 * w))), some (.int (nI 0)), none] [] A') :
    ∀ (d i : Nat) (A : q_H), i + d = 7 → df A0 A mo → q_I A (mo + 3) = q_I A0 (mo + 3) → q_L A (mo + 5) = q_L A0 (mo + 5) → (∀ x, (x < 42 + 7 * w ∨ 49 + 7 * w ≤ x) → q_I A (mo + 7) x = q_I A0 (mo + 7) x) → (∀ j, j < i → q_I A (mo + 7) (42 + 7 * w + j) = nI 0) → Mb A mo N T → Mk A mo N T t → q_Wp G M_X11_readsLoad (q_KB f) X 0 0 35 [some (.ref mo), some (.int (nI (42 + 7 * w))), some (.int (nI i)), none] [] A
  | 0, i, A, e, l1, l2, l3, l4, l5, b, k => by
    have : i = 7 := by omega
    subst this
    refine f_X11_readsLoad_35 ⟨fun _ => k0 A ⟨l1, l2, l3, l4, fun j hj => l5 j (by omega), ?_⟩ b k, fun c => absurd (nI_lt (by decide) (by decide)) c⟩
    have := l5 6 (by decide)
    rw [← this]
    congr 1
    omega
  | d + 1, i, A, e, l1, l2, l3, l4, l5, b, k => by
    refine f_X11_readsLoad_35 ⟨fun c => absurd c (nI_nlt (by omega) (by omega)), fun _ => ⟨b.1.z, _, b.1.r7, 788, b.1.z7, by decide, 42 + 7 * w + i, by rw [nI_add], by omega, ?_⟩⟩
    rw [nI_add]
    refine v_ld35 hw k0 d (i + 1) _ (by omega) (l1.set (Or.inr (Or.inl rfl))) (by rw [row_set (by omega)]; exact l2) l3 (fun x hx => ?_) (fun j hj => ?_) (b.set (Or.inr (Or.inl rfl))) (k.to (row_set (by omega)))
    · rw [I_set (Or.inr (by omega))]; exact l4 x hx
    · by_cases c : j = i
      · rw [c, I_set_s]
      · rw [I_set (Or.inr (by omega))]; exact l5 j (by omega)
theorem M_readsLoad {f : Bool → q_H → Prop} (h : Dk A mo N T t S) (hM : 1 ≤ S 8 0 0 ∧ S 8 0 0 ≤ 6)
    (k0 : ∀ S' t', p_load T N S t = .ok (S', t') → ∀ A', df A A' mo → Dk A' mo N T t' S' → f true A') (k1 : ∀ c, (p_load T N S t = .error c ∨ ∃ S' t', p_load T N S t = .ok (S', t') ∧ p_end T N t' = .error c) → ∀ A', df A A' mo → er A' mo c → f false A') : q_Wc G M_X11_readsLoad [.ref mo] A (q_KB f) X := by
  obtain ⟨b, g, d, rg⟩ := id h
  have hb := d.1.b
  unfold Lb at hb
  obtain ⟨w, ew⟩ : ∃ w, w = S 2 10 0 := ⟨_, rfl⟩
  obtain ⟨M, eM⟩ : ∃ M, M + 1 = S 8 0 0 := ⟨S 8 0 0 - 1, by omega⟩
  have e9 : q_I A (mo + 7) 9 = nI w := by rw [ew]; exact d.1.tal (i := 10) (by decide) (by decide)
  refine f_X11_readsLoad ⟨b.1.z, _, b.1.r7, 788, b.1.z7, by decide, by decide, ?_⟩
  rw [e9]
  refine ⟨fun c => M_bad b g (by decide) (by decide) fun A' o r => k1 _ (Or.inl ?_) A' o.df r, fun c => M_go b g.2.2.2.2.2.1 g.2.2.1 fun A1 o1 b1 g1 => ⟨b1.1.z, _, b1.1.r7, 788, b1.1.z7, by decide, by decide, ?_⟩⟩
  · have c8 : w = 30 := (nI_eq (by omega) (by decide)).mp c
    unfold p_load
    rw [if_neg (by omega)]
  · have hw : w < 30 := by
      have : w ≠ 30 := fun e => c (by rw [e])
      omega
    have q := q58_load (T := T) (N := N) (S := S) (t := t) (d := M) (by omega) eM
    have h1 : Dk A1 mo N T (tok T N t.2.2) S := h.go o1 b1 g1
    rw [show q_I A1 (mo + 7) 9 = nI w by rw [o1.row (by omega), e9]]
    refine M_parcelAt (v_ld35 (A0 := A1) hw (fun A2 l2 b2 g2 => ?_) 7 0 A1 (by decide) (df.r A1 mo) rfl rfl (fun _ _ => rfl) (fun j hj => absurd hj (Nat.not_lt_zero _)) b1 g1)
    exact v_ld58 ew hw rfl (by omega) h1.2.2.1 h1.2.2.2 (M + 1) 0 _ _ A2 (by omega) (fun e => absurd rfl e) (Or.inl (by omega)) l2 b2 g2 (fun _ => Nat.zero_le _) (fun g' t' e A' o k => k0 _ t' (q.1 g' t' e) A' (o1.df.t o) k) (fun c e A' o r => k1 c (q.2 c e) A' (o1.df.t o) r)
end LD

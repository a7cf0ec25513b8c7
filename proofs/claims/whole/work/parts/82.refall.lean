/-! THE REFERENCE READS A TEXT -/
section TA
variable {T : Nat → Nat} {N : Nat}
/-- a token from a on -/
def Ta (T : Nat → Nat) (N a : Nat) (t : T_k) : Prop := ∃ p, a ≤ p ∧ p ≤ N ∧ t = tok T N p
theorem Ta.next {a : Nat} {t : T_k} (h : Ta T N a t) : Ta T N a (tok T N t.2.2) := by
  obtain ⟨p, h1, h2, e⟩ := h
  have b := tok_bd (T := T) h2
  rw [← e] at b
  exact ⟨t.2.2, by omega, b.2.2.1, rfl⟩
theorem Ta.more {a : Nat} {t : T_k} (h : Ta T N a t) (h0 : t.1 ≠ 0) : Ta T N (t.2.1 + 1) (tok T N t.2.2) := by
  obtain ⟨p, h1, h2, e⟩ := h
  have b := tok_bd (T := T) h2
  rw [← e] at b
  have := b.2.2.2.2.1 h0
  exact ⟨t.2.2, by omega, b.2.2.1, rfl⟩
theorem Ta.st {a : Nat} {t : T_k} (h : Ta T N a t) : a ≤ t.2.1 := by
  obtain ⟨p, h1, h2, e⟩ := h
  have b := tok_bd (T := T) h2
  rw [← e] at b
  omega
theorem Ta.end0 {a : Nat} {t : T_k} (h : Ta T N a t) (hN : N ≤ t.2.1) : t.1 = 0 := by
  obtain ⟨p, h1, h2, e⟩ := h
  have b := tok_bd (T := T) h2
  rw [← e] at b
  by_cases c : t.1 = 0
  · exact c
  · have := b.2.2.2.2.1 c
    omega
theorem num_at {a lo hi v : Nat} {t t' : T_k} (e : p_num T N lo hi t = .ok (v, t')) (h : Ta T N a t) : Ta T N a t' := by rw [(num_ok e).2.2.1]; exact h.next
theorem end_at {a : Nat} {t t' : T_k} (e : p_end T N t = .ok t') (h : Ta T N a t) : Ta T N a t' := by
  unfold p_end at e
  split at e
  · cases e; exact h.next
  · cases e
theorem mass_at {a : Nat} : ∀ (d m : Nat) (f : Nat → Nat) (t : T_k) (g : Nat → Nat) (t' : T_k), p_mass T N d m f t = .ok (g, t') → Ta T N a t → Ta T N a t'
  | 0, m, f, t, g, t', e, h => by
    cases e; exact h
  | d + 1, m, f, t, g, t', e, h => by
    have em : p_mass T N (d + 1) m f t = if t.1 = 2 then (match p_num T N 0 999 t with
      | .error c => .error c
      | .ok (v, t1) => p_mass T N d (m + 1) (fun j => if j = m then v else f j) t1) else .ok (f, t) := rfl
    rw [em] at e
    by_cases c : t.1 = 2
    · rw [if_pos c] at e
      cases en : p_num T N 0 999 t with
      | error c => rw [en] at e; cases e
      | ok q =>
        obtain ⟨v, t1⟩ := q
        rw [en] at e
        exact mass_at d (m + 1) _ t1 g t' e (num_at en h)
    · rw [if_neg c] at e
      cases e; exact h
theorem stat_at {S S' : s_T} {a : Nat} {t t' : T_k} (h : p_stat T N S t = .ok (S', t')) (w : Ta T N a (tok T N t.2.2)) : Ta T N a t' := by
  unfold p_stat at h
  split at h
  · unfold p_station at h
    split at h
    · cases e1 : p_num T N 0 (S 8 0 0 - 1) (tok T N t.2.2) with
      | error c => simp only [e1] at h; cases h
      | ok q1 =>
        obtain ⟨v1, t1⟩ := q1
        simp only [e1] at h
        cases e2 : p_num T N 0 9 t1 with
        | error c => simp only [e2] at h; cases h
        | ok q2 =>
          obtain ⟨v2, t2⟩ := q2
          simp only [e2] at h
          cases e3 : p_num T N 1 50 t2 with
          | error c => simp only [e3] at h; cases h
          | ok q3 =>
            obtain ⟨v3, t3⟩ := q3
            simp only [e3] at h
            cases e4 : p_num T N 0 30 t3 with
            | error c => simp only [e4] at h; cases h
            | ok q4 =>
              obtain ⟨v4, t4⟩ := q4
              simp only [e4] at h
              cases h
              exact num_at e4 (num_at e3 (num_at e2 (num_at e1 w)))
    · cases h
  · split at h
    · unfold p_setting at h
      cases e1 : p_num T N 0 7 (tok T N t.2.2) with
      | error c => simp only [e1] at h; cases h
      | ok q1 =>
        obtain ⟨v1, t1⟩ := q1
        simp only [e1] at h
        cases e2 : p_num T N (s_lo v1) (s_hi v1) t1 with
        | error c => simp only [e2] at h; cases h
        | ok q2 =>
          obtain ⟨v2, t2⟩ := q2
          simp only [e2] at h
          cases h
          exact num_at e2 (num_at e1 w)
    · split at h
      · unfold p_load at h
        split at h
        · cases e1 : p_num T N 0 999 (tok T N t.2.2) with
          | error c => simp only [e1] at h; cases h
          | ok q1 =>
            obtain ⟨v1, t1⟩ := q1
            simp only [e1] at h
            cases e2 : p_mass T N (S 8 0 0 - 1) 1 (fun j => if j = 0 then v1 else 0) t1 with
            | error c => simp only [e2] at h; cases h
            | ok q2 =>
              obtain ⟨g, t2⟩ := q2
              simp only [e2] at h
              cases h
              exact mass_at _ _ _ _ _ _ e2 (num_at e1 w)
        · cases h
      · split at h
        · unfold p_buyer at h
          split at h
          · cases e0 : p_name T N S (tok T N t.2.2) with
            | error c => simp only [e0] at h; cases h
            | ok q0 =>
              obtain ⟨v0, t0⟩ := q0
              simp only [e0] at h
              have w0 : Ta T N a t0 := by
                unfold p_name at e0
                split at e0
                · split at e0
                  · cases e0; exact w.next
                  · cases e0
                · cases e0
              cases e1 : p_num T N 0 (S 8 0 0 - 1) t0 with
              | error c => simp only [e1] at h; cases h
              | ok q1 =>
                obtain ⟨v1, t1⟩ := q1
                simp only [e1] at h
                cases e2 : p_num T N 0 2 t1 with
                | error c => simp only [e2] at h; cases h
                | ok q2 =>
                  obtain ⟨v2, t2⟩ := q2
                  simp only [e2] at h
                  cases e3 : p_num T N 1 9999 t2 with
                  | error c => simp only [e3] at h; cases h
                  | ok q3 =>
                    obtain ⟨v3, t3⟩ := q3
                    simp only [e3] at h
                    cases e4 : p_num T N 0 100 t3 with
                    | error c => simp only [e4] at h; cases h
                    | ok q4 =>
                      obtain ⟨v4, t4⟩ := q4
                      simp only [e4] at h
                      cases e5 : p_num T N 0 100 t4 with
                      | error c => simp only [e5] at h; cases h
                      | ok q5 =>
                        obtain ⟨v5, t5⟩ := q5
                        simp only [e5] at h
                        cases h
                        exact num_at e5 (num_at e4 (num_at e3 (num_at e2 (num_at e1 w0))))
          · cases h
        · cases h
end TA
/-- what follows a statement -/
def AF (G : q_G) (f : Bool → q_H → Prop) (X : String → q_H → Prop) (mo : Nat) (b74 : Bool) (A73 : q_H) : Prop := (b74 = true → q_sh A73 mo = (12, 0) ∧ q_Wc G M_X11_ends [.ref mo] A73 (q_KB fun b79 A78 => ((b79 = true → q_Wp G M_X11_readsAll (q_KB f) X 0 0 47 [some (.ref mo), none] [] A78) ∧ (b79 = false → f false A78))) q_nX) ∧ (b74 = false → f false A73)
section RA
variable {G : q_G} {X : String → q_H → Prop} {A A0 : q_H} {mo N : Nat} {T : Nat → Nat} {t : T_k} {S : s_T}
theorem M_all47 {f : Bool → q_H → Prop} (h : Dk A mo N T t S) (hM : 1 ≤ S 8 0 0 ∧ S 8 0 0 ≤ 6) (h0 : t.1 ≠ 0)
    (k0 : ∀ S' t', p_stat T N S t = .ok (S', t') → ∀ A', df A A' mo → Dk A' mo N T t' S' → AF G f X mo true A') (k1 : ∀ c, (p_stat T N S t = .error c ∨ ∃ S' t', p_stat T N S t = .ok (S', t') ∧ p_end T N t' = .error c) → ∀ A', df A A' mo → er A' mo c → AF G f X mo false A') : q_Wp G M_X11_readsAll (q_KB f) X 0 0 47 [some (.ref mo), none] [] A := by
  unfold p_stat at k0 k1
  have b := h.1
  have g := h.2.1
  have w5 := g.2.2.2.2.2.2.1
  refine f_X11_readsAll_47 ⟨b.1.z, fun c => ?_, fun _ => M_word1 b g ⟨fun c1 => ⟨b.1.z, ?_⟩, fun c1 => ⟨b.1.z, M_word2 b g ⟨fun c2 => ⟨b.1.z, ?_⟩, fun c2 => ⟨b.1.z, M_word3 b g ⟨fun c3 => ⟨b.1.z, ?_⟩, fun c3 => ⟨b.1.z, M_word4 b g ⟨fun c4 => ⟨b.1.z, ?_⟩, fun c4 => ⟨b.1.z, ?_⟩⟩⟩⟩⟩⟩⟩⟩⟩
  · rw [g.1] at c
    exact absurd ((sg_eq w5 0 (by decide)).mp c) h0
  · simp only [c1, if_true] at k0 k1
    exact M_readsStation h hM k0 (fun c e => k1 c (Or.inl e))
  · simp only [c1, c2, if_true, Bool.false_eq_true, if_false] at k0 k1
    exact M_readsSetting h k0 (fun c e => k1 c (Or.inl e))
  · simp only [c1, c2, c3, if_true, Bool.false_eq_true, if_false] at k0 k1
    exact M_readsLoad h hM k0 k1
  · simp only [c1, c2, c3, c4, if_true, Bool.false_eq_true, if_false] at k0 k1
    exact M_readsBuyer h hM k0 (fun c e => k1 c (Or.inl e))
  · simp only [c1, c2, c3, c4, Bool.false_eq_true, if_false] at k0 k1
    exact M_bad b g (by decide) (by decide) fun A' o r => k1 _ (Or.inl rfl) A' o.df r
theorem M_fin47 {f : Bool → q_H → Prop} (h : Dk A mo N T t S) (h0 : t.1 = 0) (j0 : ∀ S', p_fin S t = .ok S' → f true A) (j1 : ∀ c, p_fin S t = .error c → ∀ A', df A A' mo → er A' mo c → f false A') : q_Wp G M_X11_readsAll (q_KB f) X 0 0 47 [some (.ref mo), none] [] A := by
  have b := h.1
  have g := h.2.1
  have hb := h.2.2.1.1.b
  unfold Lb at hb
  have e1 : q_I A (mo + 3) 1 = nI (S 8 1 0) := h.2.2.1.2.1.1.2.1
  refine f_X11_readsAll_47 ⟨b.1.z, fun _ => ⟨_, b.1.r3, 47, b.1.z3, by decide, by decide, ?_⟩, fun c => absurd (by rw [g.1, h0]; rfl) c⟩
  rw [e1]
  unfold p_fin at j0 j1
  refine ⟨fun c => ?_, fun c => M_bad b g (by decide) (by decide) fun A' o r => ⟨fun e => (by cases e), fun _ => j1 _ (if_pos ?_) A' o.df r⟩⟩
  · have := (nI_ltI (by decide) (by omega)).mp c
    exact j0 S (if_neg (by omega))
  · have : ¬ 0 < S 8 1 0 := fun e => c (nI_lt e (by omega))
    omega
theorem v_all47 {f : Bool → q_H → Prop} : ∀ (d : Nat) (A : q_H) (S : s_T) (t : T_k) (a : Nat), N ≤ t.2.1 + d → Ta T N a t → df A0 A mo → Dk A mo N T t S → rv S →
    (∀ S', p_loop T N d S t = .ok S' → ∀ A', df A0 A' mo → DR A' mo S' → f true A') → (∀ c, p_loop T N d S t = .error c → ∀ A', df A0 A' mo → er A' mo c → f false A') → q_Wp G M_X11_readsAll (q_KB f) X 0 0 47 [some (.ref mo), none] [] A
  | 0, A, S, t, a, hd, ha, o, h, r, k0, k1 =>
    M_fin47 h (ha.end0 (by omega)) (fun S' e => k0 S' e A o (by
      have e2 := e
      unfold p_fin at e2
      split at e2
      · cases e2
      · cases e2; exact h.2.2.1)) (fun c e A' o' er' => k1 c e A' (o.t o') er')
  | d + 1, A, S, t, a, hd, ha, o, h, r, k0, k1 => by
    have el : p_loop T N (d + 1) S t = if t.1 = 0 then p_fin S t else match p_stat T N S t with
      | .error c => .error c
      | .ok (S', t1) => match p_end T N t1 with
        | .error c => .error c
        | .ok t2 => p_loop T N d S' t2 := rfl
    rw [el] at k0 k1
    by_cases c0 : t.1 = 0
    · rw [if_pos c0] at k0 k1
      refine M_fin47 h c0 (fun S' e => k0 S' e A o ?_) (fun c e A' o' er' => k1 c e A' (o.t o') er')
      have e2 := e
      unfold p_fin at e2
      split at e2
      · cases e2
      · cases e2; exact h.2.2.1
    · rw [if_neg c0] at k0 k1
      refine M_all47 h ⟨r.1.1, r.1.2.1⟩ c0 (fun S' t1 e1 A1 o1 h1 => ⟨fun _ => ⟨h1.1.1.z, M_ends h1.1 h1.2.1 (fun t2 e2 A2 o2 b2 g2 => ⟨fun _ => ?_, fun e => (by cases e)⟩) (fun c e2 A2 o2 r2 => ⟨fun e => (by cases e), fun _ => k1 c (by simp only [e1, e2]) A2 ((o.t o1).t o2.df) r2⟩)⟩, fun e => (by cases e)⟩) (fun c e1 A1 o1 r1 => ⟨fun e => (by cases e), fun _ => k1 c ?_ A1 (o.t o1) r1⟩)
      · simp only [e1, e2] at k0 k1
        have h2 := h1.go o2 b2 g2
        have w := ha.more c0
        have w1 := end_at e2 (stat_at e1 w)
        have hw : Tw T N (tok T N t.2.2) := Tw_tok h.2.1.2.2.2.2.2.1
        have := w1.st
        exact v_all47 d A2 S' t2 _ (by omega) w1 ((o.t o1).t o2.df) h2 (rv_stat r hw e1) k0 k1
      · rcases e1 with e1 | ⟨S', t1, e1, e2⟩
        · simp only [e1]
        · simp only [e1, e2]
/-- the draft before the text -/
def LY (V3 V7 : Nat → Int32) : Prop := (∀ x, x < 47 → V3 x = nI 0) ∧ (∀ i, i < 8 → V7 i = nI (s_0 1 i 0)) ∧ (∀ s, s < 8 → V7 (258 + 7 * s) = -1) ∧ ∀ x, 8 ≤ x → x < 788 → (∀ s, s < 8 → x ≠ 258 + 7 * s) → V7 x = nI 0
theorem LY.dr {A : q_H} {mo : Nat} {V3 V7 : Nat → Int32} (l : LY V3 V7) {v : Nat} (e3 : ∀ x, q_I A (mo + 3) x = if x = 0 then nI v else V3 x) (e7 : q_I A (mo + 7) = V7) : DR A mo (s_p s_0 8 0 0 v) := by
  obtain ⟨l1, l2, l3, l4⟩ := l
  have z81 : s_p s_0 8 0 0 v 8 1 0 = 0 := rfl
  have z82 : s_p s_0 8 0 0 v 8 2 0 = 0 := rfl
  have z210 : s_p s_0 8 0 0 v 2 10 0 = 0 := rfl
  have z211 : s_p s_0 8 0 0 v 2 11 0 = 0 := rfl
  unfold DR
  rw [e7]
  refine ⟨⟨by unfold Lb; omega, fun t i j d => ?_, fun h m q hm => ?_, fun s hs => by omega, ?_⟩, ⟨⟨?_, ?_, ?_⟩, fun s j hs => by omega, fun b j hb => by omega⟩, fun b hb => by omega, fun s hs hs8 => ⟨l3 s hs8, fun j hj => l4 _ (by omega) (by omega) fun s' hs' => by omega⟩, fun b hb hb4 => l4 _ (by omega) (by omega) fun s' hs' => by omega⟩
  · obtain ⟨d0, d1, d2, d3, d4⟩ := d
    rcases ri_cases d0 with ⟨g, a, b, q⟩ | ⟨g, a, b, c, q⟩ | ⟨g, q⟩ | ⟨g, q⟩ | ⟨g, q⟩ | ⟨g, q⟩
    · rw [q, g, b]
      exact l2 i a
    · have := r2_bd a b
      rw [q, g, c, l4 _ (by omega) (by omega) fun s' hs' => by omega]
      rfl
    · have := d1 g; omega
    · have := d2 g; omega
    · have := d3 g; omega
    · have := d4 g; omega
  · have h3 : h < 3 := by
      unfold lR at q
      omega
    have : s_p s_0 8 0 0 v 0 h m = 0 := rfl
    rw [this]
    have h3' : h = 0 ∨ h = 1 ∨ h = 2 := by omega
    rcases h3' with e | e | e <;> subst e
    · exact l4 (24 + m) (by omega) (by omega) fun s' hs' => by omega
    · exact l4 (36 + m) (by omega) (by omega) fun s' hs' => by omega
    · exact l4 (30 + m) (by omega) (by omega) fun s' hs' => by omega
  · rw [l4 19 (by decide) (by decide) fun s' hs' => by omega]; rfl
  · rw [e3, if_pos rfl]; rfl
  · rw [e3, if_neg (by decide), l1 1 (by decide), z81]
  · rw [e3, if_neg (by decide), l1 2 (by decide), z82]
theorem M_readsAll {f : Bool → q_H → Prop} (b : Mb A mo N T) (e14 : q_I A mo 14 = nI 0) (l : LY (q_I A (mo + 3)) (q_I A (mo + 7))) (rg : Rgs (q_I A (mo + 1)))
    (k0 : ∀ S', p_text T N = .ok S' → ∀ A', df A A' mo → DR A' mo S' → f true A') (k1 : ∀ c, p_text T N = .error c → ∀ A', df A A' mo → er A' mo c → f false A') : q_Wc G M_X11_readsAll [.ref mo] A (q_KB f) X := by
  have hN := b.2.2.1
  refine f_X11_readsAll ⟨b.1.z, M_go b (Nat.zero_le _) e14 fun A1 o1 b1 g1 => ⟨b1.1.z, M_word0 b1 g1 ⟨fun c => ⟨b1.1.z, M_go b1 g1.2.2.2.2.2.1 g1.2.2.1 fun A2 o2 b2 g2 => ⟨b2.1.z, _, b2.1.r3, ?_⟩⟩, fun c => ⟨b1.1.z, M_bad b1 g1 (by decide) (by decide) fun A' o r => k1 _ ?_ A' (o1.df.t o.df) r⟩⟩⟩⟩
  · unfold p_text at k0 k1
    simp only [c, if_true] at k0 k1
    refine M_reads (j := 0) b2 g2 b2.1.z3 (by decide) (by decide) (Or.inl rfl) (by decide) (by decide) (fun v t1 p1 A3 o3 b3 g3 => ⟨fun _ => ⟨b3.1.z, M_ends b3 g3 (fun t2 p2 A4 o4 b4 g4 => ⟨fun _ => ?_, fun e => (by cases e)⟩) (fun c p2 A4 o4 r4 => ⟨fun e => (by cases e), fun _ => k1 c (by simp only [p1, p2]) A4 ?_ r4⟩)⟩, fun e => (by cases e)⟩) (fun c p1 A3 o3 r3 => ⟨fun e => (by cases e), fun _ => k1 c (by simp only [p1]) A3 ((o1.df.t o2.df).t o3.df) r3⟩)
    · have f3 : df A A3 mo := ((o1.df.t o2.df).set (Or.inl rfl)).t o3.df
      have f4 : df A A4 mo := f3.t o4.df
      have hv := num_ok p1
      simp only [p1, p2] at k0 k1
      have e3 : ∀ x, q_I A4 (mo + 3) x = if x = 0 then nI v else q_I A (mo + 3) x := fun x => by
        rw [o4.row (by omega), o3.row (by omega), ix_set, o2.row (by omega), o1.row (by omega)]
      have e7 : q_I A4 (mo + 7) = q_I A (mo + 7) := by
        rw [o4.row (by omega), o3.row (by omega), row_set (by omega), o2.row (by omega), o1.row (by omega)]
      have t0 : Ta T N 0 (tok T N 0) := ⟨0, Nat.le_refl _, Nat.zero_le _, rfl⟩
      have w2 := end_at p2 (num_at p1 t0.next)
      exact v_all47 (A0 := A) 700 A4 _ t2 0 (by omega) w2 f4 ⟨b4, g4, l.dr e3 e7, f4.rg rg⟩ (rv_0 hv.1 hv.2.1) k0 k1
    · exact (((o1.df.t o2.df).set (Or.inl rfl)).t o3.df).t o4.df
  · unfold p_text
    rw [if_neg (by rw [c]; decide)]
end RA

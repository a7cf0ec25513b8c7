/-! new RecyclingLine -/
def s_1 : s_T := o_addS (s_p s_0 8 0 0 1) 0 0 1 0
theorem rv_1 : rv s_1 := rv_station (rv_0 (by decide) (by decide)) (by decide) (by decide) (by decide) (by decide) (by decide)
theorem iv_1 : iv s_1 ∧ iv5 s_1 := rv_iv rv_1 (by decide)
theorem Nl.lr {B A : q_H} {b : Nat} (h : Nl B A b 8 4) (hz : q_sz A = b + 277) : Lr A (l_new b) s_0 := by
  obtain ⟨n, w, s, i⟩ := h.g
  have j := h.2.2.2.2
  have lb : Lb s_0 := ⟨Nat.zero_le _, Nat.zero_le _, Nat.zero_le _, Nat.zero_le _⟩
  have e0 : l_a (l_new b) = b := rfl
  refine ⟨w, s, lb, fun x hx => ?_, fun t i j' d => ?_, fun s _ h0 => absurd rfl h0, i⟩
  · have hin := ha_in (l_new b) w (lv_89 lb hx)
    rw [e0] at hin
    have hx3 : x < 3 := by
      unfold lv at hx
      have c1 : s_0 8 1 0 = 0 := rfl
      have c2 : s_0 2 10 0 = 0 := rfl
      have c3 : s_0 2 11 0 = 0 := rfl
      omega
    have hne : ha (l_new b) x ≠ b + 1 ∧ ha (l_new b) x + 1 ≠ b + 1 := by
      have : x = 0 ∨ x = 1 ∨ x = 2 := by omega
      rcases this with e | e | e <;> subst e
      · have : ha (l_new b) 0 = b + 218 := rfl
        omega
      · have : ha (l_new b) 1 = b + 221 := rfl
        omega
      · have : ha (l_new b) 2 = b + 223 := rfl
        omega
    exact ⟨fun m _ => j.1 _ (by omega) (by omega) hne.2 _, j.1 _ (by omega) (by omega) hne.1 _⟩
  · have hin := ca_in (l_new b) w d.1
    rw [e0] at hin
    obtain ⟨d1, d2, d3, d4, d5⟩ := d
    have q2 : t = 3 → i < 0 := d2
    have q3 : t = 5 ∨ t = 9 → i < 0 := d3
    have q4 : t = 6 → i < 0 := d4
    have q5 : t = 7 ∨ t = 10 ∨ t = 11 → i < 0 := d5
    have cs : (t = 1 ∧ i < 8 ∧ j' = 0) ∨ (t = 2 ∧ i < 12 ∧ j' = 0) ∨ (t = 8 ∧ i < 3 ∧ j' = 0) := by
      unfold dm0 at d1
      omega
    rcases cs with ⟨rfl, hi, rfl⟩ | ⟨rfl, hi, rfl⟩ | ⟨rfl, hi, rfl⟩
    · have e1 : ca (l_new b) 1 i = b + 1 := rfl
      have e2 : cf 1 i 0 = i := rfl
      rw [e1, e2, j.2 i hi, sval0 i hi]
    · have hne : ca (l_new b) 2 i ≠ b + 1 := by
        have e1 : ca (l_new b) 2 i = if i < 10 then b + 220 else if i = 10 then b + 4 else b + 96 := rfl
        rw [e1]
        split
        · omega
        · split <;> omega
      exact j.1 _ (by omega) (by omega) hne _
    · have hne : ca (l_new b) 8 i ≠ b + 1 := by
        have e1 : ca (l_new b) 8 i = b := rfl
        omega
      exact j.1 _ (by omega) (by omega) hne _
section OI
variable {G : q_G} {X : String → q_H → Prop} {B : q_H}
theorem C_init {f : q_H → Prop} {rl : Nat} (T : Nat → Int32) (h : Nat → s_T) (eb : rl = q_sz B) (k : ∀ A L, (∀ x, x < q_sz B → q_same B A x) → Rc B A rl rl 0 L s_1 h 0 0 0 T → f A) : q_Wc G M_X10_init [.ref rl] (q_new B 11 0) (q_KV f) X := by
  obtain ⟨E, eE⟩ : ∃ E, E = q_new B 11 0 := ⟨_, rfl⟩
  have zE : q_sz E = rl + 1 := by rw [eE, eb]; rfl
  have shE : q_sh E rl = (11, 0) := by rw [eE, eb]; exact sh_new_s _ _ _
  have IE : ∀ k, q_I E rl k = nI 0 := fun k => by rw [eE, eb, q_I_new, q_rw_s]; rfl
  have RE : ∀ k, q_R E rl k = none := fun k => by rw [eE, eb, q_R_new, q_rw_s]
  have sE : ∀ x, x < rl → q_same B E x := fun x hx => by rw [eE]; exact (q_same.r B x).new (by omega)
  rw [← eE]
  have sh1 : q_sh (q_new E 51 700) rl = (11, 0) := (sh_new_n (by omega)).trans shE
  refine f_X10_init ⟨sh1, ?_⟩
  obtain ⟨C, eC⟩ : ∃ C, C = q_setR (q_new E 51 700) rl 0 (some (q_sz E)) := ⟨_, rfl⟩
  have zC : q_sz C = rl + 2 := by rw [eC]; show q_sz E + 1 = _; omega
  have shC : q_sh C rl = (11, 0) ∧ q_sh C (rl + 1) = (51, 700) := by
    rw [eC]
    exact ⟨sh1, by rw [← zE]; exact sh_new_s E 51 700⟩
  have rC : q_R C rl 0 = some (rl + 1) ∧ ∀ k, k ≠ 0 → q_R C rl k = none := by
    rw [eC]
    exact ⟨by rw [R_set_s, zE], fun k hk => by rw [R_set (Or.inr hk), q_R_new, q_rw_a _ _ _ (by omega)]; exact RE k⟩
  have iC : ∀ k, q_I C rl k = nI 0 := fun k => by
    rw [eC]
    show q_I (q_new E 51 700) rl k = _
    rw [q_I_new, q_rw_a _ _ _ (by omega)]; exact IE k
  have sC : ∀ x, x < rl → q_same B C x := fun x hx => by rw [eC]; exact ((sE x hx).new (by omega)).setR (by omega)
  rw [← eC, zC]
  refine N_line zC.symm fun A4 g4 => ?_
  obtain ⟨n4, w4, s4, i4⟩ := g4.g
  have z4 : q_sz A4 = rl + 279 := by rw [n4.1, zC]
  have l4 := g4.lr (by omega)
  have c0 := n4.2 rl (by omega)
  have c1 := n4.2 (rl + 1) (by omega)
  obtain ⟨D, eD⟩ : ∃ D, D = q_setR A4 rl 2 (some (rl + 2)) := ⟨_, rfl⟩
  have zD : q_sz D = rl + 279 := by rw [eD]; exact z4
  have shD : q_sh D rl = (11, 0) := by rw [eD]; exact c0.1.trans shC.1
  rw [← eD, zD]
  refine ⟨c0.1.trans shC.1, (sh_new_n (by omega)).trans shD, fun A9 e9 => ?_⟩
  have z9 : q_sz A9 = rl + 280 := by rw [e9]; show q_sz D + 1 = _; omega
  have s9 : ∀ y, y < rl + 279 → y ≠ rl → q_same A4 A9 y := fun y h1 h2 => by
    rw [e9, eD]
    exact (((q_same.r A4 y).setR h2).new (by show y ≠ q_sz A4; omega)).setR h2
  have r9 : q_R A9 rl 0 = some (rl + 1) ∧ q_R A9 rl 2 = some (rl + 2) ∧ q_R A9 rl 3 = none ∧ q_R A9 rl 4 = some (rl + 279) := by
    have e : ∀ k, k ≠ 4 → q_R A9 rl k = q_R D rl k := fun k hk => by rw [e9, R_set (Or.inr hk), q_R_new, q_rw_a _ _ _ (by omega)]
    refine ⟨?_, ?_, ?_, by rw [e9, R_set_s]⟩
    · rw [e 0 (by decide), eD, R_set (Or.inr (by decide)), c0.2.2.1]; exact rC.1
    · rw [e 2 (by decide), eD, R_set_s]
    · rw [e 3 (by decide), eD, R_set (Or.inr (by decide)), c0.2.2.1]; exact rC.2 3 (by decide)
  have i9 : ∀ k, q_I A9 rl k = nI 0 := fun k => by
    rw [e9]
    show q_I (q_new D 64 6) rl k = _
    rw [q_I_new, q_rw_a _ _ _ (by omega), eD]
    show q_I A4 rl k = _
    rw [c0.2.1]; exact iC k
  have sh9 : q_sh A9 rl = (11, 0) ∧ q_sh A9 (rl + 279) = (64, 6) := by
    rw [e9]
    exact ⟨(sh_new_n (by omega)).trans shD, by rw [← zD]; exact sh_new_s D 64 6⟩
  have r279 : ∀ k, q_R A9 (rl + 279) k = none := fun k => by
    rw [e9, R_set (Or.inl (by omega)), q_R_new, ← zD, q_rw_s]
  have e0 : l_a (l_new (rl + 2)) = rl + 2 := rfl
  have l9 : Lr A9 (l_new (rl + 2)) s_0 := l4.sm fun x h1 h2 => s9 x (by omega) (by omega)
  have p9 : Lp A9 A9 (l_new (rl + 2)) s_0 := ⟨l9, fr.r _ _ _⟩
  have shl : q_sh (q_new D 64 6) (rl + 2) = (5, 0) := by
    rw [sh_new_n (by omega), eD]
    exact l4.2.1.1.1.1
  refine ⟨rl + 2, r9.2.1, shl, ?_⟩
  have p10 := p9.put (t := 8) (i := 0) (j := 0) 1 (by unfold dm0; omega) ⟨fun e => absurd e (by decide), fun _ => rfl⟩
  refine L_addStation (l := l_new (rl + 2)) p10 (by decide) fun A13 p13 => ?_
  have f13 := p13.2
  rw [e0] at f13
  have d0 := f13.2 rl (by omega) (by omega)
  have d1 := f13.2 (rl + 1) (by omega) (by omega)
  have d2 := f13.2 (rl + 279) (by omega) (by omega)
  have z13 : rl + 280 ≤ q_sz A13 := by have := f13.1; omega
  have d1' := s9 (rl + 1) (by omega) (by omega)
  have frm : ∀ x, x < q_sz B → q_same B A13 x := fun x hx => by
    have hx' : x < rl := by rw [eb]; exact hx
    exact (((sC x hx').t (n4.2 x (by omega))).t (s9 x (by omega) (by omega))).t (f13.2 x (by omega) (by omega))
  have hB : q_sz B = rl := eb.symm
  have ra : Ra A13 rl := ⟨d0.1.trans sh9.1, by rw [d0.2.2.1]; exact r9.1, d1.1.trans (d1'.1.trans (c1.1.trans shC.2)), by rw [d0.2.2.1]; exact r9.2.2.2, d2.1.trans sh9.2⟩
  have rr2 : q_R A13 rl 2 = some (rl + 2) := by rw [d0.2.2.1]; exact r9.2.1
  have rr3 : q_R A13 rl 3 = none := by rw [d0.2.2.1]; exact r9.2.2.1
  have rr4 : ∀ i, q_R A13 (rl + 279) i = none := fun i => by rw [d2.2.2.1]; exact r279 i
  have ii : ∀ k, q_I A13 rl k = nI 0 := fun k => by rw [d0.2.1]; exact i9 k
  obtain ⟨L, eL⟩ : ∃ L : L_T, L = fun j => if j = 0 then some (l_new (rl + 2)) else none := ⟨_, rfl⟩
  have l0 : L 0 = some (l_new (rl + 2)) := by rw [eL]; rfl
  have lj : ∀ j, j ≠ 0 → L j = none := fun j hj => by rw [eL]; exact if_neg hj
  clear eL zE shE IE RE sE sh1 eC zC shC rC iC sC g4 n4 w4 s4 i4 z4 l4 c0 c1 eD zD shD e9 z9 s9 r9 i9 sh9 r279 l9 p9 shl p10 f13 d0 d1 d2 d1'
  refine k A13 L frm ⟨⟨ra, ⟨?_, ?_, fun i hi => ?_⟩, ⟨Or.inr (Nat.le_refl _), by omega, by omega⟩, fun j t hj ej => ?_, fun i j t u hi hj hij e1 e2 => ?_⟩, ⟨⟨_, l0, p13.1⟩, fun i hi => absurd hi (Nat.not_lt_zero _)⟩, ⟨ii 5, by decide, ii 6, by decide⟩, ⟨ii 1, by decide, fun j hj => absurd hj (Nat.not_lt_zero _)⟩, by omega, fun y h1 h2 => by omega⟩
  · unfold L_at
    rw [l0]; exact rr2
  · unfold L_at
    rw [lj 1 (by decide)]; exact rr3
  · unfold L_at
    rw [lj (2 + i) (by omega)]; exact rr4 i
  · by_cases c : j = 0
    · subst c
      rw [l0] at ej
      cases ej
      refine ⟨p13.1.g, ?_⟩
      unfold Rq
      rw [e0]
      omega
    · rw [lj j c] at ej
      cases ej
  · by_cases c : i = 0
    · by_cases c2 : j = 0
      · omega
      · rw [lj j c2] at e2; cases e2
    · rw [lj i c] at e1; cases e1
end OI

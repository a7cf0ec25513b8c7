/-! WHAT HOLDS BETWEEN TWO CALLS -/
def gd (S : s_T) : Prop := iv S ∧ iv5 S ∧ S 2 0 0 ≤ 9999
theorem iv5.to {S S' : s_T} (h : iv5 S) (e8 : S' 8 = S 8) (e2 : S' 2 0 0 = S 2 0 0) (e5 : ∀ s, S' 5 s 3 = S 5 s 3) : iv5 S' := fun s hs => by
  rw [e8] at hs
  rw [e5, e2]
  exact h s hs
theorem rv_gd {S : s_T} (r : rv S) (h1 : 1 ≤ S 8 1 0) : gd S := by
  have a := rv_iv r h1
  have e := r.2.2.2.2.2.2.2.2.1
  exact ⟨a.1, a.2, by omega⟩
theorem gd_1 : gd s_1 := ⟨iv_1.1, iv_1.2, by decide⟩
section RT
variable {T : Nat → Nat} {N : Nat}
theorem rv_loop : ∀ (d : Nat) (S : s_T) (t : T_k) (a : Nat) (S' : s_T), Ta T N a t → rv S → p_loop T N d S t = .ok S' → rv S' ∧ 1 ≤ S' 8 1 0
  | 0, S, t, a, S', ha, r, h => by
    have h' : p_fin S t = .ok S' := h
    unfold p_fin at h'
    split at h'
    · cases h'
    · cases h'
      exact ⟨r, by omega⟩
  | d + 1, S, t, a, S', ha, r, h => by
    have el : p_loop T N (d + 1) S t = if t.1 = 0 then p_fin S t else match p_stat T N S t with
      | .error c => .error c
      | .ok (S', t1) => match p_end T N t1 with
        | .error c => .error c
        | .ok t2 => p_loop T N d S' t2 := rfl
    rw [el] at h
    by_cases c0 : t.1 = 0
    · rw [if_pos c0] at h
      unfold p_fin at h
      split at h
      · cases h
      · cases h
        exact ⟨r, by omega⟩
    · rw [if_neg c0] at h
      cases e1 : p_stat T N S t with
      | error c => simp only [e1] at h; cases h
      | ok q1 =>
        obtain ⟨S1, t1⟩ := q1
        simp only [e1] at h
        cases e2 : p_end T N t1 with
        | error c => simp only [e2] at h; cases h
        | ok t2 =>
          simp only [e2] at h
          have w := ha.more c0
          obtain ⟨p, p1, p2, p3⟩ := id w
          have hw : Tw T N (tok T N t.2.2) := by rw [p3]; exact Tw_tok p2
          exact rv_loop d S1 t2 _ S' (end_at e2 (stat_at e1 w)) (rv_stat r hw e1) h
theorem rv_text {S' : s_T} (h : p_text T N = .ok S') : rv S' ∧ 1 ≤ S' 8 1 0 := by
  unfold p_text at h
  split at h
  · have t0 : Ta T N 0 (tok T N 0) := ⟨0, Nat.le_refl _, Nat.zero_le _, rfl⟩
    cases e1 : p_num T N 1 6 (tok T N (tok T N 0).2.2) with
    | error c => simp only [e1] at h; cases h
    | ok q1 =>
      obtain ⟨v, t1⟩ := q1
      simp only [e1] at h
      cases e2 : p_end T N t1 with
      | error c => simp only [e2] at h; cases h
      | ok t2 =>
        simp only [e2] at h
        have hv := num_ok e1
        exact rv_loop 700 _ t2 0 S' (end_at e2 (num_at e1 t0.next)) (rv_0 hv.1 hv.2.1) h
  · cases h
end RT
section GD
variable {S : s_T} {x y : Int32}
theorem gd_load (g : gd S) (h : (e_load S x y).1 = 0) : gd (e_load S x y).2.2 ∧ s_ct S (e_load S x y).2.2 := by
  rcases ix_cases x (S 8 0 0) (by have := g.1.1.2.1; omega) with ⟨m, hm, -, ex⟩ | ⟨-, ex⟩
  · rcases ix_cases y 1000 (by decide) with ⟨v, hv, -, ey⟩ | ⟨-, ey⟩
    · have ee : e_load S x y = if v = 0 then (2, 0, S) else if S 2 10 0 < 30 then (0, nI (S 2 10 0 + 1), o_load S m v) else (3, 0, S) := by simp only [e_load, ex, ey]
      by_cases c : v = 0
      · rw [ee, if_pos c] at h
        cases h
      · by_cases c2 : S 2 10 0 < 30
        · rw [ee, if_neg c, if_pos c2]
          have ct : s_ct S (o_load S m v) := ct_t (s_cf.ct (cf_add S _ _)) (ct_p (by decide))
          exact ⟨⟨iv_load g.1 c2 hm (by omega) (by omega), g.2.1.to ct.1 rfl (fun s => rfl), g.2.2⟩, ct⟩
        · rw [ee, if_neg c, if_neg c2] at h
          cases h
    · have ee : e_load S x y = (2, 0, S) := by simp only [e_load, ex, ey]
      rw [ee] at h
      cases h
  · have ee : e_load S x y = (1, 0, S) := by simp only [e_load, ex]
    rw [ee] at h
    cases h
theorem gd_set (g : gd S) (h : (e_set S x y).1 = 0) : gd (e_set S x y).2.2 ∧ s_ct S (e_set S x y).2.2 := by
  rcases ix_cases x 8 (by decide) with ⟨i, hi, -, ex⟩ | ⟨-, ex⟩
  · have hsh := hi_le i
    rcases ix_cases y (s_hi i + 1) (by omega) with ⟨v, hv, -, ey⟩ | ⟨-, ey⟩
    · have ee : e_set S x y = if v < s_lo i then (2, 0, S) else (0, nI (S 1 i 0), s_p S 1 i 0 v) := by simp only [e_set, ex, ey]
      by_cases c : v < s_lo i
      · rw [ee, if_pos c] at h
        cases h
      · rw [ee, if_neg c]
        have q8 : s_p S 1 i 0 v 8 = S 8 := s_p_t (by decide)
        exact ⟨⟨iv_set g.1 hi (by omega) (by omega), g.2.1.to q8 rfl (fun s => rfl), g.2.2⟩, ct_p (by decide)⟩
    · have ee : e_set S x y = (2, 0, S) := by simp only [e_set, ex, ey]
      rw [ee] at h
      cases h
  · have ee : e_set S x y = (1, 0, S) := by simp only [e_set, ex]
    rw [ee] at h
    cases h
theorem gd_staff (g : gd S) (h : (e_staff S x y).1 = 0) : gd (e_staff S x y).2.2 ∧ s_ct S (e_staff S x y).2.2 := by
  rcases ix_cases x (S 8 1 0) (by have := g.1.1.2.2.2.1; omega) with ⟨s, hs, -, ex⟩ | ⟨-, ex⟩
  · rcases ix_cases y 10 (by decide) with ⟨v, hv, -, ey⟩ | ⟨-, ey⟩
    · have ee : e_staff S x y = (0, nI (S 5 s 0), o_staff S s v) := by simp only [e_staff, ex, ey]
      rw [ee]
      have ct : s_ct S (o_staff S s v) := ct_t (ct_p (by decide)) (ct_p (by decide))
      exact ⟨⟨iv_staff g.1 (by omega), g.2.1.to ct.1 rfl (fun s' => by
        show o_staff S s v 5 s' 3 = S 5 s' 3
        unfold o_staff
        rw [s_p_j _ (by decide), s_p_j _ (by decide)]), g.2.2⟩, ct⟩
    · have ee : e_staff S x y = (2, 0, S) := by simp only [e_staff, ex, ey]
      rw [ee] at h
      cases h
  · have ee : e_staff S x y = (1, 0, S) := by simp only [e_staff, ex]
    rw [ee] at h
    cases h
theorem gd_run (g : gd S) (h : (e_run S y).1 = 0) : gd (e_run S y).2.2 ∧ s_ct S (e_run S y).2.2 := by
  rcases ix_cases y 201 (by decide) with ⟨v, hv, -, ey⟩ | ⟨-, ey⟩
  · have ee : e_run S y = if v = 0 then (1, 0, S) else if S 2 0 0 + v ≤ 9999 then (0, nI (o_ticks v S 2 1 0) - nI (S 2 1 0), o_ticks v S) else (2, 0, S) := by simp only [e_run, ey]
    by_cases c : v = 0
    · rw [ee, if_pos c] at h
      cases h
    · by_cases c2 : S 2 0 0 + v ≤ 9999
      · rw [ee, if_neg c, if_pos c2]
        refine ⟨⟨iv_ticks v g.1, iv5_ticks v g.1 g.2.1, ?_⟩, s_cf.ct (cf_ticks v S)⟩
        show o_ticks v S 2 0 0 ≤ 9999
        rw [ticks_0]
        exact c2
      · rw [ee, if_neg c, if_neg c2] at h
        cases h
  · have ee : e_run S y = (1, 0, S) := by simp only [e_run, ey]
    rw [ee] at h
    cases h
theorem gd_clean (g : gd S) (h : (e_clean S x).1 = 0) : gd (e_clean S x).2.2 ∧ s_ct S (e_clean S x).2.2 := by
  rcases ix_cases x (S 8 1 0) (by have := g.1.1.2.2.2.1; omega) with ⟨s, hs, -, ex⟩ | ⟨-, ex⟩
  · have ee : e_clean S x = (0, nI (s6 (S 0 (3 + s))), o_clean S s) := by simp only [e_clean, ex]
    rw [ee]
    have ct : s_ct S (o_clean S s) := ct_t (s_cf.ct cf_h) (ct_p (by decide))
    exact ⟨⟨iv_clean g.1 hs, g.2.1.to ct.1 rfl (fun s' => rfl), g.2.2⟩, ct⟩
  · have ee : e_clean S x = (1, 0, S) := by simp only [e_clean, ex]
    rw [ee] at h
    cases h
theorem gd_sell (g : gd S) (h : (e_sell S x y).1 = 0) : gd (e_sell S x y).2.2 ∧ s_ct S (e_sell S x y).2.2 := by
  rcases ix_cases x (S 2 11 0) (by have := g.1.2.2.1.2; omega) with ⟨b, hb, -, ex⟩ | ⟨-, ex⟩
  · rcases ix_cases y (S 8 2 0) (by have := g.1.1.2.2.2.2.1; omega) with ⟨w, hw, -, ey⟩ | ⟨-, ey⟩
    · have ee : e_sell S x y = if p_tk S w b then (if p_bk S w b then (if S 2 10 0 < 30 then (0, -1, o_back S b) else (3, 0, S)) else (0, nI (p_py S w b), o_sold S b w (p_py S w b))) else (2, 0, S) := by simp only [e_sell, ex, ey]
      by_cases c1 : p_tk S w b
      · by_cases c2 : p_bk S w b
        · by_cases c3 : S 2 10 0 < 30
          · rw [ee, if_pos c1, if_pos c2, if_pos c3]
            exact ⟨⟨iv_back g.1 hb c3, g.2.1.to rfl rfl (fun s' => rfl), g.2.2⟩, ⟨rfl, rfl, rfl, rfl⟩⟩
          · rw [ee, if_pos c1, if_pos c2, if_neg c3] at h
            cases h
        · rw [ee, if_pos c1, if_neg c2]
          exact ⟨⟨iv_sold g.1 hb, g.2.1.to rfl rfl (fun s' => rfl), g.2.2⟩, ⟨rfl, rfl, rfl, rfl⟩⟩
      · rw [ee, if_neg c1] at h
        cases h
    · have ee : e_sell S x y = (1, 0, S) := by simp only [e_sell, ex, ey]
      rw [ee] at h
      cases h
  · have ee : e_sell S x y = (1, 0, S) := by simp only [e_sell, ex]
    rw [ee] at h
    cases h
end GD

/-! THE BELT MOVES -/
theorem ha_cg {l l' : l_T} {x : Nat} (ea : l_a l' = l_a l) (es : 11 ≤ x → x < 19 → l_s l' (x - 11) = l_s l (x - 11)) (ef : 19 ≤ x → x < 49 → l_f l' = l_f l) (eb : 49 ≤ x → l_b l' (x - 49) = l_b l (x - 49)) : ha l' x = ha l x := by
  unfold ha
  rw [ea]
  by_cases c : x < 11
  · simp only [if_pos c]
  · simp only [if_neg c]
    by_cases c2 : x < 19
    · simp only [if_pos c2, es (by omega) c2]
    · simp only [if_neg c2]
      by_cases c3 : x < 49
      · simp only [if_pos c3, ef (by omega) c3]
      · simp only [if_neg c3, eb (by omega)]
section LBM
variable {G : q_G} {X : String → q_H → Prop} {A0 A : q_H} {l : l_T} {S : s_T}
def m_t (l : l_T) (n : Nat) (s : Nat) : Nat := l_s l (if s < n then (if s = 0 then n - 1 else s - 1) else s)
/-- only the slots' pointers differ, they are as t says -/
def q_Sl (A A' : q_H) (a : Nat) (t : Nat → Nat) : Prop := q_sz A' = q_sz A ∧ q_sh A' = q_sh A ∧ q_I A' = q_I A ∧ q_L A' = q_L A ∧ q_D A' = q_D A ∧ (∀ b j, (∀ s, s < 8 → ¬ (b = a + 225 + 6 * s ∧ j = 7)) → q_R A' b j = q_R A b j) ∧ ∀ s, s < 8 → q_R A' (a + 225 + 6 * s) 7 = some (t s)
theorem q_Sl.set {A A' : q_H} {a : Nat} {t : Nat → Nat} (h : q_Sl A A' a t) {i v : Nat} (hi : i < 8) : q_Sl A (q_setR A' (a + 225 + 6 * i) 7 (some v)) a (fun s => if s = i then v else t s) := by
  obtain ⟨h1, h2, h3, h4, h5, h6, h7⟩ := h
  refine ⟨h1, h2, h3, h4, h5, fun b j hb => ?_, fun s hs => ?_⟩
  · rw [q_R_setR, u2_n _ _ (by
      by_cases c : b = a + 225 + 6 * i
      · exact Or.inr fun e => hb i hi ⟨c, e⟩
      · exact Or.inl c)]
    exact h6 b j hb
  · rw [q_R_setR]
    by_cases c : s = i
    · subst c
      rw [q_u2_s]
      show some v = some (if s = s then v else t s)
      rw [if_pos rfl]
    · rw [u2_n _ _ (Or.inl (by omega))]
      show _ = some (if s = i then v else t s)
      rw [if_neg c]
      exact h7 s hs
theorem okP.R {A A' : q_H} {p : Nat} (h : okP A p) (hs : q_sh A' = q_sh A) (h0 : q_R A' p 0 = q_R A p 0) (h1 : q_R A' (p + 1) 0 = q_R A (p + 1) 0) : okP A' p := by
  unfold okP okH at h ⊢
  rw [hs, h0, h1]; exact h
theorem okH.R {A A' : q_H} {p : Nat} (h : okH A p) (hs : q_sh A' = q_sh A) (h0 : q_R A' p 0 = q_R A p 0) : okH A' p := by
  unfold okH at h ⊢
  rw [hs, h0]; exact h
theorem okB.R {A A' : q_H} {p : Nat} (h : okB A p) (hs : q_sh A' = q_sh A) (h0 : q_R A' p 4 = q_R A p 4) (h1 : q_R A' (p + 1) 0 = q_R A (p + 1) 0) : okB A' p := by
  unfold okB okH at h ⊢
  rw [hs, h0, h1]; exact h
theorem Lp.slots {A' : q_H} (h : Lp A0 A l S) {n : Nat} (hn : n = S 8 1 0) (hn1 : 1 ≤ n) (q : q_Sl A A' (l_a l) (m_t l n)) : Lp A0 A' (l_a l, m_t l n, l_b l, l_f l) (o_move S) := by
  obtain ⟨w1, w2, w3, w4, w5⟩ := h.w
  obtain ⟨z1, z2, z3, z4, z5, z6, z7⟩ := q
  have hb := h.b
  unfold Lb at hb
  have hi8 : ∀ s, s < 8 → (if s < n then (if s = 0 then n - 1 else s - 1) else s) < 8 := fun s hs => by split <;> (try split) <;> omega
  have hw' : Lw (l_a l, m_t l n, l_b l, l_f l) := by
    refine ⟨fun s hs => w1 _ (hi8 s hs), fun s t hs ht e => ?_, w3, w4, w5⟩
    have e2 := w2 _ _ (hi8 s hs) (hi8 t ht) e
    by_cases c1 : s < n <;> by_cases c2 : t < n <;> simp only [c1, c2, if_true, if_false] at e2
    · by_cases c3 : s = 0 <;> by_cases c4 : t = 0 <;> simp only [c3, c4, if_true, if_false] at e2 <;> omega
    · by_cases c3 : s = 0 <;> simp only [c3, if_true, if_false] at e2 <;> omega
    · by_cases c4 : t = 0 <;> simp only [c4, if_true, if_false] at e2 <;> omega
    · exact e2
  have hR : ∀ b j, j ≠ 7 → q_R A' b j = q_R A b j := fun b j hj => z6 b j fun s hs => by omega
  have hR2 : ∀ b j, (b < l_a l + 225 ∨ l_a l + 273 ≤ b) → q_R A' b j = q_R A b j := fun b j hj => z6 b j fun s hs => by omega
  have e8 : o_move S 8 = S 8 := (cf_move S).2.1
  have et : ∀ t, t ≠ 0 → t ≠ 4 → o_move S t = S t := fun t a b => by funext i j; simp [o_move, a, b]
  have e0 : ∀ x, ¬ (11 ≤ x ∧ x < 11 + S 8 1 0) → o_move S 0 x = S 0 x := fun x hx => by funext m; simp only [o_move, true_and, if_neg hx]; simp
  have es : ∀ s, s < S 8 1 0 → o_move S 0 (11 + s) = S 0 (11 + if s = 0 then S 8 1 0 - 1 else s - 1) := fun s hs => by
    funext m
    unfold o_move
    rw [if_pos ⟨rfl, by omega, by omega⟩]
    congr 1
    split <;> split <;> omega
  have e4 : ∀ s, s < S 8 1 0 → o_move S 4 s 0 = S 4 (if s = 0 then S 8 1 0 - 1 else s - 1) 0 := fun s hs => by simp [o_move, hs]
  have hfr : fr A0 A' (l_a l) 277 := ⟨by have := h.2.1; omega, fun x hx hz => (h.2.2 x hx hz).t ⟨by rw [z2], by rw [z3], by funext j; exact hR2 x j (by omega), by rw [z4], by rw [z5]⟩⟩
  refine ⟨⟨hw', ?_, ?_, ?_, ?_, ?_, ?_⟩, hfr⟩
  · obtain ⟨⟨p1, p2, p3, p4, p5, p6, p7, p8, p9, p10, p11, p12⟩, s1, s2, s3, s4⟩ := h.1.2.1
    refine ⟨⟨?_, ?_, ?_, ?_, ?_, ?_, ?_, ?_, p9.R z2 (hR _ _ (by decide)), ?_, p11.R z2 (hR _ _ (by decide)), p12.R z2 (hR _ _ (by decide))⟩, fun s hs => ?_, fun b hb => ?_, fun i hi => ?_, fun b hb => ?_⟩
    · show q_sh A' (l_a l) = (5, 0) ∧ q_R A' (l_a l) 1 = some (l_a l + 1) ∧ q_R A' (l_a l) 2 = some (l_a l + 2) ∧ q_R A' (l_a l) 4 = some (l_a l + 3) ∧ q_R A' (l_a l) 6 = some (l_a l + 4) ∧ q_R A' (l_a l) 7 = some (l_a l + 96) ∧ q_R A' (l_a l) 8 = some (l_a l + 218) ∧ q_R A' (l_a l) 9 = some (l_a l + 220) ∧ q_R A' (l_a l) 10 = some (l_a l + 221) ∧ q_R A' (l_a l) 11 = some (l_a l + 223)
      rw [z2, hR2 _ _ (by omega), hR2 _ _ (by omega), hR2 _ _ (by omega), hR2 _ _ (by omega), hR2 _ _ (by omega), hR2 _ _ (by omega), hR2 _ _ (by omega), hR2 _ _ (by omega), hR2 _ _ (by omega)]
      exact p1
    · rw [z2]; exact p2
    · rw [z2]; exact p3
    · rw [z2]; exact p4
    · show q_sh A' (l_a l + 4) = (4, 0) ∧ q_R A' (l_a l + 4) 0 = some (l_a l + 5)
      rw [z2, hR2 _ _ (by omega)]; exact p5
    · rw [z2]; exact p6
    · show q_sh A' (l_a l + 96) = (8, 0) ∧ q_R A' (l_a l + 96) 0 = some (l_a l + 97)
      rw [z2, hR2 _ _ (by omega)]; exact p7
    · rw [z2]; exact p8
    · rw [z2]; exact p10
    · obtain ⟨a1, a2, a3, a4, a5, a6⟩ := s1 s hs
      refine ⟨?_, by rw [z2]; exact a2, z7 s hs, ?_, a5.R z2 (hR _ _ (by decide)) (hR _ _ (by decide)), a6.R z2 (hR _ _ (by decide))⟩
      · show q_R A' (l_a l + 2) s = _
        rw [hR2 _ _ (by omega)]; exact a1
      · show q_R A' (l_a l + 225 + 6 * s) 8 = _
        rw [hR _ _ (by decide)]; exact a4
    · obtain ⟨a1, a2⟩ := s2 b hb
      refine ⟨?_, by rw [z2]; exact a2⟩
      show q_R A' (l_a l + 3) b = _
      rw [hR2 _ _ (by omega)]; exact a1
    · obtain ⟨a1, a2⟩ := s3 i hi
      refine ⟨?_, a2.R z2 (hR _ _ (by decide)) (hR _ _ (by decide))⟩
      show q_R A' (l_a l + 5) i = _
      rw [hR2 _ _ (by omega)]; exact a1
    · obtain ⟨a1, a2⟩ := s4 b hb
      refine ⟨?_, a2.R z2 (hR _ _ (by decide)) (hR _ _ (by decide))⟩
      show q_R A' (l_a l + 97) b = _
      rw [hR2 _ _ (by omega)]; exact a1
  · unfold Lb
    rw [e8, et 2 (by decide) (by decide)]; exact hb
  · intro x hx
    have hl : lv S x := by
      unfold lv at hx ⊢
      rw [e8, et 2 (by decide) (by decide)] at hx
      exact hx
    rw [z3]
    by_cases c : 11 ≤ x ∧ x < 11 + S 8 1 0
    · obtain ⟨s, hs⟩ : ∃ s, x = 11 + s := ⟨x - 11, by omega⟩
      subst hs
      have hs8 : s < 8 := by omega
      have ea : ha (l_a l, m_t l n, l_b l, l_f l) (11 + s) = ha l (11 + if s = 0 then S 8 1 0 - 1 else s - 1) := by
        rw [ha_slot _ hs8, ha_slot l (by split <;> omega)]
        show m_t l n s + 1 = _
        unfold m_t
        rw [if_pos (by omega), hn]
      rw [ea, es s (by omega)]
      exact h.1.2.2.2.1 _ (lv_slot (by split <;> omega))
    · have hx9 := lv_89 h.b hl
      have ea : ha (l_a l, m_t l n, l_b l, l_f l) x = ha l x := ha_cg rfl (fun c1 c2 => by
        show m_t l n (x - 11) = _
        unfold m_t
        rw [if_neg]
        unfold lv at hl
        omega) (fun _ _ => rfl) (fun _ => rfl)
      rw [ea, e0 x c]
      exact h.1.2.2.2.1 x hl
  · intro t i j hd
    have hd0 := hd.1
    have ht : t ≠ 0 ∧ t ≠ 4 := by unfold dm0 at hd0; omega
    have hd' : dm S t i j := by
      unfold dm at hd ⊢
      rw [e8, et 2 (by decide) (by decide)] at hd
      exact hd
    have ea : ca (l_a l, m_t l n, l_b l, l_f l) t i = ca l t i := rfl
    rw [z3, ea, et t ht.1 ht.2]
    exact h.c hd'
  · intro s hs h0
    rw [e8] at hs
    rw [e4 s hs] at h0 ⊢
    rw [z3]
    have ev : l_s (l_a l, m_t l n, l_b l, l_f l) s = l_s l (if s = 0 then S 8 1 0 - 1 else s - 1) := by
      show m_t l n s = _
      unfold m_t
      rw [if_pos (by omega), hn]
    rw [ev]
    exact h.rnd (by split <;> omega) h0
  · rw [z3]; exact h.fs
theorem w_moveBelt {f : q_H → Prop} (h : Lp A0 A l S) (hn1 : 1 ≤ S 8 1 0) (k : ∀ A', Lp A0 A' (l_a l, m_t l (S 8 1 0), l_b l, l_f l) (o_move S) → f A') :
    ∀ (i : Nat) (A' : q_H), i < S 8 1 0 → q_Sl A A' (l_a l) (fun s => l_s l (if i < s ∧ s < S 8 1 0 then s - 1 else s)) → q_Wp G M_X4_moveBelt (q_KV f) X 0 0 31 [some (.ref (l_a l)), some (.ref (l_s l (S 8 1 0 - 1))), some (.int (nI i))] [] A'
  | 0, A', hi, q => by
    have hb := h.b
    unfold Lb at hb
    obtain ⟨z1, z2, z3, z4, z5, z6, z7⟩ := id q
    have hR2 : ∀ b j, (b < l_a l + 225 ∨ l_a l + 273 ≤ b) → q_R A' b j = q_R A b j := fun b j hj => z6 b j fun s hs => by omega
    refine f_X4_moveBelt_31 ⟨fun _ => ⟨by rw [z2]; exact h.line, _, by rw [hR2 _ _ (by omega)]; exact h.r2, 8, by rw [z2]; exact h.z2, by decide, by decide, _, by rw [hR2 _ _ (by omega)]; exact h.rs (by decide), by rw [z2]; exact h.zs (by decide), k _ ?_⟩, fun c => absurd (by decide) c⟩
    refine h.slots rfl hn1 ?_
    have := q.set (i := 0) (v := l_s l (S 8 1 0 - 1)) (by decide)
    have e : (fun s => if s = 0 then l_s l (S 8 1 0 - 1) else l_s l (if 0 < s ∧ s < S 8 1 0 then s - 1 else s)) = m_t l (S 8 1 0) := by
      funext s
      unfold m_t
      by_cases c : s = 0
      · subst c; rw [if_pos rfl, if_pos (by omega), if_pos rfl]
      · rw [if_neg c]
        congr 1
        by_cases c2 : s < S 8 1 0
        · rw [if_pos ⟨by omega, c2⟩, if_pos c2, if_neg c]
        · rw [if_neg (fun z => c2 z.2), if_neg c2]
    rw [e] at this
    exact this
  | i + 1, A', hi, q => by
    have hb := h.b
    unfold Lb at hb
    obtain ⟨z1, z2, z3, z4, z5, z6, z7⟩ := id q
    have hR2 : ∀ b j, (b < l_a l + 225 ∨ l_a l + 273 ≤ b) → q_R A' b j = q_R A b j := fun b j hj => z6 b j fun s hs => by omega
    have ei : nI (i + 1) - nI 1 = nI i := by rw [pk_sub (by omega)]; rfl
    refine f_X4_moveBelt_31 ⟨fun c => absurd c (nI_nle (by omega) (by omega)), fun _ => ⟨by rw [z2]; exact h.line, _, by rw [hR2 _ _ (by omega)]; exact h.r2, 8, by rw [z2]; exact h.z2, by decide, i + 1, rfl, by omega, _, by rw [hR2 _ _ (by omega)]; exact h.rs (by omega), i, ei, by omega, _, by rw [hR2 _ _ (by omega)]; exact h.rs (by omega), by rw [z2]; exact h.zs (by omega), _, z7 i (by omega), by rw [z2]; exact h.zs (by omega), ?_⟩⟩
    have ej : nI (i + 1) + Int32.ofInt (-1) = nI i := pk_m1 i
    rw [ej]
    refine w_moveBelt h hn1 k i _ (by omega) ?_
    have := q.set (i := i + 1) (v := l_s l (if i + 1 < i ∧ i < S 8 1 0 then i - 1 else i)) (by omega)
    have e : (fun s => if s = i + 1 then l_s l (if i + 1 < i ∧ i < S 8 1 0 then i - 1 else i) else l_s l (if i + 1 < s ∧ s < S 8 1 0 then s - 1 else s)) = (fun s => l_s l (if i < s ∧ s < S 8 1 0 then s - 1 else s)) := by
      funext s
      by_cases c : s = i + 1
      · rw [if_pos c, if_neg (by omega), if_pos (by omega)]; congr 1; omega
      · rw [if_neg c]
        congr 1
        by_cases c2 : i < s ∧ s < S 8 1 0
        · rw [if_pos c2, if_pos (by omega)]
        · rw [if_neg c2, if_neg (by omega)]
    rw [e] at this
    exact this
theorem L_moveBelt {f : q_H → Prop} (h : Lp A0 A l S) (hn1 : 1 ≤ S 8 1 0) (k : ∀ A', Lp A0 A' (l_a l, m_t l (S 8 1 0), l_b l, l_f l) (o_move S) → f A') : q_Wc G M_X4_moveBelt [.ref (l_a l)] A (q_KV f) X := by
  have hb := h.b
  unfold Lb at hb
  have ei : nI (S 8 1 0) - nI 1 = nI (S 8 1 0 - 1) := pk_sub hn1
  refine f_X4_moveBelt ⟨h.line, ?_⟩
  rw [h.nst]
  refine ⟨fun _ => ⟨_, h.r2, 8, h.z2, by decide, S 8 1 0 - 1, ei, by omega, _, h.rs (by omega), h.zs (by omega), _, h.rs7 (by omega), ?_⟩, fun c => absurd (nI_le hn1 (by omega)) c⟩
  rw [ei]
  refine w_moveBelt h hn1 k _ A (by omega) ⟨rfl, rfl, rfl, rfl, rfl, fun _ _ _ => rfl, fun s hs => ?_⟩
  rw [h.rs7 hs]
  show some (l_s l s) = some (l_s l (if S 8 1 0 - 1 < s ∧ s < S 8 1 0 then s - 1 else s))
  rw [if_neg (by omega)]
end LBM

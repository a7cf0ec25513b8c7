/-! A BALE LEAVES THE STOCK -/
def o_dropB (S : s_T) (b : Nat) : s_T := fun t i j => if t = 0 ∧ 49 + b ≤ i then S 0 (i + 1) j else if t = 6 ∧ b ≤ i then S 6 (i + 1) j else if t = 2 ∧ i = 11 ∧ j = 0 then S 2 11 0 - 1 else S t i j
def o_back (S : s_T) (b : Nat) : s_T := s_p (o_add (o_dropB S b) (S 0 (49 + b)) 0) 2 5 0 (S 2 5 0 + 1)
def o_sold (S : s_T) (b y pay : Nat) : s_T := s_p (s_p (s_p (s_p (o_dropB S b) 7 y 0 (S 7 y 0 + pay)) 2 4 0 (S 2 4 0 + 1)) 2 6 0 (S 2 6 0 + if S 10 y 3 < 100 - S 6 b 2 then 1 else 0)) 2 8 0 (S 2 8 0 + s6 (S 0 (49 + b)))
theorem db_0 (S : s_T) (b : Nat) {x : Nat} (h : x < 49 + b) : o_dropB S b 0 x = S 0 x := by funext m; simp [o_dropB, show ¬ 49 + b ≤ x by omega]
theorem db_b (S : s_T) (b : Nat) {x : Nat} (h : b ≤ x) : o_dropB S b 0 (49 + x) = S 0 (49 + (x + 1)) := by funext m; simp [o_dropB, show 49 + b ≤ 49 + x by omega]; rfl
theorem db_6 (S : s_T) (b : Nat) (x j : Nat) : o_dropB S b 6 x j = if b ≤ x then S 6 (x + 1) j else S 6 x j := by simp [o_dropB]
theorem db_2 (S : s_T) (b : Nat) (x : Nat) : o_dropB S b 2 x 0 = if x = 11 then S 2 11 0 - 1 else S 2 x 0 := by simp [o_dropB]
theorem db_t (S : s_T) (b : Nat) {t : Nat} (h0 : t ≠ 0) (h2 : t ≠ 2) (h6 : t ≠ 6) : o_dropB S b t = S t := by funext i j; simp [o_dropB, h0, h2, h6]
theorem cf_dropB (S : s_T) (b : Nat) : s_cf S (o_dropB S b) := ⟨db_t S b (by decide) (by decide) (by decide), db_t S b (by decide) (by decide) (by decide), db_t S b (by decide) (by decide) (by decide), db_t S b (by decide) (by decide) (by decide), db_t S b (by decide) (by decide) (by decide)⟩
theorem iw_dropB {R B P S} {b : Nat} (q : iw R B P S) (hb : b < S 2 11 0) : iw R B P (o_dropB S b) := by
  have cf := cf_dropB S b
  obtain ⟨q1, q2, q3, q4, q5, q6, q7, q8, q9, q10, q11⟩ := q
  have q1' := q1
  unfold iv_c at q1
  unfold iv_n at q3
  have e8 : o_dropB S b 8 = S 8 := cf.2.1
  have e11 := db_2 S b 11
  have e10 := db_2 S b 10
  have e1 := db_2 S b 1
  simp at e11 e10 e1
  refine ⟨q1'.cf cf, q2.cf cf, ?_, ?_, ?_, ?_, ?_, ?_, ?_, ?_, ?_⟩
  · unfold iv_n; omega
  · intro s hs
    rw [e8] at hs
    rw [db_t S b (by decide) (by decide) (by decide), db_t S b (t := 4) (by decide) (by decide) (by decide), db_0 S b (by omega)]
    exact q4 s hs
  · intro k hk
    rw [e10] at hk
    rw [db_0 S b (by omega), db_t S b (by decide) (by decide) (by decide)]
    exact q5 k hk
  · intro c hc
    rw [e11] at hc
    rw [e8, db_6, db_6, db_6]
    by_cases z : b ≤ c
    · rw [if_pos z, if_pos z, if_pos z, db_b S b z]
      exact q6 (c + 1) (by omega)
    · rw [if_neg z, if_neg z, if_neg z, db_0 S b (by omega)]
      exact q6 c (by omega)
  · intro h hl m hm hm6
    rw [e8] at hm
    unfold lv at hl
    rw [e8, e10, e11] at hl
    by_cases z : 49 + b ≤ h
    · have e := db_b S b (x := h - 49) (by omega)
      rw [show 49 + (h - 49) = h by omega] at e
      rw [e]
      exact q7 _ (lv_bal (by omega)) m hm hm6
    · rw [db_0 S b (by omega)]
      exact q7 h (by unfold lv; omega) m hm hm6
  · rw [db_0 S b (by omega)]; exact q8
  · intro s hs
    rw [e8] at hs
    rw [db_0 S b (by omega)]; exact q9 s hs
  · rw [e1]; exact q10
  · rw [db_0 S b (by omega), e1]; exact q11
section LDB
variable {G : q_G} {X : String → q_H → Prop} {A0 A : q_H} {l : l_T} {S : s_T} {R : Nat} {B : Nat → Nat} {P : Nat}
/-- only the stock's pointers differ, they are as t says -/
def q_Bl (A A' : q_H) (a : Nat) (t : Nat → Nat) : Prop := q_sz A' = q_sz A ∧ q_sh A' = q_sh A ∧ q_I A' = q_I A ∧ q_L A' = q_L A ∧ q_D A' = q_D A ∧ (∀ b j, ¬ (b = a + 97 ∧ j < 40) → q_R A' b j = q_R A b j) ∧ ∀ s, s < 40 → q_R A' (a + 97) s = some (t s)
theorem q_Bl.set {A A' : q_H} {a : Nat} {t : Nat → Nat} (h : q_Bl A A' a t) {i v : Nat} (hi : i < 40) : q_Bl A (q_setR A' (a + 97) i (some v)) a (fun s => if s = i then v else t s) := by
  obtain ⟨h1, h2, h3, h4, h5, h6, h7⟩ := h
  refine ⟨h1, h2, h3, h4, h5, fun b j hb => ?_, fun s hs => ?_⟩
  · rw [q_R_setR, u2_n _ _ (by
      by_cases c : b = a + 97
      · exact Or.inr fun e => hb ⟨c, by omega⟩
      · exact Or.inl c)]
    exact h6 b j hb
  · rw [q_R_setR]
    by_cases c : s = i
    · subst c
      rw [q_u2_s]
      show some v = some (if s = s then v else t s)
      rw [if_pos rfl]
    · rw [u2_n _ _ (Or.inr c)]
      show _ = some (if s = i then v else t s)
      rw [if_neg c]
      exact h7 s hs
/-- the bales' places when b is gone, k in stock before -/
def d_t (l : l_T) (b k : Nat) (s : Nat) : Nat := l_b l (if b ≤ s ∧ s + 1 < k then s + 1 else if s + 1 = k then b else s)
theorem Lp.bales {A' : q_H} (h : Lp A0 A l S) {b : Nat} (hb : b < S 2 11 0) (q : q_Bl A A' (l_a l) (d_t l b (S 2 11 0))) : Lp A0 (q_setI A' (l_a l + 96) 1 (nI (S 2 11 0 - 1))) (l_a l, l_s l, d_t l b (S 2 11 0), l_f l) (o_dropB S b) := by
  obtain ⟨w1, w2, w3, w4, w5⟩ := h.w
  obtain ⟨z1, z2, z3, z4, z5, z6, z7⟩ := q
  have hlb := h.b
  unfold Lb at hlb
  have hi : ∀ s, s < 40 → (if b ≤ s ∧ s + 1 < S 2 11 0 then s + 1 else if s + 1 = S 2 11 0 then b else s) < 40 := fun s hs => by split <;> (try split) <;> omega
  have hw' : Lw (l_a l, l_s l, d_t l b (S 2 11 0), l_f l) := by
    refine ⟨w1, w2, fun s hs => w3 _ (hi s hs), fun s t hs ht e => ?_, w5⟩
    have e2 := w4 _ _ (hi s hs) (hi t ht) e
    by_cases c1 : b ≤ s ∧ s + 1 < S 2 11 0
    · rw [if_pos c1] at e2
      by_cases c2 : b ≤ t ∧ t + 1 < S 2 11 0
      · rw [if_pos c2] at e2; omega
      · rw [if_neg c2] at e2
        by_cases c3 : t + 1 = S 2 11 0
        · rw [if_pos c3] at e2; omega
        · rw [if_neg c3] at e2; omega
    · rw [if_neg c1] at e2
      by_cases c4 : s + 1 = S 2 11 0
      · rw [if_pos c4] at e2
        by_cases c2 : b ≤ t ∧ t + 1 < S 2 11 0
        · rw [if_pos c2] at e2; omega
        · rw [if_neg c2] at e2
          by_cases c3 : t + 1 = S 2 11 0
          · omega
          · rw [if_neg c3] at e2; omega
      · rw [if_neg c4] at e2
        by_cases c2 : b ≤ t ∧ t + 1 < S 2 11 0
        · rw [if_pos c2] at e2; omega
        · rw [if_neg c2] at e2
          by_cases c3 : t + 1 = S 2 11 0
          · rw [if_pos c3] at e2; omega
          · rw [if_neg c3] at e2; omega
  have hR : ∀ y j, y ≠ l_a l + 97 → q_R A' y j = q_R A y j := fun y j hj => z6 y j fun e => hj e.1
  have e8 : o_dropB S b 8 = S 8 := (cf_dropB S b).2.1
  have e11 := db_2 S b 11
  have e10 := db_2 S b 10
  simp at e11 e10
  have hI : ∀ a k, ¬ (a = l_a l + 96 ∧ k = 1) → q_I (q_setI A' (l_a l + 96) 1 (nI (S 2 11 0 - 1))) a k = q_I A a k := fun a k hk => by
    rw [I_set (by omega), z3]
  have hfr : fr A0 (q_setI A' (l_a l + 96) 1 (nI (S 2 11 0 - 1))) (l_a l) 277 := ⟨by have := h.2.1; show q_sz A0 ≤ q_sz A'; omega, fun x hx hz => (h.2.2 x hx hz).t (q_same.setI ⟨by rw [z2], by rw [z3], by funext j; exact hR x j (by omega), by rw [z4], by rw [z5]⟩ (by omega))⟩
  refine ⟨⟨hw', ?_, ?_, ?_, ?_, ?_, ?_⟩, hfr⟩
  · obtain ⟨⟨p1, p2, p3, p4, p5, p6, p7, p8, p9, p10, p11, p12⟩, s1, s2, s3, s4⟩ := h.1.2.1
    have zz : q_sh (q_setI A' (l_a l + 96) 1 (nI (S 2 11 0 - 1))) = q_sh A := z2
    have RR : q_R (q_setI A' (l_a l + 96) 1 (nI (S 2 11 0 - 1))) = q_R A' := rfl
    refine ⟨⟨?_, ?_, ?_, ?_, ?_, ?_, ?_, ?_, p9.R zz (hR _ _ (by omega)), ?_, p11.R zz (hR _ _ (by omega)), p12.R zz (hR _ _ (by omega))⟩, fun s hs => ?_, fun y hy => ?_, fun i hi => ?_, fun y hy => ?_⟩
    · show q_sh A' (l_a l) = (5, 0) ∧ q_R A' (l_a l) 1 = some (l_a l + 1) ∧ q_R A' (l_a l) 2 = some (l_a l + 2) ∧ q_R A' (l_a l) 4 = some (l_a l + 3) ∧ q_R A' (l_a l) 6 = some (l_a l + 4) ∧ q_R A' (l_a l) 7 = some (l_a l + 96) ∧ q_R A' (l_a l) 8 = some (l_a l + 218) ∧ q_R A' (l_a l) 9 = some (l_a l + 220) ∧ q_R A' (l_a l) 10 = some (l_a l + 221) ∧ q_R A' (l_a l) 11 = some (l_a l + 223)
      rw [z2, hR _ _ (by omega), hR _ _ (by omega), hR _ _ (by omega), hR _ _ (by omega), hR _ _ (by omega), hR _ _ (by omega), hR _ _ (by omega), hR _ _ (by omega), hR _ _ (by omega)]
      exact p1
    · rw [zz]; exact p2
    · rw [zz]; exact p3
    · rw [zz]; exact p4
    · rw [zz, RR, hR _ _ (by show l_a l + 4 ≠ l_a l + 97; omega)]; exact p5
    · rw [zz]; exact p6
    · rw [zz, RR, hR _ _ (by show l_a l + 96 ≠ l_a l + 97; omega)]; exact p7
    · rw [zz]; exact p8
    · rw [zz]; exact p10
    · obtain ⟨a1, a2, a3, a4, a5, a6⟩ := s1 s hs
      refine ⟨?_, by rw [zz]; exact a2, ?_, ?_, a5.R zz (hR _ _ (by show l_a l + 226 + 6 * s ≠ l_a l + 97; omega)) (hR _ _ (by show l_a l + 226 + 6 * s + 1 ≠ l_a l + 97; omega)), a6.R zz (hR _ _ (by show l_a l + 229 + 6 * s ≠ l_a l + 97; omega))⟩
      · rw [RR, hR _ _ (by show l_a l + 2 ≠ l_a l + 97; omega)]; exact a1
      · rw [RR, hR _ _ (by show l_a l + 225 + 6 * s ≠ l_a l + 97; omega)]; exact a3
      · rw [RR, hR _ _ (by show l_a l + 225 + 6 * s ≠ l_a l + 97; omega)]; exact a4
    · obtain ⟨a1, a2⟩ := s2 y hy
      refine ⟨?_, by rw [zz]; exact a2⟩
      rw [RR, hR _ _ (by show l_a l + 3 ≠ l_a l + 97; omega)]; exact a1
    · obtain ⟨a1, a2⟩ := s3 i hi
      refine ⟨?_, a2.R zz (hR _ _ (by show l_a l + 6 + 3 * i ≠ l_a l + 97; omega)) (hR _ _ (by show l_a l + 6 + 3 * i + 1 ≠ l_a l + 97; omega))⟩
      rw [RR, hR _ _ (by show l_a l + 5 ≠ l_a l + 97; omega)]; exact a1
    · obtain ⟨a1, a2⟩ := s4 y hy
      exact ⟨z7 y hy, a2.R zz (hR _ _ (by show l_a l + 98 + 3 * y ≠ l_a l + 97; omega)) (hR _ _ (by show l_a l + 98 + 3 * y + 1 ≠ l_a l + 97; omega))⟩
  · unfold Lb
    rw [e8, e10, e11]; omega
  · intro x hx
    unfold lv at hx
    rw [e8, e10, e11] at hx
    by_cases c : 49 + b ≤ x
    · obtain ⟨s, hs⟩ : ∃ s, x = 49 + s := ⟨x - 49, by omega⟩
      subst hs
      have hl : lv S (49 + (s + 1)) := lv_bal (by omega)
      have ea : ha (l_a l, l_s l, d_t l b (S 2 11 0), l_f l) (49 + s) = ha l (49 + (s + 1)) := by
        rw [ha_bal, ha_bal]
        show d_t l b (S 2 11 0) s + 1 = _
        unfold d_t
        rw [if_pos (by omega)]
      have hn := ha_in l h.w (h := 49 + (s + 1)) (by omega)
      obtain ⟨jj, hj, ej⟩ := w3 (s + 1) (by omega)
      have eh := ha_bal l (s + 1)
      rw [ea, db_b S b (by omega)]
      exact ⟨fun m hm => by rw [hI _ _ (by omega)]; exact h.m hl hm, by rw [hI _ _ (by omega)]; exact h.t hl⟩
    · have hl : lv S x := by unfold lv; omega
      have hx9 := lv_89 h.b hl
      have ea : ha (l_a l, l_s l, d_t l b (S 2 11 0), l_f l) x = ha l x := ha_cg rfl (fun _ _ => rfl) (fun _ _ => rfl) (fun c9 => by
        show d_t l b (S 2 11 0) (x - 49) = _
        unfold d_t
        rw [if_neg (by omega), if_neg (by omega)])
      have hne : ha l x ≠ l_a l + 96 ∧ ha l x + 1 ≠ l_a l + 96 := by
        have := ca_ha l h.w (t := 2) (i := 11) (j := 0) (by unfold dm0; omega) hx9
        have e : ca l 2 11 = l_a l + 96 := rfl
        omega
      rw [ea, db_0 S b (by omega)]
      exact ⟨fun m hm => by rw [hI _ _ (by omega)]; exact h.m hl hm, by rw [hI _ _ (by omega)]; exact h.t hl⟩
  · intro t i j hd
    by_cases c6 : t = 6
    · subst c6
      have hi : i < S 2 11 0 - 1 ∧ j < 4 := by
        have h1 := hd.2.2.2.1 rfl
        have h2 := hd.1
        rw [e11] at h1
        unfold dm0 at h2
        omega
      have ef : cf 6 i j = j := rfl
      rw [db_6, ef]
      by_cases c : b ≤ i
      · have ea : ca (l_a l, l_s l, d_t l b (S 2 11 0), l_f l) 6 i = l_b l (i + 1) := by
          show d_t l b (S 2 11 0) i = _
          unfold d_t
          rw [if_pos (by omega)]
        obtain ⟨jj, hj, ej⟩ := w3 (i + 1) (by omega)
        rw [ea, if_pos c, hI _ _ (by omega)]
        exact h.bal (by omega) hi.2
      · have ea : ca (l_a l, l_s l, d_t l b (S 2 11 0), l_f l) 6 i = l_b l i := by
          show d_t l b (S 2 11 0) i = _
          unfold d_t
          rw [if_neg (by omega), if_neg (by omega)]
        obtain ⟨jj, hj, ej⟩ := w3 i (by omega)
        rw [ea, if_neg c, hI _ _ (by omega)]
        exact h.bal (by omega) hi.2
    · have ea : ca (l_a l, l_s l, d_t l b (S 2 11 0), l_f l) t i = ca l t i := by
        unfold ca; simp only [if_neg c6]; rfl
      by_cases c2 : t = 2 ∧ i = 11
      · obtain ⟨rfl, rfl⟩ := c2
        have hj : j = 0 := by have := hd.1; unfold dm0 at this; omega
        subst hj
        rw [e11]
        exact I_set_s _ _ _ _
      · have hd' : dm S t i j := by
          unfold dm at hd ⊢
          rw [e8, e10, e11] at hd
          exact ⟨hd.1, hd.2.1, hd.2.2.1, fun e => absurd e c6, hd.2.2.2.2⟩
        have ev : o_dropB S b t i j = S t i j := by
          by_cases c : t = 2
          · subst c
            have hj : j = 0 := by have := hd.1; unfold dm0 at this; omega
            subst hj
            rw [db_2, if_neg (by omega)]
          · rw [db_t S b (by have := hd.1; unfold dm0 at this; omega) c c6]
        have hne : ¬ (ca l t i = l_a l + 96 ∧ cf t i j = 1) := by
          have n1 := ca_ne l h.w (t := 2) (i := 11) (j := 0) (by unfold dm0; omega) hd'.1 (by omega)
          have e1 : ca l 2 11 = l_a l + 96 := rfl
          have e2 : cf 2 11 0 = 1 := rfl
          omega
        rw [ea, ev, hI _ _ hne]
        exact h.c hd'
  · intro s hs h0
    rw [e8] at hs
    rw [db_t S b (by decide) (by decide) (by decide)] at h0 ⊢
    obtain ⟨j, hj, e⟩ := w1 s (h.nst8 hs)
    exact (hI (l_s l s) 1 (by omega)).trans (h.rnd hs h0)
  · exact (hI (l_a l + 4) 1 (by omega)).trans h.fs
theorem w_dropBale {f : q_H → Prop} (h : Lp A0 A l S) {b : Nat} (hb : b < S 2 11 0) (k : ∀ A', (∀ y, y ≠ l_a l + 96 → y ≠ l_a l + 97 → q_same A A' y) → Lp A0 A' (l_a l, l_s l, d_t l b (S 2 11 0), l_f l) (o_dropB S b) → f A') :
    ∀ (d i : Nat) (A' : q_H), i + d = S 2 11 0 → b + 1 ≤ i → q_Bl A A' (l_a l) (fun s => l_b l (if b ≤ s ∧ s + 1 < i then s + 1 else s)) → q_Wp G M_X7_dropBale (q_KV f) X 0 0 15 [some (.ref (l_a l + 96)), none, some (.ref (l_b l b)), some (.int (nI i))] [] A'
  | 0, i, A', e, hi, q => by
    have hlb := h.b
    unfold Lb at hlb
    obtain ⟨z1, z2, z3, z4, z5, z6, z7⟩ := id q
    have hR : ∀ y j, y ≠ l_a l + 97 → q_R A' y j = q_R A y j := fun y j hj => z6 y j fun e => hj e.1
    have ei : i = S 2 11 0 := by omega
    subst ei
    have est : q_I A' (l_a l + 96) 1 = nI (S 2 11 0) := by rw [z3]; exact h.stock
    refine f_X7_dropBale_15 ⟨by rw [z2]; exact h.z96, ?_⟩
    rw [est, I_set_s, pk_sub (by omega)]
    refine ⟨fun _ => ⟨_, by rw [hR _ _ (by omega)]; exact h.r960, 40, by rw [z2]; exact h.z97, by decide, S 2 11 0 - 1, rfl, by omega, by rw [z2]; exact (h.kb (by omega)).1, ?_⟩, fun c => absurd (nI_le (Nat.le_refl _) (by omega)) c⟩
    have hq := q.set (i := S 2 11 0 - 1) (v := l_b l b) (by omega)
    have et : (fun s => if s = S 2 11 0 - 1 then l_b l b else l_b l (if b ≤ s ∧ s + 1 < S 2 11 0 then s + 1 else s)) = d_t l b (S 2 11 0) := by
      funext s
      unfold d_t
      by_cases c : s = S 2 11 0 - 1
      · rw [if_pos c, if_neg (by omega), if_pos (by omega)]
      · rw [if_neg c]
        congr 1
        by_cases c2 : b ≤ s ∧ s + 1 < S 2 11 0
        · rw [if_pos c2, if_pos c2]
        · rw [if_neg c2, if_neg c2, if_neg (by omega)]
    rw [et] at hq
    refine k _ (fun y h1 h2 => ?_) (h.bales hb hq)
    exact q_same.setR (q_same.setI ⟨by rw [z2], by rw [z3], by funext j; exact hR y j h2, by rw [z4], by rw [z5]⟩ h1) h2
  | d + 1, i, A', e, hi, q => by
    have hlb := h.b
    unfold Lb at hlb
    obtain ⟨z1, z2, z3, z4, z5, z6, z7⟩ := id q
    have hR : ∀ y j, y ≠ l_a l + 97 → q_R A' y j = q_R A y j := fun y j hj => z6 y j fun e => hj e.1
    have est : q_I A' (l_a l + 96) 1 = nI (S 2 11 0) := by rw [z3]; exact h.stock
    refine f_X7_dropBale_15 ⟨by rw [z2]; exact h.z96, ?_⟩
    rw [est]
    refine ⟨fun c => absurd c (nI_ge (by omega) (by omega)), fun _ => ⟨_, by rw [hR _ _ (by omega)]; exact h.r960, 40, by rw [z2]; exact h.z97, by decide, i, rfl, by omega, _, z7 i (by omega), i - 1, pk_sub (by omega), by omega, by rw [z2]; exact (h.kb (by split <;> omega)).1, ?_⟩⟩
    rw [nI_add]
    refine w_dropBale h hb k d (i + 1) _ (by omega) (by omega) ?_
    have hq := q.set (i := i - 1) (v := l_b l (if b ≤ i ∧ i + 1 < i then i + 1 else i)) (by omega)
    have et : (fun s => if s = i - 1 then l_b l (if b ≤ i ∧ i + 1 < i then i + 1 else i) else l_b l (if b ≤ s ∧ s + 1 < i then s + 1 else s)) = (fun s => l_b l (if b ≤ s ∧ s + 1 < i + 1 then s + 1 else s)) := by
      funext s
      by_cases c : s = i - 1
      · rw [if_pos c, if_neg (by omega), if_pos (by omega)]; congr 1; omega
      · rw [if_neg c]
        congr 1
        by_cases c2 : b ≤ s ∧ s + 1 < i
        · rw [if_pos c2, if_pos (by omega)]
        · rw [if_neg c2, if_neg (by omega)]
    rw [et] at hq
    exact hq
theorem L_dropBale {f : q_H → Prop} (h : Lp A0 A l S) {b : Nat} (hb : b < S 2 11 0) (k : ∀ A', (∀ y, y ≠ l_a l + 96 → y ≠ l_a l + 97 → q_same A A' y) → Lp A0 A' (l_a l, l_s l, d_t l b (S 2 11 0), l_f l) (o_dropB S b) → f A') : q_Wc G M_X7_dropBale [.ref (l_a l + 96), .int (nI b)] A (q_KV f) X := by
  have hlb := h.b
  unfold Lb at hlb
  refine f_X7_dropBale ⟨h.z96, L_baleAt h (fun b' hb' e => ⟨fun e2 => (by cases e2), fun r e2 => ?_⟩) (fun hn => absurd rfl (hn b hb))⟩
  cases e2
  have : b = b' := (nI_eq (by omega) (by omega)).mp e
  subst this
  rw [nI_add]
  refine w_dropBale h hb k (S 2 11 0 - (b + 1)) (b + 1) A (by omega) (by omega) ⟨rfl, rfl, rfl, rfl, rfl, fun _ _ _ => rfl, fun s hs => ?_⟩
  rw [h.rk hs]
  show some (l_b l s) = some (l_b l (if b ≤ s ∧ s + 1 < b + 1 then s + 1 else s))
  rw [if_neg (by omega)]
end LDB

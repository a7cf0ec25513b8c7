/-! THE REFERENCE: presses, ticks -/
theorem RW.press {R R' : Nat → Int32} {S : s_T} (r : RW R S) {s n : Nat} (hs : s < S 8 1 0) (en : n = S 2 11 0) (hn : n < 40) (ht : S 9 s 0 < 6)
    (off : ∀ x, ¬ (312 + 10 * s ≤ x ∧ x < 318 + 10 * s) → ¬ (388 + 10 * n ≤ x ∧ x < 398 + 10 * n) → x ≠ 10 → x ≠ 14 → x ≠ 19 → x ≠ 310 + 10 * s → x ≠ 30 + S 9 s 0 → x ≠ 36 + S 9 s 0 → R' x = R x)
    (hb : ∀ m, m < 6 → R' (312 + 10 * s + m) = nI (rs (S 0 (3 + s)) (S 1 1 0) m)) (hk : ∀ m, m < 6 → R' (392 + 10 * n + m) = nI (tk (S 0 (3 + s)) (S 1 1 0) m))
    (d0 : R' (388 + 10 * n) = nI (S 2 1 0)) (d1 : R' (389 + 10 * n) = nI (S 9 s 0)) (d2 : R' (390 + 10 * n) = nI (o_pur S s)) (d3 : R' (391 + 10 * n) = nI (o_grade S (o_pur S s)))
    (c10 : R' 10 = nI (S 2 1 0 + 1)) (c14 : R' 14 = nI (n + 1)) (c19 : R' 19 = nI (s6 (S 0 1) + S 1 1 0)) (c5 : R' (310 + 10 * s) = nI (S 5 s 2 + 1)) (c30 : R' (30 + S 9 s 0) = nI (S 0 2 (S 9 s 0) + tk (S 0 (3 + s)) (S 1 1 0) (S 9 s 0))) (c36 : R' (36 + S 9 s 0) = nI (S 0 1 (S 9 s 0) + S 1 1 0)) : RW R' (o_press1 s S) := by
  have hb0 := r.b
  unfold Lb at hb0
  have hs8 : s < 8 := by omega
  have e8 : o_press1 s S 8 = S 8 := pr_t s S (by decide) (by decide) (by decide) (by decide)
  have e4 : o_press1 s S 4 = S 4 := pr_t s S (by decide) (by decide) (by decide) (by decide)
  have e2 := pr_2 s S
  have e210 := e2 10
  have e211 := e2 11
  simp at e210 e211
  refine ⟨by unfold Lb; rw [e8]; omega, fun t i j d => ?_, fun h m q hm => ?_, fun x hx => ?_, ?_⟩
  · have q1 := d.1
    have q2 := d.2
    rw [e8, e210, e211] at q2
    rcases ri_cases q1 with ⟨rfl, hi, rfl, e⟩ | ⟨rfl, hi, hi2, rfl, e⟩ | ⟨rfl, hi, rfl, e⟩ | ⟨rfl, hi, hj, e⟩ | ⟨rfl, hi, hj, e⟩ | ⟨rfl, hi, rfl, e⟩
    · rw [e, pr_t s S (by decide) (by decide) (by decide) (by decide), off _ (by omega) (by omega) (by omega) (by omega) (by omega) (by omega) (by omega) (by omega)]
      exact r.set hi
    · rw [e, e2, if_neg hi2]
      by_cases c1 : i = 1
      · subst c1
        exact c10
      · rw [if_neg c1]
        by_cases c11 : i = 11
        · subst c11
          rw [if_pos rfl, ← en]
          exact c14
        · rw [if_neg c11]
          have b := r2_bd hi hi2
          rw [off _ (by omega) (by omega) (fun z => c1 (r2_inj hi hi2 (by decide) (by decide) (show r2 i = r2 1 from z))) (fun z => c11 (r2_inj hi hi2 (by decide) (by decide) (show r2 i = r2 11 from z))) (by omega) (by omega) (by omega) (by omega)]
          exact r.tal hi hi2
    · rw [e, pr_t s S (by decide) (by decide) (by decide) (by decide), off _ (by omega) (by omega) (by omega) (by omega) (by omega) (by omega) (by omega) (by omega)]
      exact r.pr (q2.1 rfl)
    · rw [e]
      have hi8 := q2.2.1 rfl
      by_cases c : i = s ∧ j = 2
      · obtain ⟨rfl, rfl⟩ := c
        have e5 : o_press1 i S 5 i 2 = S 5 i 2 + 1 := by simp [o_press1, s_p, s_h, o_dat]
        rw [e5, show 308 + 10 * i + 2 = 310 + 10 * i by omega]; exact c5
      · rw [pr_5 s S i j c, off _ (by omega) (by omega) (by omega) (by omega) (by omega) (by omega) (by omega) (by omega)]
        exact r.st hi8 hj
    · rw [e, pr_6]
      have hb1 := q2.2.2.1 rfl
      by_cases c : i = n
      · subst c
        rw [if_pos en]
        have : j = 0 ∨ j = 1 ∨ j = 2 ∨ j = 3 := by omega
        rcases this with z | z | z | z <;> subst z
        · simp; exact d0
        · simp; rw [show 388 + 10 * i + 1 = 389 + 10 * i by omega]; exact d1
        · simp; rw [show 388 + 10 * i + 2 = 390 + 10 * i by omega]; exact d2
        · simp; rw [show 388 + 10 * i + 3 = 391 + 10 * i by omega]; exact d3
      · rw [if_neg (by omega), off _ (by omega) (by omega) (by omega) (by omega) (by omega) (by omega) (by omega) (by omega)]
        exact r.ba (by omega) hj
    · rw [e, pr_t s S (by decide) (by decide) (by decide) (by decide), off _ (by omega) (by omega) (by omega) (by omega) (by omega) (by omega) (by omega) (by omega)]
      exact r.pd (q2.2.2.2 rfl)
  · unfold lR at q
    rw [e8, e4, e210, e211] at q
    by_cases h1 : h = 1
    · subst h1
      rw [pr_all]
      show R' (36 + m) = nI (if m = S 9 s 0 then S 0 1 m + S 1 1 0 else S 0 1 m)
      by_cases c : m = S 9 s 0
      · rw [if_pos c, c]; exact c36
      · rw [if_neg c, off _ (by omega) (by omega) (by omega) (by omega) (by omega) (by omega) (by omega) (by omega)]
        exact r.m (h := 1) (Or.inl (by decide)) hm
    · by_cases h2 : h = 2
      · subst h2
        rw [pr_own]
        show R' (30 + m) = nI (if m = S 9 s 0 then S 0 2 m + tk (S 0 (3 + s)) (S 1 1 0) m else S 0 2 m)
        by_cases c : m = S 9 s 0
        · rw [if_pos c, c]; exact c30
        · rw [if_neg c, off _ (by omega) (by omega) (by omega) (by omega) (by omega) (by omega) (by omega) (by omega)]
          exact r.m (h := 2) (Or.inl (by decide)) hm
      · by_cases h3 : h = 3 + s
        · subst h3
          rw [pr_bun, hi_bun hs8]; exact hb m hm
        · by_cases h4 : h = 49 + n
          · subst h4
            have : o_press1 s S 0 (49 + n) = tk (S 0 (3 + s)) (S 1 1 0) := by rw [en]; exact pr_bal S hs8
            rw [this, hi_bal]; exact hk m hm
          · rw [pr_0 s S h1 h2 h3 (by omega)]
            have ql : lR S h := by
              unfold lR
              omega
            have h9 := lR_89 r.b ql
            have x1 := r.m ql hm
            rcases hi_cases h9 with ⟨g, e'⟩ | ⟨g, e'⟩ | ⟨g, e'⟩ | ⟨s', hs', g, e'⟩ | ⟨s', hs', g, e'⟩ | ⟨s', hs', g, e'⟩ | ⟨s', hs', g, e'⟩ <;>
            (rw [off _ (by omega) (by omega) (by omega) (by omega) (by omega) (by omega) (by omega) (by omega)]; exact x1)
  · rw [e8] at hx
    rw [e4, off _ (by omega) (by omega) (by omega) (by omega) (by omega) (by omega) (by omega) (by omega)]
    exact r.rd hx
  · rw [pr_all]
    have : s6 (fun m => if m = S 9 s 0 then S 0 1 m + S 1 1 0 else S 0 1 m) = s6 (S 0 1) + S 1 1 0 := by
      have e : (fun m => if m = S 9 s 0 then S 0 1 m + S 1 1 0 else S 0 1 m) = (fun m => if m = S 9 s 0 then S 0 1 (S 9 s 0) + S 1 1 0 else S 0 1 m) := by
        funext m
        by_cases c : m = S 9 s 0
        · rw [if_pos c, if_pos c, c]
        · rw [if_neg c, if_neg c]
      rw [e]; exact s6_ifa ht
    rw [this]; exact c19
theorem i32_1 (b c d : Int32) : (b + d) - (c + d) = b - c := by grind

/-- best goes as the count of A's -/
def bq (A A' : q_H) (mo : Nat) (S S' : s_T) : Prop := mf A A' mo ∧ q_I A' mo 22 - nI (S' 2 2 0) = q_I A mo 22 - nI (S 2 2 0)
theorem bq.t {A A' A2 : q_H} {mo : Nat} {S S' S2 : s_T} (h : bq A A' mo S S') (k : bq A' A2 mo S' S2) : bq A A2 mo S S2 := ⟨h.1.t k.1, k.2.trans h.2⟩
theorem bq.of {A A' : q_H} {mo : Nat} {S S' : s_T} (h : mg A A' mo) (e : S' 2 2 0 = S 2 2 0) : bq A A' mo S S' := ⟨h.1, by rw [h.2, e]⟩
section PS
variable {G : q_G} {X : String → q_H → Prop} {A A0 : q_H} {mo : Nat} {S : s_T}
theorem M_grade {f : Int32 → q_H → Prop} {p : Nat} (h : MS A mo) (e2 : q_I A (mo + 6) 2 = nI (S 1 2 0)) (e3 : q_I A (mo + 6) 3 = nI (S 1 3 0)) (h2 : S 1 2 0 ≤ 100) (h3 : S 1 3 0 ≤ 100) (hp : p ≤ 100) (k : f (nI (o_grade S p)) A) : q_Wc G M_X11_gradeOf [.ref mo, .int (nI p)] A (q_KI f) X := by
  refine f_X11_gradeOf ⟨h.z, _, h.r6, 788, h.z6, by decide, by decide, ?_⟩
  rw [e2, e3]
  unfold o_grade at k
  refine ⟨fun c => ⟨by decide, fun c2 => ?_, fun c2 => ?_⟩, fun c => ?_⟩
  · have a := (nI_ltI (by omega) (by omega)).mp c
    have b := (nI_ltI (by omega) (by omega)).mp c2
    rw [if_neg (by omega), if_neg (by omega)] at k; exact k
  · have a := (nI_ltI (by omega) (by omega)).mp c
    have b : ¬ p < S 1 3 0 := fun z => c2 (nI_lt z (by omega))
    rw [if_neg (by omega), if_pos (by omega)] at k; exact k
  · have a : ¬ p < S 1 2 0 := fun z => c (nI_lt z (by omega))
    rw [if_pos (by omega)] at k; exact k
theorem v_presses {f : q_H → Prop} {R : Nat} {B : Nat → Nat} {s : Nat} (hB : B s < 2147483648) :
    ∀ (d : Nat) (A : q_H) (S : s_T) (P : Nat), MP A mo S → iw R B P S → s < S 8 1 0 → d + S 2 11 0 = 40 → (∀ A', bq A A' mo S (o_pressN s d S) → MP A' mo (o_pressN s d S) → f A') → q_Wp G M_X11_presses (q_KV f) X 0 0 12 [some (.ref mo), some (.int (nI s)), some (.int (nI (312 + 10 * s))), some (.int (nI (S 9 s 0))), none, none] [] A
  | d, A, S, P, h, q, hs, hd, k => by
    have hb0 := h.2.1.b
    unfold Lb at hb0
    have hs8 : s < 8 := by omega
    have q1 := q.1
    unfold iv_c at q1
    have qs := q1.2.2.2.2.2.1 s hs
    have q2 := q.2.1
    unfold iv_s at q2
    have qm := q.2.2.2.2.2.2.2.2.1 s hs
    have hl : lR S (3 + s) := by unfold lR; omega
    have hg : ∀ m, m < 6 → q_I A (mo + 6) (312 + 10 * s + m) = nI (S 0 (3 + s) m) := fun m hm => by
      have := h.2.1.m hl hm
      rw [hi_bun hs8] at this; exact this
    have e1 : q_I A (mo + 6) 1 = nI (S 1 1 0) := h.2.1.set (by decide)
    have e14 : q_I A (mo + 6) 14 = nI (S 2 11 0) := h.2.1.tal (i := 11) (by decide) (by decide)
    refine f_X11_presses_12 ⟨h.1.z, M_total (g := S 0 (3 + s)) h.1 (by omega) hg ⟨h.1.z, _, h.1.r6, 788, h.1.z6, by decide, by decide, ?_⟩⟩
    rw [e1, e14]
    refine ⟨fun c => ?_, fun c => ⟨by decide, fun c2 => ?_, fun c2 => ?_⟩⟩
    · have hlt := (nI_ltI (by omega) (by omega)).mp c
      have : o_pressN s d S = S := by
        cases d with
        | zero => rfl
        | succ d => exact if_pos hlt
      rw [this] at k
      exact k A ⟨mf.r A mo, rfl⟩ h
    · have hle := (nI_leI (by decide) (by omega)).mp c2
      have : d = 0 := by omega
      subst this
      exact k A ⟨mf.r A mo, rfl⟩ h
    · have hn : S 2 11 0 < 40 := Nat.lt_of_not_le fun z => c2 (nI_le z (by omega))
      have hge : S 1 1 0 ≤ s6 (S 0 (3 + s)) := Nat.le_of_not_lt fun z => c (nI_lt z (by omega))
      obtain ⟨n, en⟩ : ∃ n, n = S 2 11 0 := ⟨_, rfl⟩
      obtain ⟨tg, etg⟩ : ∃ tg, tg = S 9 s 0 := ⟨_, rfl⟩
      rw [← en] at hd ⊢
      rw [← etg]
      have htg : tg < 6 := by omega
      have hz : ∀ m, S 8 0 0 ≤ m → m < 6 → S 0 (3 + s) m = 0 := fun m h1 h2 => q.2.2.2.2.2.2.1 _ (lv_bun hs) m h1 h2
      obtain ⟨g, eg⟩ : ∃ g : Nat → Nat, g = fun m => if m < 6 then S 0 (3 + s) m else 0 := ⟨_, rfl⟩
      have g6 : ∀ m, m < 6 → g m = S 0 (3 + s) m := fun m hm => by rw [eg]; exact if_pos hm
      have gb : ∀ m, g m < 2147483648 := fun m => by
        rw [eg]
        show (if m < 6 then S 0 (3 + s) m else 0) < _
        split
        · rename_i c; have := s6_at (S 0 (3 + s)) c; omega
        · decide
      have gs : s6 g = s6 (S 0 (3 + s)) := s6_cg g6
      have gr : ∀ m, m < 6 → rs g (S 1 1 0) m = rs (S 0 (3 + s)) (S 1 1 0) m := rs_cg g6
      have gt : ∀ m, m < 6 → tk g (S 1 1 0) m = tk (S 0 (3 + s)) (S 1 1 0) m := fun m hm => by unfold tk; rw [gr m hm, g6 m hm]
      refine M_takes (g := g) (p := S 1 1 0) h.mt (by omega) (by omega) (by omega) (by omega) gb (fun m h1 h2 => by rw [g6 m h2]; exact hz m h1 h2) (fun m hm => by rw [g6 m hm]; exact hg m hm) fun A1 o1 r1 v1 t1 => ?_
      have ms1 := o1.1.ms h.1
      refine M_storedAt (j := 4) ⟨ms1.z, M_lays (w := fun m => nI (tk (S 0 (3 + s)) (S 1 1 0) m)) ms1 (by omega) (fun m hm => by rw [← gt m hm]; exact t1 m hm) fun A2 o2 r2 v2 t2 => ?_⟩
      have ms2 := o2.1.ms ms1
      have o12 := o1.t o2
      have ev2 : ∀ m, m < 6 → q_I A2 (mo + 6) (392 + 10 * n + m) = nI (tk (S 0 (3 + s)) (S 1 1 0) m) := fun m hm => by rw [← v2 m hm]; congr 1; omega
      have off2 : ∀ x, ¬ (312 + 10 * s ≤ x ∧ x < 318 + 10 * s) → ¬ (392 + 10 * n ≤ x ∧ x < 398 + 10 * n) → q_I A2 (mo + 6) x = q_I A (mo + 6) x := fun x h1 h2 => by rw [r2 x (by omega), r1 x (by omega)]
      have bun2 : ∀ m, m < 6 → q_I A2 (mo + 6) (312 + 10 * s + m) = nI (rs (S 0 (3 + s)) (S 1 1 0) m) := fun m hm => by rw [r2 _ (by omega), v1 m hm, gr m hm]
      have et : q_I A2 (mo + 12) tg = nI (tk (S 0 (3 + s)) (S 1 1 0) tg) := by rw [t2, t1 tg htg, gt tg htg]
      have e12 : q_I A2 (mo + 6) 1 = nI (S 1 1 0) := by rw [off2 1 (by omega) (by omega)]; exact e1
      have htk : tk (S 0 (3 + s)) (S 1 1 0) tg ≤ S 1 1 0 := by
        have a1 := s6_at (tk (S 0 (3 + s)) (S 1 1 0)) htg
        rw [s6_tk] at a1
        split at a1 <;> omega
      have hpur : o_pur S s ≤ 100 := by
        unfold o_pur
        rw [← etg]
        exact Nat.div_le_of_le_mul (by have := Nat.mul_le_mul_right 100 htk; omega)
      have epur : nI (tk (S 0 (3 + s)) (S 1 1 0) tg) * nI 100 / nI (S 1 1 0) = nI (o_pur S s) := by
        rw [pk_mul, pk_div (by omega) (by omega) (by omega)]
        unfold o_pur
        rw [← etg]
      have e10 : q_I A2 (mo + 6) 10 = nI (S 2 1 0) := by rw [off2 10 (by omega) (by omega)]; exact h.2.1.tal (i := 1) (by decide) (by decide)
      refine ⟨ms2.z, _, ms2.r21, 6, ms2.z12, by decide, tg, rfl, htg, _, ms2.r6, 788, ms2.z6, by decide, by decide, ?_, ?_⟩
      · rw [e12]
        exact fun e => by have := (nI_eq (by omega) (by decide)).mp e; omega
      rw [et, e12, epur]
      refine M_storedAt (j := 0) ⟨ms2.z, _, ms2.r6, 788, ms2.z6, by decide, by decide, 788, ms2.z6, by decide, 388 + 10 * n, by rw [Nat.add_zero], by omega, ?_⟩
      rw [e10]
      refine M_storedAt (j := 1) ⟨788, ms2.z6, by decide, 389 + 10 * n, by congr 1; omega, by omega, ms2.z, _, ms2.r6, M_storedAt (j := 2) ⟨788, ms2.z6, by decide, 390 + 10 * n, by congr 1; omega, by omega, ms2.z, _, ms2.r6, M_storedAt (j := 3) ⟨ms2.z, ?_⟩⟩⟩
      obtain ⟨A3, e3⟩ : ∃ A3, A3 = q_setI (q_setI (q_setI A2 (mo + 6) (388 + 10 * n) (nI (S 2 1 0))) (mo + 6) (389 + 10 * n) (nI tg)) (mo + 6) (390 + 10 * n) (nI (o_pur S s)) := ⟨_, rfl⟩
      rw [← e3]
      have o3 : mg A A3 mo := by rw [e3]; exact ((o12.set (Or.inl rfl)).set (Or.inl rfl)).set (Or.inl rfl)
      have ms3 := o3.1.ms h.1
      have row3 : ∀ x, x ≠ 388 + 10 * n → x ≠ 389 + 10 * n → x ≠ 390 + 10 * n → q_I A3 (mo + 6) x = q_I A2 (mo + 6) x := fun x h1 h2 h3 => by rw [e3, ix_set, if_neg h3, ix_set, if_neg h2, ix_set, if_neg h1]
      have s2 : ∀ x, x < 8 → q_I A3 (mo + 6) x = nI (S 1 x 0) := fun x hx => by rw [row3 x (by omega) (by omega) (by omega), off2 x (by omega) (by omega)]; exact h.2.1.set hx
      refine M_grade (S := S) ms3 (s2 2 (by decide)) (s2 3 (by decide)) q2.2.2.2.2.1 q2.2.2.2.2.2.1 hpur ⟨788, ms3.z6, by decide, 391 + 10 * n, by congr 1; omega, by omega, ms3.z, _, ms3.r6, 788, ms3.z6, by decide, by decide, by decide, fun A93 e93 => ?_⟩
      have r14 : q_I A3 (mo + 6) 14 = nI n := by rw [row3 14 (by omega) (by omega) (by omega), off2 14 (by omega) (by omega), en]; exact h.2.1.tal (i := 11) (by decide) (by decide)
      have r10 : q_I A3 (mo + 6) 10 = nI (S 2 1 0) := by rw [row3 10 (by omega) (by omega) (by omega)]; exact e10
      rw [I_set (Or.inr (by omega : (10 : Nat) ≠ 14)), I_set (Or.inr (by omega : (10 : Nat) ≠ 391 + 10 * n)), r10, I_set (Or.inr (by omega : (14 : Nat) ≠ 391 + 10 * n)), r14, nI_add, nI_add] at e93
      have row93 : ∀ x, q_I A93 (mo + 6) x = if x = 10 then nI (S 2 1 0 + 1) else if x = 14 then nI (n + 1) else if x = 391 + 10 * n then nI (o_grade S (o_pur S s)) else q_I A3 (mo + 6) x := fun x => by rw [e93, ix_set, ix_set, ix_set]
      have o93 : mg A A93 mo := by rw [e93]; exact ((o3.set (Or.inl rfl)).set (Or.inl rfl)).set (Or.inl rfl)
      have ms93 := o93.1.ms h.1
      have tk93 : q_I A93 (mo + 12) tg = nI (tk (S 0 (3 + s)) (S 1 1 0) tg) := by
        rw [e93, I_set (Or.inl (by omega)), I_set (Or.inl (by omega)), I_set (Or.inl (by omega)), e3, I_set (Or.inl (by omega)), I_set (Or.inl (by omega)), I_set (Or.inl (by omega))]
        exact et
      have x1 : q_I A93 (mo + 6) 1 = nI (S 1 1 0) := by rw [row93, if_neg (by omega), if_neg (by omega), if_neg (by omega)]; exact s2 1 (by decide)
      have x19 : q_I A93 (mo + 6) 19 = nI (s6 (S 0 1)) := by rw [row93, if_neg (by omega), if_neg (by omega), if_neg (by omega), row3 19 (by omega) (by omega) (by omega), off2 19 (by omega) (by omega)]; exact h.2.1.al
      have x30 : q_I A93 (mo + 6) (30 + tg) = nI (S 0 2 tg) := by rw [row93, if_neg (by omega), if_neg (by omega), if_neg (by omega), row3 _ (by omega) (by omega) (by omega), off2 _ (by omega) (by omega)]; exact h.2.1.m (h := 2) (Or.inl (by decide)) htg
      have x36 : q_I A93 (mo + 6) (36 + tg) = nI (S 0 1 tg) := by rw [row93, if_neg (by omega), if_neg (by omega), if_neg (by omega), row3 _ (by omega) (by omega) (by omega), off2 _ (by omega) (by omega)]; exact h.2.1.m (h := 1) (Or.inl (by decide)) htg
      have x310 : q_I A93 (mo + 6) (310 + 10 * s) = nI (S 5 s 2) := by
        rw [row93, if_neg (by omega), if_neg (by omega), if_neg (by omega), row3 _ (by omega) (by omega) (by omega), off2 _ (by omega) (by omega)]
        have := h.2.1.st hs (j := 2) (by decide)
        rw [show 308 + 10 * s + 2 = 310 + 10 * s by omega] at this; exact this
      refine ⟨by decide, by decide, 30 + tg, by rw [nI_add], by omega, _, ms3.r21, 6, ms3.z12, by decide, htg, fun A105 e105 => ?_⟩
      rw [x19, x1, nI_add, I_set (Or.inr (by omega : 30 + tg ≠ 19)), x30, I_set (Or.inl (by omega : mo + 12 ≠ mo + 6)), tk93, nI_add] at e105
      have row105 : ∀ x, q_I A105 (mo + 6) x = if x = 30 + tg then nI (S 0 2 tg + tk (S 0 (3 + s)) (S 1 1 0) tg) else if x = 19 then nI (s6 (S 0 1) + S 1 1 0) else q_I A93 (mo + 6) x := fun x => by rw [e105, ix_set, ix_set]
      have o105 : mg A A105 mo := by rw [e105]; exact (o93.set (Or.inl rfl)).set (Or.inl rfl)
      have ms105 := o105.1.ms h.1
      have y36 : q_I A105 (mo + 6) (36 + tg) = nI (S 0 1 tg) := by rw [row105, if_neg (by omega), if_neg (by omega)]; exact x36
      have y1 : q_I A105 (mo + 6) 1 = nI (S 1 1 0) := by rw [row105, if_neg (by omega), if_neg (by omega)]; exact x1
      refine ⟨36 + tg, by rw [nI_add], by omega, ?_⟩
      rw [y36, y1, nI_add]
      obtain ⟨A6, e6⟩ : ∃ A6, A6 = q_setI A105 (mo + 6) (36 + tg) (nI (S 0 1 tg + S 1 1 0)) := ⟨_, rfl⟩
      rw [← e6]
      have row6 : ∀ x, q_I A6 (mo + 6) x = if x = 36 + tg then nI (S 0 1 tg + S 1 1 0) else q_I A105 (mo + 6) x := fun x => by rw [e6, ix_set]
      have o6 : mg A A6 mo := by rw [e6]; exact o105.set (Or.inl rfl)
      have ms6 := o6.1.ms h.1
      have z310 : q_I A6 (mo + 6) (310 + 10 * s) = nI (S 5 s 2) := by rw [row6, if_neg (by omega), row105, if_neg (by omega), if_neg (by omega)]; exact x310
      refine M_placeAt (j := 2) ⟨788, ms6.z6, by decide, 310 + 10 * s, by congr 1; omega, by omega, ms6.z, ?_⟩
      rw [z310, nI_add]
      obtain ⟨A7, e7⟩ : ∃ A7, A7 = q_setI A6 (mo + 6) (310 + 10 * s) (nI (S 5 s 2 + 1)) := ⟨_, rfl⟩
      rw [← e7]
      have row7 : ∀ x, q_I A7 (mo + 6) x = if x = 310 + 10 * s then nI (S 5 s 2 + 1) else q_I A6 (mo + 6) x := fun x => by rw [e7, ix_set]
      have o7 : mg A A7 mo := by rw [e7]; exact o6.set (Or.inl rfl)
      have ms7 := o7.1.ms h.1
      have s7 : ∀ x, x < 8 → q_I A7 (mo + 6) x = nI (S 1 x 0) := fun x hx => by rw [row7, if_neg (by omega), row6, if_neg (by omega), row105, if_neg (by omega), if_neg (by omega), row93, if_neg (by omega), if_neg (by omega), if_neg (by omega)]; exact s2 x hx
      have w7 : RW (q_I A7 (mo + 6)) (o_press1 s S) := by
        refine h.2.1.press hs en (by omega) (by omega) (fun x h1 h2 h3 h4 h5 h6 h7 h8 => ?_) (fun m hm => ?_) (fun m hm => ?_) ?_ ?_ ?_ ?_ ?_ ?_ ?_ ?_ ?_ ?_
        · rw [← etg] at h7 h8
          rw [row7, if_neg h6, row6, if_neg h8, row105, if_neg h7, if_neg h5, row93, if_neg h3, if_neg h4, if_neg (by omega), row3 x (by omega) (by omega) (by omega), off2 x h1 (by omega)]
        · rw [row7, if_neg (by omega), row6, if_neg (by omega), row105, if_neg (by omega), if_neg (by omega), row93, if_neg (by omega), if_neg (by omega), if_neg (by omega), row3 _ (by omega) (by omega) (by omega)]
          exact bun2 m hm
        · rw [row7, if_neg (by omega), row6, if_neg (by omega), row105, if_neg (by omega), if_neg (by omega), row93, if_neg (by omega), if_neg (by omega), if_neg (by omega), row3 _ (by omega) (by omega) (by omega)]
          exact ev2 m hm
        · rw [row7, if_neg (by omega), row6, if_neg (by omega), row105, if_neg (by omega), if_neg (by omega), row93, if_neg (by omega), if_neg (by omega), if_neg (by omega), e3, ix_set, if_neg (by omega), ix_set, if_neg (by omega), I_set_s]
        · rw [row7, if_neg (by omega), row6, if_neg (by omega), row105, if_neg (by omega), if_neg (by omega), row93, if_neg (by omega), if_neg (by omega), if_neg (by omega), e3, ix_set, if_neg (by omega), I_set_s, etg]
        · rw [row7, if_neg (by omega), row6, if_neg (by omega), row105, if_neg (by omega), if_neg (by omega), row93, if_neg (by omega), if_neg (by omega), if_neg (by omega), e3, I_set_s]
        · rw [row7, if_neg (by omega), row6, if_neg (by omega), row105, if_neg (by omega), if_neg (by omega), row93, if_neg (by omega), if_neg (by omega), if_pos rfl]
        · rw [row7, if_neg (by omega), row6, if_neg (by omega), row105, if_neg (by omega), if_neg (by omega), row93, if_pos rfl]
        · rw [row7, if_neg (by omega), row6, if_neg (by omega), row105, if_neg (by omega), if_neg (by omega), row93, if_neg (by omega), if_pos rfl]
        · rw [row7, if_neg (by omega), row6, if_neg (by omega), row105, if_neg (by omega), if_pos rfl]
        · rw [row7, if_pos rfl]
        · rw [← etg, row7, if_neg (by omega), row6, if_neg (by omega), row105, if_pos rfl]
        · rw [← etg, row7, if_neg (by omega), row6, if_pos rfl]
      have cf := cf_press1 s S
      have p7 : MP A7 mo (o_press1 s S) := h.to o7.1 w7 cf
      have eb : o_press1 s S 2 2 0 = S 2 2 0 + (if o_grade S (o_pur S s) = 0 then 1 else 0) := pr_2 s S 2
      have e211 : o_press1 s S 2 11 0 = S 2 11 0 + 1 := pr_2 s S 11
      have i22 : q_I A7 mo 22 = q_I A mo 22 := o7.2
      have hgr : o_grade S (o_pur S s) ≤ 2 := by unfold o_grade; split <;> (try split) <;> omega
      match d, hd with
      | 0, hd => omega
      | d + 1, hd =>
        have eN : o_pressN s (d + 1) S = o_pressN s d (o_press1 s S) := if_neg (by omega)
        rw [eN] at k
        have nx : ∀ v, v = (if o_grade S (o_pur S s) = 0 then 1 else 0) → q_Wp G M_X11_presses (q_KV f) X 0 0 12 [some (.ref mo), some (.int (nI s)), some (.int (nI (312 + 10 * s))), some (.int (nI tg)), none, none] [] (q_setI A7 mo 22 (q_I A7 mo 22 + nI v)) := fun v ev => by
          have f8 : mf A (q_setI A7 mo 22 (q_I A7 mo 22 + nI v)) mo := o7.1.set (Or.inr (Or.inr ⟨rfl, rfl⟩))
          have w8 : RW (q_I (q_setI A7 mo 22 (q_I A7 mo 22 + nI v)) (mo + 6)) (o_press1 s S) := by
            have : q_I (q_setI A7 mo 22 (q_I A7 mo 22 + nI v)) (mo + 6) = q_I A7 (mo + 6) := by funext x; exact I_set (Or.inl (by omega))
            rw [this]; exact w7
          have p8 := h.to f8 w8 cf
          have b8' : bq A (q_setI A7 mo 22 (q_I A7 mo 22 + nI v)) mo S (o_press1 s S) := ⟨f8, by rw [I_set_s, i22, eb, ← ev, ← nI_add]; exact i32_1 _ _ _⟩
          have q8 := iw_press1 q hs hge (by omega)
          have t9 : o_press1 s S 9 s 0 = tg := by rw [cf.2.2.1, etg]
          have := v_presses (R := R) (B := B) hB d (q_setI A7 mo 22 (q_I A7 mo 22 + nI v)) (o_press1 s S) (P + 1) p8 q8 (by rw [cf.2.1]; exact hs) (by rw [e211]; omega) (fun A' b' p' => k A' (b8'.t b') p')
          rw [t9] at this
          exact this
        refine M_grade (S := S) ms7 (s7 2 (by decide)) (s7 3 (by decide)) q2.2.2.2.2.1 q2.2.2.2.2.2.1 hpur ⟨fun c => ⟨ms7.z, ?_⟩, fun c => ⟨ms7.z, ?_⟩⟩
        · have c0 : o_grade S (o_pur S s) = 0 := (nI_eq (by omega) (by decide)).mp c
          exact nx 1 (by rw [if_pos c0])
        · have c0 : ¬ o_grade S (o_pur S s) = 0 := fun e => c (by rw [e])
          exact nx 0 (by rw [if_neg c0])
theorem M_presses {f : q_H → Prop} {R : Nat} {B : Nat → Nat} {P s : Nat} (h : MP A mo S) (q : iw R B P S) (hB : B s < 2147483648) (hs : s < S 8 1 0) (k : ∀ A', bq A A' mo S (o_press s S) → MP A' mo (o_press s S) → f A') : q_Wc G M_X11_presses [.ref mo, .int (nI s)] A (q_KV f) X := by
  have q3 := q.2.2.1
  unfold iv_n at q3
  refine f_X11_presses (M_placeAt (j := 4) ⟨h.1.z, M_target h.mt hs ?_⟩)
  have := v_presses (G := G) (X := X) (f := f) hB (40 - S 2 11 0) A S P h q hs (by omega) k
  rw [show 312 + 10 * s = 308 + 10 * s + 4 by omega] at this
  exact this
end PS

/-! THE REFERENCE: more of what is asked of it -/
theorem bm64 (x : Int) (h : -2147483648 ≤ x ∧ x < 4294967296) : Int.bmod x (2 ^ 64) = x := by
  rw [Int.bmod_def]
  split <;> omega
theorem bm32 (x : Int) (h : -2147483648 ≤ x ∧ x < 2147483648) : Int.bmod x (2 ^ 32) = x := by
  rw [Int.bmod_def]
  split <;> omega
theorem l64_add {a b : Nat} (h : a + b < 2147483648) : (nI a).toInt64 + (nI b).toInt64 = (nI (a + b)).toInt64 := by
  apply Int64.toInt_inj.mp
  rw [Int64.toInt_add, Int32.toInt_toInt64, Int32.toInt_toInt64, Int32.toInt_toInt64, nI_toInt (by omega), nI_toInt (by omega), nI_toInt (by omega), bm64 _ (by omega)]
  omega
theorem sub_le0 {a t : Nat} (h : a < 2147483648) (h2 : t < 2147483648) : nI a - nI t ≤ nI 0 ↔ a ≤ t := by
  rw [Int32.le_iff_toInt_le, Int32.toInt_sub, nI_toInt (by omega), nI_toInt (by omega), nI_toInt (by omega), bm32 _ (by omega)]
  omega
section MQ2
variable {G : q_G} {X : String → q_H → Prop} {A A0 : q_H} {mo : Nat} {S : s_T}
theorem MP.hp (h : MP A mo S) {x b : Nat} (hx : lR S x) (e : hi x = b) : ∀ m, m < 6 → q_I A (mo + 6) (b + m) = nI (S 0 x m) := fun m hm => by rw [← e]; exact h.2.1.m hx hm
theorem MP.to2 (h : MP A mo S) {b j : Nat} (hb : b < S 8 2 0) (hj : j < 5) : q_I A (mo + 2) (27 + 5 * b + j) = nI (S 10 b j) := h.2.2.2.2 b j hb hj
theorem M_mass {f : Int32 → q_H → Prop} {x y : Int32} (h : MP A mo S) (q : iv S) (k : f (a_mass S x y).2 (th A mo (a_mass S x y).1)) : q_Wc G M_X11_mass [.ref mo, .int x, .int y] A (q_KI f) X := by
  have hb := h.2.1.b
  unfold Lb at hb
  have h6 := q.1.2.1
  have q3 := q.2.2.1
  unfold iv_n at q3
  refine f_X11_mass (M_isIn 47 (by decide) (by decide) (fun p hp e => ⟨fun _ => ⟨fun _ => ⟨h.1.z, ?_⟩, fun e => (by cases e)⟩, fun e => (by cases e)⟩) (fun hn => ⟨fun e => (by cases e), fun _ => ⟨fun e => (by cases e), fun _ => f_X11_mass_38 ⟨h.1.z, M_f1 h.1.z ⟨fun _ => ?_, fun e => (by cases e)⟩⟩⟩⟩))
  · subst e
    have hx := ix_nI hp (by omega)
    refine M_isMaterial h h6 (fun m hm e => ⟨fun _ => f_X11_mass_38 ⟨h.1.z, M_f0 h.1.z ⟨fun e => (by cases e), fun _ => ?_⟩⟩, fun e => (by cases e)⟩) (fun hn => ⟨fun e => (by cases e), fun _ => f_X11_mass_38 ⟨h.1.z, M_f2 h.1.z ⟨fun _ => ?_, fun e => (by cases e)⟩⟩⟩)
    · subst e
      have ea : a_mass S (nI p) (nI m) = (0, nI (if p = 46 then S 0 0 m else if 16 ≤ p then (if p - 16 < S 2 10 0 then S 0 (19 + (p - 16)) m else 0) else if 8 ≤ p then (if p - 8 < S 8 1 0 then S 0 (11 + (p - 8)) m else 0) else if p < S 8 1 0 then S 0 (3 + p) m else 0)) := by
        unfold a_mass; rw [hx, ix_nI hm (by omega)]
      rw [ea] at k
      have w := h.th 0
      refine ⟨fun c => ?_, fun c => ⟨fun c2 => ⟨fun c3 => ⟨w.1.z, M_sts w.mt ⟨fun c4 => ?_, fun c4 => ?_⟩⟩, fun c3 => ⟨w.1.z, M_sts w.mt ?_⟩⟩, fun c2 => ⟨w.1.z, _, w.1.r6, 788, w.1.z6, by decide, by decide, ?_⟩⟩⟩
      · have : p = 46 := (nI_eq (by omega) (by decide)).mp c
        rw [if_pos this] at k
        exact ⟨w.1.z, _, w.1.r6, 788, w.1.z6, by decide, 24 + m, by rw [nI_add], by omega, by rw [w.hp (x := 0) (b := 24) (Or.inl (by decide)) rfl m (by omega)]; exact k⟩
      · have h2 := (nI_leI (by omega) (by omega)).mp c2
        have h3 := (nI_leI (by omega) (by omega)).mp c3
        have h4 := (nI_leI (by omega) (by omega)).mp c4
        rw [if_neg (by omega), if_neg (by omega), if_neg (by omega), if_neg (by omega)] at k
        exact k
      · have h3 := (nI_leI (by omega) (by omega)).mp c3
        have h4 : p < S 8 1 0 := Nat.lt_of_not_le fun z => c4 (nI_le z (by omega))
        rw [if_neg (by omega), if_neg (by omega), if_neg (by omega), if_pos (by omega)] at k
        refine ⟨w.1.z, _, w.1.r6, M_placeAt (j := 4) ⟨788, w.1.z6, by decide, 312 + 10 * p + m, by rw [nI_add]; congr 1; omega, by omega, ?_⟩⟩
        rw [w.hp (x := 3 + p) (by unfold lR; omega) (hi_bun (by omega)) m (by omega)]
        exact k
      · have h2 := (nI_leI (by omega) (by omega)).mp c2
        have h3 : 8 ≤ p := Nat.lt_of_not_le fun z => c3 (nI_le z (by omega))
        rw [pk_sub h3]
        rw [if_neg (by omega), if_neg (by omega), if_pos h3] at k
        refine ⟨fun c4 => ?_, fun c4 => ⟨w.1.z, ?_⟩⟩
        · have h4 := (nI_leI (by omega) (by omega)).mp c4
          rw [if_neg (by omega)] at k
          exact k
        · have h4 : p - 8 < S 8 1 0 := Nat.lt_of_not_le fun z => c4 (nI_le z (by omega))
          rw [if_pos h4] at k
          have q2 := q.2.2.2.1 (p - 8) h4
          refine M_hasParcel w q.2.2.2.1 h4 ⟨fun c => ?_, fun c => ?_⟩
          · have c0 : S 4 (p - 8) 0 ≠ 0 := of_decide_eq_true c
            refine ⟨w.1.z, _, w.1.r6, M_slotAt ⟨788, w.1.z6, by decide, 252 + 7 * (p - 8) + m, by rw [nI_add], by omega, ?_⟩⟩
            rw [w.hp (x := 11 + (p - 8)) (by unfold lR; rw [show 11 + (p - 8) - 11 = p - 8 by omega]; omega) (hi_slot (by omega)) m (by omega)]
            exact k
          · have c0 : S 4 (p - 8) 0 = 0 := Decidable.not_not.mp (of_decide_eq_false c)
            have z6 : s6 (S 0 (11 + (p - 8))) = 0 := q2.2.2.2.2.mp c0
            have := s6_at (S 0 (11 + (p - 8))) (m := m) (by omega)
            rw [show S 0 (11 + (p - 8)) m = 0 by omega] at k
            exact k
      · have h2 : 16 ≤ p := Nat.lt_of_not_le fun z => c2 (nI_le z (by omega))
        have h46 : p ≠ 46 := fun e => c (by rw [e])
        rw [w.n9, pk_sub h2]
        rw [if_neg h46, if_pos h2] at k
        refine ⟨fun c4 => ?_, fun c4 => M_parcelAt ?_⟩
        · have h4 := (nI_leI (by omega) (by omega)).mp c4
          rw [if_neg (by omega)] at k
          exact k
        · have h4 : p - 16 < S 2 10 0 := Nat.lt_of_not_le fun z => c4 (nI_le z (by omega))
          rw [if_pos h4] at k
          refine ⟨788, w.1.z6, by decide, 42 + 7 * (p - 16) + m, by rw [nI_add], by omega, ?_⟩
          rw [w.hp (x := 19 + (p - 16)) (by unfold lR; omega) (hi_par (by omega)) m (by omega)]
          exact k
    · have ea : a_mass S (nI p) y = (2, 0) := by unfold a_mass; rw [hx, ix_no (by omega) hn]
      rw [ea] at k
      exact k
  · have ea : a_mass S x y = (1, 0) := by unfold a_mass; rw [ix_no (by omega) hn]
    rw [ea] at k
    exact k
theorem M_bale {f : Int32 → q_H → Prop} {x y : Int32} (h : MP A mo S) (q : iv S) (k : f (a_bale S x y).2 (th A mo (a_bale S x y).1)) : q_Wc G M_X11_bale [.ref mo, .int x, .int y] A (q_KI f) X := by
  have hb := h.2.1.b
  unfold Lb at hb
  have h6 := q.1.2.1
  refine f_X11_bale ⟨h.1.z, M_isBale h (fun b hb1 e => ⟨fun _ => ⟨fun _ => ⟨h.1.z, M_mats h.mt ?_⟩, fun e => (by cases e)⟩, fun e => (by cases e)⟩) (fun hn => ⟨fun e => (by cases e), fun _ => ⟨fun e => (by cases e), fun _ => f_X11_bale_42 ⟨h.1.z, M_f1 h.1.z ⟨fun _ => ?_, fun e => (by cases e)⟩⟩⟩⟩)⟩
  · subst e
    have hx := ix_nI hb1 (by omega)
    refine M_isIn (5 + S 8 0 0) (by omega) (by rw [nI_add, Int32.toInt_toInt64, nI_toInt (by omega)]; omega) (fun i hi e => ⟨fun _ => f_X11_bale_42 ⟨h.1.z, M_f0 h.1.z ⟨fun e => (by cases e), fun _ => ?_⟩⟩, fun e => (by cases e)⟩) (fun hn => ⟨fun e => (by cases e), fun _ => f_X11_bale_42 ⟨h.1.z, M_f2 h.1.z ⟨fun _ => ?_, fun e => (by cases e)⟩⟩⟩)
    · subst e
      have ea : a_bale S (nI b) (nI i) = (0, nI (if i = 0 then S 6 b 0 else if i = 1 then S 6 b 1 else if i = 2 then s6 (S 0 (49 + b)) else if i = 3 then S 6 b 2 else if i = 4 then S 6 b 3 else S 0 (49 + b) (i - 5))) := by
        unfold a_bale; rw [hx, ix_nI hi (by omega)]
      rw [ea] at k
      have p := h.th 0
      have w : ∀ n, n < 11 → nI i = nI n → i = n := fun n hn en => (nI_eq (by omega) (by omega)).mp en
      have hh := p.hp (x := 49 + b) (b := 392 + 10 * b) (by unfold lR; omega) (hi_bal b)
      refine ⟨fun ey => ?_, fun ey => ?_, fun ey => ?_, fun ey => ?_, fun ey => ?_, fun hn => ?_⟩
      · have := w 0 (by decide) ey; subst this
        exact ⟨p.1.z, _, p.1.r6, M_storedAt (j := 0) ⟨788, p.1.z6, by decide, _, rfl, by omega, by rw [p.2.1.ba hb1 (by decide)]; exact k⟩⟩
      · have := w 1 (by decide) ey; subst this
        exact ⟨p.1.z, _, p.1.r6, M_storedAt (j := 1) ⟨788, p.1.z6, by decide, _, rfl, by omega, by rw [p.2.1.ba hb1 (by decide)]; exact k⟩⟩
      · have := w 2 (by decide) ey; subst this
        exact M_storedAt (j := 4) ⟨p.1.z, M_total p.1 (g := S 0 (49 + b)) (by omega) (fun m hm => by rw [← hh m hm]; congr 1; omega) k⟩
      · have := w 3 (by decide) ey; subst this
        exact ⟨p.1.z, _, p.1.r6, M_storedAt (j := 2) ⟨788, p.1.z6, by decide, _, rfl, by omega, by rw [p.2.1.ba hb1 (by decide)]; exact k⟩⟩
      · have := w 4 (by decide) ey; subst this
        exact ⟨p.1.z, _, p.1.r6, M_storedAt (j := 3) ⟨788, p.1.z6, by decide, _, rfl, by omega, by rw [p.2.1.ba hb1 (by decide)]; exact k⟩⟩
      · have hi5 : 5 ≤ i := Nat.le_of_not_lt fun c => hn i c rfl
        rw [if_neg (by omega), if_neg (by omega), if_neg (by omega), if_neg (by omega), if_neg (by omega)] at k
        refine ⟨p.1.z, _, p.1.r6, M_storedAt (j := 4) ⟨788, p.1.z6, by decide, 392 + 10 * b + (i - 5), by rw [nI_add, pk_sub (by omega)]; congr 1; omega, by omega, ?_⟩⟩
        rw [hh (i - 5) (by omega)]
        exact k
    · have ea : a_bale S (nI b) y = (2, 0) := by unfold a_bale; rw [hx, ix_no (by omega) hn]
      rw [ea] at k
      exact k
  · have ea : a_bale S x y = (1, 0) := by unfold a_bale; rw [ix_no (by omega) hn]
    rw [ea] at k
    exact k
theorem M_buyer {f : Int32 → q_H → Prop} {x y : Int32} (h : MP A mo S) (k : f (a_buyer S x y).2 (th A mo (a_buyer S x y).1)) : q_Wc G M_X11_buyer [.ref mo, .int x, .int y] A (q_KI f) X := by
  have hb := h.2.1.b
  unfold Lb at hb
  refine f_X11_buyer ⟨h.1.z, M_isBuyer h (fun b hb1 e => ⟨fun _ => ⟨fun _ => ?_, fun e => (by cases e)⟩, fun e => (by cases e)⟩) (fun hn => ⟨fun e => (by cases e), fun _ => ⟨fun e => (by cases e), fun _ => f_X11_buyer_38 ⟨h.1.z, M_f1 h.1.z ⟨fun _ => ?_, fun e => (by cases e)⟩⟩⟩⟩)⟩
  · subst e
    have hx := ix_nI hb1 (by omega)
    refine M_isIn 6 (by omega) (by decide) (fun i hi e => ⟨fun _ => f_X11_buyer_38 ⟨h.1.z, M_f0 h.1.z ⟨fun e => (by cases e), fun _ => ?_⟩⟩, fun e => (by cases e)⟩) (fun hn => ⟨fun e => (by cases e), fun _ => f_X11_buyer_38 ⟨h.1.z, M_f2 h.1.z ⟨fun _ => ?_, fun e => (by cases e)⟩⟩⟩)
    · subst e
      have ea : a_buyer S (nI b) (nI i) = (0, nI (if i = 5 then S 7 b 0 else S 10 b i)) := by
        unfold a_buyer; rw [hx, ix_nI hi (by omega)]
      rw [ea] at k
      have p := h.th 0
      refine ⟨fun c => ?_, fun c => ?_⟩
      · have : i = 5 := (nI_eq (by omega) (by omega)).mp c
        rw [if_pos this] at k
        exact ⟨p.1.z, _, p.1.r6, 788, p.1.z6, by decide, 20 + b, by rw [nI_add], by omega, by rw [p.2.1.pd hb1]; exact k⟩
      · have : i ≠ 5 := fun e => c (by rw [e])
        rw [if_neg this] at k
        exact ⟨p.1.z, _, p.1.r2, 47, p.1.z2, by decide, 27 + 5 * b + i, by rw [pk_mul, nI_add, nI_add], by omega, by rw [p.to2 hb1 (by omega)]; exact k⟩
    · have ea : a_buyer S (nI b) y = (2, 0) := by unfold a_buyer; rw [hx, ix_no (by omega) hn]
      rw [ea] at k
      exact k
  · have ea : a_buyer S x y = (1, 0) := by unfold a_buyer; rw [ix_no (by omega) hn]
    rw [ea] at k
    exact k
theorem v_bal68 {f : Int64 → q_H → Prop} (h : MP A mo S) (q : iv_p S) (k : f (nI (o_hmass S)).toInt64 A) : ∀ (d i : Nat), i + d = S 2 10 0 → q_Wp G M_X11_balance (q_KL f) X 0 0 68 [some (.ref mo), none, some (.long (nI (sm (fun j => s6 (S 0 (19 + j))) i)).toInt64), none, some (.int (nI i))] [] A
  | 0, i, e => by
    have hb := h.2.1.b
    unfold Lb at hb
    have : i = S 2 10 0 := by omega
    subst this
    exact f_X11_balance_68 ⟨h.1.z, _, h.1.r6, 788, h.1.z6, by decide, by decide, by rw [h.n9]; exact ⟨fun _ => k, fun c => absurd (nI_le (Nat.le_refl _) (by omega)) c⟩⟩
  | d + 1, i, e => by
    have hb := h.2.1.b
    unfold Lb at hb
    have ih := v_bal68 h q k d (i + 1) (by omega)
    have e1 : sm (fun j => s6 (S 0 (19 + j))) (i + 1) = sm (fun j => s6 (S 0 (19 + j))) i + s6 (S 0 (19 + i)) := rfl
    have bd : sm (fun j => s6 (S 0 (19 + j))) (i + 1) ≤ (i + 1) * 5994 := sm_bd fun j hj => (q j (by omega)).2.1
    refine f_X11_balance_68 ⟨h.1.z, _, h.1.r6, 788, h.1.z6, by decide, by decide, ?_⟩
    rw [h.n9]
    refine ⟨fun c => absurd c (nI_ge (by omega) (by omega)), fun _ => M_parcelAt ⟨h.1.z, M_total h.1 (g := S 0 (19 + i)) (by omega) (h.hp (by unfold lR; omega) (hi_par (by omega))) ?_⟩⟩
    rw [l64_add (by omega), nI_add, ← e1]
    exact ih
theorem v_bal104 {f : Int64 → q_H → Prop} (h : MP A mo S) (q : iv_t S) (k : f (nI (o_bmass S)).toInt64 A) : ∀ (d i : Nat), i + d = S 8 1 0 → q_Wp G M_X11_balance (q_KL f) X 0 0 104 [some (.ref mo), none, some (.long (nI (sm (fun j => s6 (S 0 (11 + j))) i)).toInt64), none, some (.int (nI i))] [] A
  | 0, i, e => by
    have hb := h.2.1.b
    unfold Lb at hb
    have : i = S 8 1 0 := by omega
    subst this
    exact f_X11_balance_104 ⟨h.1.z, M_sts h.mt ⟨fun _ => k, fun c => absurd (nI_le (Nat.le_refl _) (by omega)) c⟩⟩
  | d + 1, i, e => by
    have hb := h.2.1.b
    unfold Lb at hb
    have ih := v_bal104 h q k d (i + 1) (by omega)
    have e1 : sm (fun j => s6 (S 0 (11 + j))) (i + 1) = sm (fun j => s6 (S 0 (11 + j))) i + s6 (S 0 (11 + i)) := rfl
    have bd : sm (fun j => s6 (S 0 (11 + j))) (i + 1) ≤ (i + 1) * 200 := sm_bd fun j hj => (q j (by omega)).2.2.2.1
    refine f_X11_balance_104 ⟨h.1.z, M_sts h.mt ⟨fun c => absurd c (nI_ge (by omega) (by omega)), fun _ => ⟨h.1.z, M_hasParcel h q (by omega) ⟨fun c => ?_, fun c => ?_⟩⟩⟩⟩
    · have c0 : S 4 i 0 ≠ 0 := of_decide_eq_true c
      refine M_slotAt ⟨h.1.z, M_total h.1 (g := S 0 (11 + i)) (by omega) (h.hp (by unfold lR; rw [show 11 + i - 11 = i by omega]; omega) (hi_slot (by omega))) ?_⟩
      rw [l64_add (by omega), nI_add, ← e1]
      exact ih
    · have c0 : S 4 i 0 = 0 := Decidable.not_not.mp (of_decide_eq_false c)
      have z6 : s6 (S 0 (11 + i)) = 0 := (q i (by omega)).2.2.2.2.mp c0
      rw [z6] at e1
      rw [show lN 0 = (nI 0).toInt64 by decide, l64_add (by omega), nI_add, ← e1]
      exact ih
theorem v_bal150 {f : Int64 → q_H → Prop} (h : MP A mo S) (q : ∀ s, s < S 8 1 0 → s6 (S 0 (3 + s)) ≤ 2100000) (k : f (nI (o_kmass S)).toInt64 A) : ∀ (d i : Nat), i + d = S 8 1 0 → q_Wp G M_X11_balance (q_KL f) X 0 0 150 [some (.ref mo), none, some (.long (nI (sm (fun j => s6 (S 0 (3 + j))) i)).toInt64), none, some (.int (nI i))] [] A
  | 0, i, e => by
    have hb := h.2.1.b
    unfold Lb at hb
    have : i = S 8 1 0 := by omega
    subst this
    exact f_X11_balance_150 ⟨h.1.z, M_sts h.mt ⟨fun _ => k, fun c => absurd (nI_le (Nat.le_refl _) (by omega)) c⟩⟩
  | d + 1, i, e => by
    have hb := h.2.1.b
    unfold Lb at hb
    have ih := v_bal150 h q k d (i + 1) (by omega)
    have e1 : sm (fun j => s6 (S 0 (3 + j))) (i + 1) = sm (fun j => s6 (S 0 (3 + j))) i + s6 (S 0 (3 + i)) := rfl
    have bd : sm (fun j => s6 (S 0 (3 + j))) (i + 1) ≤ (i + 1) * 2100000 := sm_bd fun j hj => q j (by omega)
    refine f_X11_balance_150 ⟨h.1.z, M_sts h.mt ⟨fun c => absurd c (nI_ge (by omega) (by omega)), fun _ => M_placeAt (j := 4) ⟨h.1.z, M_total h.1 (g := S 0 (3 + i)) (by omega) (fun m hm => ?_) ?_⟩⟩⟩
    · rw [← h.hp (x := 3 + i) (by unfold lR; omega) (hi_bun (by omega)) m hm]; congr 1; omega
    · rw [l64_add (by omega), nI_add, ← e1]
      exact ih
theorem v_bal184 {f : Int64 → q_H → Prop} (h : MP A mo S) (q : iv_b S) (k : f (nI (o_smass S)).toInt64 A) : ∀ (d i : Nat), i + d = S 2 11 0 → q_Wp G M_X11_balance (q_KL f) X 0 0 184 [some (.ref mo), none, some (.long (nI (sm (fun j => s6 (S 0 (49 + j))) i)).toInt64), none, some (.int (nI i))] [] A
  | 0, i, e => by
    have hb := h.2.1.b
    unfold Lb at hb
    have : i = S 2 11 0 := by omega
    subst this
    exact f_X11_balance_184 ⟨h.1.z, _, h.1.r6, 788, h.1.z6, by decide, by decide, by rw [h.n14]; exact ⟨fun _ => k, fun c => absurd (nI_le (Nat.le_refl _) (by omega)) c⟩⟩
  | d + 1, i, e => by
    have hb := h.2.1.b
    unfold Lb at hb
    have ih := v_bal184 h q k d (i + 1) (by omega)
    have e1 : sm (fun j => s6 (S 0 (49 + j))) (i + 1) = sm (fun j => s6 (S 0 (49 + j))) i + s6 (S 0 (49 + i)) := rfl
    have bd : sm (fun j => s6 (S 0 (49 + j))) (i + 1) ≤ (i + 1) * 500 := sm_bd fun j hj => (q j (by omega)).2.1
    refine f_X11_balance_184 ⟨h.1.z, _, h.1.r6, 788, h.1.z6, by decide, by decide, ?_⟩
    rw [h.n14]
    refine ⟨fun c => absurd c (nI_ge (by omega) (by omega)), fun _ => M_storedAt (j := 4) ⟨h.1.z, M_total h.1 (g := S 0 (49 + i)) (by omega) (fun m hm => ?_) ?_⟩⟩
    · rw [← h.hp (x := 49 + i) (by unfold lR; omega) (hi_bal i) m hm]; congr 1; omega
    · rw [l64_add (by omega), nI_add, ← e1]
      exact ih
theorem M_balance {f : Int64 → q_H → Prop} {y : Int32} (h : MP A mo S) (q : iv S) (ht : S 2 0 0 ≤ 10400) (k : f (a_balance S y) (th A mo 0)) : q_Wc G M_X11_balance [.ref mo, .int y] A (q_KL f) X := by
  have ea : ∀ w, w < 8 → y = nI w → a_balance S y = (nI (if w = 0 then S 2 7 0 else if w = 1 then o_hmass S else if w = 2 then o_bmass S else if w = 3 then o_kmass S else if w = 4 then o_smass S else if w = 5 then S 2 8 0 else if w = 6 then s6 (S 0 0) else S 2 9 0)).toInt64 := fun w hw e => by
    rw [e]; unfold a_balance; rw [ix_nI hw (by decide)]
  have hq : q_setI A mo 0 (nI 0) = th A mo 0 := rfl
  have p := h.th 0
  rw [← hq] at p k
  have tl : ∀ {i : Nat}, i < 12 → i ≠ 2 → q_I (q_setI A mo 0 (nI 0)) (mo + 6) (r2 i) = nI (S 2 i 0) := fun a b => p.2.1.tal a b
  have l0 : lN 0 = (nI 0).toInt64 := by decide
  have qm := q.2.2.2.2.2.2.2.2.1
  refine f_X11_balance ⟨h.1.z, fun e => ?_, fun e => ?_, fun e => ?_, fun e => ?_, fun e => ?_, fun e => ?_, fun e => ?_, fun e => ?_, fun hn => ?_⟩
  · rw [ea 0 (by decide) e] at k; exact ⟨_, h.1.r6, 788, h.1.z6, by decide, by decide, by rw [show 16 = r2 7 from rfl, tl (by decide) (by decide)]; exact k⟩
  · rw [ea 1 (by decide) e] at k; rw [l0]; exact v_bal68 p q.2.2.2.2.1 k (S 2 10 0) 0 (by omega)
  · rw [ea 2 (by decide) e] at k; rw [l0]; exact v_bal104 p q.2.2.2.1 k (S 8 1 0) 0 (by omega)
  · rw [ea 3 (by decide) e] at k; rw [l0]; exact v_bal150 p (fun s hs => by have : s6 (S 0 (3 + s)) ≤ 200 * S 2 0 0 := qm s hs; omega) k (S 8 1 0) 0 (by omega)
  · rw [ea 4 (by decide) e] at k; rw [l0]; exact v_bal184 p q.2.2.2.2.2.1 k (S 2 11 0) 0 (by omega)
  · rw [ea 5 (by decide) e] at k; exact ⟨_, h.1.r6, 788, h.1.z6, by decide, by decide, by rw [show 17 = r2 8 from rfl, tl (by decide) (by decide)]; exact k⟩
  · rw [ea 6 (by decide) e] at k; exact M_total p.1 (b := 24) (by decide) (p.hp (x := 0) (Or.inl (by decide)) rfl) k
  · rw [ea 7 (by decide) e] at k; exact ⟨_, h.1.r6, 788, h.1.z6, by decide, by decide, by rw [show 18 = r2 9 from rfl, tl (by decide) (by decide)]; exact k⟩
  · have : a_balance S y = -1 := by unfold a_balance; rw [ix_no (by decide) hn]
    rw [this] at k; exact k
theorem M_purity {f : UInt64 → q_H → Prop} {y : Int32} (h : MP A mo S) (q : iv S) (ht : S 2 0 0 ≤ 10400) (k : f (a_purity S y).2 (th A mo (a_purity S y).1)) : q_Wc G M_X11_purity [.ref mo, .int y] A (q_KD f) X := by
  have h6 := q.1.2.1
  refine f_X11_purity ⟨h.1.z, M_isMaterial h h6 (fun m hm e => ⟨fun _ => f_X11_purity_16 ⟨h.1.z, M_f0 h.1.z ⟨fun e => (by cases e), fun _ => ?_⟩⟩, fun e => (by cases e)⟩) (fun hn => ⟨fun e => (by cases e), fun _ => f_X11_purity_16 ⟨h.1.z, M_f1 h.1.z ⟨fun _ => ?_, fun e => (by cases e)⟩⟩⟩)⟩
  · subst e
    have p := h.th 0
    have qm := q.2.2.2.2.2.2.2
    have b1 := s6_at (S 0 1) (m := m) (by omega)
    have b2 : s6 (S 0 1) ≤ 500 * S 2 1 0 := qm.2.2.2
    have b3 : S 2 1 0 ≤ 40 * S 2 0 0 := qm.2.2.1
    have ea : a_purity S (nI m) = (0, if S 0 1 m = 0 then FP.dconst0 else FP.ddiv (FP.i2d (nI (S 0 2 m))) (FP.i2d (nI (S 0 1 m)))) := by
      unfold a_purity; rw [ix_nI hm (by omega)]
    rw [ea] at k
    refine ⟨p.1.z, _, p.1.r6, 788, p.1.z6, by decide, 36 + m, by rw [nI_add], by omega, ?_⟩
    rw [p.hp (x := 1) (b := 36) (Or.inl (by decide)) rfl m (by omega)]
    refine ⟨fun c => ?_, fun c => ⟨30 + m, by rw [nI_add], by omega, ?_⟩⟩
    · rw [if_pos ((nI_eq (by omega) (by decide)).mp c)] at k
      exact k
    · have h0 : S 0 1 m ≠ 0 := fun e => c (by rw [e])
      rw [if_neg h0] at k
      rw [p.hp (x := 2) (b := 30) (Or.inl (by decide)) rfl m (by omega)]
      exact ⟨nn64 _ c, k⟩
  · have ea : a_purity S y = (1, FP.dconst0) := by unfold a_purity; rw [ix_no (by omega) hn]
    rw [ea] at k
    exact k
theorem M_loss {f : UInt32 → q_H → Prop} (h : MP A mo S) (q : iv S) (ht : S 2 0 0 ≤ 10400) (k : f (a_loss S) (th A mo 0)) : q_Wc G M_X11_loss [.ref mo] A (q_KF f) X := by
  have qm := q.2.2.2.2.2.2.2
  have b0 : s6 (S 0 0) ≤ 200 * S 2 0 0 := qm.1
  have b2 : s6 (S 0 1) ≤ 500 * S 2 1 0 := qm.2.2.2
  have b3 : S 2 1 0 ≤ 40 * S 2 0 0 := qm.2.2.1
  have hq : q_setI A mo 0 (nI 0) = th A mo 0 := rfl
  have p := h.th 0
  rw [← hq] at p k
  refine f_X11_loss ⟨h.1.z, M_total p.1 (b := 24) (by decide) (p.hp (x := 0) (Or.inl (by decide)) rfl) ⟨p.1.z, _, p.1.r6, 788, p.1.z6, by decide, by decide, ?_⟩⟩
  rw [p.2.1.al, nI_add]
  unfold a_loss at k
  refine ⟨fun c => ?_, fun c => ?_⟩
  · rw [if_pos ((nI_eq (by omega) (by decide)).mp c)] at k
    exact k
  · have h0 : ¬ s6 (S 0 0) + s6 (S 0 1) = 0 := fun e => c (by rw [e])
    rw [if_neg h0] at k
    exact ⟨nn32 _ c, k⟩
end MQ2

/-! THE REFERENCE'S OBJECT: mo, its arrays behind it: ranges, told, draft, names, draftNames, row, draftRow, aside, kept, buffer, one, taken -/
def MS (A : q_H) (mo : Nat) : Prop := (q_sh A mo = (12, 0) ∧ q_R A mo 1 = some (mo + 1) ∧ q_R A mo 2 = some (mo + 2) ∧ q_R A mo 3 = some (mo + 3) ∧ q_R A mo 4 = some (mo + 4) ∧ q_R A mo 5 = some (mo + 5) ∧ q_R A mo 6 = some (mo + 6) ∧ q_R A mo 7 = some (mo + 7) ∧ q_R A mo 8 = some (mo + 8) ∧ q_R A mo 9 = some (mo + 9) ∧ q_R A mo 11 = some (mo + 10) ∧ q_R A mo 20 = some (mo + 11) ∧ q_R A mo 21 = some (mo + 12)) ∧
  q_sh A (mo + 1) = (50, 24) ∧ q_sh A (mo + 2) = (50, 47) ∧ q_sh A (mo + 3) = (50, 47) ∧ q_sh A (mo + 4) = (52, 4) ∧ q_sh A (mo + 5) = (52, 4) ∧ q_sh A (mo + 6) = (50, 788) ∧ q_sh A (mo + 7) = (50, 788) ∧ q_sh A (mo + 8) = (50, 788) ∧ q_sh A (mo + 9) = (50, 4728) ∧ q_sh A (mo + 10) = (50, 700) ∧ q_sh A (mo + 11) = (50, 1) ∧ q_sh A (mo + 12) = (50, 6)
theorem MS.to {A A' : q_H} {mo : Nat} (h : MS A mo) (hs : q_sh A' = q_sh A) (hr : q_R A' = q_R A) : MS A' mo := by
  unfold MS at h ⊢
  rw [hs, hr]; exact h
section MSS
variable {A : q_H} {mo : Nat}
theorem MS.z (h : MS A mo) : q_sh A mo = (12, 0) := h.1.1
theorem MS.r1 (h : MS A mo) : q_R A mo 1 = some (mo + 1) := h.1.2.1
theorem MS.r2 (h : MS A mo) : q_R A mo 2 = some (mo + 2) := h.1.2.2.1
theorem MS.r3 (h : MS A mo) : q_R A mo 3 = some (mo + 3) := h.1.2.2.2.1
theorem MS.r4 (h : MS A mo) : q_R A mo 4 = some (mo + 4) := h.1.2.2.2.2.1
theorem MS.r5 (h : MS A mo) : q_R A mo 5 = some (mo + 5) := h.1.2.2.2.2.2.1
theorem MS.r6 (h : MS A mo) : q_R A mo 6 = some (mo + 6) := h.1.2.2.2.2.2.2.1
theorem MS.r7 (h : MS A mo) : q_R A mo 7 = some (mo + 7) := h.1.2.2.2.2.2.2.2.1
theorem MS.r8 (h : MS A mo) : q_R A mo 8 = some (mo + 8) := h.1.2.2.2.2.2.2.2.2.1
theorem MS.r9 (h : MS A mo) : q_R A mo 9 = some (mo + 9) := h.1.2.2.2.2.2.2.2.2.2.1
theorem MS.r11 (h : MS A mo) : q_R A mo 11 = some (mo + 10) := h.1.2.2.2.2.2.2.2.2.2.2.1
theorem MS.r20 (h : MS A mo) : q_R A mo 20 = some (mo + 11) := h.1.2.2.2.2.2.2.2.2.2.2.2.1
theorem MS.r21 (h : MS A mo) : q_R A mo 21 = some (mo + 12) := h.1.2.2.2.2.2.2.2.2.2.2.2.2
theorem MS.z1 (h : MS A mo) : q_sh A (mo + 1) = (50, 24) := h.2.1
theorem MS.z2 (h : MS A mo) : q_sh A (mo + 2) = (50, 47) := h.2.2.1
theorem MS.z3 (h : MS A mo) : q_sh A (mo + 3) = (50, 47) := h.2.2.2.1
theorem MS.z4 (h : MS A mo) : q_sh A (mo + 4) = (52, 4) := h.2.2.2.2.1
theorem MS.z5 (h : MS A mo) : q_sh A (mo + 5) = (52, 4) := h.2.2.2.2.2.1
theorem MS.z6 (h : MS A mo) : q_sh A (mo + 6) = (50, 788) := h.2.2.2.2.2.2.1
theorem MS.z7 (h : MS A mo) : q_sh A (mo + 7) = (50, 788) := h.2.2.2.2.2.2.2.1
theorem MS.z8 (h : MS A mo) : q_sh A (mo + 8) = (50, 788) := h.2.2.2.2.2.2.2.2.1
theorem MS.z9 (h : MS A mo) : q_sh A (mo + 9) = (50, 4728) := h.2.2.2.2.2.2.2.2.2.1
theorem MS.z10 (h : MS A mo) : q_sh A (mo + 10) = (50, 700) := h.2.2.2.2.2.2.2.2.2.2.1
theorem MS.z11 (h : MS A mo) : q_sh A (mo + 11) = (50, 1) := h.2.2.2.2.2.2.2.2.2.2.2.1
theorem MS.z12 (h : MS A mo) : q_sh A (mo + 12) = (50, 6) := h.2.2.2.2.2.2.2.2.2.2.2.2
end MSS
/-- only the row, taken and best have changed -/
def mf (A A' : q_H) (mo : Nat) : Prop := q_sz A' = q_sz A ∧ q_sh A' = q_sh A ∧ q_R A' = q_R A ∧ q_L A' = q_L A ∧ q_D A' = q_D A ∧ ∀ x k, ¬ (x = mo + 6 ∨ x = mo + 12 ∨ (x = mo ∧ k = 22)) → q_I A' x k = q_I A x k
theorem mf.r (A : q_H) (mo : Nat) : mf A A mo := ⟨rfl, rfl, rfl, rfl, rfl, fun _ _ _ => rfl⟩
theorem mf.t {A B C : q_H} {mo : Nat} (h : mf A B mo) (k : mf B C mo) : mf A C mo := ⟨k.1.trans h.1, k.2.1.trans h.2.1, k.2.2.1.trans h.2.2.1, k.2.2.2.1.trans h.2.2.2.1, k.2.2.2.2.1.trans h.2.2.2.2.1, fun x j q => (k.2.2.2.2.2 x j q).trans (h.2.2.2.2.2 x j q)⟩
theorem mf.set {A B : q_H} {mo x k : Nat} {v : Int32} (h : mf A B mo) (hx : x = mo + 6 ∨ x = mo + 12 ∨ (x = mo ∧ k = 22)) : mf A (q_setI B x k v) mo := ⟨h.1, h.2.1, h.2.2.1, h.2.2.2.1, h.2.2.2.2.1, fun y j q => by
  rw [I_set (by
    by_cases c : y = x
    · subst c
      exact Or.inr fun e => q (by rw [e]; exact hx)
    · exact Or.inl c)]
  exact h.2.2.2.2.2 y j q⟩
theorem mf.ms {A A' : q_H} {mo : Nat} (h : mf A A' mo) (m : MS A mo) : MS A' mo := m.to h.2.1 h.2.2.1
theorem mf.sm {A A' : q_H} {mo x : Nat} (h : mf A A' mo) (hx : x < mo ∨ mo + 13 ≤ x) : q_same A A' x := ⟨by rw [h.2.1], by funext j; exact h.2.2.2.2.2 x j (by omega), by rw [h.2.2.1], by rw [h.2.2.2.1], by rw [h.2.2.2.2.1]⟩
def TO (V : Nat → Int32) (S : s_T) : Prop := (V 0 = nI (S 8 0 0) ∧ V 1 = nI (S 8 1 0) ∧ V 2 = nI (S 8 2 0)) ∧ (∀ s j, s < S 8 1 0 → j < 3 → V (3 + 3 * s + j) = nI (S 9 s j)) ∧ ∀ b j, b < S 8 2 0 → j < 5 → V (27 + 5 * b + j) = nI (S 10 b j)
theorem TO.cf {V : Nat → Int32} {S S' : s_T} (h : TO V S) (c : s_cf S S') : TO V S' := by
  unfold TO at h ⊢
  rw [c.2.1, c.2.2.1, c.2.2.2.1]; exact h
/-- the reference's line -/
def MP (A : q_H) (mo : Nat) (S : s_T) : Prop := MS A mo ∧ RW (q_I A (mo + 6)) S ∧ TO (q_I A (mo + 2)) S
/-- without the row -/
def MT (A : q_H) (mo : Nat) (S : s_T) : Prop := MS A mo ∧ Lb S ∧ TO (q_I A (mo + 2)) S
theorem MP.mt {A : q_H} {mo : Nat} {S : s_T} (h : MP A mo S) : MT A mo S := ⟨h.1, h.2.1.1, h.2.2⟩
theorem MT.mf {A A' : q_H} {mo : Nat} {S : s_T} (h : MT A mo S) (f : mf A A' mo) : MT A' mo S := ⟨f.ms h.1, h.2.1, by
  have : q_I A' (mo + 2) = q_I A (mo + 2) := by funext k; exact f.2.2.2.2.2 _ k (by omega)
  rw [this]; exact h.2.2⟩
section MD
variable {G : q_G} {X : String → q_H → Prop} {A A0 : q_H} {mo : Nat} {S : s_T}
theorem MP.to {A' : q_H} {S' : s_T} (h : MP A mo S) (f : mf A A' mo) (r : RW (q_I A' (mo + 6)) S') (c : s_cf S S') : MP A' mo S' := ⟨f.ms h.1, r, by
  have : q_I A' (mo + 2) = q_I A (mo + 2) := by funext k; exact f.2.2.2.2.2 _ k (by omega)
  rw [this]; exact h.2.2.cf c⟩
theorem M_mats {f : Int32 → q_H → Prop} (h : MT A mo S) (k : f (nI (S 8 0 0)) A) : q_Wc G M_X11_materials [.ref mo] A (q_KI f) X := f_X11_materials ⟨h.1.z, _, h.1.r2, 47, h.1.z2, by decide, by decide, by rw [h.2.2.1.1]; exact k⟩
theorem M_sts {f : Int32 → q_H → Prop} (h : MT A mo S) (k : f (nI (S 8 1 0)) A) : q_Wc G M_X11_stations [.ref mo] A (q_KI f) X := f_X11_stations ⟨h.1.z, _, h.1.r2, 47, h.1.z2, by decide, by decide, by rw [h.2.2.1.2.1]; exact k⟩
theorem M_slotAt {f : Int32 → q_H → Prop} {s : Nat} (k : f (nI (252 + 7 * s)) A) : q_Wc G M_X11_slotAt [.int (nI s)] A (q_KI f) X := f_X11_slotAt (by rw [pk_mul, nI_add]; exact k)
theorem M_parcelAt {f : Int32 → q_H → Prop} {s : Nat} (k : f (nI (42 + 7 * s)) A) : q_Wc G M_X11_parcelAt [.int (nI s)] A (q_KI f) X := f_X11_parcelAt (by rw [pk_mul, nI_add]; exact k)
theorem M_placeAt {f : Int32 → q_H → Prop} {s j : Nat} (k : f (nI (308 + 10 * s + j)) A) : q_Wc G M_X11_placeAt [.int (nI s), .int (nI j)] A (q_KI f) X := f_X11_placeAt (by rw [pk_mul, nI_add, nI_add]; exact k)
theorem M_storedAt {f : Int32 → q_H → Prop} {s j : Nat} (k : f (nI (388 + 10 * s + j)) A) : q_Wc G M_X11_storedAt [.int (nI s), .int (nI j)] A (q_KI f) X := f_X11_storedAt (by rw [pk_mul, nI_add, nI_add]; exact k)
theorem M_target {f : Int32 → q_H → Prop} (h : MT A mo S) {s : Nat} (hs : s < S 8 1 0) (k : f (nI (S 9 s 0)) A) : q_Wc G M_X11_targetOf [.ref mo, .int (nI s)] A (q_KI f) X := by
  have hb := h.2.1
  unfold Lb at hb
  have e : q_I A (mo + 2) (3 + 3 * s) = nI (S 9 s 0) := h.2.2.2.1 s 0 hs (by decide)
  exact f_X11_targetOf ⟨h.1.z, _, h.1.r2, 47, h.1.z2, by decide, 3 + 3 * s, by rw [pk_mul, nI_add], by omega, by rw [e]; exact k⟩
theorem v_total {f : Int32 → q_H → Prop} {a z b : Nat} {g : Nat → Nat} (hz : q_sh A a = (50, z)) (z31 : z < 2147483648) (hb : b + 6 ≤ z) (hg : ∀ m, m < 6 → q_I A a (b + m) = nI (g m)) (k : f (nI (s6 g)) A) : ∀ (d i : Nat), i + d = 6 → q_Wp G M_X11_totalOf (q_KI f) X 0 0 4 [some (.ref a), some (.int (nI b)), some (.int (nI (sm g i))), some (.int (nI i))] [] A
  | 0, i, e => by
    have : i = 6 := by omega
    subst this
    rw [s6_sm]
    exact f_X11_totalOf_4 ⟨fun _ => k, fun c => absurd (nI_le (Nat.le_refl _) (by decide)) c⟩
  | d + 1, i, e => by
    refine f_X11_totalOf_4 ⟨fun c => absurd c (nI_ge (by omega) (by decide)), fun _ => ⟨z, hz, z31, b + i, by rw [nI_add], by omega, ?_⟩⟩
    rw [hg i (by omega), nI_add, nI_add]
    exact v_total hz z31 hb hg k d (i + 1) (by omega)
theorem M_totalOf {f : Int32 → q_H → Prop} {a z b : Nat} {g : Nat → Nat} (hz : q_sh A a = (50, z)) (z31 : z < 2147483648) (hb : b + 6 ≤ z) (hg : ∀ m, m < 6 → q_I A a (b + m) = nI (g m)) (k : f (nI (s6 g)) A) : q_Wc G M_X11_totalOf [.ref a, .int (nI b)] A (q_KI f) X :=
  f_X11_totalOf (v_total hz z31 hb hg k 6 0 (by omega))
/-- a heap in the row -/
theorem M_total {f : Int32 → q_H → Prop} {b : Nat} {g : Nat → Nat} (h : MS A mo) (hb : b + 6 ≤ 788) (hg : ∀ m, m < 6 → q_I A (mo + 6) (b + m) = nI (g m)) (k : f (nI (s6 g)) A) : q_Wc G M_X11_total [.ref mo, .int (nI b)] A (q_KI f) X :=
  f_X11_total ⟨h.z, _, h.r6, M_totalOf h.z6 (by decide) hb hg k⟩
theorem v_isTarget {f : Bool → q_H → Prop} (h : MT A mo S) (q : iv_c S) {m : Nat} (hm : m < 100) (k : f (o_isT S m (S 8 1 0)) A) : ∀ (d i : Nat), i + d = S 8 1 0 → o_isT S m i = false → q_Wp G M_X11_isTarget (q_KB f) X 0 0 2 [some (.ref mo), some (.int (nI m)), some (.int (nI i))] [] A
  | d, i, e, hi => by
    unfold iv_c at q
    refine f_X11_isTarget_2 ⟨h.1.z, M_sts h ⟨fun c => ?_, fun c => ⟨h.1.z, ?_⟩⟩⟩
    · have hle := (nI_leI (by omega) (by omega)).mp c
      have : i = S 8 1 0 := by omega
      subst this
      rw [hi] at k; exact k
    · have hlt : i < S 8 1 0 := Nat.lt_of_not_le fun z => c (nI_le z (by omega))
      have qs := q.2.2.2.2.2.1 i hlt
      refine M_target h hlt ⟨fun c2 => ?_, fun c2 => ?_⟩
      · have e2 : S 9 i 0 = m := (nI_eq (by omega) (by omega)).mp c2
        have up : ∀ n, i < n → o_isT S m n = true := fun n hn => by
          induction n with
          | zero => omega
          | succ n ih =>
            show (o_isT S m n || decide (S 9 n 0 = m)) = true
            by_cases cn : n = i
            · rw [cn, e2]; simp
            · rw [ih (by omega)]; rfl
        rw [up _ hlt] at k; exact k
      · rw [nI_add]
        match d, e with
        | 0, e => omega
        | d + 1, e =>
          refine v_isTarget h q hm k d (i + 1) (by omega) ?_
          show (o_isT S m i || decide (S 9 i 0 = m)) = false
          rw [hi, decide_eq_false fun z => c2 (by rw [z])]; rfl
theorem M_isTarget {f : Bool → q_H → Prop} (h : MT A mo S) (q : iv_c S) {m : Nat} (hm : m < 100) (k : f (o_isT S m (S 8 1 0)) A) : q_Wc G M_X11_isTarget [.ref mo, .int (nI m)] A (q_KB f) X :=
  f_X11_isTarget (v_isTarget h q hm k (S 8 1 0) 0 (by omega) rfl)
theorem v_mostOf {f : Int32 → q_H → Prop} {b x : Nat} {x2 : Int32} {g : Nat → Nat} (h : MT A mo S) (hM : S 8 0 0 ≤ 6) (hb : b + 6 ≤ 788) (hg : ∀ m, m < 6 → q_I A (mo + 6) (b + m) = nI (g m)) (hs : ∀ m, g m < 2147483648) (hx : ∀ m, m < 6 → (nI m = x2 ↔ m = x)) (k : f (mb (am g x (S 8 0 0))) A) :
    ∀ (d i : Nat), i + d = S 8 0 0 → q_Wp G M_X11_mostOf (q_KI f) X 0 0 5 [some (.ref mo), some (.int (nI b)), some (.int x2), some (.int (mb (am g x i))), some (.int (nI i))] [] A
  | 0, i, e => by
    have ei : i = S 8 0 0 := by omega
    subst ei
    exact f_X11_mostOf_5 ⟨h.1.z, M_mats h ⟨fun _ => k, fun c => absurd (nI_le (Nat.le_refl _) (by omega)) c⟩⟩
  | d + 1, i, e => by
    have ih := v_mostOf h hM hb hg hs hx k d (i + 1) (by omega)
    have ea : am g x (i + 1) = if i ≠ x ∧ (am g x i = 0 ∨ g (am g x i - 1) < g i) then i + 1 else am g x i := rfl
    have hl := am_le g x i
    refine f_X11_mostOf_5 ⟨h.1.z, M_mats h ⟨fun c => absurd c (nI_ge (by omega) (by omega)), fun _ => ⟨fun c => ?_, fun c => ⟨fun c2 => ?_, fun c2 => ⟨h.1.z, _, h.1.r6, 788, h.1.z6, by decide, b + i, by rw [nI_add], by omega, b + (am g x i - 1), ?_, by omega, ?_⟩⟩⟩⟩⟩
    · rw [ea, if_neg (fun q => q.1 ((hx i (by omega)).mp c))] at ih
      rw [nI_add]; exact ih
    · have z : am g x i = 0 := by
        by_cases z : am g x i = 0
        · exact z
        · exfalso
          rw [mb, if_neg z] at c2
          exact absurd (show nI (am g x i - 1) < 0 by rw [c2]; decide) (nI_pos (by omega))
      rw [ea, if_pos ⟨fun q => c ((hx i (by omega)).mpr q), Or.inl z⟩] at ih
      rw [nI_add]
      simp only [mb, Nat.add_sub_cancel, Nat.add_eq_zero_iff, Nat.one_ne_zero, and_false, if_false] at ih
      exact ih
    · have z : am g x i ≠ 0 := fun z => c2 (by rw [mb, if_pos z])
      rw [mb, if_neg z, nI_add]
    · have z : am g x i ≠ 0 := fun z => c2 (by rw [mb, if_pos z])
      rw [hg i (by omega), hg (am g x i - 1) (by omega)]
      refine ⟨fun c3 => ?_, fun c3 => ?_⟩
      · have hle := (nI_leI (hs _) (hs _)).mp c3
        rw [ea, if_neg (by omega)] at ih
        rw [nI_add]; exact ih
      · have hlt : g (am g x i - 1) < g i := Nat.lt_of_not_le fun q => c3 (nI_le q (hs _))
        rw [ea, if_pos ⟨fun q => c ((hx i (by omega)).mpr q), Or.inr hlt⟩] at ih
        rw [nI_add]
        simp only [mb, Nat.add_sub_cancel, Nat.add_eq_zero_iff, Nat.one_ne_zero, and_false, if_false] at ih
        exact ih
theorem M_mostOf {f : Int32 → q_H → Prop} {b x : Nat} {x2 : Int32} {g : Nat → Nat} (h : MT A mo S) (hM : S 8 0 0 ≤ 6) (hb : b + 6 ≤ 788) (hg : ∀ m, m < 6 → q_I A (mo + 6) (b + m) = nI (g m)) (hs : ∀ m, g m < 2147483648) (hx : ∀ m, m < 6 → (nI m = x2 ↔ m = x)) (k : f (mb (am g x (S 8 0 0))) A) : q_Wc G M_X11_mostOf [.ref mo, .int (nI b), .int x2] A (q_KI f) X :=
  f_X11_mostOf (v_mostOf h hM hb hg hs hx k (S 8 0 0) 0 (by omega))
end MD

/-! THE REFERENCE: what is asked of it; what it would throw stands in its number 0 -/
def th (A : q_H) (mo c : Nat) : q_H := q_setI A mo 0 (nI c)
theorem th_I (A : q_H) (mo c x k : Nat) (h : x ≠ mo ∨ k ≠ 0) : q_I (th A mo c) x k = q_I A x k := I_set h
theorem th_row (A : q_H) (mo c x : Nat) (h : x ≠ mo) : q_I (th A mo c) x = q_I A x := by funext k; exact th_I A mo c x k (Or.inl h)
theorem MS.th {A : q_H} {mo : Nat} (h : MS A mo) (c : Nat) : MS (th A mo c) mo := h.to rfl rfl
theorem MP.th {A : q_H} {mo : Nat} {S : s_T} (h : MP A mo S) (c : Nat) : MP (th A mo c) mo S := ⟨h.1.th c, by rw [th_row A mo c (mo + 6) (by omega)]; exact h.2.1, by rw [th_row A mo c (mo + 2) (by omega)]; exact h.2.2⟩
theorem i64_lt (x y : Int32) : x.toInt64 < y.toInt64 ↔ x < y := by rw [Int64.lt_iff_toInt_lt, Int32.lt_iff_toInt_lt, Int32.toInt_toInt64, Int32.toInt_toInt64]
theorem nI_m1 (n : Nat) (h : n < 2147483648) : (nI n - nI 1).toInt = (n : Int) - 1 := by
  by_cases c : n = 0
  · subst c; decide
  · rw [pk_sub (by omega), nI_toInt (by omega)]; omega
section MQ
variable {G : q_G} {X : String → q_H → Prop} {A A0 : q_H} {mo : Nat} {S : s_T}
theorem M_isIn {f : Bool → q_H → Prop} {x : Int32} {u : Int64} (n : Nat) (hn : n < 2147483648) (hu : u.toInt = (n : Int) - 1) (k1 : ∀ i, i < n → x = nI i → f true A) (k0 : (∀ i, i < n → ¬ x = nI i) → f false A) : q_Wc G M_X11_isIn [.long x.toInt64, .long (lN 0), .long u] A (q_KB f) X := by
  have e0 : (lN 0).toInt = 0 := by decide
  refine f_X11_isIn ⟨fun c => ?_, fun c => ⟨fun c2 => ?_, fun c2 => ?_⟩⟩
  · rw [Int64.lt_iff_toInt_lt, Int32.toInt_toInt64, e0] at c
    refine k0 fun i hi e => ?_
    rw [e, nI_toInt (by omega)] at c
    omega
  · rw [Int64.lt_iff_toInt_lt, Int32.toInt_toInt64, hu] at c2
    refine k0 fun i hi e => ?_
    rw [e, nI_toInt (by omega)] at c2
    omega
  · rw [Int64.lt_iff_toInt_lt, Int32.toInt_toInt64, e0] at c
    rw [Int64.lt_iff_toInt_lt, Int32.toInt_toInt64, hu] at c2
    rcases pk_ix x (n := n) (by omega) with c3 | c3 | ⟨j, hj, e⟩
    · rw [Int32.lt_iff_toInt_lt] at c3
      exact absurd c3 c
    · rw [Int32.le_iff_toInt_le, nI_toInt (by omega)] at c3
      omega
    · exact k1 j hj e
theorem M_f0 {f : Bool → q_H → Prop} (z : q_sh A mo = (12, 0)) (k : f false (th A mo 0)) : q_Wc G M_X11_fails [.ref mo, .int (q_i false), .int (q_i false), .int (q_i false)] A (q_KB f) X :=
  f_X11_fails ⟨fun e => (by cases e), fun _ => ⟨fun e => (by cases e), fun _ => ⟨fun e => (by cases e), fun _ => ⟨z, by rw [I_set_s]; exact ⟨fun _ => k, fun c => absurd (by decide) c⟩⟩⟩⟩⟩
theorem M_f1 {f : Bool → q_H → Prop} {b c : Bool} (z : q_sh A mo = (12, 0)) (k : f true (th A mo 1)) : q_Wc G M_X11_fails [.ref mo, .int (q_i true), .int (q_i b), .int (q_i c)] A (q_KB f) X :=
  f_X11_fails ⟨fun _ => ⟨z, by rw [I_set_s]; exact ⟨fun c => absurd c (by decide), fun _ => k⟩⟩, fun e => (by cases e)⟩
theorem M_f2 {f : Bool → q_H → Prop} {c : Bool} (z : q_sh A mo = (12, 0)) (k : f true (th A mo 2)) : q_Wc G M_X11_fails [.ref mo, .int (q_i false), .int (q_i true), .int (q_i c)] A (q_KB f) X :=
  f_X11_fails ⟨fun e => (by cases e), fun _ => ⟨fun _ => ⟨z, by rw [I_set_s]; exact ⟨fun c => absurd c (by decide), fun _ => k⟩⟩, fun e => (by cases e)⟩⟩
theorem M_f3 {f : Bool → q_H → Prop} (z : q_sh A mo = (12, 0)) (k : f true (th A mo 3)) : q_Wc G M_X11_fails [.ref mo, .int (q_i false), .int (q_i false), .int (q_i true)] A (q_KB f) X :=
  f_X11_fails ⟨fun e => (by cases e), fun _ => ⟨fun e => (by cases e), fun _ => ⟨fun _ => ⟨z, by rw [I_set_s]; exact ⟨fun c => absurd c (by decide), fun _ => k⟩⟩, fun e => (by cases e)⟩⟩⟩
theorem M_isStation {f : Bool → q_H → Prop} {x : Int32} (h : MP A mo S) (k1 : ∀ i, i < S 8 1 0 → x = nI i → f true A) (k0 : (∀ i, i < S 8 1 0 → ¬ x = nI i) → f false A) : q_Wc G M_X11_isStation [.ref mo, .int x] A (q_KB f) X := by
  have hb := h.2.1.b
  unfold Lb at hb
  exact f_X11_isStation ⟨h.1.z, M_sts h.mt (M_isIn (S 8 1 0) (by omega) (by rw [Int32.toInt_toInt64]; exact nI_m1 _ (by omega)) k1 k0)⟩
theorem M_isMaterial {f : Bool → q_H → Prop} {x : Int32} (h : MP A mo S) (h6 : S 8 0 0 ≤ 6) (k1 : ∀ i, i < S 8 0 0 → x = nI i → f true A) (k0 : (∀ i, i < S 8 0 0 → ¬ x = nI i) → f false A) : q_Wc G M_X11_isMaterial [.ref mo, .int x] A (q_KB f) X :=
  f_X11_isMaterial ⟨h.1.z, M_mats h.mt (M_isIn (S 8 0 0) (by omega) (by rw [Int32.toInt_toInt64]; exact nI_m1 _ (by omega)) k1 k0)⟩
theorem M_isBuyer {f : Bool → q_H → Prop} {x : Int32} (h : MP A mo S) (k1 : ∀ i, i < S 8 2 0 → x = nI i → f true A) (k0 : (∀ i, i < S 8 2 0 → ¬ x = nI i) → f false A) : q_Wc G M_X11_isBuyer [.ref mo, .int x] A (q_KB f) X := by
  have hb := h.2.1.b
  unfold Lb at hb
  exact f_X11_isBuyer ⟨h.1.z, _, h.1.r2, 47, h.1.z2, by decide, by decide, by rw [h.2.2.1.2.2]; exact M_isIn (S 8 2 0) (by omega) (by rw [Int32.toInt_toInt64]; exact nI_m1 _ (by omega)) k1 k0⟩
theorem MP.n14 (h : MP A mo S) : q_I A (mo + 6) 14 = nI (S 2 11 0) := h.2.1.tal (i := 11) (by decide) (by decide)
theorem MP.n9 (h : MP A mo S) : q_I A (mo + 6) 9 = nI (S 2 10 0) := h.2.1.tal (i := 10) (by decide) (by decide)
theorem M_isBale {f : Bool → q_H → Prop} {x : Int32} (h : MP A mo S) (k1 : ∀ i, i < S 2 11 0 → x = nI i → f true A) (k0 : (∀ i, i < S 2 11 0 → ¬ x = nI i) → f false A) : q_Wc G M_X11_isBale [.ref mo, .int x] A (q_KB f) X := by
  have hb := h.2.1.b
  unfold Lb at hb
  exact f_X11_isBale ⟨h.1.z, _, h.1.r6, 788, h.1.z6, by decide, by decide, by rw [h.n14]; exact M_isIn (S 2 11 0) (by omega) (by rw [Int32.toInt_toInt64]; exact nI_m1 _ (by omega)) k1 k0⟩
/-- a slot's rounds tell if it holds something -/
theorem rnd_m1 {v : Nat} (h : v ≤ 6) : rnd v = -1 ↔ v = 0 := by
  unfold rnd
  by_cases c : v = 0
  · rw [if_pos c]; exact ⟨fun _ => c, fun _ => rfl⟩
  · rw [if_neg c]
    exact ⟨fun e => absurd (show nI (v - 1) < 0 by rw [e]; decide) (nI_pos (by omega)), fun e => absurd e c⟩
theorem M_hasParcel {f : Bool → q_H → Prop} {s : Nat} (h : MP A mo S) (q : iv_t S) (hs : s < S 8 1 0) (k : f (decide (S 4 s 0 ≠ 0)) A) : q_Wc G M_X11_hasParcel [.ref mo, .int (nI s)] A (q_KB f) X := by
  have hb := h.2.1.b
  unfold Lb at hb
  refine f_X11_hasParcel ⟨h.1.z, _, h.1.r6, M_slotAt ⟨788, h.1.z6, by decide, 258 + 7 * s, by rw [nI_add]; congr 1; omega, by omega, ?_⟩⟩
  rw [h.2.1.rd hs]
  have e := rnd_m1 (q s hs).2.2.1
  refine ⟨fun c => ?_, fun c => ?_⟩
  · rw [decide_eq_false (p := S 4 s 0 ≠ 0) (fun h => h (e.mp c))] at k; exact k
  · rw [decide_eq_true (p := S 4 s 0 ≠ 0) (fun h => c (e.mpr h))] at k; exact k
theorem v_onBelt {f : Int32 → q_H → Prop} (h : MP A mo S) (q : iv_t S) (k : f (nI (o_belt S)) A) : ∀ (d i : Nat), i + d = S 8 1 0 → q_Wp G M_X11_onBelt (q_KI f) X 0 0 4 [some (.ref mo), some (.int (nI (sm (fun s => if S 4 s 0 = 0 then 0 else 1) i))), some (.int (nI i))] [] A
  | 0, i, e => by
    have hb := h.2.1.b
    unfold Lb at hb
    have : i = S 8 1 0 := by omega
    subst this
    exact f_X11_onBelt_4 ⟨h.1.z, M_sts h.mt ⟨fun _ => k, fun c => absurd (nI_le (Nat.le_refl _) (by omega)) c⟩⟩
  | d + 1, i, e => by
    have hb := h.2.1.b
    unfold Lb at hb
    have hi : i < S 8 1 0 := by omega
    have ih := v_onBelt h q k d (i + 1) (by omega)
    have e1 : sm (fun s => if S 4 s 0 = 0 then 0 else 1) (i + 1) = sm (fun s => if S 4 s 0 = 0 then 0 else 1) i + if S 4 i 0 = 0 then 0 else 1 := rfl
    refine f_X11_onBelt_4 ⟨h.1.z, M_sts h.mt ⟨fun c => absurd c (nI_ge hi (by omega)), fun _ => ⟨h.1.z, _, h.1.r6, M_slotAt ⟨788, h.1.z6, by decide, 258 + 7 * i, by rw [nI_add]; congr 1; omega, by omega, ?_⟩⟩⟩⟩
    rw [h.2.1.rd hi]
    have er := rnd_m1 (q i hi).2.2.1
    refine ⟨fun c => ?_, fun c => ?_⟩
    · rw [e1, if_pos (er.mp c)] at ih
      rw [nI_add, nI_add]; exact ih
    · rw [e1, if_neg (fun z => c (er.mpr z))] at ih
      rw [nI_add, nI_add]; exact ih
theorem M_onBelt {f : Int32 → q_H → Prop} (h : MP A mo S) (q : iv_t S) (k : f (nI (o_belt S)) A) : q_Wc G M_X11_onBelt [.ref mo] A (q_KI f) X := f_X11_onBelt (v_onBelt h q k (S 8 1 0) 0 (by omega))
/-- the number y of w, else none -/
theorem ix_no {y : Int32} {n : Nat} (hn : n < 2147483648) (h : ∀ i, i < n → ¬ y = nI i) : ix y n = none := by
  rcases ix_cases y n hn with ⟨i, hi, h1, -⟩ | ⟨-, h2⟩
  · exact absurd h1 (h i hi)
  · exact h2
theorem M_line {f : Int32 → q_H → Prop} {y : Int32} (h : MP A mo S) (q : iv S) (k : f (a_line S y) (th A mo 0)) : q_Wc G M_X11_line [.ref mo, .int y] A (q_KI f) X := by
  have ea : ∀ w, w < 11 → y = nI w → a_line S y = nI (if w = 0 then S 8 0 0 else if w = 1 then S 8 1 0 else if w = 2 then S 8 2 0 else if w = 3 then S 2 0 0 else if w = 4 then S 2 10 0 else if w = 5 then o_belt S else if w = 6 then S 2 11 0 else if w = 7 then S 2 1 0 else if w = 8 then S 2 4 0 else if w = 9 then S 2 5 0 else S 2 6 0) := fun w hw e => by
    rw [e]; unfold a_line; rw [ix_nI hw (by decide)]
  have ht : q_setI A mo 0 (nI 0) = th A mo 0 := rfl
  have p := h.th 0
  rw [← ht] at p k
  have tl : ∀ {i : Nat}, i < 12 → i ≠ 2 → q_I (q_setI A mo 0 (nI 0)) (mo + 6) (r2 i) = nI (S 2 i 0) := fun a b => p.2.1.tal a b
  refine f_X11_line ⟨h.1.z, fun e => ?_, fun e => ?_, fun e => ?_, fun e => ?_, fun e => ?_, fun e => ?_, fun e => ?_, fun e => ?_, fun e => ?_, fun e => ?_, fun e => ?_, fun hn => ?_⟩
  · rw [ea 0 (by decide) e] at k; exact M_mats p.mt k
  · rw [ea 1 (by decide) e] at k; exact M_sts p.mt k
  · rw [ea 2 (by decide) e] at k; exact ⟨_, h.1.r2, 47, h.1.z2, by decide, by decide, by rw [p.2.2.1.2.2]; exact k⟩
  · rw [ea 3 (by decide) e] at k; exact ⟨_, h.1.r6, 788, h.1.z6, by decide, by decide, by rw [show 8 = r2 0 from rfl, tl (by decide) (by decide)]; exact k⟩
  · rw [ea 4 (by decide) e] at k; exact ⟨_, h.1.r6, 788, h.1.z6, by decide, by decide, by rw [show 9 = r2 10 from rfl, tl (by decide) (by decide)]; exact k⟩
  · rw [ea 5 (by decide) e] at k; exact M_onBelt p q.2.2.2.1 k
  · rw [ea 6 (by decide) e] at k; exact ⟨_, h.1.r6, 788, h.1.z6, by decide, by decide, by rw [show 14 = r2 11 from rfl, tl (by decide) (by decide)]; exact k⟩
  · rw [ea 7 (by decide) e] at k; exact ⟨_, h.1.r6, 788, h.1.z6, by decide, by decide, by rw [show 10 = r2 1 from rfl, tl (by decide) (by decide)]; exact k⟩
  · rw [ea 8 (by decide) e] at k; exact ⟨_, h.1.r6, 788, h.1.z6, by decide, by decide, by rw [show 11 = r2 4 from rfl, tl (by decide) (by decide)]; exact k⟩
  · rw [ea 9 (by decide) e] at k; exact ⟨_, h.1.r6, 788, h.1.z6, by decide, by decide, by rw [show 12 = r2 5 from rfl, tl (by decide) (by decide)]; exact k⟩
  · rw [ea 10 (by decide) e] at k; exact ⟨_, h.1.r6, 788, h.1.z6, by decide, by decide, by rw [show 13 = r2 6 from rfl, tl (by decide) (by decide)]; exact k⟩
  · have : a_line S y = -1 := by unfold a_line; rw [ix_no (by decide) hn]
    rw [this] at k; exact k
theorem M_setting {f : Int32 → q_H → Prop} {y : Int32} (h : MP A mo S) (k : f (a_setting S y).2 (th A mo (a_setting S y).1)) : q_Wc G M_X11_setting [.ref mo, .int y] A (q_KI f) X := by
  refine f_X11_setting (M_isIn 8 (by decide) (by decide) (fun i hi e => ⟨fun _ => f_X11_setting_20 ⟨h.1.z, M_f0 h.1.z ⟨fun e => (by cases e), fun _ => ?_⟩⟩, fun e => (by cases e)⟩) (fun hn => ⟨fun e => (by cases e), fun _ => f_X11_setting_20 ⟨h.1.z, M_f1 h.1.z ⟨fun _ => ?_, fun e => (by cases e)⟩⟩⟩))
  · have ea : a_setting S y = (0, nI (S 1 i 0)) := by unfold a_setting; rw [e, ix_nI hi (by decide)]
    rw [ea] at k
    have p := h.th 0
    exact ⟨p.1.z, _, p.1.r6, 788, p.1.z6, by decide, i, e, by omega, by rw [p.2.1.set hi]; exact k⟩
  · have ea : a_setting S y = (1, 0) := by unfold a_setting; rw [ix_no (by decide) hn]
    rw [ea] at k
    exact k
theorem M_station {f : Int32 → q_H → Prop} {x y : Int32} (h : MP A mo S) (q : iv S) (k : f (a_station S x y).2 (th A mo (a_station S x y).1)) : q_Wc G M_X11_station [.ref mo, .int x, .int y] A (q_KI f) X := by
  have hb := h.2.1.b
  unfold Lb at hb
  refine f_X11_station ⟨h.1.z, M_isStation h (fun s hs e => ⟨fun _ => ⟨fun _ => ?_, fun e => (by cases e)⟩, fun e => (by cases e)⟩) (fun hn => ⟨fun e => (by cases e), fun _ => ⟨fun e => (by cases e), fun _ => f_X11_station_38 ⟨h.1.z, M_f1 h.1.z ⟨fun _ => ?_, fun e => (by cases e)⟩⟩⟩⟩)⟩
  · subst e
    have hx := ix_nI hs (by omega)
    refine M_isIn 11 (by decide) (by decide) (fun i hi e => ⟨fun _ => f_X11_station_38 ⟨h.1.z, M_f0 h.1.z ⟨fun e => (by cases e), fun _ => ?_⟩⟩, fun e => (by cases e)⟩) (fun hn => ⟨fun e => (by cases e), fun _ => f_X11_station_38 ⟨h.1.z, M_f2 h.1.z ⟨fun _ => ?_, fun e => (by cases e)⟩⟩⟩)
    · have ea : a_station S (nI s) y = (0, if i = 8 ∧ S 4 s 0 = 0 then -1 else nI (if i = 0 then S 9 s 0 else if i = 1 then S 5 s 0 else if i = 2 then S 9 s 1 else if i = 3 then S 9 s 2 else if i = 4 then S 5 s 1 else if i = 5 then o_cap S s else if i = 6 then s6 (S 0 (3 + s)) else if i = 7 then s6 (S 0 (11 + s)) else if i = 8 then S 4 s 0 - 1 else if i = 9 then S 5 s 2 else S 5 s 3)) := by
        unfold a_station; rw [hx, e, ix_nI hi (by decide)]
      rw [ea] at k
      have p := h.th 0
      have q1 := q.1.2.2.2.2.2.1 s hs
      have q2 := q.2.2.2.1 s hs
      have st : ∀ j, j < 4 → ∀ v, S 5 s j = v → q_I (th A mo 0) (mo + 6) (308 + 10 * s + j) = nI v := fun j hj v ev => by rw [← ev]; exact p.2.1.st hs hj
      have w : ∀ n, n < 11 → y = nI n → i = n := fun n hn en => by rw [e] at en; exact (nI_eq (by omega) (by omega)).mp en
      refine ⟨fun ey => ?_, fun ey => ?_, fun ey => ?_, fun ey => ?_, fun ey => ?_, fun ey => ?_, fun ey => ?_, fun ey => ?_, fun ey => ?_, fun ey => ?_, fun hn => ?_⟩
      · have := w 0 (by decide) ey; subst this
        exact ⟨p.1.z, M_target p.mt hs k⟩
      · have := w 1 (by decide) ey; subst this
        exact ⟨p.1.z, _, p.1.r6, M_placeAt (j := 0) ⟨788, p.1.z6, by decide, _, rfl, by omega, by rw [p.2.1.st hs (by decide)]; exact k⟩⟩
      · have := w 2 (by decide) ey; subst this
        have t2 : q_I (th A mo 0) (mo + 2) (3 + 3 * s + 1) = nI (S 9 s 1) := p.2.2.2.1 s 1 hs (by decide)
        exact ⟨p.1.z, _, p.1.r2, 47, p.1.z2, by decide, 3 + 3 * s + 1, by rw [pk_mul, nI_add, nI_add], by omega, by rw [t2]; exact k⟩
      · have := w 3 (by decide) ey; subst this
        have t2 : q_I (th A mo 0) (mo + 2) (3 + 3 * s + 2) = nI (S 9 s 2) := p.2.2.2.1 s 2 hs (by decide)
        exact ⟨p.1.z, _, p.1.r2, 47, p.1.z2, by decide, 3 + 3 * s + 2, by rw [pk_mul, nI_add, nI_add], by omega, by rw [t2]; exact k⟩
      · have := w 4 (by decide) ey; subst this
        exact ⟨p.1.z, _, p.1.r6, M_placeAt (j := 1) ⟨788, p.1.z6, by decide, _, rfl, by omega, by rw [p.2.1.st hs (by decide)]; exact k⟩⟩
      · have := w 5 (by decide) ey; subst this
        exact ⟨p.1.z, M_cap p hs q2.1 q1.2.2.1 q2.2.1 k⟩
      · have := w 6 (by decide) ey; subst this
        refine M_placeAt (j := 4) ⟨p.1.z, M_total p.1 (g := S 0 (3 + s)) (by omega) (fun m hm => ?_) k⟩
        have := p.2.1.m (h := 3 + s) (m := m) (by unfold lR; omega) hm
        rw [hi_bun (by omega)] at this
        rw [← this]; congr 1; omega
      · have := w 7 (by decide) ey; subst this
        refine ⟨p.1.z, M_hasParcel p q.2.2.2.1 hs ⟨fun c => ?_, fun c => ?_⟩⟩
        · have c0 : S 4 s 0 ≠ 0 := of_decide_eq_true c
          refine M_slotAt ⟨p.1.z, M_total p.1 (g := S 0 (11 + s)) (by omega) (fun m hm => ?_) k⟩
          have := p.2.1.m (h := 11 + s) (m := m) (by unfold lR; rw [show 11 + s - 11 = s by omega]; omega) hm
          rw [hi_slot (by omega)] at this
          exact this
        · have c0 : S 4 s 0 = 0 := Decidable.not_not.mp (of_decide_eq_false c)
          have : s6 (S 0 (11 + s)) = 0 := q2.2.2.2.2.mp c0
          simp only [this] at k
          exact k
      · have := w 8 (by decide) ey; subst this
        refine ⟨p.1.z, _, p.1.r6, M_slotAt ⟨788, p.1.z6, by decide, 258 + 7 * s, by rw [nI_add]; congr 1; omega, by omega, ?_⟩⟩
        rw [p.2.1.rd hs]
        unfold rnd
        by_cases c0 : S 4 s 0 = 0
        · rw [if_pos ⟨rfl, c0⟩] at k
          rw [if_pos c0]; exact k
        · rw [if_neg fun c => c0 c.2] at k
          rw [if_neg c0]; exact k
      · have := w 9 (by decide) ey; subst this
        exact ⟨p.1.z, _, p.1.r6, M_placeAt (j := 2) ⟨788, p.1.z6, by decide, _, rfl, by omega, by rw [p.2.1.st hs (by decide)]; exact k⟩⟩
      · have : i = 10 := by
          by_cases c : i = 10
          · exact c
          · exact absurd e (hn i (by omega))
        subst this
        exact ⟨p.1.z, _, p.1.r6, M_placeAt (j := 3) ⟨788, p.1.z6, by decide, _, rfl, by omega, by rw [p.2.1.st hs (by decide)]; exact k⟩⟩
    · have ea : a_station S (nI s) y = (2, 0) := by unfold a_station; rw [hx, ix_no (by decide) hn]
      rw [ea] at k
      exact k
  · have ea : a_station S x y = (1, 0) := by unfold a_station; rw [ix_no (by omega) hn]
    rw [ea] at k
    exact k
end MQ

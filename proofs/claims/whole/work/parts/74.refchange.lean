/-! THE REFERENCE: changes -/
def Rgs (V : Nat → Int32) : Prop := ∀ i, i < 8 → V (3 * i) = nI (s_lo i) ∧ V (3 * i + 1) = nI (s_hi i)
theorem kf.rg {A A' : q_H} {mo : Nat} (h : kf A A' mo) (g : Rgs (q_I A (mo + 1))) : Rgs (q_I A' (mo + 1)) := by
  have : q_I A' (mo + 1) = q_I A (mo + 1) := by funext k; exact h.2.2.2.2.2 _ k (by omega)
  rw [this]; exact g
theorem ix_lo {y : Int32} {lo n : Nat} (hn : n < 2147483648) (h : ∀ i, lo ≤ i → i < n → ¬ y = nI i) : ix y n = none ∨ ∃ v, v < lo ∧ ix y n = some v := by
  rcases ix_cases y n hn with ⟨i, hi, h1, h2⟩ | ⟨-, h2⟩
  · by_cases c : lo ≤ i
    · exact absurd h1 (h i c hi)
    · exact Or.inr ⟨i, by omega, h2⟩
  · exact Or.inl h2
theorem ct_p {S : s_T} {t i j v : Nat} (h : t < 8) : s_ct S (s_p S t i j v) := ⟨s_p_t (by omega), s_p_t (by omega), s_p_t (by omega), s_p_t (by omega)⟩
section RC
variable {G : q_G} {X : String → q_H → Prop} {A A0 : q_H} {mo : Nat} {S : s_T} {hh : Nat → s_T} {n : Nat}
theorem M_isInG {f : Bool → q_H → Prop} {x : Int32} {u0 u : Int64} (lo n : Nat) (hn : n < 2147483648) (h0 : u0.toInt = (lo : Int)) (hu : u.toInt = (n : Int) - 1) (k1 : ∀ i, lo ≤ i → i < n → x = nI i → f true A) (k0 : (∀ i, lo ≤ i → i < n → ¬ x = nI i) → f false A) : q_Wc G M_X11_isIn [.long x.toInt64, .long u0, .long u] A (q_KB f) X := by
  refine f_X11_isIn ⟨fun c => ?_, fun c => ⟨fun c2 => ?_, fun c2 => ?_⟩⟩
  · rw [Int64.lt_iff_toInt_lt, Int32.toInt_toInt64, h0] at c
    refine k0 fun i hl hi e => ?_
    rw [e, nI_toInt (by omega)] at c
    omega
  · rw [Int64.lt_iff_toInt_lt, Int32.toInt_toInt64, hu] at c2
    refine k0 fun i hl hi e => ?_
    rw [e, nI_toInt (by omega)] at c2
    omega
  · rw [Int64.lt_iff_toInt_lt, Int32.toInt_toInt64, h0] at c
    rw [Int64.lt_iff_toInt_lt, Int32.toInt_toInt64, hu] at c2
    rcases pk_ix x (n := n) (by omega) with c3 | c3 | ⟨j, hj, e⟩
    · rw [Int32.lt_iff_toInt_lt] at c3
      have : (0 : Int32).toInt = 0 := by decide
      omega
    · rw [Int32.le_iff_toInt_le, nI_toInt (by omega)] at c3
      omega
    · refine k1 j ?_ hj e
      rw [e, nI_toInt (by omega)] at c
      omega
theorem M_staffs {f : Int32 → q_H → Prop} {s p : Nat} (h : MP A mo S) (hs : s < S 8 1 0) (k : ∀ A', mg A A' mo → MP A' mo (o_staff S s p) → f (nI (S 5 s 0)) A') : q_Wc G M_X11_staffs [.ref mo, .int (nI s), .int (nI p)] A (q_KI f) X := by
  have hb := h.2.1.b
  unfold Lb at hb
  refine f_X11_staffs ⟨h.1.z, _, h.1.r6, M_placeAt (j := 0) ⟨788, h.1.z6, by decide, _, rfl, by omega, h.1.z, _, h.1.r6, M_placeAt (j := 0) ⟨788, h.1.z6, by decide, _, rfl, by omega, h.1.z, _, h.1.r6, M_placeAt (j := 1) ⟨788, h.1.z6, by decide, _, rfl, by omega, ?_⟩⟩⟩⟩
  rw [h.2.1.st hs (by decide)]
  have o : mg A (q_setI (q_setI A (mo + 6) (308 + 10 * s + 0) (nI p)) (mo + 6) (308 + 10 * s + 1) (nI 0)) mo := ((mg.r A mo).set (Or.inl rfl)).set (Or.inl rfl)
  refine k _ o (h.to o.1 ?_ (cf_t (cf_p (by decide)) (cf_p (by decide))))
  have w1 := h.2.1.put (R' := q_I (q_setI A (mo + 6) (308 + 10 * s + 0) (nI p)) (mo + 6)) (t := 5) (i := s) (j := 0) p (by unfold dR0; omega) (fun e => absurd e (by decide)) (fun x => ix_set _ _ _ _ _)
  exact w1.put (t := 5) (i := s) (j := 1) 0 (by unfold dR0; omega) (fun e => absurd e (by decide)) (fun x => ix_set _ _ _ _ _)
theorem M_set {f : Int32 → q_H → Prop} {x y : Int32} (h : MP A mo S) (g : Rgs (q_I A (mo + 1))) (kp : Kp A mo hh n)
    (k0 : (e_set S x y).1 = 0 → ∀ A', kf A A' mo → q_I A' mo 0 = nI 0 → MP A' mo (e_set S x y).2.2 → Kp A' mo (hp S hh) (mn6 n) → f (e_set S x y).2.1 A') (k1 : (e_set S x y).1 ≠ 0 → f (nI 0) (th A mo (e_set S x y).1)) : q_Wc G M_X11_set [.ref mo, .int x, .int y] A (q_KI f) X := by
  refine f_X11_set (M_isIn 8 (by decide) (by decide) (fun i hi e => ⟨fun _ => ⟨fun _ => ⟨h.1.z, _, h.1.r1, 24, h.1.z1, by decide, 3 * i, by rw [e, pk_mul], by omega, 3 * i + 1, by rw [e, pk_mul, nI_add], by omega, ?_⟩, fun e => (by cases e)⟩, fun e => (by cases e)⟩) (fun hn => ⟨fun e => (by cases e), fun _ => ⟨fun e => (by cases e), fun _ => f_X11_set_58 ⟨h.1.z, M_f1 h.1.z ⟨fun _ => ?_, fun e => (by cases e)⟩⟩⟩⟩))
  · subst e
    have hx := ix_nI hi (by omega)
    have hsh := hi_le i
    rw [(g i hi).1, (g i hi).2]
    refine M_isInG (s_lo i) (s_hi i + 1) (by omega) (by rw [Int32.toInt_toInt64, nI_toInt (by omega)]) (by rw [Int32.toInt_toInt64, nI_toInt (by omega)]; omega) (fun v hl hv e => ⟨fun _ => f_X11_set_58 ⟨h.1.z, M_f0 h.1.z ⟨fun e => (by cases e), fun _ => ?_⟩⟩, fun e => (by cases e)⟩) (fun hn => ⟨fun e => (by cases e), fun _ => f_X11_set_58 ⟨h.1.z, M_f2 h.1.z ⟨fun _ => ?_, fun e => (by cases e)⟩⟩⟩)
    · subst e
      have ee : e_set S (nI i) (nI v) = (0, nI (S 1 i 0), s_p S 1 i 0 v) := by
        unfold e_set
        rw [hx]
        show (match ix (nI v) (s_hi i + 1) with | none => _ | some v => _ : q_Ch) = _
        rw [ix_nI hv (by omega)]
        exact if_neg (by omega)
      rw [ee] at k0
      have p := h.th 0
      refine ⟨p.1.z, M_remembers p (kp.th 0) fun A6 o6 r6 z6 p6 kp6 => ⟨p6.1.z, _, p6.1.r6, 788, p6.1.z6, by decide, i, rfl, by omega, ?_⟩⟩
      rw [p6.2.1.set hi]
      have o7 : mf A6 (q_setI A6 (mo + 6) i (nI v)) mo := (mf.r A6 mo).set (Or.inl rfl)
      refine k0 rfl _ (((th.kf A mo 0).t o6).t o7.kf) ?_ (p6.kf o7.kf ?_ (ct_p (by decide))) (kp6.mf o7)
      · rw [I_set (Or.inl (by omega)), z6]; exact I_set_s _ _ _ _
      · exact p6.2.1.put (t := 1) (i := i) (j := 0) v (by unfold dR0; omega) (fun e => absurd e (by decide)) (fun x => ix_set _ _ _ _ _)
    · have : e_set S (nI i) y = (2, 0, S) := by
        unfold e_set
        rw [hx]
        show (match ix y (s_hi i + 1) with | none => _ | some v => _ : q_Ch) = _
        rcases ix_lo (lo := s_lo i) (by omega) hn with e | ⟨v, hv, e⟩
        · rw [e]
        · rw [e]; exact if_pos hv
      rw [this] at k1
      exact k1 (fun e => (by cases e))
  · have : e_set S x y = (1, 0, S) := by unfold e_set; rw [ix_no (by omega) hn]
    rw [this] at k1
    exact k1 (fun e => (by cases e))
theorem M_staff {f : Int32 → q_H → Prop} {x y : Int32} (h : MP A mo S) (kp : Kp A mo hh n)
    (k0 : (e_staff S x y).1 = 0 → ∀ A', kf A A' mo → q_I A' mo 0 = nI 0 → MP A' mo (e_staff S x y).2.2 → Kp A' mo (hp S hh) (mn6 n) → f (e_staff S x y).2.1 A') (k1 : (e_staff S x y).1 ≠ 0 → f (nI 0) (th A mo (e_staff S x y).1)) : q_Wc G M_X11_staff [.ref mo, .int x, .int y] A (q_KI f) X := by
  have hb := h.2.1.b
  unfold Lb at hb
  refine f_X11_staff ⟨h.1.z, M_isStation h (fun s hs e => ⟨fun _ => ⟨fun _ => ?_, fun e => (by cases e)⟩, fun e => (by cases e)⟩) (fun hn => ⟨fun e => (by cases e), fun _ => ⟨fun e => (by cases e), fun _ => f_X11_staff_38 ⟨h.1.z, M_f1 h.1.z ⟨fun _ => ?_, fun e => (by cases e)⟩⟩⟩⟩)⟩
  · subst e
    have hx := ix_nI hs (by omega)
    refine M_isIn 10 (by decide) (by decide) (fun v hv e => ⟨fun _ => f_X11_staff_38 ⟨h.1.z, M_f0 h.1.z ⟨fun e => (by cases e), fun _ => ?_⟩⟩, fun e => (by cases e)⟩) (fun hn => ⟨fun e => (by cases e), fun _ => f_X11_staff_38 ⟨h.1.z, M_f2 h.1.z ⟨fun _ => ?_, fun e => (by cases e)⟩⟩⟩)
    · subst e
      have ee : e_staff S (nI s) (nI v) = (0, nI (S 5 s 0), o_staff S s v) := by
        unfold e_staff
        rw [hx, ix_nI hv (by omega)]
      rw [ee] at k0
      have p := h.th 0
      refine ⟨p.1.z, M_remembers p (kp.th 0) fun A6 o6 r6 z6 p6 kp6 => ⟨p6.1.z, M_staffs p6 hs fun A7 o7 p7 => k0 rfl A7 (((th.kf A mo 0).t o6).t o7.1.kf) ?_ p7 (kp6.mf o7.1)⟩⟩
      rw [o7.1.2.2.2.2.2 _ _ (by omega), z6]; exact I_set_s _ _ _ _
    · have : e_staff S (nI s) y = (2, 0, S) := by
        unfold e_staff
        rw [hx, ix_no (by omega) hn]
      rw [this] at k1
      exact k1 (fun e => (by cases e))
  · have : e_staff S x y = (1, 0, S) := by unfold e_staff; rw [ix_no (by omega) hn]
    rw [this] at k1
    exact k1 (fun e => (by cases e))
theorem M_run {f : Int32 → q_H → Prop} {y : Int32} (h : MP A mo S) (q : iv S) (hT : S 2 0 0 ≤ 9999) (kp : Kp A mo hh n)
    (k0 : (e_run S y).1 = 0 → ∀ A', kf A A' mo → q_I A' mo 0 = nI 0 → MP A' mo (e_run S y).2.2 → Kp A' mo (hp S hh) (mn6 n) → f (e_run S y).2.1 A') (k1 : (e_run S y).1 ≠ 0 → f (nI 0) (th A mo (e_run S y).1)) : q_Wc G M_X11_run [.ref mo, .int y] A (q_KI f) X := by
  have r8 : q_I A (mo + 6) 8 = nI (S 2 0 0) := h.2.1.tal (i := 0) (by decide) (by decide)
  refine f_X11_run (M_isInG 1 201 (by decide) (by decide) (by decide) (fun v hl hv e => ⟨fun _ => ⟨fun _ => ⟨h.1.z, _, h.1.r6, 788, h.1.z6, by decide, by decide, ?_⟩, fun e => (by cases e)⟩, fun e => (by cases e)⟩) (fun hn => ⟨fun e => (by cases e), fun _ => ⟨fun e => (by cases e), fun _ => f_X11_run_45 ⟨h.1.z, M_f1 h.1.z ⟨fun _ => ?_, fun e => (by cases e)⟩⟩⟩⟩))
  · subst e
    rw [r8, nI_add]
    have ee : e_run S (nI v) = if S 2 0 0 + v ≤ 9999 then (0, nI (o_ticks v S 2 1 0) - nI (S 2 1 0), o_ticks v S) else (2, 0, S) := by
      unfold e_run
      rw [ix_nI hv (by omega)]
      exact if_neg (by omega)
    refine ⟨fun c => f_X11_run_45 ⟨h.1.z, M_f0 h.1.z ⟨fun e => (by cases e), fun _ => ?_⟩⟩, fun c => f_X11_run_45 ⟨h.1.z, M_f2 h.1.z ⟨fun _ => ?_, fun e => (by cases e)⟩⟩⟩
    · have c1 := (nI_leI (by omega) (by decide)).mp c
      rw [ee, if_pos c1] at k0
      have p := h.th 0
      refine ⟨p.1.z, M_remembers p (kp.th 0) fun A6 o6 r6 z6 p6 kp6 => ⟨p6.1.z, _, p6.1.r6, 788, p6.1.z6, by decide, by decide, M_ticks p6 q (by omega) fun A7 o7 p7 => ⟨p7.1.z, _, p7.1.r6, 788, p7.1.z6, by decide, by decide, ?_⟩⟩⟩
      have e1 : q_I A7 (mo + 6) 10 = nI (o_ticks v S 2 1 0) := p7.2.1.tal (i := 1) (by decide) (by decide)
      have e2 : q_I A6 (mo + 6) 10 = nI (S 2 1 0) := p6.2.1.tal (i := 1) (by decide) (by decide)
      rw [e1, e2]
      refine k0 rfl A7 (((th.kf A mo 0).t o6).t o7.1.kf) ?_ p7 (kp6.mf o7.1)
      rw [o7.1.2.2.2.2.2 _ _ (by omega), z6]; exact I_set_s _ _ _ _
    · have c1 : ¬ S 2 0 0 + v ≤ 9999 := fun z => c (nI_le z (by decide))
      rw [ee, if_neg c1] at k1
      exact k1 (fun e => (by cases e))
  · have : e_run S y = (1, 0, S) := by
      unfold e_run
      rcases ix_lo (lo := 1) (by decide) hn with e | ⟨v, hv, e⟩
      · rw [e]
      · rw [e]; exact if_pos (by omega)
    rw [this] at k1
    exact k1 (fun e => (by cases e))
theorem v_clean {f : Int32 → q_H → Prop} {b : Nat} {T : Int32} (h0 : MS A0 mo) (hb : b + 6 ≤ 788) (hb2 : 19 ≤ b) (k : ∀ A', mg A0 A' mo → (∀ x, (x < b ∨ b + 6 ≤ x) → x ≠ 18 → q_I A' (mo + 6) x = q_I A0 (mo + 6) x) → (∀ m, m < 6 → q_I A' (mo + 6) (b + m) = nI 0) → q_I A' (mo + 6) 18 = q_I A0 (mo + 6) 18 + T → f T A') :
    ∀ (d i : Nat) (A : q_H), i + d = 6 → mg A0 A mo → (∀ x, (x < b ∨ b + 6 ≤ x) → q_I A (mo + 6) x = q_I A0 (mo + 6) x) → (∀ m, m < i → q_I A (mo + 6) (b + m) = nI 0) → q_Wp G M_X11_clean (q_KI f) X 0 0 43 [some (.ref mo), none, some (.int (nI b)), some (.int T), some (.int (nI i))] [] A
  | 0, i, A, e, o, h1, h2 => by
    have : i = 6 := by omega
    subst this
    have ms := o.1.ms h0
    refine f_X11_clean_43 ⟨fun _ => ⟨ms.z, _, ms.r6, 788, ms.z6, by decide, by decide, ?_⟩, fun c => absurd (nI_le (Nat.le_refl _) (by decide)) c⟩
    rw [h1 18 (by omega)]
    refine k _ (o.set (Or.inl rfl)) (fun x hx hx2 => ?_) (fun m hm => ?_) (I_set_s _ _ _ _)
    · rw [I_set (Or.inr hx2)]; exact h1 x hx
    · rw [I_set (Or.inr (by omega))]; exact h2 m hm
  | d + 1, i, A, e, o, h1, h2 => by
    have ms := o.1.ms h0
    refine f_X11_clean_43 ⟨fun c => absurd c (nI_ge (by omega) (by decide)), fun _ => ⟨ms.z, _, ms.r6, 788, ms.z6, by decide, b + i, by rw [nI_add], by omega, ?_⟩⟩
    rw [nI_add]
    refine v_clean h0 hb hb2 k d (i + 1) _ (by omega) (o.set (Or.inl rfl)) (fun x hx => ?_) (fun m hm => ?_)
    · rw [I_set (Or.inr (by omega))]; exact h1 x hx
    · by_cases c : m = i
      · subst c; exact I_set_s _ _ _ _
      · rw [I_set (Or.inr (by omega))]; exact h2 m (by omega)
theorem M_clean {f : Int32 → q_H → Prop} {x : Int32} (h : MP A mo S) (kp : Kp A mo hh n)
    (k0 : (e_clean S x).1 = 0 → ∀ A', kf A A' mo → q_I A' mo 0 = nI 0 → MP A' mo (e_clean S x).2.2 → Kp A' mo (hp S hh) (mn6 n) → f (e_clean S x).2.1 A') (k1 : (e_clean S x).1 ≠ 0 → f (nI 0) (th A mo (e_clean S x).1)) : q_Wc G M_X11_clean [.ref mo, .int x] A (q_KI f) X := by
  have hb := h.2.1.b
  unfold Lb at hb
  refine f_X11_clean ⟨h.1.z, M_isStation h (fun s hs e => ⟨fun _ => f_X11_clean_16 ⟨h.1.z, M_f0 h.1.z ⟨fun e => (by cases e), fun _ => ?_⟩⟩, fun e => (by cases e)⟩) (fun hn => ⟨fun e => (by cases e), fun _ => f_X11_clean_16 ⟨h.1.z, M_f1 h.1.z ⟨fun _ => ?_, fun e => (by cases e)⟩⟩⟩)⟩
  · subst e
    have ee : e_clean S (nI s) = (0, nI (s6 (S 0 (3 + s))), o_clean S s) := by unfold e_clean; rw [ix_nI hs (by omega)]
    rw [ee] at k0
    have p := h.th 0
    refine ⟨p.1.z, M_remembers p (kp.th 0) fun A6 o6 r6 z6 p6 kp6 => M_placeAt (j := 4) ⟨p6.1.z, M_total p6.1 (g := S 0 (3 + s)) (by omega) (fun m hm => ?_) ?_⟩⟩
    · rw [← p6.hp (x := 3 + s) (by unfold lR; omega) (hi_bun (by omega)) m hm]; congr 1; omega
    · refine v_clean (A0 := A6) (b := 308 + 10 * s + 4) p6.1 (by omega) (by omega) (fun A7 o7 h1 h2 h3 => k0 rfl A7 (((th.kf A mo 0).t o6).t o7.1.kf) ?_ (p6.kf o7.1.kf ?_ (ct_t (s_cf.ct (cf_h (S := S) (h := 3 + s) (f := fun _ => 0))) (ct_p (by decide)))) (kp6.mf o7.1)) 6 0 A6 (by decide) (mg.r A6 mo) (fun _ _ => rfl) (fun m hm => absurd hm (Nat.not_lt_zero _))
      · rw [o7.1.2.2.2.2.2 _ _ (by omega), z6]; exact I_set_s _ _ _ _
      · have e18 : q_I A6 (mo + 6) 18 = nI (S 2 9 0) := p6.2.1.tal (i := 9) (by decide) (by decide)
        rw [e18, nI_add] at h3
        have hbu := hi_bun (s := s) (by omega)
        have w1 : RW (fun x => if x = 18 then nI (S 2 9 0) else q_I A7 (mo + 6) x) (s_h S (3 + s) (fun _ => 0)) := by
          refine p6.2.1.heap (x := 3 + s) (fun _ => 0) (by omega) (by omega) (fun y hy => ?_) (fun m hm => ?_)
          · show (if y = 18 then _ else _) = _
            by_cases c : y = 18
            · rw [if_pos c, c, e18]
            · rw [if_neg c]; exact h1 y (by omega) c
          · show (if hi (3 + s) + m = 18 then _ else _) = _
            rw [if_neg (by omega), hbu, ← h2 m hm]; congr 1; omega
        refine w1.put (t := 2) (i := 9) (j := 0) (S 2 9 0 + s6 (S 0 (3 + s))) (by unfold dR0; omega) (fun _ => by decide) (fun x => ?_)
        by_cases c : x = 18
        · rw [c, h3]; rfl
        · rw [if_neg (show ¬ x = ri 2 9 0 from c)]
          show _ = if x = 18 then _ else _
          rw [if_neg c]
  · have : e_clean S x = (1, 0, S) := by unfold e_clean; rw [ix_no (by omega) hn]
    rw [this] at k1
    exact k1 (fun e => (by cases e))
theorem v_load {f : Int32 → q_H → Prop} {b m v : Nat} (h0 : MS A0 mo) (hm : m < 6) (hb : b + 7 ≤ 788) (hb2 : 17 ≤ b) {w c : Nat} (e9 : q_I A0 (mo + 6) 9 = nI w) (e16 : q_I A0 (mo + 6) 16 = nI c) (k : ∀ A', mg A0 A' mo → (∀ x, (x < b ∨ b + 7 ≤ x) → x ≠ 9 → x ≠ 16 → q_I A' (mo + 6) x = q_I A0 (mo + 6) x) → (∀ j, j < 7 → q_I A' (mo + 6) (b + j) = nI (if j = m then v else 0)) → q_I A' (mo + 6) 9 = nI (w + 1) → q_I A' (mo + 6) 16 = nI (c + v) → f (nI (w + 1)) A') :
    ∀ (d i : Nat) (A : q_H), i + d = 7 → mg A0 A mo → (∀ x, (x < b ∨ b + 7 ≤ x) → q_I A (mo + 6) x = q_I A0 (mo + 6) x) → (∀ j, j < i → q_I A (mo + 6) (b + j) = nI (if j = m then v else 0)) → q_Wp G M_X11_load (q_KI f) X 0 0 102 [some (.ref mo), some (.int (nI m)), some (.int (nI v)), none, none, some (.int (nI b)), some (.int (nI i))] [] A
  | 0, i, A, e, o, h1, h2 => by
    have : i = 7 := by omega
    subst this
    have ms := o.1.ms h0
    refine f_X11_load_102 ⟨fun _ => ⟨ms.z, _, ms.r6, 788, ms.z6, by decide, by decide, by decide, ?_⟩, fun c => absurd (nI_lt (by decide) (by decide)) c⟩
    rw [h1 9 (by omega), e9, nI_add, I_set (Or.inr (by decide)), I_set_s, I_set (Or.inr (by decide)), h1 16 (by omega), e16, nI_add]
    refine k _ ((o.set (Or.inl rfl)).set (Or.inl rfl)) (fun x hx h9 h16 => ?_) (fun j hj => ?_) ?_ (I_set_s _ _ _ _)
    · rw [I_set (Or.inr h16), I_set (Or.inr h9)]; exact h1 x hx
    · rw [I_set (Or.inr (by omega)), I_set (Or.inr (by omega))]; exact h2 j hj
    · rw [I_set (Or.inr (by decide)), I_set_s]
  | d + 1, i, A, e, o, h1, h2 => by
    have ms := o.1.ms h0
    have nx : ∀ z, z = nI (if i = m then v else 0) → q_Wp G M_X11_load (q_KI f) X 0 0 102 [some (.ref mo), some (.int (nI m)), some (.int (nI v)), none, none, some (.int (nI b)), some (.int (nI i + nI 1))] [] (q_setI A (mo + 6) (b + i) z) := fun z ez => by
      rw [nI_add]
      refine v_load h0 hm hb hb2 e9 e16 k d (i + 1) _ (by omega) (o.set (Or.inl rfl)) (fun x hx => ?_) (fun j hj => ?_)
      · rw [I_set (Or.inr (by omega))]; exact h1 x hx
      · by_cases c : j = i
        · subst c; rw [I_set_s, ez]
        · rw [I_set (Or.inr (by omega))]; exact h2 j (by omega)
    refine f_X11_load_102 ⟨fun c => absurd c (nI_nlt (by omega) (by omega)), fun _ => ⟨ms.z, _, ms.r6, fun c => ⟨788, ms.z6, by decide, b + i, by rw [nI_add], by omega, nx _ ?_⟩, fun c => ⟨788, ms.z6, by decide, b + i, by rw [nI_add], by omega, nx _ ?_⟩⟩⟩
    · rw [if_pos ((nI_eq (by omega) (by omega)).mp c)]
    · rw [if_neg (fun e => c (by rw [e]))]
theorem M_load {f : Int32 → q_H → Prop} {x y : Int32} (h : MP A mo S) (q : iv S) (kp : Kp A mo hh n)
    (k0 : (e_load S x y).1 = 0 → ∀ A', kf A A' mo → q_I A' mo 0 = nI 0 → MP A' mo (e_load S x y).2.2 → Kp A' mo (hp S hh) (mn6 n) → f (e_load S x y).2.1 A') (k1 : (e_load S x y).1 ≠ 0 → f (nI 0) (th A mo (e_load S x y).1)) : q_Wc G M_X11_load [.ref mo, .int x, .int y] A (q_KI f) X := by
  have h6 := q.1.2.1
  have hb := h.2.1.b
  unfold Lb at hb
  refine f_X11_load ⟨h.1.z, M_isMaterial h h6 (fun m hm e => ⟨fun _ => ?_, fun e => (by cases e)⟩) (fun hn => ⟨fun e => (by cases e), fun _ => ⟨fun e => (by cases e), fun _ => ⟨fun e => (by cases e), fun _ => f_X11_load_75 ⟨h.1.z, M_f1 h.1.z ⟨fun _ => ?_, fun e => (by cases e)⟩⟩⟩⟩⟩)⟩
  · subst e
    have hx := ix_nI hm (by omega)
    refine M_isInG 1 1000 (by decide) (by decide) (by decide) (fun v hl hv e => ⟨fun _ => ⟨fun _ => ⟨fun _ => ⟨h.1.z, _, h.1.r6, 788, h.1.z6, by decide, by decide, ?_⟩, fun e => (by cases e)⟩, fun e => (by cases e)⟩, fun e => (by cases e)⟩) (fun hn => ⟨fun e => (by cases e), fun _ => ⟨fun _ => ⟨fun _ => f_X11_load_75 ⟨h.1.z, M_f2 h.1.z ⟨fun _ => ?_, fun e => (by cases e)⟩⟩, fun e => (by cases e)⟩, fun e => (by cases e)⟩⟩)
    · subst e
      rw [h.n9]
      have ee : e_load S (nI m) (nI v) = if S 2 10 0 < 30 then (0, nI (S 2 10 0 + 1), o_load S m v) else (3, 0, S) := by
        unfold e_load
        rw [hx, ix_nI hv (by omega)]
        exact if_neg (by omega)
      refine ⟨fun c => f_X11_load_75 ⟨h.1.z, M_f3 h.1.z ⟨fun _ => ?_, fun e => (by cases e)⟩⟩, fun c => f_X11_load_75 ⟨h.1.z, M_f0 h.1.z ⟨fun e => (by cases e), fun _ => ?_⟩⟩⟩
      · have c1 := (nI_eq (by omega) (by decide)).mp c
        rw [ee, if_neg (by omega)] at k1
        exact k1 (fun e => (by cases e))
      · have c1 : S 2 10 0 < 30 := by
          have : S 2 10 0 ≠ 30 := fun z => c (by rw [z])
          omega
        rw [ee, if_pos c1] at k0
        have p := h.th 0
        refine ⟨p.1.z, M_remembers p (kp.th 0) fun A6 o6 r6 z6 p6 kp6 => ⟨p6.1.z, _, p6.1.r6, 788, p6.1.z6, by decide, by decide, ?_⟩⟩
        rw [p6.n9]
        have e16 : q_I A6 (mo + 6) 16 = nI (S 2 7 0) := p6.2.1.tal (i := 7) (by decide) (by decide)
        refine M_parcelAt (v_load (A0 := A6) p6.1 (by omega) (by omega) (by omega) p6.n9 e16 (fun A7 o7 h1 h2 h3 h4 => k0 rfl A7 (((th.kf A mo 0).t o6).t o7.1.kf) ?_ (p6.kf o7.1.kf ?_ (ct_t (s_cf.ct (cf_add S _ _)) (ct_p (by decide)))) (kp6.mf o7.1)) 7 0 A6 (by decide) (mg.r A6 mo) (fun _ _ => rfl) (fun m hm => absurd hm (Nat.not_lt_zero _)))
        · rw [o7.1.2.2.2.2.2 _ _ (by omega), z6]; exact I_set_s _ _ _ _
        · have w1 : RW (fun x => if x = 16 then nI (S 2 7 0) else q_I A7 (mo + 6) x) (o_add S (fun j => if j = m then v else 0) 0) := by
            refine p6.2.1.add c1 (fun y hy hy9 => ?_) (fun j hj => ?_) ?_ ?_
            · show (if y = 16 then _ else _) = _
              by_cases c : y = 16
              · rw [if_pos c, c, e16]
              · rw [if_neg c]; exact h1 y (by omega) hy9 c
            · show (if 42 + 7 * S 2 10 0 + j = 16 then _ else _) = _
              rw [if_neg (by omega)]; exact h2 j (by omega)
            · show (if 48 + 7 * S 2 10 0 = 16 then _ else _) = _
              have := h2 6 (by decide)
              rw [if_neg (by omega : ¬ 6 = m)] at this
              rw [if_neg (by omega), ← this]; congr 1; omega
            · show (if 9 = 16 then _ else _) = _
              rw [if_neg (by decide)]; exact h3
          refine w1.put (t := 2) (i := 7) (j := 0) (S 2 7 0 + v) (by unfold dR0; omega) (fun _ => by decide) (fun x => ?_)
          by_cases c : x = 16
          · rw [c, h4]; rfl
          · rw [if_neg (show ¬ x = ri 2 7 0 from c)]
            show _ = if x = 16 then _ else _
            rw [if_neg c]
    · have : e_load S (nI m) y = (2, 0, S) := by
        unfold e_load
        rw [hx]
        rcases ix_lo (lo := 1) (by decide) hn with e | ⟨v, hv, e⟩
        · rw [e]
        · rw [e]; exact if_pos (by omega)
      rw [this] at k1
      exact k1 (fun e => (by cases e))
  · have : e_load S x y = (1, 0, S) := by unfold e_load; rw [ix_no (by omega) hn]
    rw [this] at k1
    exact k1 (fun e => (by cases e))
end RC

/-! THE REFERENCE: a portion is taken, laid, joined; a heap comes to the hopper -/
def mg (A A' : q_H) (mo : Nat) : Prop := mf A A' mo ∧ q_I A' mo 22 = q_I A mo 22
theorem mg.r (A : q_H) (mo : Nat) : mg A A mo := ⟨mf.r A mo, rfl⟩
theorem mg.t {A B C : q_H} {mo : Nat} (h : mg A B mo) (k : mg B C mo) : mg A C mo := ⟨h.1.t k.1, k.2.trans h.2⟩
theorem mg.set {A B : q_H} {mo x k : Nat} {v : Int32} (h : mg A B mo) (hx : x = mo + 6 ∨ x = mo + 12) : mg A (q_setI B x k v) mo := ⟨h.1.set (hx.elim Or.inl (fun e => Or.inr (Or.inl e))), by rw [I_set (Or.inl (by omega))]; exact h.2⟩
/-- what a part is -/
def pt (g : Nat → Nat) (p j : Nat) : Nat := if s6 g ≤ p then g j else g j * p / s6 g
def p0 (g : Nat → Nat) (p : Nat) : Nat := if s6 g ≤ p then s6 g else p
theorem pt_le (g : Nat → Nat) (p j : Nat) : pt g p j ≤ g j := by
  unfold pt
  split
  · exact Nat.le_refl _
  · exact part_le g p j (by omega)
theorem pt_s6 (g : Nat → Nat) (p : Nat) : s6 (pt g p) ≤ p0 g p := by
  unfold p0
  by_cases c : s6 g ≤ p
  · rw [if_pos c]
    exact s6_mono fun m _ => pt_le g p m
  · rw [if_neg c]
    have : pt g p = fun m => g m * p / s6 g := by funext m; unfold pt; rw [if_neg c]
    rw [this]
    exact s6_part g p (by omega)
/-- what is left when all is taken -/
theorem pt_rs (g : Nat → Nat) (p : Nat) : rs g p = dl (p0 g p - s6 (pt g p)) (fun m => g m - pt g p m) := by
  unfold rs p0
  by_cases c : s6 g ≤ p
  · rw [if_pos c, if_pos c]
    have e : s6 (pt g p) = s6 g := s6_cg fun m _ => by unfold pt; rw [if_pos c]
    rw [e, Nat.sub_self]
    funext m
    show 0 = g m - pt g p m
    unfold pt
    rw [if_pos c]; omega
  · rw [if_neg c, if_neg c]
    have : pt g p = fun m => g m * p / s6 g := by funext m; unfold pt; rw [if_neg c]
    rw [this]
section TK
variable {G : q_G} {X : String → q_H → Prop} {A A0 : q_H} {mo : Nat} {S : s_T} {b p : Nat} {g : Nat → Nat}
theorem v_tk121 {f : q_H → Prop} {N : Nat} {f1 : Nat → Nat} (h0 : MT A0 mo S) (hM : S 8 0 0 ≤ 6) (hb : b + 6 ≤ 788) (hf : ∀ m, f1 m ≤ g m) (hz : ∀ m, S 8 0 0 ≤ m → m < 6 → g m = 0) (hs : s6 g < 2147483648) (hN : N ≤ s6 f1) (hm31 : ∀ m, g m < 2147483648)
    (k : ∀ A', mg A0 A' mo → (∀ x, (x < b ∨ b + 6 ≤ x) → q_I A' (mo + 6) x = q_I A0 (mo + 6) x) → (∀ m, m < 6 → q_I A' (mo + 6) (b + m) = nI (dl N f1 m)) → (∀ m, m < 6 → q_I A' (mo + 12) m = nI (g m - dl N f1 m)) → f A') :
    ∀ (d n : Nat) (A : q_H), n + d = N → mg A0 A mo → (∀ x, (x < b ∨ b + 6 ≤ x) → q_I A (mo + 6) x = q_I A0 (mo + 6) x) → (∀ m, m < 6 → q_I A (mo + 6) (b + m) = nI (dl n f1 m)) → (∀ m, m < 6 → q_I A (mo + 12) m = nI (g m - dl n f1 m)) → q_Wp G M_X11_takes (q_KV f) X 0 0 121 [some (.ref mo), some (.int (nI b)), none, none, none, some (.int (nI (N - n))), none] [] A
  | 0, n, A, e, o, h1, h2, h3 => by
    have : n = N := by omega
    subst this
    rw [Nat.sub_self]
    exact f_X11_takes_121 ⟨fun _ => k A o h1 h2 h3, fun c => absurd (nI_le (Nat.le_refl _) (by decide)) c⟩
  | d + 1, n, A, e, o, h1, h2, h3 => by
    have hT : s6 f1 ≤ s6 g := s6_mono fun m _ => hf m
    have hsd := s6_dl n f1 (by omega)
    have hone := s6_one (f := dl n f1) (by omega)
    have hle : ∀ m, dl n f1 m ≤ g m := fun m => Nat.le_trans (dl_le n f1 m) (hf m)
    have mt := h0.mf o.1
    -- the greatest over the materials is the greatest over all six
    have e6 : am (dl n f1) 99 (S 8 0 0) = am (dl n f1) 99 6 := by
      by_cases c : am (dl n f1) 99 (S 8 0 0) = 0
      · exfalso
        have hi := hone.2.1
        have hlt : am (dl n f1) 99 6 - 1 < S 8 0 0 := by
          refine Nat.lt_of_not_le fun c2 => ?_
          have := hz (am (dl n f1) 99 6 - 1) c2 (by omega)
          have := hle (am (dl n f1) 99 6 - 1)
          omega
        exact (am_ge (dl n f1) 99 (S 8 0 0) _ hlt (by omega)).1 c
      · exact (am_6 hM c fun m h1 h2 => by have := hz m h1 h2; have := hle m; omega).symm
    refine f_X11_takes_121 ⟨fun c => absurd ((nI_leI (by omega) (by decide)).mp c) (by omega), fun _ => ⟨mt.1.z, ?_⟩⟩
    refine M_mostOf (g := dl n f1) (x := 99) mt hM hb h2 (fun m => Nat.lt_of_le_of_lt (hle m) (hm31 m)) hb99 ?_
    rw [e6]
    have em : mb (am (dl n f1) 99 6) = nI (am (dl n f1) 99 6 - 1) := if_neg hone.1
    rw [em]
    obtain ⟨w, ew⟩ : ∃ w, w = am (dl n f1) 99 6 - 1 := ⟨_, rfl⟩
    have hw : w < 6 := by omega
    have hw0 : 0 < dl n f1 w := by rw [ew]; exact hone.2.1
    rw [← ew]
    refine ⟨mt.1.z, _, mt.1.r6, 788, mt.1.z6, by decide, b + w, by rw [nI_add], by omega, _, mt.1.r21, 6, mt.1.z12, by decide, w, rfl, hw, ?_⟩
    have em1 : nI (N - n) + Int32.ofInt (-1) = nI (N - (n + 1)) := by
      rw [show N - n = (N - (n + 1)) + 1 by omega]
      exact pk_m1 _
    rw [em1, I_set (Or.inl (by omega)), h2 w hw, h3 w hw, pk_sub (by omega), nI_add]
    have ed : ∀ m, dl (n + 1) f1 m = if m = w then dl n f1 m - 1 else dl n f1 m := fun m => by
      rw [dl_end]
      show (if m + 1 = am (dl n f1) 99 6 then _ else _) = _
      by_cases c : m = w
      · rw [if_pos c, if_pos (by omega)]
      · rw [if_neg c, if_neg (by omega)]
    refine v_tk121 h0 hM hb hf hz hs hN hm31 k d (n + 1) _ (by omega) ((o.set (Or.inl rfl)).set (Or.inr rfl)) (fun x hx => ?_) (fun m hm => ?_) (fun m hm => ?_)
    · rw [I_set (Or.inl (by omega)), I_set (Or.inr (by omega))]; exact h1 x hx
    · rw [I_set (Or.inl (by omega)), ed]
      by_cases c : m = w
      · subst c
        rw [I_set_s, if_pos rfl]
      · rw [I_set (Or.inr (by omega)), if_neg c]; exact h2 m hm
    · rw [ed]
      have := hle w
      by_cases c : m = w
      · subst c
        rw [I_set_s, if_pos rfl]
        congr 1
        omega
      · rw [I_set (Or.inr c), I_set (Or.inl (by omega)), if_neg c]; exact h3 m hm
theorem v_tk89 {f : q_H → Prop} {N : Nat} {q : Nat → Nat} (h0 : MS A0 mo) (hb : b + 6 ≤ 788) (hq : ∀ m, q m ≤ g m) (hg : ∀ m, m < 6 → q_I A0 (mo + 6) (b + m) = nI (g m))
    (k : ∀ A', mg A0 A' mo → (∀ x, (x < b ∨ b + 6 ≤ x) → q_I A' (mo + 6) x = q_I A0 (mo + 6) x) → (∀ m, m < 6 → q_I A' (mo + 6) (b + m) = nI (g m - q m)) → (∀ m, m < 6 → q_I A' (mo + 12) m = nI (q m)) → q_Wp G M_X11_takes (q_KV f) X 0 0 121 [some (.ref mo), some (.int (nI b)), none, none, none, some (.int (nI N)), none] [] A') :
    ∀ (d i : Nat) (A : q_H), i + d = 6 → mg A0 A mo → (∀ x, (x < b ∨ b + i ≤ x) → q_I A (mo + 6) x = q_I A0 (mo + 6) x) → (∀ m, m < i → q_I A (mo + 6) (b + m) = nI (g m - q m)) → (∀ m, m < 6 → q_I A (mo + 12) m = nI (q m)) → q_Wp G M_X11_takes (q_KV f) X 0 0 89 [some (.ref mo), some (.int (nI b)), none, none, none, some (.int (nI N)), some (.int (nI i))] [] A
  | 0, i, A, e, o, h1, h2, h3 => by
    have : i = 6 := by omega
    subst this
    exact f_X11_takes_89 ⟨fun _ => k A o h1 h2 h3, fun c => absurd (nI_le (Nat.le_refl _) (by decide)) c⟩
  | d + 1, i, A, e, o, h1, h2, h3 => by
    have ms := o.1.ms h0
    refine f_X11_takes_89 ⟨fun c => absurd c (nI_ge (by omega) (by decide)), fun _ => ⟨ms.z, _, ms.r6, 788, ms.z6, by decide, b + i, by rw [nI_add], by omega, _, ms.r21, 6, ms.z12, by decide, i, rfl, by omega, ?_⟩⟩
    rw [h1 (b + i) (by omega), hg i (by omega), h3 i (by omega), pk_sub (hq i), nI_add]
    refine v_tk89 h0 hb hq hg k d (i + 1) _ (by omega) (o.set (Or.inl rfl)) (fun x hx => ?_) (fun m hm => ?_) (fun m hm => ?_)
    · rw [I_set (Or.inr (by omega))]; exact h1 x (by omega)
    · by_cases c : m = i
      · subst c
        rw [I_set_s]
      · rw [I_set (Or.inr (by omega))]; exact h2 m (by omega)
    · rw [I_set (Or.inl (by omega))]; exact h3 m hm
theorem v_tk19 {f : q_H → Prop} (h0 : MS A0 mo) (hb : b + 6 ≤ 788) (hs : s6 g < 2147483648) (hp : p < 2147483648) (hm31 : ∀ m, g m < 2147483648) (hg : ∀ m, m < 6 → q_I A0 (mo + 6) (b + m) = nI (g m))
    (k : ∀ A', mg A0 A' mo → q_I A' (mo + 6) = q_I A0 (mo + 6) → (∀ m, m < 6 → q_I A' (mo + 12) m = nI (pt g p m)) → q_Wp G M_X11_takes (q_KV f) X 0 0 89 [some (.ref mo), some (.int (nI b)), none, none, none, some (.int (nI (p0 g p - s6 (pt g p)))), some (.int (nI 0))] [] A') :
    ∀ (d i : Nat) (A : q_H), i + d = 6 → mg A0 A mo → q_I A (mo + 6) = q_I A0 (mo + 6) → (∀ m, m < i → q_I A (mo + 12) m = nI (pt g p m)) → q_Wp G M_X11_takes (q_KV f) X 0 0 19 [some (.ref mo), some (.int (nI b)), some (.int (nI p)), some (.long (lN (s6 g))), none, some (.int (nI (p0 g p - sm (pt g p) i))), some (.int (nI i))] [] A
  | 0, i, A, e, o, h1, h2 => by
    have : i = 6 := by omega
    subst this
    rw [s6_sm]
    exact f_X11_takes_19 ⟨fun _ => k A o h1 h2, fun c => absurd (nI_le (Nat.le_refl _) (by decide)) c⟩
  | d + 1, i, A, e, o, h1, h2 => by
    have ms := o.1.ms h0
    have hgi := hg i (by omega)
    rw [← h1] at hgi
    have hpt := pt_s6 g p
    have hsm : sm (pt g p) (i + 1) ≤ s6 (pt g p) := sm_s6 (by omega)
    have hsm1 : sm (pt g p) (i + 1) = sm (pt g p) i + pt g p i := rfl
    have hv : ∀ A1, A1 = q_setI A (mo + 12) i (nI (pt g p i)) → q_Wp G M_X11_takes (q_KV f) X 0 0 19 [some (.ref mo), some (.int (nI b)), some (.int (nI p)), some (.long (lN (s6 g))), none, some (.int (nI (p0 g p - sm (pt g p) i) - q_I A1 (mo + 12) i)), some (.int (nI i + nI 1))] [] A1 := fun A1 e1 => by
      have e2 : q_I A1 (mo + 12) i = nI (pt g p i) := by rw [e1]; exact I_set_s _ _ _ _
      rw [e2, pk_sub (by omega), nI_add, show p0 g p - sm (pt g p) i - pt g p i = p0 g p - sm (pt g p) (i + 1) by omega]
      refine v_tk19 h0 hb hs hp hm31 hg k d (i + 1) A1 (by omega) (by rw [e1]; exact o.set (Or.inr rfl)) ?_ (fun m hm => ?_)
      · rw [e1]
        funext x
        rw [I_set (Or.inl (by omega))]
        exact congrFun h1 x
      · rw [e1]
        by_cases c : m = i
        · subst c
          exact I_set_s _ _ _ _
        · rw [I_set (Or.inr c)]; exact h2 m (by omega)
    refine f_X11_takes_19 ⟨fun c => absurd c (nI_ge (by omega) (by decide)), fun _ => ⟨ms.z, _, ms.r21, ?_⟩⟩
    rw [nI_l hp]
    refine ⟨fun c => ?_, fun c => ?_⟩
    · have hlt := (lN_lt hp hs).mp c
      have e1 : pt g p i = g i * p / s6 g := by unfold pt; rw [if_neg (by omega)]
      have hmul : g i * p < 2 ^ 63 := by
        have : g i * p < 2147483648 * 2147483648 := Nat.mul_lt_mul'' (hm31 i) hp
        omega
      have ev : (((q_I A (mo + 6) (b + i)).toInt64 * lN p) / lN (s6 g)).toInt32 = nI (pt g p i) := by
        rw [hgi, nI_l (hm31 i), lN_mul, pk_lDiv hmul (by omega) (by omega), lN_i, e1]
      refine ⟨_, ms.r6, 788, ms.z6, by decide, b + i, by rw [nI_add], by omega, fun e => ?_, 6, ms.z12, by decide, i, rfl, by omega, ?_⟩
      · have := (lN_eq hs (by decide)).mp e
        omega
      · rw [ev]
        exact hv _ rfl
    · have hge : s6 g ≤ p := Nat.le_of_not_lt fun q => c ((lN_lt hp hs).mpr q)
      have e1 : pt g p i = g i := by unfold pt; rw [if_pos hge]
      refine ⟨_, ms.r6, 788, ms.z6, by decide, b + i, by rw [nI_add], by omega, 6, ms.z12, by decide, i, rfl, by omega, ?_⟩
      rw [hgi, ← e1]
      exact hv _ rfl
theorem M_takes {f : q_H → Prop} (h : MT A mo S) (hM : S 8 0 0 ≤ 6) (hb : b + 6 ≤ 788) (hs : s6 g < 2147483648) (hp : p < 2147483648) (hm31 : ∀ m, g m < 2147483648) (hz : ∀ m, S 8 0 0 ≤ m → m < 6 → g m = 0) (hg : ∀ m, m < 6 → q_I A (mo + 6) (b + m) = nI (g m))
    (k : ∀ A', mg A A' mo → (∀ x, (x < b ∨ b + 6 ≤ x) → q_I A' (mo + 6) x = q_I A (mo + 6) x) → (∀ m, m < 6 → q_I A' (mo + 6) (b + m) = nI (rs g p m)) → (∀ m, m < 6 → q_I A' (mo + 12) m = nI (tk g p m)) → f A') : q_Wc G M_X11_takes [.ref mo, .int (nI b), .int (nI p)] A (q_KV f) X := by
  refine f_X11_takes ⟨h.1.z, M_total h.1 hb hg ?_⟩
  have e0 : (if (nI (s6 g)).toInt64 < (nI p).toInt64 then (nI (s6 g)).toInt64 else (nI p).toInt64).toInt32 = nI (p0 g p) := by
    rw [nI_l hs, nI_l hp]
    unfold p0
    by_cases c : s6 g < p
    · rw [if_pos ((lN_lt hs hp).mpr c), lN_i, if_pos (by omega)]
    · rw [if_neg (fun q => c ((lN_lt hs hp).mp q)), lN_i]
      by_cases c2 : s6 g ≤ p
      · rw [if_pos c2]; congr 1; omega
      · rw [if_neg c2]
  rw [e0, nI_l hs]
  have hpt := pt_s6 g p
  refine v_tk19 (A0 := A) h.1 hb hs hp hm31 hg (fun A1 o1 r1 t1 => ?_) 6 0 A (by omega) (mg.r A mo) rfl (fun m hm => absurd hm (Nat.not_lt_zero _))
  have hg1 : ∀ m, m < 6 → q_I A1 (mo + 6) (b + m) = nI (g m) := fun m hm => by rw [r1]; exact hg m hm
  refine v_tk89 (A0 := A1) (g := g) (q := pt g p) (o1.1.ms h.1) hb (pt_le g p) hg1 (fun A2 o2 r2 v2 t2 => ?_) 6 0 A1 (by omega) (mg.r A1 mo) (fun x _ => rfl) (fun m hm => absurd hm (Nat.not_lt_zero _)) t1
  have hsub : s6 (fun m => g m - pt g p m) + s6 (pt g p) = s6 g := s6_sub fun m _ => pt_le g p m
  have hp0 : p0 g p ≤ s6 g := by unfold p0; split <;> omega
  have e4 : ∀ m, g m - (g m - pt g p m) = pt g p m := fun m => by have := pt_le g p m; omega
  refine v_tk121 (A0 := A2) (g := g) (f1 := fun m => g m - pt g p m) (N := p0 g p - s6 (pt g p)) (h.mf (o1.t o2).1) hM hb (fun m => Nat.sub_le _ _) hz hs (by omega) hm31 (fun A3 o3 r3 v3 t3 => ?_) (p0 g p - s6 (pt g p)) 0 A2 (by omega) (mg.r A2 mo) (fun x _ => rfl) v2 (fun m hm => by
    show _ = nI (g m - (g m - pt g p m))
    rw [e4]; exact t2 m hm)
  rw [← pt_rs] at v3 t3
  exact k A3 ((o1.t o2).t o3) (fun x hx => by rw [r3 x hx, r2 x hx, r1]) v3 t3
/-- what is taken is laid down -/
theorem v_lays {f : q_H → Prop} {w : Nat → Int32} (h0 : MS A0 mo) (hb : b + 6 ≤ 788) (hw : ∀ m, m < 6 → q_I A0 (mo + 12) m = w m) (k : ∀ A', mg A0 A' mo → (∀ x, (x < b ∨ b + 6 ≤ x) → q_I A' (mo + 6) x = q_I A0 (mo + 6) x) → (∀ m, m < 6 → q_I A' (mo + 6) (b + m) = w m) → q_I A' (mo + 12) = q_I A0 (mo + 12) → f A') :
    ∀ (d i : Nat) (A : q_H), i + d = 6 → mg A0 A mo → (∀ x, (x < b ∨ b + i ≤ x) → q_I A (mo + 6) x = q_I A0 (mo + 6) x) → (∀ m, m < i → q_I A (mo + 6) (b + m) = w m) → q_I A (mo + 12) = q_I A0 (mo + 12) → q_Wp G M_X11_lays_ (q_KV f) X 0 0 2 [some (.ref mo), some (.int (nI b)), some (.int (nI i))] [] A
  | 0, i, A, e, o, h1, h2, h3 => by
    have : i = 6 := by omega
    subst this
    exact f_X11_lays__2 ⟨fun _ => k A o h1 h2 h3, fun c => absurd (nI_le (Nat.le_refl _) (by decide)) c⟩
  | d + 1, i, A, e, o, h1, h2, h3 => by
    have ms := o.1.ms h0
    refine f_X11_lays__2 ⟨fun c => absurd c (nI_ge (by omega) (by decide)), fun _ => ⟨ms.z, _, ms.r6, _, ms.r21, 6, ms.z12, by decide, i, rfl, by omega, 788, ms.z6, by decide, b + i, by rw [nI_add], by omega, ?_⟩⟩
    rw [h3, hw i (by omega), nI_add]
    refine v_lays h0 hb hw k d (i + 1) _ (by omega) (o.set (Or.inl rfl)) (fun x hx => ?_) (fun m hm => ?_) ?_
    · rw [I_set (Or.inr (by omega))]; exact h1 x (by omega)
    · by_cases c : m = i
      · subst c
        exact I_set_s _ _ _ _
      · rw [I_set (Or.inr (by omega))]; exact h2 m (by omega)
    · funext x
      rw [I_set (Or.inl (by omega))]
      exact congrFun h3 x
theorem M_lays {f : q_H → Prop} {w : Nat → Int32} (h : MS A mo) (hb : b + 6 ≤ 788) (hw : ∀ m, m < 6 → q_I A (mo + 12) m = w m) (k : ∀ A', mg A A' mo → (∀ x, (x < b ∨ b + 6 ≤ x) → q_I A' (mo + 6) x = q_I A (mo + 6) x) → (∀ m, m < 6 → q_I A' (mo + 6) (b + m) = w m) → q_I A' (mo + 12) = q_I A (mo + 12) → f A') : q_Wc G M_X11_lays_ [.ref mo, .int (nI b)] A (q_KV f) X :=
  f_X11_lays_ (v_lays h hb hw k 6 0 A (by omega) (mg.r A mo) (fun _ _ => rfl) (fun m hm => absurd hm (Nat.not_lt_zero _)) rfl)
theorem v_joins {f : q_H → Prop} {c : Nat} {g w : Nat → Nat} (h0 : MS A0 mo) (hb : b + 6 ≤ 788) (hc : c + 6 ≤ 788) (hd : b + 6 ≤ c ∨ c + 6 ≤ b) (hg : ∀ m, m < 6 → q_I A0 (mo + 6) (b + m) = nI (g m)) (hw : ∀ m, m < 6 → q_I A0 (mo + 6) (c + m) = nI (w m)) (k : ∀ A', mg A0 A' mo → (∀ x, (x < b ∨ b + 6 ≤ x) → q_I A' (mo + 6) x = q_I A0 (mo + 6) x) → (∀ m, m < 6 → q_I A' (mo + 6) (b + m) = nI (g m + w m)) → f A') :
    ∀ (d i : Nat) (A : q_H), i + d = 6 → mg A0 A mo → (∀ x, (x < b ∨ b + i ≤ x) → q_I A (mo + 6) x = q_I A0 (mo + 6) x) → (∀ m, m < i → q_I A (mo + 6) (b + m) = nI (g m + w m)) → q_Wp G M_X11_joins (q_KV f) X 0 0 2 [some (.ref mo), some (.int (nI b)), some (.int (nI c)), some (.int (nI i))] [] A
  | 0, i, A, e, o, h1, h2 => by
    have : i = 6 := by omega
    subst this
    exact f_X11_joins_2 ⟨fun _ => k A o h1 h2, fun c => absurd (nI_le (Nat.le_refl _) (by decide)) c⟩
  | d + 1, i, A, e, o, h1, h2 => by
    have ms := o.1.ms h0
    refine f_X11_joins_2 ⟨fun c => absurd c (nI_ge (by omega) (by decide)), fun _ => ⟨ms.z, _, ms.r6, 788, ms.z6, by decide, b + i, by rw [nI_add], by omega, c + i, by rw [nI_add], by omega, ?_⟩⟩
    rw [h1 (b + i) (by omega), h1 (c + i) (by omega), hg i (by omega), hw i (by omega), nI_add, nI_add]
    refine v_joins h0 hb hc hd hg hw k d (i + 1) _ (by omega) (o.set (Or.inl rfl)) (fun x hx => ?_) (fun m hm => ?_)
    · rw [I_set (Or.inr (by omega))]; exact h1 x (by omega)
    · by_cases c : m = i
      · subst c
        exact I_set_s _ _ _ _
      · rw [I_set (Or.inr (by omega))]; exact h2 m (by omega)
theorem M_joins {f : q_H → Prop} {c : Nat} {g w : Nat → Nat} (h : MS A mo) (hb : b + 6 ≤ 788) (hc : c + 6 ≤ 788) (hd : b + 6 ≤ c ∨ c + 6 ≤ b) (hg : ∀ m, m < 6 → q_I A (mo + 6) (b + m) = nI (g m)) (hw : ∀ m, m < 6 → q_I A (mo + 6) (c + m) = nI (w m)) (k : ∀ A', mg A A' mo → (∀ x, (x < b ∨ b + 6 ≤ x) → q_I A' (mo + 6) x = q_I A (mo + 6) x) → (∀ m, m < 6 → q_I A' (mo + 6) (b + m) = nI (g m + w m)) → f A') : q_Wc G M_X11_joins [.ref mo, .int (nI b), .int (nI c)] A (q_KV f) X :=
  f_X11_joins (v_joins h hb hc hd hg hw k 6 0 A (by omega) (mg.r A mo) (fun _ _ => rfl) (fun m hm => absurd hm (Nat.not_lt_zero _)))
end TK

/-! HEAPS: what their methods do -/
theorem rowI_set (A : q_H) (a i : Nat) (g : Nat → Int32) (v : Int32) : q_setI (q_rowI A a g) a i v = q_rowI A a (fun j => if j = i then v else g j) := by
  have e : q_u2 (q_rw A.2.2.1 a g) a i v = q_rw A.2.2.1 a (fun j => if j = i then v else g j) := by
    funext b j
    by_cases c : b = a
    · subst c; simp [q_u2, q_rw]
    · simp [q_u2, q_rw, c]
  exact congrArg (fun z => (A.1, A.2.1, z, A.2.2.2.1, A.2.2.2.2.1, A.2.2.2.2.2)) e
theorem rowI_self (A : q_H) (a : Nat) : q_rowI A a (q_I A a) = A := by
  have e : q_rw A.2.2.1 a (A.2.2.1 a) = A.2.2.1 := by
    funext b j
    by_cases c : b = a
    · subst c; simp [q_rw]
    · simp [q_rw, c]
  exact congrArg (fun z => (A.1, A.2.1, z, A.2.2.2.1, A.2.2.2.2.1, A.2.2.2.2.2)) e
theorem I_set {A : q_H} {a k b j : Nat} {v : Int32} (h : b ≠ a ∨ j ≠ k) : q_I (q_setI A a k v) b j = q_I A b j := u2_n _ _ h
theorem I_set_s (A : q_H) (a k : Nat) (v : Int32) : q_I (q_setI A a k v) a k = v := q_u2_s _ _ _ _
theorem I_row {A : q_H} {a b j : Nat} {g : Nat → Int32} (h : b ≠ a) : q_I (q_rowI A a g) b j = q_I A b j := by rw [q_I_rowI, q_rw_a _ _ _ h]
theorem I_row_s (A : q_H) (a : Nat) (g : Nat → Int32) : q_I (q_rowI A a g) a = g := by rw [q_I_rowI, q_rw_s]
section HC
variable {G : q_G} {X : String → q_H → Prop} {A0 A : q_H} {l : l_T} {S : s_T}
theorem w_fill {f : q_H → Prop} {a z : Nat} {v : Int32} (hs : q_sh A a = (50, z)) (hz : z < 2147483648) (k : f (q_rowI A a (fun j => if j < z then v else q_I A a j))) : ∀ (d i : Nat), i + d = z → q_Wp G M_J7_fill_53178 (q_KV f) X 0 0 5 [some (.ref a), some (.int v), some (.int (nI i)), some (.int (nI z))] [] (q_rowI A a (fun j => if j < i then v else q_I A a j))
  | 0, i, e => by
    have : i = z := by omega
    subst this
    exact f_J7_fill_53178_5 ⟨fun _ => k, fun c => absurd (nI_le (Nat.le_refl _) hz) c⟩
  | d + 1, i, e => by
    refine f_J7_fill_53178_5 ⟨fun c => absurd c (nI_ge (by omega) hz), fun _ => ⟨z, hs, hz, i, rfl, by omega, ?_⟩⟩
    rw [nI_add, rowI_set]
    have := w_fill hs hz k d (i + 1) (by omega)
    have e2 : (fun j => if j = i then v else if j < i then v else q_I A a j) = (fun j => if j < i + 1 then v else q_I A a j) := by
      funext j
      by_cases c : j = i
      · rw [if_pos c, if_pos (by omega)]
      · rw [if_neg c]
        by_cases c2 : j < i
        · rw [if_pos c2, if_pos (by omega)]
        · rw [if_neg c2, if_neg (by omega)]
    rw [e2]
    exact this
theorem c_fill {f : q_H → Prop} {a z : Nat} {v : Int32} (hs : q_sh A a = (50, z)) (hz : z < 2147483648) (k : f (q_rowI A a (fun j => if j < z then v else q_I A a j))) : q_Wc G M_J7_fill_53178 [.ref a, .int v] A (q_KV f) X := by
  refine f_J7_fill_53178 ⟨z, hs, hz, ?_⟩
  have := w_fill (G := G) (X := X) hs hz k z 0 (by omega)
  have e : (fun j => if j < 0 then v else q_I A a j) = q_I A a := by funext j; simp
  rw [e, rowI_self] at this
  exact this
theorem c_clear {f : q_H → Prop} {h : Nat} (k : okH A h) (hk : f (q_setI (q_rowI A (h + 1) (fun j => if j < 6 then nI 0 else q_I A (h + 1) j)) h 1 (nI 0))) : q_Wc G M_X2_clear [.ref h] A (q_KV f) X :=
  f_X2_clear ⟨k.1, _, k.2.1, c_fill k.2.2 (by decide) ⟨k.1, hk⟩⟩
theorem c_copyH {f : q_H → Prop} {h o : Nat} (k : okH A h) (ko : okH A o) (ne : o ≠ h + 1) (hk : f (q_setI (q_rowI A (h + 1) (fun j => if j < 6 then q_I A (o + 1) j else q_I A (h + 1) j)) h 1 (q_I A o 1))) : q_Wc G M_X2_copyFrom [.ref h, .ref o] A (q_KV f) X := by
  refine f_X2_copyFrom ⟨ko.1, _, ko.2.1, k.1, _, k.2.1, 6, k.2.2, by decide, 6, ko.2.2, by decide, by decide, by decide, ?_⟩
  rw [I_row ne]
  exact hk
theorem c_of {f : Int32 → q_H → Prop} {h : Nat} {x : Int32} (k : okH A h) (h1 : ∀ m, m < 6 → x = nI m → f (q_I A (h + 1) m) A) (h2 : (∀ m, m < 6 → ¬ x = nI m) → f (nI 0) A) : q_Wc G M_X2_of [.ref h, .int x] A (q_KI f) X := by
  refine f_X2_of ⟨fun c => h2 fun m hm e => ?_, fun c => ⟨k.1, _, k.2.1, 6, k.2.2, by decide, fun c2 => h2 fun m hm e => ?_, fun c2 => ?_⟩⟩
  · rw [e] at c; exact nI_pos (by omega) c
  · rw [e] at c2; exact nI_ge hm (by decide) c2
  · rcases pk_ix x (n := 6) (by decide) with c3 | c3 | ⟨j, hj, e⟩
    · exact absurd c3 c
    · exact absurd c3 c2
    · exact ⟨j, e, hj, h1 j hj e⟩
theorem c_put {f : q_H → Prop} {h m : Nat} {v : Int32} (k : okH A h) (hm : m < 6) (hk : f (q_setI (q_setI A (h + 1) m (q_I A (h + 1) m + v)) h 1 (q_I A h 1 + v))) : q_Wc G M_X2_put [.ref h, .int (nI m), .int v] A (q_KV f) X := by
  refine f_X2_put ⟨fun c => absurd c (nI_pos (by omega)), fun _ => ⟨k.1, _, k.2.1, 6, k.2.2, by decide, fun c => absurd c (nI_ge hm (by decide)), fun _ => ⟨m, rfl, hm, ?_⟩⟩⟩
  rw [I_set (Or.inl (by omega))]
  exact hk
theorem w_putAll {f : q_H → Prop} {h o : Nat} (k : okH A h) (ko : okH A o) (ne : o ≠ h) (ne1 : o ≠ h + 1) (hk : f (q_setI (q_rowI A (h + 1) (fun j => if j < 6 then q_I A (h + 1) j + q_I A (o + 1) j else q_I A (h + 1) j)) h 1 (q_I A h 1 + q_I A o 1))) :
    ∀ (d i : Nat), i + d = 6 → q_Wp G M_X2_putAll (q_KV f) X 0 0 2 [some (.ref h), some (.ref o), some (.int (nI i))] [] (q_rowI A (h + 1) (fun j => if j < i then q_I A (h + 1) j + q_I A (o + 1) j else q_I A (h + 1) j))
  | 0, i, e => by
    have : i = 6 := by omega
    subst this
    refine f_X2_putAll_2 ⟨k.1, _, k.2.1, 6, k.2.2, by decide, fun _ => ⟨ko.1, ?_⟩, fun c => absurd (nI_le (Nat.le_refl _) (by decide)) c⟩
    rw [I_row (by omega), I_row ne1]
    exact hk
  | d + 1, i, e => by
    refine f_X2_putAll_2 ⟨k.1, _, k.2.1, 6, k.2.2, by decide, fun c => absurd c (nI_ge (by omega) (by decide)), fun _ => ⟨i, rfl, by omega, ko.1, _, ko.2.1, 6, ko.2.2, by decide, by omega, ?_⟩⟩
    rw [nI_add, rowI_set, I_row (b := o + 1) (by omega), I_row_s]
    have := w_putAll k ko ne ne1 hk d (i + 1) (by omega)
    have e2 : (fun j => if j = i then (if i < i then q_I A (h + 1) i + q_I A (o + 1) i else q_I A (h + 1) i) + q_I A (o + 1) i else if j < i then q_I A (h + 1) j + q_I A (o + 1) j else q_I A (h + 1) j) = (fun j => if j < i + 1 then q_I A (h + 1) j + q_I A (o + 1) j else q_I A (h + 1) j) := by
      funext j
      by_cases c : j = i
      · rw [if_pos c, if_neg (by omega), if_pos (by omega), c]
      · rw [if_neg c]
        by_cases c2 : j < i
        · rw [if_pos c2, if_pos (by omega)]
        · rw [if_neg c2, if_neg (by omega)]
    rw [e2]
    exact this
theorem c_putAll {f : q_H → Prop} {h o : Nat} (k : okH A h) (ko : okH A o) (ne : o ≠ h) (ne1 : o ≠ h + 1) (hk : f (q_setI (q_rowI A (h + 1) (fun j => if j < 6 then q_I A (h + 1) j + q_I A (o + 1) j else q_I A (h + 1) j)) h 1 (q_I A h 1 + q_I A o 1))) : q_Wc G M_X2_putAll [.ref h, .ref o] A (q_KV f) X := by
  refine f_X2_putAll ?_
  have := w_putAll (G := G) (X := X) k ko ne ne1 hk 6 0 (by omega)
  have e : (fun j => if j < 0 then q_I A (h + 1) j + q_I A (o + 1) j else q_I A (h + 1) j) = q_I A (h + 1) := by funext j; simp
  rw [e, rowI_self] at this
  exact this
theorem c_move {f : q_H → Prop} {h o m : Nat} {v : Int32} (k : okH A h) (ko : okH A o) (ne : o ≠ h) (ne1 : o ≠ h + 1) (ne2 : o + 1 ≠ h) (hm : m < 6) (hk : f (q_setI (q_setI (q_setI (q_setI A (h + 1) m (q_I A (h + 1) m - v)) h 1 (q_I A h 1 - v)) (o + 1) m (q_I A (o + 1) m + v)) o 1 (q_I A o 1 + v))) : q_Wc G M_X2_move [.ref h, .int (nI m), .int v, .ref o] A (q_KV f) X := by
  refine f_X2_move ⟨fun c => absurd c (nI_pos (by omega)), fun _ => ⟨k.1, _, k.2.1, 6, k.2.2, by decide, fun c => absurd c (nI_ge hm (by decide)), fun _ => ⟨m, rfl, hm, ko.1, _, ko.2.1, 6, ko.2.2, by decide, hm, ?_⟩⟩⟩
  rw [I_set (b := h) (Or.inl (by omega)), I_set (b := o + 1) (Or.inl ne2), I_set (b := o + 1) (Or.inl (by omega))]
  intro A19 e19
  subst e19
  rw [I_set (b := o) (Or.inl (by omega)), I_set (b := o) (Or.inl ne), I_set (b := o) (Or.inl ne1)]
  exact hk
theorem c_moveN {f : q_H → Prop} {h : Nat} {v : Int32} {o : Nat} (hk : f A) : q_Wc G M_X2_move [.ref h, .int (-1), .int v, .ref o] A (q_KV f) X :=
  f_X2_move ⟨fun _ => hk, fun c => absurd (by decide) c⟩
end HC

/-! the same, over a line -/
def mb (a : Nat) : Int32 := if a = 0 then (-1) else nI (a - 1)
theorem s6_if {f : Nat → Nat} {m v : Nat} (hm : m < 6) (hv : v ≤ f m) : s6 (fun j => if j = m then f m - v else f j) + v = s6 f := by
  match m, hm with
  | 0, _ => simp [s6]; omega
  | 1, _ => simp [s6]; omega
  | 2, _ => simp [s6]; omega
  | 3, _ => simp [s6]; omega
  | 4, _ => simp [s6]; omega
  | 5, _ => simp [s6]; omega
theorem s6_ifa {f : Nat → Nat} {m v : Nat} (hm : m < 6) : s6 (fun j => if j = m then f m + v else f j) = s6 f + v := by
  match m, hm with
  | 0, _ => simp [s6]; omega
  | 1, _ => simp [s6]; omega
  | 2, _ => simp [s6]; omega
  | 3, _ => simp [s6]; omega
  | 4, _ => simp [s6]; omega
  | 5, _ => simp [s6]; omega
def s_mv (S : s_T) (x y m v : Nat) : s_T := s_h (s_h S x (fun j => if j = m then S 0 x m - v else S 0 x j)) y (fun j => if j = m then S 0 y m + v else S 0 y j)
theorem Lp.hext {A0 A : q_H} {l : l_T} {S : s_T} {x : Nat} {f g : Nat → Nat} (h : Lp A0 A l (s_h S x f)) (e : ∀ m, m < 6 → f m = g m) : Lp A0 A l (s_h S x g) := by
  refine ⟨⟨h.w, h.1.2.1, h.b, fun y hy => ?_, fun t i j d => ?_, fun s hs h0 => ?_, h.fs⟩, h.2⟩
  · have a := h.1.2.2.2.1 y hy
    by_cases c : y = x
    · subst c
      rw [s_h_s] at a ⊢
      exact ⟨fun m hm => (a.1 m hm).trans (by rw [e m hm]), a.2.trans (by rw [s6_cg e])⟩
    · rw [s_h_n c] at a ⊢
      exact a
  · have a := h.1.2.2.2.2.1 t i j d
    have ht0 : t ≠ 0 := by have := d.1; unfold dm0 at this; omega
    rw [s_h_t ht0] at a ⊢
    exact a
  · rw [s_h_t (by decide)] at h0 ⊢
    have := h.rnd hs (by rw [s_h_t (by decide)]; exact h0)
    rw [s_h_t (by decide)] at this
    exact this
section HL
variable {G : q_G} {X : String → q_H → Prop} {A0 A : q_H} {l : l_T} {S : s_T}
theorem L_of {f : Int32 → q_H → Prop} (h : Lp A0 A l S) {x m : Nat} (hx : lv S x) (hm : m < 6) (k : f (nI (S 0 x m)) A) : q_Wc G M_X2_of [.ref (ha l x), .int (nI m)] A (q_KI f) X :=
  c_of (h.kh (lv_89 h.b hx)) (fun j hj e => by
    have : m = j := (nI_eq (by omega) (by omega)).mp e
    subst this
    rw [h.m hx hm]; exact k) (fun c => absurd rfl (c m hm))
theorem L_of0 {f : Int32 → q_H → Prop} (h : Lp A0 A l S) {x : Nat} (hx : x < 89) (k : f (nI 0) A) : q_Wc G M_X2_of [.ref (ha l x), .int (-1)] A (q_KI f) X :=
  c_of (h.kh hx) (fun j hj e => absurd (show (-1 : Int32) < 0 by decide) (by rw [e]; exact nI_pos (by omega))) (fun _ => k)
theorem L_put {f : q_H → Prop} (h : Lp A0 A l S) {x m v : Nat} (hx : lv S x) (hm : m < 6) (k : ∀ A', q_sh A' = q_sh A → q_R A' = q_R A → Lp A0 A' l (s_h S x (fun j => if j = m then S 0 x m + v else S 0 x j)) → f A') : q_Wc G M_X2_put [.ref (ha l x), .int (nI m), .int (nI v)] A (q_KV f) X := by
  have hx9 := lv_89 h.b hx
  refine c_put (h.kh hx9) hm (k _ rfl rfl (h.heap _ hx9 rfl rfl rfl (fun y a b => ((q_same.r A y).setI b).setI a) (fun j hj => ?_) ?_))
  · rw [I_set (Or.inl (by omega))]
    by_cases c : j = m
    · subst c
      rw [I_set_s, h.m hx hj, nI_add, if_pos rfl]
    · rw [I_set (Or.inr c), h.m hx hj, if_neg c]
  · rw [I_set_s, h.t hx, nI_add, s6_ifa hm]
theorem L_clear {f : q_H → Prop} (h : Lp A0 A l S) {x : Nat} (hx : x < 89) (k : ∀ A', q_sh A' = q_sh A → q_R A' = q_R A → Lp A0 A' l (s_h S x (fun _ => 0)) → f A') : q_Wc G M_X2_clear [.ref (ha l x)] A (q_KV f) X := by
  refine c_clear (h.kh hx) (k _ rfl rfl (h.heap _ hx rfl rfl rfl (fun y a b => ((q_same.r A y).rowI b).setI a) (fun j hj => ?_) ?_))
  · rw [I_set (Or.inl (by omega)), I_row_s, if_pos hj]
  · rw [I_set_s, s6_0]
theorem L_putAll {f : q_H → Prop} (h : Lp A0 A l S) {x y : Nat} (hx : lv S x) (hy : lv S y) (ne : x ≠ y) (k : ∀ A', q_sh A' = q_sh A → q_R A' = q_R A → Lp A0 A' l (s_h S x (fun m => S 0 x m + S 0 y m)) → f A') : q_Wc G M_X2_putAll [.ref (ha l x), .ref (ha l y)] A (q_KV f) X := by
  have hx9 := lv_89 h.b hx
  have hy9 := lv_89 h.b hy
  have hn := ha_ne l h.w hx9 hy9 ne
  refine c_putAll (h.kh hx9) (h.kh hy9) (Ne.symm hn.1) (Ne.symm hn.2.2) (k _ rfl rfl (h.heap _ hx9 rfl rfl rfl (fun z a b => ((q_same.r A z).rowI b).setI a) (fun j hj => ?_) ?_))
  · rw [I_set (Or.inl (by omega)), I_row_s, if_pos hj, h.m hx hj, h.m hy hj, nI_add]
  · rw [I_set_s, h.t hx, h.t hy, nI_add, s6_add]
theorem L_move {f : q_H → Prop} (h : Lp A0 A l S) {x y m v : Nat} (hx : lv S x) (hy : lv S y) (ne : x ≠ y) (hm : m < 6) (hv : v ≤ S 0 x m) (k : ∀ A', q_sh A' = q_sh A → q_R A' = q_R A → Lp A0 A' l (s_mv S x y m v) → f A') : q_Wc G M_X2_move [.ref (ha l x), .int (nI m), .int (nI v), .ref (ha l y)] A (q_KV f) X := by
  have hx9 := lv_89 h.b hx
  have hy9 := lv_89 h.b hy
  have hn := ha_ne l h.w hx9 hy9 ne
  have t1 := s6_if (f := S 0 x) hm hv
  have h1 : Lp A0 (q_setI (q_setI A (ha l x + 1) m (q_I A (ha l x + 1) m - nI v)) (ha l x) 1 (q_I A (ha l x) 1 - nI v)) l (s_h S x (fun j => if j = m then S 0 x m - v else S 0 x j)) := by
    refine h.heap _ hx9 rfl rfl rfl (fun y a b => ((q_same.r A y).setI b).setI a) (fun j hj => ?_) ?_
    · rw [I_set (Or.inl (by omega))]
      by_cases c : j = m
      · subst c
        rw [I_set_s, h.m hx hj, pk_sub hv, if_pos rfl]
      · rw [I_set (Or.inr c), h.m hx hj, if_neg c]
    · rw [I_set_s, h.t hx, pk_sub (by omega)]
      congr 1
      omega
  refine c_move (h.kh hx9) (h.kh hy9) (Ne.symm hn.1) (Ne.symm hn.2.2) (Ne.symm hn.2.1) hm (k _ rfl rfl ?_)
  have hy' : lv (s_h S x (fun j => if j = m then S 0 x m - v else S 0 x j)) y := hy
  refine h1.heap _ hy9 rfl rfl rfl (fun z a b => ((q_same.r _ z).setI b).setI a) (fun j hj => ?_) ?_
  · rw [I_set (Or.inl (by omega))]
    by_cases c : j = m
    · subst c
      rw [I_set_s, h.m hy hj, nI_add, if_pos rfl]
    · have := h1.m hy' hj
      rw [s_h_n (Ne.symm ne)] at this
      rw [I_set (Or.inr c), this, if_neg c]
  · rw [I_set_s, h.t hy, nI_add, s6_ifa hm]
theorem w_mostBut {f : Int32 → q_H → Prop} (h : Lp A0 A l S) {x b : Nat} {x1 : Int32} (hx : lv S x) (hb : ∀ m, m < 6 → (nI m = x1 ↔ m = b)) (hs : s6 (S 0 x) < 2147483648) (k : f (mb (am (S 0 x) b 6)) A) :
    ∀ (d i : Nat), i + d = 6 → q_Wp G M_X2_mostBut (q_KI f) X 0 0 7 [some (.ref (ha l x)), some (.int x1), some (.int (mb (am (S 0 x) b i))), some (.int (if am (S 0 x) b i = 0 then (-1) else nI (S 0 x (am (S 0 x) b i - 1)))), some (.int (nI i))] [] A
  | 0, i, e => by
    have : i = 6 := by omega
    subst this
    have kk := h.kh (lv_89 h.b hx)
    exact f_X2_mostBut_7 ⟨kk.1, _, kk.2.1, 6, kk.2.2, by decide, fun _ => k, fun c => absurd (nI_le (Nat.le_refl _) (by decide)) c⟩
  | d + 1, i, e => by
    have kk := h.kh (lv_89 h.b hx)
    have ih := w_mostBut h hx hb hs k d (i + 1) (by omega)
    have ea : am (S 0 x) b (i + 1) = if i ≠ b ∧ (am (S 0 x) b i = 0 ∨ S 0 x (am (S 0 x) b i - 1) < S 0 x i) then i + 1 else am (S 0 x) b i := rfl
    have hi : S 0 x i ≤ s6 (S 0 x) := s6_at _ (by omega)
    have hl := am_le (S 0 x) b i
    refine f_X2_mostBut_7 ⟨kk.1, _, kk.2.1, 6, kk.2.2, by decide, fun c => absurd c (nI_ge (by omega) (by decide)), fun _ => ⟨fun c => ?_, fun c => ⟨i, rfl, by omega, fun c2 => ?_, fun c2 => ?_⟩⟩⟩
    · rw [ea, if_neg (fun q => q.1 ((hb i (by omega)).mp c))] at ih
      rw [nI_add]; exact ih
    · rw [h.m hx (by omega)] at c2
      have : ¬ (i ≠ b ∧ (am (S 0 x) b i = 0 ∨ S 0 x (am (S 0 x) b i - 1) < S 0 x i)) := by
        rintro ⟨-, q⟩
        by_cases z : am (S 0 x) b i = 0
        · rw [if_pos z] at c2
          exact absurd c2 (by have := nI_pos' (n := S 0 x i) (by omega); intro q2; have := Int32.le_trans this q2; exact absurd this (by decide))
        · rw [if_neg z] at c2
          have hq : S 0 x (am (S 0 x) b i - 1) ≤ s6 (S 0 x) := s6_at _ (by omega)
          have := (nI_leI (by omega) (by omega)).mp c2
          omega
      rw [ea, if_neg this] at ih
      rw [nI_add]; exact ih
    · rw [h.m hx (by omega)] at c2 ⊢
      have : i ≠ b ∧ (am (S 0 x) b i = 0 ∨ S 0 x (am (S 0 x) b i - 1) < S 0 x i) := by
        refine ⟨fun q => c ((hb i (by omega)).mpr q), ?_⟩
        by_cases z : am (S 0 x) b i = 0
        · exact Or.inl z
        · rw [if_neg z] at c2
          have hq : S 0 x (am (S 0 x) b i - 1) ≤ s6 (S 0 x) := s6_at _ (by omega)
          refine Or.inr (Nat.lt_of_not_le fun q => c2 ((nI_leI (by omega) (by omega)).mpr q))
      rw [ea, if_pos this] at ih
      simp only [mb, Nat.add_sub_cancel, Nat.add_eq_zero_iff, Nat.one_ne_zero, and_false, if_false] at ih
      rw [nI_add]; exact ih
theorem L_mostBut {f : Int32 → q_H → Prop} (h : Lp A0 A l S) {x b : Nat} {x1 : Int32} (hx : lv S x) (hb : ∀ m, m < 6 → (nI m = x1 ↔ m = b)) (hs : s6 (S 0 x) < 2147483648) (k : f (mb (am (S 0 x) b 6)) A) : q_Wc G M_X2_mostBut [.ref (ha l x), .int x1] A (q_KI f) X :=
  f_X2_mostBut (w_mostBut h hx hb hs k 6 0 (by omega))
end HL

/-! A PORTION MOVES -/
def s_2 (S : s_T) (x y : Nat) (F H : Nat → Nat) : s_T := s_h (s_h S x F) y H
theorem s_2x {S : s_T} {x y : Nat} {F H : Nat → Nat} (ne : x ≠ y) : s_2 S x y F H 0 x = F := by unfold s_2; rw [s_h_n ne, s_h_s]
theorem s_2y (S : s_T) (x y : Nat) (F H : Nat → Nat) : s_2 S x y F H 0 y = H := by unfold s_2; rw [s_h_s]
theorem mv2 {S : s_T} {x y m v : Nat} {F H : Nat → Nat} (ne : x ≠ y) : s_mv (s_2 S x y F H) x y m v = s_2 S x y (fun j => if j = m then F m - v else F j) (fun j => if j = m then H m + v else H j) := by
  unfold s_mv
  rw [s_2x ne, s_2y]
  unfold s_2
  rw [s_h_c (h := y) (Ne.symm ne), s_h_h, s_h_h]
theorem hb99 : ∀ m, m < 6 → (nI m = (-1) ↔ m = 99) := fun m hm => ⟨fun e => absurd (show (-1 : Int32) < 0 by decide) (by rw [← e]; exact nI_pos (by omega)), fun e => by omega⟩
section HP
variable {G : q_G} {X : String → q_H → Prop} {A0 A : q_H} {l : l_T} {S : s_T}
theorem Lp.h2ext {x y : Nat} {F F' H H' : Nat → Nat} (ne : x ≠ y) (h : Lp A0 A l (s_2 S x y F H)) (e : ∀ m, m < 6 → F m = F' m) (e2 : ∀ m, m < 6 → H m = H' m) : Lp A0 A l (s_2 S x y F' H') := by
  have h1 : Lp A0 A l (s_2 S x y F H') := h.hext e2
  have h2 : Lp A0 A l (s_h (s_h S y H') x F) := by rw [← s_h_c ne]; exact h1
  have h3 := h2.hext e
  rw [← s_h_c ne] at h3
  exact h3
theorem w_mp78 {f : q_H → Prop} {x y N : Nat} (hx : lv S x) (hy : lv S y) (ne : x ≠ y) (f1 : Nat → Nat) (hf1 : ∀ m, f1 m ≤ S 0 x m) (hN : N < s6 f1) (hb : s6 (S 0 x) < 2147483648) (k : ∀ A', Lp A0 A' l (s_2 S x y (dl N f1) (fun m => S 0 x m - dl N f1 m)) → f A') :
    ∀ (d n : Nat) (A : q_H), n + d = N → Lp A0 A l (s_2 S x y (dl n f1) (fun m => S 0 x m - dl n f1 m)) → q_Wp G M_X2_movePortion (q_KV f) X 0 0 78 [some (.ref (ha l x)), none, some (.ref (ha l y)), none, some (.int (nI N)), some (.int (nI n)), none] [] A
  | 0, n, A, e, h => by
    have : n = N := by omega
    subst this
    have hT : s6 f1 ≤ s6 (S 0 x) := s6_mono fun m _ => hf1 m
    exact f_X2_movePortion_78 ⟨fun _ => k A h, fun c => absurd (nI_le (Nat.le_refl _) (by omega)) c⟩
  | d + 1, n, A, e, h => by
    have hT : s6 f1 ≤ s6 (S 0 x) := s6_mono fun m _ => hf1 m
    have hs := s6_dl n f1 (by omega)
    have hone := s6_one (f := dl n f1) (by omega)
    have hx' : lv (s_2 S x y (dl n f1) (fun m => S 0 x m - dl n f1 m)) x := hx
    have hy' : lv (s_2 S x y (dl n f1) (fun m => S 0 x m - dl n f1 m)) y := hy
    have kk := h.kh (lv_89 h.b hx')
    refine f_X2_movePortion_78 ⟨fun c => absurd c (nI_ge (by omega) (by omega)), fun _ => ⟨kk.1, L_mostBut h hx' hb99 (by rw [s_2x ne]; omega) ?_⟩⟩
    rw [s_2x ne]
    refine ⟨kk.1, ?_⟩
    have em : mb (am (dl n f1) 99 6) = nI (am (dl n f1) 99 6 - 1) := if_neg hone.1
    rw [em]
    refine L_move h hx' hy' ne (by omega) (by rw [s_2x ne]; omega) (fun A' _ _ h' => ?_)
    rw [nI_add]
    refine w_mp78 hx hy ne f1 hf1 hN hb k d (n + 1) A' (by omega) ?_
    rw [mv2 ne] at h'
    have e1 : (fun j => if j = am (dl n f1) 99 6 - 1 then dl n f1 (am (dl n f1) 99 6 - 1) - 1 else dl n f1 j) = dl (n + 1) f1 := by
      rw [dl_end]
      funext j
      by_cases c : j = am (dl n f1) 99 6 - 1
      · rw [if_pos c, if_pos (by omega), c]
      · rw [if_neg c, if_neg (by omega)]
    rw [e1] at h'
    refine h'.h2ext ne (fun _ _ => rfl) (fun m _ => ?_)
    have hd := dl_le n f1 m
    have hf := hf1 m
    have q := congrFun (dl_end n f1) m
    show (if m = am (dl n f1) 99 6 - 1 then S 0 x (am (dl n f1) 99 6 - 1) - dl n f1 (am (dl n f1) 99 6 - 1) + 1 else S 0 x m - dl n f1 m) = S 0 x m - dl (n + 1) f1 m
    rw [q]
    show _ = S 0 x m - (if m + 1 = am (dl n f1) 99 6 then dl n f1 m - 1 else dl n f1 m)
    by_cases c : m = am (dl n f1) 99 6 - 1
    · rw [if_pos c, if_pos (by omega), ← c]
      have := hone.2.1
      rw [← c] at this
      omega
    · rw [if_neg c, if_neg (by omega)]
theorem w_mp30 {f : q_H → Prop} {x y p : Nat} (hx : lv S x) (hy : lv S y) (ne : x ≠ y) (hp : p < s6 (S 0 x)) (hb : s6 (S 0 x) * p < 2147483648) (hb2 : s6 (S 0 x) < 2147483648) (k : ∀ A', Lp A0 A' l (s_2 S x y (rs (S 0 x) p) (tk (S 0 x) p)) → f A') :
    ∀ (d i : Nat) (A : q_H), i + d = 6 → Lp A0 A l (s_2 S x y (fun m => if m < i then S 0 x m - S 0 x m * p / s6 (S 0 x) else S 0 x m) (fun m => if m < i then S 0 x m * p / s6 (S 0 x) else 0)) → q_Wp G M_X2_movePortion (q_KV f) X 0 0 30 [some (.ref (ha l x)), some (.int (nI p)), some (.ref (ha l y)), some (.int (nI (s6 (S 0 x)))), some (.int (nI (p - sm (fun m => S 0 x m * p / s6 (S 0 x)) i))), some (.int (nI i)), none] [] A
  | 0, i, A, e, h => by
    have : i = 6 := by omega
    subst this
    have kk := h.kh (lv_89 h.b (show lv (s_2 S x y _ _) x from hx))
    refine f_X2_movePortion_30 ⟨kk.1, _, kk.2.1, 6, kk.2.2, by decide, fun _ => ?_, fun c => absurd (nI_le (Nat.le_refl _) (by decide)) c⟩
    rw [s6_sm]
    have hs := s6_part (S 0 x) p (by omega)
    have hsub := s6_sub (f := S 0 x) (g := fun m => S 0 x m * p / s6 (S 0 x)) (fun m _ => part_le _ _ _ (by omega))
    have er : rs (S 0 x) p = dl (p - s6 (fun m => S 0 x m * p / s6 (S 0 x))) (fun m => S 0 x m - S 0 x m * p / s6 (S 0 x)) := by unfold rs; rw [if_neg (by omega)]
    have et : tk (S 0 x) p = fun m => S 0 x m - dl (p - s6 (fun m => S 0 x m * p / s6 (S 0 x))) (fun m => S 0 x m - S 0 x m * p / s6 (S 0 x)) m := by unfold tk; rw [er]
    rw [er, et] at k
    refine w_mp78 (A0 := A0) (N := p - s6 (fun m => S 0 x m * p / s6 (S 0 x))) hx hy ne (fun m => S 0 x m - S 0 x m * p / s6 (S 0 x)) (fun m => Nat.sub_le _ _) (by omega) hb2 k _ 0 A (Nat.zero_add _) ?_
    refine h.h2ext ne (fun m hm => ?_) (fun m hm => ?_)
    · show (if m < 6 then _ else _) = S 0 x m - S 0 x m * p / s6 (S 0 x)
      rw [if_pos hm]
    · have := part_le (S 0 x) p m (by omega)
      show (if m < 6 then _ else _) = S 0 x m - (S 0 x m - S 0 x m * p / s6 (S 0 x))
      rw [if_pos hm]
      generalize S 0 x m * p / s6 (S 0 x) = q at *
      omega
  | d + 1, i, A, e, h => by
    have hx' : lv (s_2 S x y (fun m => if m < i then S 0 x m - S 0 x m * p / s6 (S 0 x) else S 0 x m) (fun m => if m < i then S 0 x m * p / s6 (S 0 x) else 0)) x := hx
    have hy' : lv (s_2 S x y (fun m => if m < i then S 0 x m - S 0 x m * p / s6 (S 0 x) else S 0 x m) (fun m => if m < i then S 0 x m * p / s6 (S 0 x) else 0)) y := hy
    have kk := h.kh (lv_89 h.b hx')
    have hi6 : i < 6 := by omega
    have hat : S 0 x i ≤ s6 (S 0 x) := s6_at _ hi6
    have hpl := part_le (S 0 x) p i (by omega)
    have hmul : S 0 x i * p < 2147483648 := Nat.lt_of_le_of_lt (Nat.mul_le_mul_right _ hat) hb
    have hsm : sm (fun m => S 0 x m * p / s6 (S 0 x)) (i + 1) ≤ p := Nat.le_trans (sm_s6 (by omega)) (s6_part (S 0 x) p (by omega))
    have esm : sm (fun m => S 0 x m * p / s6 (S 0 x)) (i + 1) = sm (fun m => S 0 x m * p / s6 (S 0 x)) i + S 0 x i * p / s6 (S 0 x) := rfl
    have ev : q_I A (ha l x + 1) i * nI p / nI (s6 (S 0 x)) = nI (S 0 x i * p / s6 (S 0 x)) := by
      rw [h.m hx' hi6, s_2x ne, if_neg (by omega), pk_mul, pk_div hmul (by omega) (by omega)]
    refine f_X2_movePortion_30 ⟨kk.1, _, kk.2.1, 6, kk.2.2, by decide, fun c => absurd c (nI_ge hi6 (by decide)), fun _ => ⟨i, rfl, hi6, nI_ne0 (by omega) (by omega), ?_⟩⟩
    rw [ev]
    refine L_move h hx' hy' ne hi6 (by rw [s_2x ne, if_neg (by omega)]; exact hpl) (fun A' _ _ h' => ?_)
    rw [nI_add, pk_sub (by omega), Nat.sub_sub, ← esm]
    refine w_mp30 hx hy ne hp hb hb2 k d (i + 1) A' (by omega) ?_
    rw [mv2 ne] at h'
    refine h'.h2ext ne (fun m hm => ?_) (fun m hm => ?_)
    · by_cases c : m = i
      · subst c
        simp
      · by_cases c2 : m < i
        · simp [c, c2, show m < i + 1 by omega]
        · simp [c, c2, show ¬ m < i + 1 by omega]
    · by_cases c : m = i
      · subst c
        simp
      · by_cases c2 : m < i
        · simp [c, c2, show m < i + 1 by omega]
        · simp [c, c2, show ¬ m < i + 1 by omega]
theorem L_portion {f : q_H → Prop} (h : Lp A0 A l S) {x y p : Nat} (hx : lv S x) (hy : lv S y) (ne : x ≠ y) (hy0 : ∀ m, m < 6 → S 0 y m = 0) (hp : p < 2147483648) (hb : s6 (S 0 x) * p < 2147483648) (hb2 : s6 (S 0 x) < 2147483648) (k : ∀ A', Lp A0 A' l (s_2 S x y (rs (S 0 x) p) (tk (S 0 x) p)) → f A') : q_Wc G M_X2_movePortion [.ref (ha l x), .int (nI p), .ref (ha l y)] A (q_KV f) X := by
  have kx := h.kh (lv_89 h.b hx)
  have ky := h.kh (lv_89 h.b hy)
  have all : s6 (S 0 x) ≤ p → q_Wc G M_X2_putAll [.ref (ha l y), .ref (ha l x)] A (q_KV fun A3 => q_sh A3 (ha l x) = (3, 0) ∧ q_Wc G M_X2_clear [.ref (ha l x)] A3 (q_KV fun A6 => f A6) q_nX) q_nX := fun hle =>
    L_putAll h hy hx (Ne.symm ne) fun A1 _ _ h1 => ⟨(h1.kh (lv_89 h.b hx)).1, L_clear h1 (lv_89 h.b hx) fun A2 _ _ h2 => k A2 (by
      have er : rs (S 0 x) p = fun _ => 0 := by unfold rs; rw [if_pos hle]
      have h3 : Lp A0 A2 l (s_2 S x y (fun _ => 0) (fun m => S 0 y m + S 0 x m)) := by
        unfold s_2; rw [s_h_c ne]; exact h2
      rw [er]
      refine h3.h2ext ne (fun _ _ => rfl) (fun m hm => ?_)
      show S 0 y m + S 0 x m = S 0 x m - rs (S 0 x) p m
      rw [er, hy0 m hm]; show 0 + S 0 x m = S 0 x m - 0; omega)⟩
  have hmain : ¬ s6 (S 0 x) ≤ p → q_Wp G M_X2_movePortion (q_KV f) X 0 0 30 [some (.ref (ha l x)), some (.int (nI p)), some (.ref (ha l y)), some (.int (nI (s6 (S 0 x)))), some (.int (nI p)), some (.int (nI 0)), none] [] A := fun hlt => by
    have := w_mp30 (G := G) (X := X) hx hy ne (by omega) hb hb2 k 6 0 A (by omega) (by
      have h0 : Lp A0 A l (s_h (s_h S x (S 0 x)) y (S 0 y)) := by
        have e : s_h (s_h S x (S 0 x)) y (S 0 y) = S := by
          funext t i j
          simp only [s_h]
          by_cases c : t = 0 ∧ i = y
          · rw [if_pos c, c.1, c.2]
          · rw [if_neg c]
            by_cases c2 : t = 0 ∧ i = x
            · rw [if_pos c2, c2.1, c2.2]
            · rw [if_neg c2]
        rw [e]; exact h
      refine Lp.h2ext ne (show Lp A0 A l (s_2 S x y (S 0 x) (S 0 y)) from h0) (fun m _ => ?_) (fun m hm => ?_)
      · simp
      · simp; exact hy0 m hm)
    exact this
  refine f_X2_movePortion ⟨kx.1, fun c => ?_, fun c => ⟨fun c2 => ?_, fun c2 => ?_⟩⟩
  · rw [h.t hx] at c
    have : s6 (S 0 x) = 0 := by
      rcases Nat.eq_zero_or_pos (s6 (S 0 x)) with z | z
      · exact z
      · exact absurd c (nI_nle z (by omega))
    exact ⟨ky.1, all (by omega)⟩
  · rw [h.t hx] at c2 ⊢
    exact hmain (by have := (nI_ltI hp (by omega)).mp c2; omega)
  · rw [h.t hx] at c2
    refine ⟨ky.1, all ?_⟩
    exact Nat.le_of_not_lt fun q => c2 ((nI_ltI hp (by omega)).mpr q)
end HP

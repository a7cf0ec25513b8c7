/-! THE REFERENCE: what is kept; aside -/
theorem ri_lt {t i j : Nat} (d : dR0 t i j) : ri t i j < 788 := by
  rcases ri_cases d with ⟨-, q⟩ | ⟨-, a, b, -, e⟩ | ⟨-, q⟩ | ⟨-, q⟩ | ⟨-, q⟩ | ⟨-, q⟩ <;>
  first
  | omega
  | (have := r2_bd a b; omega)
theorem RW.cg {R R' : Nat → Int32} {S : s_T} (r : RW R S) (h : ∀ k, k < 788 → R' k = R k) : RW R' S := by
  have hb := r.b
  unfold Lb at hb
  exact ⟨r.b, fun t i j d => by rw [h _ (ri_lt d.1)]; exact r.c d, fun x m q hm => by rw [h _ (hi_lt (lR_89 r.b q) hm)]; exact r.m q hm, fun s hs => by rw [h _ (by omega)]; exact r.rd hs, by rw [h _ (by decide)]; exact r.al⟩
/-- the texts' own are the same -/
def s_ct (S S' : s_T) : Prop := S' 8 = S 8 ∧ S' 9 = S 9 ∧ S' 10 = S 10 ∧ S' 11 = S 11
theorem s_cf.ct {S S' : s_T} (h : s_cf S S') : s_ct S S' := h.2
theorem ct_t {S S' S2 : s_T} (h : s_ct S S') (k : s_ct S' S2) : s_ct S S2 := ⟨k.1.trans h.1, k.2.1.trans h.2.1, k.2.2.1.trans h.2.2.1, k.2.2.2.trans h.2.2.2⟩
theorem TO.ct {V : Nat → Int32} {S S' : s_T} (h : TO V S) (c : s_ct S S') : TO V S' := by
  unfold TO at h ⊢
  rw [c.1, c.2.1, c.2.2.1]; exact h
/-- only the rows and a few numbers have changed -/
def kf (A A' : q_H) (mo : Nat) : Prop := q_sz A' = q_sz A ∧ q_sh A' = q_sh A ∧ q_R A' = q_R A ∧ q_L A' = q_L A ∧ q_D A' = q_D A ∧ ∀ x k, ¬ (x = mo + 6 ∨ x = mo + 8 ∨ x = mo + 9 ∨ x = mo + 12 ∨ (x = mo ∧ (k = 0 ∨ k = 10 ∨ k = 22))) → q_I A' x k = q_I A x k
theorem kf.r (A : q_H) (mo : Nat) : kf A A mo := ⟨rfl, rfl, rfl, rfl, rfl, fun _ _ _ => rfl⟩
theorem kf.t {A B C : q_H} {mo : Nat} (h : kf A B mo) (k : kf B C mo) : kf A C mo := ⟨k.1.trans h.1, k.2.1.trans h.2.1, k.2.2.1.trans h.2.2.1, k.2.2.2.1.trans h.2.2.2.1, k.2.2.2.2.1.trans h.2.2.2.2.1, fun x j q => (k.2.2.2.2.2 x j q).trans (h.2.2.2.2.2 x j q)⟩
theorem kf.set {A B : q_H} {mo x k : Nat} {v : Int32} (h : kf A B mo) (hx : x = mo + 6 ∨ x = mo + 8 ∨ x = mo + 9 ∨ x = mo + 12 ∨ (x = mo ∧ (k = 0 ∨ k = 10 ∨ k = 22))) : kf A (q_setI B x k v) mo := ⟨h.1, h.2.1, h.2.2.1, h.2.2.2.1, h.2.2.2.2.1, fun y j q => by
  rw [I_set (by
    by_cases c : y = x
    · subst c
      exact Or.inr fun e => q (by rw [e]; exact hx)
    · exact Or.inl c)]
  exact h.2.2.2.2.2 y j q⟩
theorem kf.ms {A A' : q_H} {mo : Nat} (h : kf A A' mo) (m : MS A mo) : MS A' mo := m.to h.2.1 h.2.2.1
theorem kf.sm {A A' : q_H} {mo x : Nat} (h : kf A A' mo) (hx : x < mo ∨ mo + 13 ≤ x) : q_same A A' x := ⟨by rw [h.2.1], by funext j; exact h.2.2.2.2.2 x j (by omega), by rw [h.2.2.1], by rw [h.2.2.2.1], by rw [h.2.2.2.2.1]⟩
theorem mf.kf {A A' : q_H} {mo : Nat} (h : mf A A' mo) : kf A A' mo := ⟨h.1, h.2.1, h.2.2.1, h.2.2.2.1, h.2.2.2.2.1, fun x k q => h.2.2.2.2.2 x k (by omega)⟩
theorem th.kf (A : q_H) (mo c : Nat) : kf A (th A mo c) mo := (kf.r A mo).set (Or.inr (Or.inr (Or.inr (Or.inr ⟨rfl, Or.inl rfl⟩))))
theorem kf.told {A A' : q_H} {mo : Nat} (h : kf A A' mo) : q_I A' (mo + 2) = q_I A (mo + 2) := by funext k; exact h.2.2.2.2.2 _ k (by omega)
theorem MP.kf {A A' : q_H} {mo : Nat} {S S' : s_T} (h : MP A mo S) (f : kf A A' mo) (r : RW (q_I A' (mo + 6)) S') (c : s_ct S S') : MP A' mo S' := ⟨f.ms h.1, r, by rw [f.told]; exact h.2.2.ct c⟩
theorem ct_r (S : s_T) : s_ct S S := ⟨rfl, rfl, rfl, rfl⟩
/-- the states kept: the block j holds the (n-1-j)-th newest -/
def Kp (A : q_H) (mo : Nat) (h : Nat → s_T) (n : Nat) : Prop := q_I A mo 10 = nI n ∧ n ≤ 6 ∧ ∀ j, j < n → RW (fun k => q_I A (mo + 9) (788 * j + k)) (h (n - 1 - j))
theorem Kp.to {A A' : q_H} {mo : Nat} {h : Nat → s_T} {n : Nat} (k : Kp A mo h n) (e1 : q_I A' mo 10 = q_I A mo 10) (e2 : q_I A' (mo + 9) = q_I A (mo + 9)) : Kp A' mo h n := by
  unfold Kp at k ⊢
  rw [e1, e2]; exact k
theorem Kp.mf {A A' : q_H} {mo : Nat} {h : Nat → s_T} {n : Nat} (k : Kp A mo h n) (f : mf A A' mo) : Kp A' mo h n := k.to (f.2.2.2.2.2 _ _ (by omega)) (by funext x; exact f.2.2.2.2.2 _ _ (by omega))
theorem Kp.th {A : q_H} {mo : Nat} {h : Nat → s_T} {n : Nat} (k : Kp A mo h n) (c : Nat) : Kp (th A mo c) mo h n := k.to (th_I _ _ _ _ _ (Or.inr (by decide))) (th_row _ _ _ _ (by omega))
section KE
variable {G : q_G} {X : String → q_H → Prop} {A A0 : q_H} {mo : Nat} {S : s_T} {hh : Nat → s_T} {n : Nat}
/-- the row goes behind the c blocks kept -/
theorem v_rem54 {f : q_H → Prop} {c : Nat} (h0 : MS A0 mo) (hc : c < 6) (e10 : q_I A0 mo 10 = nI c)
    (k : ∀ A', kf A0 A' mo → q_I A' (mo + 6) = q_I A0 (mo + 6) → q_I A' mo 0 = q_I A0 mo 0 → q_I A' mo 10 = nI (c + 1) → (∀ y, y < 788 * c → q_I A' (mo + 9) y = q_I A0 (mo + 9) y) → (∀ y, y < 788 → q_I A' (mo + 9) (788 * c + y) = q_I A0 (mo + 6) y) → f A') :
    ∀ (d i : Nat) (A : q_H), i + d = 788 → kf A0 A mo → q_I A (mo + 6) = q_I A0 (mo + 6) → q_I A mo = q_I A0 mo → (∀ y, y < 788 * c → q_I A (mo + 9) y = q_I A0 (mo + 9) y) → (∀ y, y < i → q_I A (mo + 9) (788 * c + y) = q_I A0 (mo + 6) y) → q_Wp G M_X11_remembers (q_KV f) X 0 0 54 [some (.ref mo), some (.int (nI i))] [] A
  | 0, i, A, e, o, r6, rm, h1, h2 => by
    have : i = 788 := by omega
    subst this
    have ms := o.ms h0
    refine f_X11_remembers_54 ⟨fun _ => ⟨ms.z, ?_⟩, fun c => absurd (nI_le (Nat.le_refl _) (by decide)) c⟩
    rw [rm, e10, nI_add]
    refine k _ (o.set (Or.inr (Or.inr (Or.inr (Or.inr ⟨rfl, Or.inr (Or.inl rfl)⟩))))) ?_ ?_ (I_set_s _ _ _ _) (fun y hy => ?_) (fun y hy => ?_)
    · rw [← r6]; funext x; exact I_set (Or.inl (by omega))
    · rw [I_set (Or.inr (by decide)), rm]
    · rw [I_set (Or.inl (by omega))]; exact h1 y hy
    · rw [I_set (Or.inl (by omega))]; exact h2 y hy
  | d + 1, i, A, e, o, r6, rm, h1, h2 => by
    have ms := o.ms h0
    refine f_X11_remembers_54 ⟨fun c => absurd c (nI_ge (by omega) (by decide)), fun _ => ⟨ms.z, _, ms.r9, _, ms.r6, 788, ms.z6, by decide, i, rfl, by omega, 4728, ms.z9, by decide, 788 * c + i, ?_, by omega, ?_⟩⟩
    · rw [rm, e10, pk_mul, nI_add]
    · rw [nI_add, r6]
      refine v_rem54 h0 hc e10 k d (i + 1) _ (by omega) (o.set (Or.inr (Or.inr (Or.inl rfl)))) ?_ ?_ (fun y hy => ?_) (fun y hy => ?_)
      · rw [← r6]; funext x; exact I_set (Or.inl (by omega))
      · rw [← rm]; funext x; exact I_set (Or.inl (by omega))
      · rw [I_set (Or.inr (by omega))]; exact h1 y hy
      · by_cases c2 : y = i
        · subst c2; exact I_set_s _ _ _ _
        · rw [I_set (Or.inr (by omega))]; exact h2 y (by omega)
/-- the oldest block goes -/
theorem v_rem13 {f : q_H → Prop} (h0 : MS A0 mo) (e10 : q_I A0 mo 10 = nI 6)
    (k : ∀ A', kf A0 A' mo → q_I A' (mo + 6) = q_I A0 (mo + 6) → q_I A' mo 0 = q_I A0 mo 0 → q_I A' mo 10 = nI 5 → (∀ y, y < 3940 → q_I A' (mo + 9) y = q_I A0 (mo + 9) (y + 788)) → q_Wp G M_X11_remembers (q_KV f) X 0 0 54 [some (.ref mo), some (.int (nI 0))] [] A') :
    ∀ (d i : Nat) (A : q_H), i + d = 3940 → kf A0 A mo → q_I A (mo + 6) = q_I A0 (mo + 6) → q_I A mo = q_I A0 mo → (∀ y, y < i → q_I A (mo + 9) y = q_I A0 (mo + 9) (y + 788)) → (∀ y, i ≤ y → q_I A (mo + 9) y = q_I A0 (mo + 9) y) → q_Wp G M_X11_remembers (q_KV f) X 0 0 13 [some (.ref mo), some (.int (nI (788 + i)))] [] A
  | 0, i, A, e, o, r6, rm, h1, h2 => by
    have : i = 3940 := by omega
    subst this
    have ms := o.ms h0
    refine f_X11_remembers_13 ⟨fun _ => ⟨ms.z, ?_⟩, fun c => absurd (nI_le (by decide) (by decide)) c⟩
    rw [rm, e10, pk_sub (by decide)]
    refine k _ (o.set (Or.inr (Or.inr (Or.inr (Or.inr ⟨rfl, Or.inr (Or.inl rfl)⟩))))) ?_ ?_ (I_set_s _ _ _ _) (fun y hy => ?_)
    · rw [← r6]; funext x; exact I_set (Or.inl (by omega))
    · rw [I_set (Or.inr (by decide)), rm]
    · rw [I_set (Or.inl (by omega))]; exact h1 y hy
  | d + 1, i, A, e, o, r6, rm, h1, h2 => by
    have ms := o.ms h0
    refine f_X11_remembers_13 ⟨fun c => absurd c (nI_ge (by omega) (by decide)), fun _ => ⟨ms.z, _, ms.r9, 4728, ms.z9, by decide, 788 + i, rfl, by omega, i, ?_, by omega, ?_⟩⟩
    · rw [pk_sub (by omega), Nat.add_sub_cancel_left]
    · rw [nI_add, show 788 + i + 1 = 788 + (i + 1) by omega, h2 (788 + i) (by omega)]
      refine v_rem13 h0 e10 k d (i + 1) _ (by omega) (o.set (Or.inr (Or.inr (Or.inl rfl)))) ?_ ?_ (fun y hy => ?_) (fun y hy => ?_)
      · rw [← r6]; funext x; exact I_set (Or.inl (by omega))
      · rw [← rm]; funext x; exact I_set (Or.inl (by omega))
      · by_cases c2 : y = i
        · subst c2; rw [I_set_s]; congr 1; omega
        · rw [I_set (Or.inr (by omega))]; exact h1 y (by omega)
      · rw [I_set (Or.inr (by omega))]; exact h2 y (by omega)
theorem M_remembers {f : q_H → Prop} (h : MP A mo S) (kp : Kp A mo hh n) (k : ∀ A', kf A A' mo → q_I A' (mo + 6) = q_I A (mo + 6) → q_I A' mo 0 = q_I A mo 0 → MP A' mo S → Kp A' mo (hp S hh) (mn6 n) → f A') : q_Wc G M_X11_remembers [.ref mo] A (q_KV f) X := by
  obtain ⟨e10, h6, hb⟩ := kp
  refine f_X11_remembers ⟨h.1.z, fun c => ?_, fun c => ?_⟩
  · have en : n = 6 := by rw [e10] at c; exact (nI_eq (by omega) (by decide)).mp c
    subst en
    refine v_rem13 (A0 := A) h.1 e10 (fun A1 o1 r1 z1 t1 s1 => ?_) 3940 0 A (by decide) (kf.r A mo) rfl rfl (fun y hy => absurd hy (Nat.not_lt_zero _)) (fun _ _ => rfl)
    refine v_rem54 (A0 := A1) (c := 5) (o1.ms h.1) (by decide) t1 (fun A2 o2 r2 z2 t2 s2 w2 => k A2 (o1.t o2) (r2.trans r1) (z2.trans z1) ?_ ⟨t2, by decide, fun j hj => ?_⟩) 788 0 A1 (by decide) (kf.r A1 mo) rfl rfl (fun _ _ => rfl) (fun y hy => absurd hy (Nat.not_lt_zero _))
    · exact h.kf (o1.t o2) (by rw [r2, r1]; exact h.2.1) (ct_r S)
    · have hj6 : j < 6 := hj
      by_cases c5 : j = 5
      · subst c5
        have : hp S hh (mn6 6 - 1 - 5) = S := rfl
        rw [this]
        exact h.2.1.cg fun y hy => by rw [w2 y hy, r1]
      · have : hp S hh (mn6 6 - 1 - j) = hh (6 - 1 - (j + 1)) := by
          show hp S hh (6 - 1 - j) = _
          unfold hp
          rw [if_neg (by omega)]
          congr 1
        rw [this]
        exact (hb (j + 1) (by omega)).cg fun y hy => by rw [s2 _ (by omega), s1 _ (by omega)]; congr 1; omega
  · have hn : n < 6 := by
      by_cases e : n = 6
      · rw [e10, e] at c; exact absurd rfl c
      · omega
    have em : mn6 n = n + 1 := if_pos hn
    rw [em] at k
    refine v_rem54 (A0 := A) (c := n) h.1 hn e10 (fun A2 o2 r2 z2 t2 s2 w2 => k A2 o2 r2 z2 ?_ ⟨t2, by omega, fun j hj => ?_⟩) 788 0 A (by decide) (kf.r A mo) rfl rfl (fun _ _ => rfl) (fun y hy => absurd hy (Nat.not_lt_zero _))
    · exact h.kf o2 (by rw [r2]; exact h.2.1) (ct_r S)
    · by_cases c5 : j = n
      · subst c5
        have : hp S hh (j + 1 - 1 - j) = S := by unfold hp; rw [if_pos (by omega)]
        rw [this]
        exact h.2.1.cg fun y hy => w2 y hy
      · have : hp S hh (n + 1 - 1 - j) = hh (n - 1 - j) := by
          unfold hp
          rw [if_neg (by omega)]
          congr 1
          omega
        rw [this]
        exact (hb j (by omega)).cg fun y hy => s2 _ (by omega)
theorem v_undo26 {f : Int32 → q_H → Prop} {c : Nat} (h0 : MS A0 mo) (hc : c < 6) (e10 : q_I A0 mo 10 = nI c)
    (k : ∀ A', kf A0 A' mo → q_I A' (mo + 9) = q_I A0 (mo + 9) → q_I A' mo = q_I A0 mo → (∀ y, y < 788 → q_I A' (mo + 6) y = q_I A0 (mo + 9) (788 * c + y)) → f (nI c) A') :
    ∀ (d i : Nat) (A : q_H), i + d = 788 → kf A0 A mo → q_I A (mo + 9) = q_I A0 (mo + 9) → q_I A mo = q_I A0 mo → (∀ y, y < i → q_I A (mo + 6) y = q_I A0 (mo + 9) (788 * c + y)) → q_Wp G M_X11_undo (q_KI f) X 0 0 26 [some (.ref mo), some (.int (nI i))] [] A
  | 0, i, A, e, o, r9, rm, h1 => by
    have : i = 788 := by omega
    subst this
    refine f_X11_undo_26 ⟨fun _ => ⟨(o.ms h0).z, ?_⟩, fun c => absurd (nI_le (Nat.le_refl _) (by decide)) c⟩
    rw [rm, e10]
    exact k A o r9 rm h1
  | d + 1, i, A, e, o, r9, rm, h1 => by
    have ms := o.ms h0
    refine f_X11_undo_26 ⟨fun c => absurd c (nI_ge (by omega) (by decide)), fun _ => ⟨ms.z, _, ms.r6, _, ms.r9, 4728, ms.z9, by decide, 788 * c + i, ?_, by omega, 788, ms.z6, by decide, i, rfl, by omega, ?_⟩⟩
    · rw [rm, e10, pk_mul, nI_add]
    · rw [nI_add, r9]
      refine v_undo26 h0 hc e10 k d (i + 1) _ (by omega) (o.set (Or.inl rfl)) ?_ ?_ (fun y hy => ?_)
      · rw [← r9]; funext x; exact I_set (Or.inl (by omega))
      · rw [← rm]; funext x; exact I_set (Or.inl (by omega))
      · by_cases c2 : y = i
        · subst c2; exact I_set_s _ _ _ _
        · rw [I_set (Or.inr (by omega))]; exact h1 y (by omega)
theorem M_undo {f : Int32 → q_H → Prop} (h : MP A mo S) (kp : Kp A mo hh n) (ct : n ≠ 0 → s_ct S (hh 0)) (k0 : n = 0 → f (-1) (th A mo 0)) (k1 : n ≠ 0 → ∀ A', kf A A' mo → q_I A' mo 0 = nI 0 → MP A' mo (hh 0) → Kp A' mo (fun i => hh (i + 1)) (n - 1) → f (nI (n - 1)) A') : q_Wc G M_X11_undo [.ref mo] A (q_KI f) X := by
  obtain ⟨e10, h6, hb⟩ := kp
  have e1 : q_I (q_setI A mo 0 (nI 0)) mo 10 = nI n := by rw [I_set (Or.inr (by decide)), e10]
  refine f_X11_undo ⟨h.1.z, fun c => ?_, fun c => ?_⟩
  · rw [e1] at c
    exact k0 ((nI_eq (by omega) (by decide)).mp c)
  · have hn : n ≠ 0 := fun e => c (by rw [e1, e])
    rw [e1, pk_sub (by omega)]
    obtain ⟨A1, eA1⟩ : ∃ A1, A1 = q_setI (q_setI A mo 0 (nI 0)) mo 10 (nI (n - 1)) := ⟨_, rfl⟩
    rw [← eA1]
    have o1 : kf A A1 mo := by rw [eA1]; exact (th.kf A mo 0).set (Or.inr (Or.inr (Or.inr (Or.inr ⟨rfl, Or.inr (Or.inl rfl)⟩))))
    have z1 : q_I A1 mo 0 = nI 0 := by rw [eA1, I_set (Or.inr (by decide)), I_set_s]
    have t1 : q_I A1 mo 10 = nI (n - 1) := by rw [eA1, I_set_s]
    have r9 : q_I A1 (mo + 9) = q_I A (mo + 9) := by rw [eA1]; funext x; rw [I_set (Or.inl (by omega)), I_set (Or.inl (by omega))]
    refine v_undo26 (A0 := A1) (c := n - 1) (o1.ms h.1) (by omega) t1 (fun A2 o2 r2 m2 w2 => k1 hn A2 (o1.t o2) (by rw [m2, z1]) ?_ ⟨by rw [m2, t1], by omega, fun j hj => ?_⟩) 788 0 A1 (by decide) (kf.r A1 mo) rfl rfl (fun y hy => absurd hy (Nat.not_lt_zero _))
    · refine h.kf (o1.t o2) ?_ (ct hn)
      have := hb (n - 1) (by omega)
      rw [show n - 1 - (n - 1) = 0 by omega] at this
      exact this.cg fun y hy => by rw [w2 y hy, r9]
    · have := hb j (by omega)
      show RW _ (hh (n - 1 - 1 - j + 1))
      rw [show n - 1 - 1 - j + 1 = n - 1 - j by omega, r2, r9]
      exact this
/-- only what lies aside has changed -/
theorem v_aside {f : q_H → Prop} (h0 : MS A0 mo) (k : ∀ A', kf A0 A' mo → q_I A' (mo + 6) = q_I A0 (mo + 6) → q_I A' (mo + 9) = q_I A0 (mo + 9) → q_I A' mo = q_I A0 mo → (∀ y, y < 788 → q_I A' (mo + 8) y = q_I A0 (mo + 6) y) → f A') :
    ∀ (d i : Nat) (A : q_H), i + d = 788 → kf A0 A mo → q_I A (mo + 6) = q_I A0 (mo + 6) → q_I A (mo + 9) = q_I A0 (mo + 9) → q_I A mo = q_I A0 mo → (∀ y, y < i → q_I A (mo + 8) y = q_I A0 (mo + 6) y) → q_Wp G M_X11_goesAside (q_KV f) X 0 0 2 [some (.ref mo), some (.int (nI i))] [] A
  | 0, i, A, e, o, r6, r9, rm, h1 => by
    have : i = 788 := by omega
    subst this
    exact f_X11_goesAside_2 ⟨fun _ => k A o r6 r9 rm h1, fun c => absurd (nI_le (Nat.le_refl _) (by decide)) c⟩
  | d + 1, i, A, e, o, r6, r9, rm, h1 => by
    have ms := o.ms h0
    refine f_X11_goesAside_2 ⟨fun c => absurd c (nI_ge (by omega) (by decide)), fun _ => ⟨ms.z, _, ms.r8, _, ms.r6, 788, ms.z6, by decide, i, rfl, by omega, 788, ms.z8, by decide, by omega, ?_⟩⟩
    rw [nI_add, r6]
    refine v_aside h0 k d (i + 1) _ (by omega) (o.set (Or.inr (Or.inl rfl))) ?_ ?_ ?_ (fun y hy => ?_)
    · rw [← r6]; funext x; exact I_set (Or.inl (by omega))
    · rw [← r9]; funext x; exact I_set (Or.inl (by omega))
    · rw [← rm]; funext x; exact I_set (Or.inl (by omega))
    · by_cases c2 : y = i
      · subst c2; exact I_set_s _ _ _ _
      · rw [I_set (Or.inr (by omega))]; exact h1 y (by omega)
/-- the row that lies aside -/
def As (A : q_H) (mo : Nat) (S : s_T) : Prop := RW (q_I A (mo + 8)) S
theorem M_goesAside {f : q_H → Prop} (h : MP A mo S) (k : ∀ A', kf A A' mo → q_I A' (mo + 6) = q_I A (mo + 6) → q_I A' (mo + 9) = q_I A (mo + 9) → q_I A' mo = q_I A mo → MP A' mo S → As A' mo S → f A') : q_Wc G M_X11_goesAside [.ref mo] A (q_KV f) X :=
  f_X11_goesAside (v_aside h.1 (fun A' o r6 r9 rm w => k A' o r6 r9 rm (h.kf o (by rw [r6]; exact h.2.1) (ct_r S)) (h.2.1.cg w)) 788 0 A (by decide) (kf.r A mo) rfl rfl rfl (fun y hy => absurd hy (Nat.not_lt_zero _)))
theorem v_back {f : q_H → Prop} (h0 : MS A0 mo) (k : ∀ A', kf A0 A' mo → q_I A' (mo + 8) = q_I A0 (mo + 8) → q_I A' (mo + 9) = q_I A0 (mo + 9) → q_I A' mo = q_I A0 mo → (∀ y, y < 788 → q_I A' (mo + 6) y = q_I A0 (mo + 8) y) → f A') :
    ∀ (d i : Nat) (A : q_H), i + d = 788 → kf A0 A mo → q_I A (mo + 8) = q_I A0 (mo + 8) → q_I A (mo + 9) = q_I A0 (mo + 9) → q_I A mo = q_I A0 mo → (∀ y, y < i → q_I A (mo + 6) y = q_I A0 (mo + 8) y) → q_Wp G M_X11_comesBack (q_KV f) X 0 0 2 [some (.ref mo), some (.int (nI i))] [] A
  | 0, i, A, e, o, r8, r9, rm, h1 => by
    have : i = 788 := by omega
    subst this
    exact f_X11_comesBack_2 ⟨fun _ => k A o r8 r9 rm h1, fun c => absurd (nI_le (Nat.le_refl _) (by decide)) c⟩
  | d + 1, i, A, e, o, r8, r9, rm, h1 => by
    have ms := o.ms h0
    refine f_X11_comesBack_2 ⟨fun c => absurd c (nI_ge (by omega) (by decide)), fun _ => ⟨ms.z, _, ms.r6, _, ms.r8, 788, ms.z8, by decide, i, rfl, by omega, 788, ms.z6, by decide, by omega, ?_⟩⟩
    rw [nI_add, r8]
    refine v_back h0 k d (i + 1) _ (by omega) (o.set (Or.inl rfl)) ?_ ?_ ?_ (fun y hy => ?_)
    · rw [← r8]; funext x; exact I_set (Or.inl (by omega))
    · rw [← r9]; funext x; exact I_set (Or.inl (by omega))
    · rw [← rm]; funext x; exact I_set (Or.inl (by omega))
    · by_cases c2 : y = i
      · subst c2; exact I_set_s _ _ _ _
      · rw [I_set (Or.inr (by omega))]; exact h1 y (by omega)
theorem M_comesBack {f : q_H → Prop} {S0 : s_T} (h : MP A mo S) (a : As A mo S0) (ct : s_ct S S0) (k : ∀ A', kf A A' mo → q_I A' (mo + 8) = q_I A (mo + 8) → q_I A' (mo + 9) = q_I A (mo + 9) → q_I A' mo = q_I A mo → MP A' mo S0 → f A') : q_Wc G M_X11_comesBack [.ref mo] A (q_KV f) X :=
  f_X11_comesBack (v_back h.1 (fun A' o r8 r9 rm w => k A' o r8 r9 rm (h.kf o (RW.cg a w) ct)) 788 0 A (by decide) (kf.r A mo) rfl rfl rfl (fun y hy => absurd hy (Nat.not_lt_zero _)))
end KE

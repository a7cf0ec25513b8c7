/-! A STATION IS ADDED; reset -/
def o_addS0 (S : s_T) (a p r e : Nat) : s_T := fun t i j => if t = 0 ∧ (i = 11 + S 8 1 0 ∨ i = 3 + S 8 1 0) then 0 else if t = 4 ∧ i = S 8 1 0 then 0 else if t = 9 ∧ i = S 8 1 0 then (if j = 0 then a else if j = 1 then r else e) else if t = 5 ∧ i = S 8 1 0 then (if j = 0 then p else 0) else S t i j
def o_addS (S : s_T) (a p r e : Nat) : s_T := s_p (o_addS0 S a p r e) 8 1 0 (S 8 1 0 + 1)
/-- what a line has before its text says anything -/
def s_0 : s_T := fun t i j => if t = 1 ∧ j = 0 then [50, 100, 95, 85, 20, 2, 1, 2].getD i 0 else 0
section AS
variable {G : q_G} {X : String → q_H → Prop} {A0 A : q_H} {l t : l_T} {S S' : s_T} {H : Nat → Prop} {D : Nat → Nat → Nat → Prop} {Q : Nat → Prop}
theorem Lp.k (h : Lp A0 A l S) (H : Nat → Prop) (D : Nat → Nat → Nat → Prop) (Q : Nat → Prop) (hH : ∀ x, H x → lv S x ∧ ∀ m, S' 0 x m = S 0 x m) (hD : ∀ t i j, D t i j → dm S t i j ∧ S' t i j = S t i j) (hQ : ∀ s, Q s → s = 8 ∨ (s < S 8 1 0 ∧ S' 4 s 0 = S 4 s 0)) : Lk A0 A l S' H D Q := by
  have hb := h.b
  unfold Lb at hb
  refine ⟨h.w, h.1.2.1, h.2, fun x q => ?_, fun t i j q => ?_, fun s q => ⟨fun h8 h0 => ?_, fun _ => h.fs⟩⟩
  · obtain ⟨a, b⟩ := hH x q
    have e : S' 0 x = S 0 x := funext b
    rw [e]
    exact ⟨lv_89 h.b a, fun m hm => h.m a hm, h.t a⟩
  · obtain ⟨a, b⟩ := hD t i j q
    rw [b]
    exact ⟨a.1, h.c a⟩
  · rcases hQ s q with e | ⟨e, e2⟩
    · omega
    · rw [e2] at h0 ⊢
      exact h.rnd e h0
theorem Lk.chg {H' : Nat → Prop} {D' : Nat → Nat → Nat → Prop} {Q' : Nat → Prop} (h : Lk A0 A l S H D Q) (hH : ∀ x, H' x → H x ∧ ∀ m, S' 0 x m = S 0 x m) (hD : ∀ t i j, D' t i j → D t i j ∧ S' t i j = S t i j) (hQ : ∀ s, Q' s → Q s ∧ S' 4 s 0 = S 4 s 0) : Lk A0 A l S' H' D' Q' := by
  refine ⟨h.1, h.2.1, h.2.2.1, fun x q => ?_, fun t i j q => ?_, fun s q => ?_⟩
  · have e : S' 0 x = S 0 x := funext (hH x q).2
    rw [e]; exact h.2.2.2.1 x (hH x q).1
  · rw [(hD t i j q).2]; exact h.2.2.2.2.1 t i j (hD t i j q).1
  · rw [(hQ s q).2]; exact h.2.2.2.2.2 s (hQ s q).1
theorem Lk.sm {A' : q_H} (h : Lk A0 A l S H D Q) (e : ∀ x, l_a l ≤ x → x < l_a l + 277 → q_same A A' x) (f : fr A0 A' (l_a l) 277) : Lk A0 A' l S H D Q := by
  have zI : ∀ x j, l_a l ≤ x → x < l_a l + 277 → q_I A' x j = q_I A x j := fun x j a b => by rw [(e x a b).2.1]
  refine ⟨h.1, h.2.1.sm e, f, fun x q => ?_, fun t i j q => ?_, fun s q => ?_⟩
  · have a := h.2.2.2.1 x q
    have hin := ha_in l h.1 a.1
    exact ⟨a.1, fun m hm => by rw [zI _ _ (by omega) (by omega)]; exact a.2.1 m hm, by rw [zI _ _ (by omega) (by omega)]; exact a.2.2⟩
  · have a := h.2.2.2.2.1 t i j q
    have hin := ca_in l h.1 a.1
    exact ⟨a.1, by rw [zI _ _ (by omega) (by omega)]; exact a.2⟩
  · have a := h.2.2.2.2.2 s q
    refine ⟨fun h8 h0 => ?_, fun h8 => ?_⟩
    · obtain ⟨j, hj, ej⟩ := h.1.1 s h8
      rw [zI _ _ (by omega) (by omega)]; exact a.1 h8 h0
    · rw [zI _ _ (by omega) (by omega)]; exact a.2 h8
theorem Lk.q0 (h : Lk A0 A l S H D Q) {s : Nat} (hs : s < 8) (h0 : S 4 s 0 = 0) : Lk A0 A l S H D (fun z => Q z ∨ z = s) :=
  ⟨h.1, h.2.1, h.2.2.1, h.2.2.2.1, h.2.2.2.2.1, fun z q => by
    by_cases c : z = s
    · subst c
      exact ⟨fun _ h1 => absurd h0 h1, fun e => by omega⟩
    · exact h.2.2.2.2.2 z (q.resolve_right c)⟩
theorem K_clear {f : q_H → Prop} (h : Lk A0 A t S H D Q) {x : Nat} (hx : x < 89) (h0 : ∀ m, S 0 x m = 0) (k : ∀ A', Lk A0 A' t S (fun z => H z ∨ z = x) D Q → f A') : q_Wc G M_X2_clear [.ref (ha t x)] A (q_KV f) X := by
  have e : S 0 x = fun _ => 0 := funext h0
  refine c_clear (h.z.kh hx) (k _ (h.heap hx rfl rfl rfl (fun y a b => ((q_same.r A y).rowI b).setI a) (fun m hm => ?_) ?_))
  · rw [I_set (Or.inl (by omega)), I_row_s, if_pos hm, h0 m]
  · rw [I_set_s, e, s6_0]
theorem L_addStation {f : q_H → Prop} (h : Lp A0 A l S) (hn : S 8 1 0 < 8) {a p r e : Nat} (k : ∀ A', Lp A0 A' l (o_addS S a p r e) → f A') : q_Wc G M_X4_addStation [.ref (l_a l), .int (nI a), .int (nI p), .int (nI r), .int (nI e)] A (q_KV f) X := by
  obtain ⟨n, en⟩ : ∃ n, n = S 8 1 0 := ⟨_, rfl⟩
  have hb := h.b
  unfold Lb at hb
  obtain ⟨T, eT⟩ : ∃ T, T = o_addS0 S a p r e := ⟨_, rfl⟩
  have eS : o_addS S a p r e = s_p T 8 1 0 (n + 1) := by rw [eT, en]; rfl
  rw [eS] at k
  have v9 : T 9 n 0 = a ∧ T 9 n 1 = r ∧ T 9 n 2 = e := by rw [eT, en]; simp [o_addS0]
  have v5 : T 5 n 0 = p ∧ T 5 n 1 = 0 ∧ T 5 n 2 = 0 ∧ T 5 n 3 = 0 := by rw [eT, en]; simp [o_addS0]
  have v8 : ∀ i, T 8 i 0 = S 8 i 0 := by rw [eT]; simp [o_addS0]
  have v2 : ∀ i, T 2 i 0 = S 2 i 0 := by rw [eT]; simp [o_addS0]
  have v4 : T 4 n 0 = 0 := by rw [eT, en]; simp [o_addS0]
  have v03 : ∀ m, T 0 (3 + n) m = 0 := by rw [eT, en]; simp [o_addS0]
  have v011 : ∀ m, T 0 (11 + n) m = 0 := by rw [eT, en]; simp [o_addS0]
  have h0 : Lk A0 A l T (fun x => lv S x) (fun t i j => dm S t i j) (fun s => s < n ∨ s = 8) := by
    refine h.k _ _ _ (fun x q => ⟨q, fun m => ?_⟩) (fun t i j q => ⟨q, ?_⟩) (fun s q => ?_)
    · rw [eT]
      unfold o_addS0
      unfold lv at q
      rw [if_neg (by omega), if_neg (by omega), if_neg (by omega), if_neg (by omega)]
    · unfold dm dm0 at q
      rw [eT]
      unfold o_addS0
      rw [if_neg (by omega), if_neg (by omega), if_neg (by omega), if_neg (by omega)]
    · rcases q with q | q
      · refine Or.inr ⟨by omega, ?_⟩
        rw [eT]
        unfold o_addS0
        rw [if_neg (by omega), if_neg (by omega), if_neg (by omega), if_neg (by omega)]
      · exact Or.inl q
  refine f_X4_addStation ⟨h.line, _, h.r2, 8, h.z2, by decide, ?_⟩
  rw [h.nst, ← en]
  refine ⟨fun _ => ⟨n, rfl, by omega, _, h.rs (by omega), h.zs (by omega), f_X6_relieve ⟨h.zs (by omega), h.zs (by omega), _, h.rs7 (by omega), h.zsl (by omega), _, h.rsl (by omega), h.zh (by omega), ?_⟩⟩, fun c => absurd (nI_lt (by omega) (by decide)) c⟩
  have h1 := h0.put (t := 9) (i := n) (j := 0) (by unfold dm0; omega)
  rw [v9.1] at h1
  have h2 := h1.put (t := 9) (i := n) (j := 1) (by unfold dm0; omega)
  rw [v9.2.1] at h2
  have h3 := h2.put (t := 9) (i := n) (j := 2) (by unfold dm0; omega)
  rw [v9.2.2] at h3
  have h4 := h3.put (t := 5) (i := n) (j := 0) (by unfold dm0; omega)
  rw [v5.1] at h4
  have h5 := h4.put (t := 5) (i := n) (j := 1) (by unfold dm0; omega)
  rw [v5.2.1] at h5
  have h6 := h5.put (t := 5) (i := n) (j := 2) (by unfold dm0; omega)
  rw [v5.2.2.1] at h6
  have h7 := h6.put (t := 5) (i := n) (j := 3) (by unfold dm0; omega)
  rw [v5.2.2.2] at h7
  have h8 := h7.q0 (s := n) (by omega) v4
  refine K_clear (x := 11 + n) h8 (by omega) v011 fun A1 h9 => ?_
  refine ⟨h9.z.zs (by omega), _, h9.z.rbn (by omega), h9.z.zh (x := 3 + n) (by omega), K_clear (x := 3 + n) h9 (by omega) v03 fun A2 h10 => ?_⟩
  have h11 := h10.mono (H' := fun x => lv S x ∨ x = 11 + n ∨ x = 3 + n) (D' := fun t i j => dm S t i j ∨ (t = 9 ∧ i = n ∧ j < 3) ∨ (t = 5 ∧ i = n ∧ j < 4)) (Q' := fun s => s < n + 1 ∨ s = 8) (fun x q => by
    rcases q with q | q | q
    · exact Or.inl (Or.inl q)
    · exact Or.inl (Or.inr q)
    · exact Or.inr q) (fun t i j q => by
    rcases q with q | q | q
    · exact Or.inl (Or.inl (Or.inl (Or.inl (Or.inl (Or.inl (Or.inl q))))))
    · have : j = 0 ∨ j = 1 ∨ j = 2 := by omega
      rcases this with z | z | z
      · exact Or.inl (Or.inl (Or.inl (Or.inl (Or.inl (Or.inl (Or.inr ⟨q.1, q.2.1, z⟩))))))
      · exact Or.inl (Or.inl (Or.inl (Or.inl (Or.inl (Or.inr ⟨q.1, q.2.1, z⟩)))))
      · exact Or.inl (Or.inl (Or.inl (Or.inl (Or.inr ⟨q.1, q.2.1, z⟩))))
    · have : j = 0 ∨ j = 1 ∨ j = 2 ∨ j = 3 := by omega
      rcases this with z | z | z | z
      · exact Or.inl (Or.inl (Or.inl (Or.inr ⟨q.1, q.2.1, z⟩)))
      · exact Or.inl (Or.inl (Or.inr ⟨q.1, q.2.1, z⟩))
      · exact Or.inl (Or.inr ⟨q.1, q.2.1, z⟩)
      · exact Or.inr ⟨q.1, q.2.1, z⟩) (fun s q => by omega)
  have ec : q_I A2 (l_a l) 3 = nI n := by
    have := h11.c (a := 8) (b := 1) (c := 0) (Or.inl (dm_8 S (by decide)))
    rw [v8, ← en] at this
    exact this
  rw [ec, nI_add]
  refine ⟨h11.z.line, k _ ?_⟩
  have h12 := (h11.chg (S' := s_p T 8 1 0 (n + 1)) (H' := fun x => lv S x ∨ x = 11 + n ∨ x = 3 + n) (D' := fun t i j => (dm S t i j ∨ (t = 9 ∧ i = n ∧ j < 3) ∨ (t = 5 ∧ i = n ∧ j < 4)) ∧ ¬ (t = 8 ∧ i = 1 ∧ j = 0)) (Q' := fun s => s < n + 1 ∨ s = 8) (fun x q => ⟨q, fun m => rfl⟩) (fun t i j q => ⟨q.1, if_neg q.2⟩) (fun s q => ⟨q, rfl⟩)).put (t := 8) (i := 1) (j := 0) (by unfold dm0; omega)
  rw [s_p_s] at h12
  have w8 : ∀ i, i ≠ 1 → s_p T 8 1 0 (n + 1) 8 i 0 = S 8 i 0 := fun i hi => by rw [s_p_i hi, v8]
  have w1 : s_p T 8 1 0 (n + 1) 8 1 0 = n + 1 := s_p_s _ _ _ _ _
  have w2 : ∀ i, s_p T 8 1 0 (n + 1) 2 i 0 = S 2 i 0 := fun i => by rw [s_p_t (by decide), v2]
  have w82 := w8 2 (by decide)
  have w210 := w2 10
  have w211 := w2 11
  refine ⟨h12.done ?_ (fun x q => ?_) (fun t i j q => ?_) (fun s q => ?_), h12.2.2.1⟩
  · unfold Lb
    omega
  · unfold lv at q ⊢
    omega
  · unfold dm at q ⊢
    by_cases c : t = 8 ∧ i = 1 ∧ j = 0
    · exact Or.inr c
    · refine Or.inl ⟨?_, c⟩
      by_cases c2 : (t = 9 ∨ t = 5) ∧ i = n
      · have q1 := q.1
        unfold dm0 at q1
        exact Or.inr (by omega)
      · exact Or.inl ⟨q.1, by omega⟩
  · omega
theorem Lk.grow {z c n : Nat} (h : Lk A0 A t S H D Q) (sz : l_a t + 277 ≤ q_sz A) : Lk A0 (q_new A c n) t S H D Q := h.sm (fun x a b => (q_same.r A x).new (by omega)) h.2.2.1.new
theorem sval0 : ∀ j, j < 8 → (q_sval 2).getD j 0 = nI (s_0 1 j 0) := by
  intro j hj
  match j, hj with
  | 0, _ => decide
  | 1, _ => decide
  | 2, _ => decide
  | 3, _ => decide
  | 4, _ => decide
  | 5, _ => decide
  | 6, _ => decide
  | 7, _ => decide
theorem L_reset {f : q_H → Prop} (w : Lw t) (s : Ls A t) (fs : q_I A (l_a t + 4) 1 = nI (l_f t)) (sz : l_a t + 277 ≤ q_sz A) (k : ∀ A', Lp A A' t s_0 → f A') : q_Wc G M_X4_reset [.ref (l_a t)] A (q_KV f) X := by
  have h0 : Lk A A t s_0 (fun _ => False) (fun _ _ _ => False) (fun s => s ≤ 8) := ⟨w, s, fr.r _ _ _, fun _ q => q.elim, fun _ _ _ q => q.elim, fun z _ => ⟨fun _ h1 => absurd rfl h1, fun _ => fs⟩⟩
  have h1 := h0.put (t := 8) (i := 0) (j := 0) (by unfold dm0; omega)
  have h2 := h1.rowS (g := fun j => if j < 8 then (q_sval 2).getD j 0 else q_I (q_setI A (l_a t) 0 (nI 0)) (l_a t + 1) j) (fun j hj => by
    show (if j < 8 then _ else _) = _
    rw [if_pos hj]; exact sval0 j hj)
  have h3 := h2.put (t := 8) (i := 1) (j := 0) (by unfold dm0; omega)
  have h4 := h3.put (t := 8) (i := 2) (j := 0) (by unfold dm0; omega)
  have h5 := h4.put (t := 2) (i := 10) (j := 0) (by unfold dm0; omega)
  have h6 := h5.put (t := 2) (i := 11) (j := 0) (by unfold dm0; omega)
  refine f_X4_reset ⟨h0.z.line, _, h0.z.r1, 8, h0.z.z1, by decide, by decide, by decide, _, h0.z.r6, h0.z.z4, fun A12 e12 => ?_⟩
  have h6' := h6.to (A' := q_setI A12 (l_a t + 96) 1 (nI 0)) (by rw [e12]; rfl)
  have z12 : q_sh A12 = q_sh A := by rw [e12]; rfl
  have r12 : q_R A12 = q_R A := by rw [e12]; rfl
  refine ⟨_, h0.z.r7, h0.z.z96, _, h0.z.r8, h0.z.k218.1, K_clear (x := 0) h6' (by decide) (fun _ => rfl) fun A1 h7 => ?_⟩
  refine ⟨h7.z.line, _, h7.z.r10, h7.z.k221.1, K_clear (x := 1) h7 (by decide) (fun _ => rfl) fun A2 h8 => ?_⟩
  refine ⟨h8.z.line, _, h8.z.r11, h8.z.k223.1, K_clear (x := 2) h8 (by decide) (fun _ => rfl) fun A3 h9 => ?_⟩
  have sz3 : l_a t + 277 ≤ q_sz A3 := Nat.le_trans sz h9.2.2.1.1
  have h10 := Lk.grow (z := 0) (c := 9) (n := 0) h9 sz3
  have ne : q_sz A3 ≠ l_a t + 220 := by omega
  refine ⟨h9.z.line, _, h9.z.r9, f_X8_init ⟨h10.z.z220, f_X8_copyFrom ⟨sh_new_s _ _ _, h10.z.z220, fun A4 e4 A5 e5 A6 e6 => ?_⟩⟩⟩
  have iv : ∀ j, q_I (q_new A3 9 0) (q_sz A3) j = nI 0 := fun j => by rw [q_I_new, q_rw_s]; rfl
  simp only [I_set (Or.inl ne), iv] at e4
  have i4 : ∀ j, q_I A4 (q_sz A3) j = nI 0 := fun j => by rw [e4]; simp only [I_set (Or.inl ne), iv]
  simp only [I_set (Or.inl ne), i4] at e5
  have i5 : ∀ j, q_I A5 (q_sz A3) j = nI 0 := fun j => by rw [e5]; simp only [I_set (Or.inl ne), i4]
  simp only [I_set (Or.inl ne), i5] at e6
  have i6 : ∀ j, q_I A6 (q_sz A3) j = nI 0 := fun j => by rw [e6]; simp only [I_set (Or.inl ne), i5]
  rw [i6]
  have g1 := h10.put (t := 2) (i := 0) (j := 0) (by unfold dm0; omega)
  have g2 := g1.put (t := 2) (i := 1) (j := 0) (by unfold dm0; omega)
  have g3 := g2.put (t := 2) (i := 2) (j := 0) (by unfold dm0; omega)
  have g3' := g3.to (A' := A4) e4
  have g4 := g3'.put (t := 2) (i := 3) (j := 0) (by unfold dm0; omega)
  have g5 := g4.put (t := 2) (i := 4) (j := 0) (by unfold dm0; omega)
  have g6 := g5.put (t := 2) (i := 5) (j := 0) (by unfold dm0; omega)
  have g6' := g6.to (A' := A5) e5
  have g7 := g6'.put (t := 2) (i := 6) (j := 0) (by unfold dm0; omega)
  have g8 := g7.put (t := 2) (i := 7) (j := 0) (by unfold dm0; omega)
  have g9 := g8.put (t := 2) (i := 8) (j := 0) (by unfold dm0; omega)
  have g9' := g9.to (A' := A6) e6
  have g10 := g9'.put (t := 2) (i := 9) (j := 0) (by unfold dm0; omega)
  have c8 : s_0 8 0 0 = 0 ∧ s_0 8 1 0 = 0 ∧ s_0 8 2 0 = 0 ∧ s_0 2 10 0 = 0 ∧ s_0 2 11 0 = 0 := ⟨rfl, rfl, rfl, rfl, rfl⟩
  refine k _ ⟨g10.done ?_ (fun x q => ?_) (fun t i j q => ?_) (fun s q => ?_), g10.2.2.1⟩
  · unfold Lb; omega
  · unfold lv at q
    have : x = 0 ∨ x = 1 ∨ x = 2 := by omega
    rcases this with e | e | e <;> simp [e]
  · obtain ⟨q1, q2, q3, q4, q5⟩ := q
    rw [c8.2.2.2.1] at q2
    rw [c8.2.1] at q3
    rw [c8.2.2.2.2] at q4
    rw [c8.2.2.1] at q5
    rcases q1 with ⟨rfl, hi, rfl⟩ | ⟨rfl, hi, rfl⟩ | ⟨rfl, hi, hj⟩ | ⟨rfl, hi, hj⟩ | ⟨rfl, hi, hj⟩ | ⟨rfl, hi, hj⟩ | ⟨rfl, hi, rfl⟩ | ⟨rfl, hi, hj⟩ | ⟨rfl, hi, hj⟩ | ⟨rfl, hi, hj⟩ <;> simp at q2 q3 q4 q5 ⊢ <;> omega
  · omega
end AS

/-! THE CLASS'S READER: its token -/
def oq (A A' : q_H) (rd : Nat) : Prop := q_sz A' = q_sz A ∧ q_sh A' = q_sh A ∧ q_R A' = q_R A ∧ ∀ x, x ≠ rd → q_same A A' x
theorem oq.r (A : q_H) (rd : Nat) : oq A A rd := ⟨rfl, rfl, rfl, fun x _ => q_same.r A x⟩
theorem oq.t {A B C : q_H} {rd : Nat} (h : oq A B rd) (k : oq B C rd) : oq A C rd := ⟨k.1.trans h.1, k.2.1.trans h.2.1, k.2.2.1.trans h.2.2.1, fun x e => (h.2.2.2 x e).t (k.2.2.2 x e)⟩
theorem oq.set {A B : q_H} {rd : Nat} (h : oq A B rd) (k : Nat) (v : Int32) : oq A (q_setI B rd k v) rd := ⟨h.1, h.2.1, h.2.2.1, fun x e => (h.2.2.2 x e).setI e⟩
def Rx (A : q_H) (rd txt la N : Nat) (T : Nat → Nat) : Prop := q_sh A rd = (10, 0) ∧ q_R A rd 0 = some txt ∧ q_I A rd 1 = nI N ∧ q_R A rd 2 = some la ∧ q_sh A txt = (51, 700) ∧ N ≤ 700 ∧ (∀ j, j < N → T j < 256 ∧ q_I A txt j = b8 (T j)) ∧ rd ≠ txt
theorem Rx.set {A : q_H} {rd txt la N : Nat} {T : Nat → Nat} (h : Rx A rd txt la N T) (k : Nat) (v : Int32) (hk : k ≠ 1) : Rx (q_setI A rd k v) rd txt la N T :=
  ⟨h.1, h.2.1, by rw [I_set (Or.inr (Ne.symm hk))]; exact h.2.2.1, h.2.2.2.1, h.2.2.2.2.1, h.2.2.2.2.2.1, fun j hj => ⟨(h.2.2.2.2.2.2.1 j hj).1, by rw [I_set (Or.inl (Ne.symm h.2.2.2.2.2.2.2))]; exact (h.2.2.2.2.2.2.1 j hj).2⟩, h.2.2.2.2.2.2.2⟩
def Tw (T : Nat → Nat) (N : Nat) (t : T_k) : Prop := t.2.1 ≤ t.2.2 ∧ t.2.2 ≤ N ∧ t.1 < 5 ∧ (t.1 = 2 → t.2.2 - t.2.1 ≤ 4 ∧ ∀ j, t.2.1 ≤ j → j < t.2.2 → t_di (T j) = true) ∧ (t.1 = 1 → t.2.1 < t.2.2 ∧ ∀ j, t.2.1 ≤ j → j < t.2.2 → t_le (T j) = true)
def Ro (A : q_H) (rd N : Nat) (T : Nat → Nat) (t : T_k) : Prop := q_I A rd 3 = nI t.1 ∧ q_I A rd 4 = nI t.2.1 ∧ q_I A rd 5 = nI t.2.2 ∧ (t.1 = 2 → q_I A rd 6 = nI (t_val T t.2.1 (t.2.2 - t.2.1))) ∧ Tw T N t ∧ q_I A rd 7 = nI 0
theorem Tw_tok {T : Nat → Nat} {N p : Nat} (h : p ≤ N) : Tw T N (tok T N p) := by
  have b := tok_bd (T := T) h
  refine ⟨b.2.1, b.2.2.1, b.2.2.2.1, fun e => ⟨b.2.2.2.2.2 e, ?_⟩, fun e => ⟨b.2.2.2.2.1 (by omega), ?_⟩⟩
  · revert e
    unfold tok
    dsimp only
    intro e
    split at e
    · dsimp only at e; omega
    · split at e
      · dsimp only at e; omega
      · split at e
        · rename_i c1 c2 c3
          rw [if_neg c1, if_neg c2, if_pos c3]
          intro j h1 h2
          exact t_end_all h1 h2
        · exfalso
          dsimp only at e
          split at e <;> exact absurd e (by decide)
  · revert e
    unfold tok
    dsimp only
    intro e
    split at e
    · dsimp only at e; omega
    · split at e
      · rename_i c1 c2
        rw [if_neg c1, if_pos c2]
        intro j h1 h2
        exact t_end_all h1 h2
      · exfalso
        split at e
        · dsimp only at e
          split at e <;> exact absurd e (by decide)
        · dsimp only at e
          split at e <;> exact absurd e (by decide)
section NT
variable {G : q_G} {X : String → q_H → Prop} {A A0 : q_H} {rd txt la N : Nat} {T : Nat → Nat}
theorem c_isBlank {f : Bool → q_H → Prop} {n : Nat} (hn : n < 256) (k : f (t_bl n) A) : q_Wc G M_X9_isBlank [.int (b8 n)] A (q_KB f) X := by
  have h := b8_bl n hn
  refine f_X9_isBlank ⟨fun c => ?_, fun c => ⟨fun c2 => ?_, fun c2 => ?_⟩⟩
  · have : t_bl n = true := decide_eq_true (Or.inl (h.1.mp c))
    rw [this] at k; exact k
  · have : t_bl n = true := decide_eq_true (Or.inr (h.2.1.mp c2))
    rw [this] at k; exact k
  · have : t_bl n = false := decide_eq_false fun q => q.elim (fun e => c (h.1.mpr e)) (fun e => c2 (h.2.1.mpr e))
    rw [this] at k; exact k
theorem c_isLetter {f : Bool → q_H → Prop} {n : Nat} (hn : n < 256) (k : f (t_le n) A) : q_Wc G M_X9_isLetter [.int (b8 n)] A (q_KB f) X := by
  have h := b8_le n hn
  refine f_X9_isLetter ⟨fun c => ?_, fun c => ⟨fun c2 => ?_, fun c2 => ?_⟩⟩
  · have h1 := h.1.mp c
    have : t_le n = false := decide_eq_false (by omega)
    rw [this] at k; exact k
  · have h1 := h.2.mp c2
    have : t_le n = false := decide_eq_false (by omega)
    rw [this] at k; exact k
  · have h1 : ¬ (n < 97 ∨ 128 ≤ n) := fun q => c (h.1.mpr q)
    have h2 : ¬ (122 < n ∧ n < 128) := fun q => c2 (h.2.mpr q)
    have : t_le n = true := decide_eq_true (by omega)
    rw [this] at k; exact k
theorem c_isDigit {f : Bool → q_H → Prop} {n : Nat} (hn : n < 256) (k : f (t_di n) A) : q_Wc G M_X9_isDigit [.int (b8 n)] A (q_KB f) X := by
  have h := b8_di n hn
  refine f_X9_isDigit ⟨fun c => ?_, fun c => ⟨fun c2 => ?_, fun c2 => ?_⟩⟩
  · have h1 := h.1.mp c
    have : t_di n = false := decide_eq_false (by omega)
    rw [this] at k; exact k
  · have h1 := h.2.mp c2
    have : t_di n = false := decide_eq_false (by omega)
    rw [this] at k; exact k
  · have h1 : ¬ (n < 48 ∨ 128 ≤ n) := fun q => c (h.1.mpr q)
    have h2 : ¬ (57 < n ∧ n < 128) := fun q => c2 (h.2.mpr q)
    have : t_di n = true := decide_eq_true (by omega)
    rw [this] at k; exact k
/-- the letters of a word -/
theorem w_word {f : q_H → Prop} {s e0 : Nat} (he : e0 ≤ N) (kk : ∀ A', oq A0 A' rd → Rx A' rd txt la N T → q_I A' rd 3 = nI 1 → q_I A' rd 4 = nI s → q_I A' rd 5 = nI e0 → q_I A' rd 7 = nI 0 → f A') :
    ∀ (d e : Nat) (A : q_H), e + d = e0 → e0 = t_end t_le T N e → oq A0 A rd → Rx A rd txt la N T → q_I A rd 3 = nI 1 → q_I A rd 4 = nI s → q_I A rd 5 = nI e → q_I A rd 7 = nI 0 → q_Wp G M_X9_nextToken (q_KV f) X 0 0 102 [some (.ref rd)] [] A
  | d, e, A, h1, h2, o, r, i3, i4, i5, i7 => by
    obtain ⟨x1, x2, x3, x4, x5, x6, x7, x8⟩ := id r
    refine f_X9_nextToken_102 ⟨x1, ?_⟩
    rw [x3, i5]
    refine ⟨fun c => ?_, fun c => ⟨_, x2, 700, x5, by decide, e, rfl, ?_, ?_⟩⟩
    · have hNe : N ≤ e := (nI_leI (by omega) (by omega)).mp c
      have : e0 = e := by rw [h2, t_end_n hNe]
      rw [← this] at i5
      exact kk A o r i3 i4 i5 i7
    · have : e < N := Nat.lt_of_not_le fun q => c (nI_le q (by omega))
      omega
    · have hlt : e < N := Nat.lt_of_not_le fun q => c (nI_le q (by omega))
      have b := x7 e hlt
      rw [b.2]
      refine c_isLetter b.1 ⟨fun c2 => ⟨x1, ?_⟩, fun c2 => ?_⟩
      · rw [i5, nI_add]
        have h3 := t_end_y (T := T) hlt c2
        have hle := t_end_le (P := t_le) (T := T) (N := N) (p := e + 1) (by omega)
        match d, h1 with
        | 0, h1 => omega
        | d + 1, h1 => exact w_word he kk d (e + 1) _ (by omega) (by rw [h2, h3]) (o.set _ _) (r.set _ _ (by decide)) (by rw [I_set (Or.inr (by decide))]; exact i3) (by rw [I_set (Or.inr (by decide))]; exact i4) (I_set_s _ _ _ _) (by rw [I_set (Or.inr (by decide))]; exact i7)
      · have : e0 = e := by rw [h2, t_end_x hlt c2]
        rw [← this] at i5
        exact kk A o r i3 i4 i5 i7
/-- the digits of a number -/
theorem w_number {f : q_H → Prop} {s e0 : Nat} (he : e0 ≤ N) (hs : s ≤ e0) (hd : ∀ j, s ≤ j → j < e0 → t_di (T j) = true) (kk : ∀ A', oq A0 A' rd → Rx A' rd txt la N T → q_I A' rd 3 = nI (if e0 - s ≤ 4 then 2 else 4) → q_I A' rd 4 = nI s → q_I A' rd 5 = nI e0 → (e0 - s ≤ 4 → q_I A' rd 6 = nI (t_val T s (e0 - s))) → q_I A' rd 7 = nI 0 → f A') :
    ∀ (d e : Nat) (A : q_H), e + d = e0 → s ≤ e → e0 = t_end t_di T N e → oq A0 A rd → Rx A rd txt la N T → q_I A rd 4 = nI s → q_I A rd 5 = nI e → (e - s ≤ 4 → q_I A rd 6 = nI (t_val T s (e - s))) → q_I A rd 7 = nI 0 → q_Wp G M_X9_nextToken (q_KV f) X 0 0 161 [some (.ref rd)] [] A
  | d, e, A, h1, h0, h2, o, r, i4, i5, i6, i7 => by
    obtain ⟨x1, x2, x3, x4, x5, x6, x7, x8⟩ := id r
    have fin : e0 = e → (((q_I A rd 5) - (q_I A rd 4)) ≤ (nI 4) → f (q_setI A rd 3 (nI 2))) ∧ (¬ ((q_I A rd 5) - (q_I A rd 4)) ≤ (nI 4) → f (q_setI A rd 3 (nI 4))) := fun ee => by
      subst ee
      rw [i5, i4, pk_sub hs]
      refine ⟨fun c => ?_, fun c => ?_⟩
      · have hle := (nI_leI (by omega) (by decide)).mp c
        exact kk _ (o.set _ _) (r.set _ _ (by decide)) (by rw [I_set_s, if_pos hle]) (by rw [I_set (Or.inr (by decide))]; exact i4) (by rw [I_set (Or.inr (by decide))]; exact i5) (fun q => by rw [I_set (Or.inr (by decide))]; exact i6 q) (by rw [I_set (Or.inr (by decide))]; exact i7)
      · have hle : ¬ e0 - s ≤ 4 := fun q => c (nI_le q (by decide))
        exact kk _ (o.set _ _) (r.set _ _ (by decide)) (by rw [I_set_s, if_neg hle]) (by rw [I_set (Or.inr (by decide))]; exact i4) (by rw [I_set (Or.inr (by decide))]; exact i5) (fun q => by rw [I_set (Or.inr (by decide))]; exact i6 q) (by rw [I_set (Or.inr (by decide))]; exact i7)
    refine f_X9_nextToken_161 ⟨x1, fun c => ?_, fun c => ⟨_, x2, 700, x5, by decide, e, i5, ?_, ?_⟩⟩
    · rw [x3, i5] at c
      have hNe : N ≤ e := (nI_leI (by omega) (by omega)).mp c
      exact fin (by rw [h2, t_end_n hNe])
    · rw [x3, i5] at c
      have : e < N := Nat.lt_of_not_le fun q => c (nI_le q (by omega))
      omega
    · rw [x3, i5] at c
      have hlt : e < N := Nat.lt_of_not_le fun q => c (nI_le q (by omega))
      have b := x7 e hlt
      rw [b.2]
      refine c_isDigit b.1 ⟨fun c2 => ⟨x1, _, x2, 700, x5, by decide, e, i5, by omega, fun A27 e27 => ?_⟩, fun c2 => ⟨x1, ?_⟩⟩
      · rw [I_set (Or.inr (by decide)), i5, nI_add, b.2] at e27
        have h3 := t_end_y (T := T) hlt c2
        have hle := t_end_le (P := t_di) (T := T) (N := N) (p := e + 1) (by omega)
        have hdig := hd e h0 (by omega)
        have hdig' : 48 ≤ T e ∧ T e ≤ 57 := of_decide_eq_true hdig
        have o2 : oq A0 A27 rd := by rw [e27]; exact (o.set _ _).set _ _
        have r2 : Rx A27 rd txt la N T := by rw [e27]; exact (r.set _ _ (by decide)).set _ _ (by decide)
        have j4 : q_I A27 rd 4 = nI s := by rw [e27, I_set (Or.inr (by decide)), I_set (Or.inr (by decide))]; exact i4
        have j5 : q_I A27 rd 5 = nI (e + 1) := by rw [e27, I_set_s]
        have j7 : q_I A27 rd 7 = nI 0 := by rw [e27, I_set (Or.inr (by decide)), I_set (Or.inr (by decide))]; exact i7
        have j6 : e + 1 - s ≤ 4 → q_I A27 rd 6 = nI (t_val T s (e + 1 - s)) := fun q => by
          rw [e27, I_set (Or.inr (by decide)), I_set_s, i6 (by omega), b8_sm (by omega), pk_sub hdig'.1, pk_mul, nI_add]
          have e1 : e + 1 - s = (e - s) + 1 := by omega
          have e2 : s + (e - s) = e := by omega
          rw [e1]
          show _ = nI (10 * t_val T s (e - s) + (T (s + (e - s)) - 48))
          rw [e2, Nat.mul_comm]
        match d, h1 with
        | 0, h1 => omega
        | d + 1, h1 => exact w_number he hs hd kk d (e + 1) A27 (by omega) (by omega) (by rw [h2, h3]) o2 r2 j4 j5 j6 j7
      · exact fin (by rw [h2, t_end_x hlt c2])
theorem c_after {f : q_H → Prop} {s p : Nat} (hs : s ≤ N) (es : s = t_end t_bl T N p) (o : oq A0 A rd) (r : Rx A rd txt la N T) (i4 : q_I A rd 4 = nI s) (i7 : q_I A rd 7 = nI 0) (hx : s < N → t_bl (T s) = false) (kk : ∀ A', oq A0 A' rd → Rx A' rd txt la N T → Ro A' rd N T (tok T N p) → f A') (hp : p ≤ N) :
    (((q_I (q_setI A rd 5 (q_I A rd 4)) rd 4) < (q_I (q_setI A rd 5 (q_I A rd 4)) rd 1) → ∃ r4 : Nat, q_R A rd 0 = some r4 ∧ ∃ z7 : Nat, q_sh A r4 = (51, z7) ∧ z7 < 2147483648 ∧ ∃ j9 : Nat, (q_I (q_setI A rd 5 (q_I A rd 4)) rd 4) = nI j9 ∧ j9 < z7 ∧ q_Wc G M_X9_isLetter [.int (q_I (q_setI A rd 5 (q_I A rd 4)) r4 j9)] (q_setI A rd 5 (q_I A rd 4)) (q_KB fun b13 A12 => ((b13 = true → q_sh A12 rd = (10, 0) ∧ q_Wp G M_X9_nextToken (q_KV f) X 0 0 102 [some (.ref rd)] [] (q_setI A12 rd 3 (nI 1))) ∧ (b13 = false → q_sh A12 rd = (10, 0) ∧ ∃ r17 : Nat, q_R A12 rd 0 = some r17 ∧ ∃ z20 : Nat, q_sh A12 r17 = (51, z20) ∧ z20 < 2147483648 ∧ ∃ j22 : Nat, (q_I A12 rd 4) = nI j22 ∧ j22 < z20 ∧ q_Wc G M_X9_isDigit [.int (q_I A12 r17 j22)] A12 (q_KB fun b26 A25 => ((b26 = true → q_sh A25 rd = (10, 0) ∧ q_Wp G M_X9_nextToken (q_KV f) X 0 0 161 [some (.ref rd)] [] (q_setI A25 rd 6 (nI 0))) ∧ (b26 = false → q_sh A25 rd = (10, 0) ∧ ∃ r30 : Nat, q_R A25 rd 0 = some r30 ∧ ∃ z33 : Nat, q_sh A25 r30 = (51, z33) ∧ z33 < 2147483648 ∧ ∃ j35 : Nat, (q_I A25 rd 4) = nI j35 ∧ j35 < z33 ∧ (((q_I A25 r30 j35) = (nI 59) → f (q_setI (q_setI A25 rd 3 (nI 3)) rd 5 ((q_I (q_setI A25 rd 3 (nI 3)) rd 5) + (nI 1)))) ∧ (¬ (q_I A25 r30 j35) = (nI 59) → f (q_setI (q_setI A25 rd 3 (nI 4)) rd 5 ((q_I (q_setI A25 rd 3 (nI 4)) rd 5) + (nI 1)))))))) q_nX))) q_nX) ∧ (¬ (q_I (q_setI A rd 5 (q_I A rd 4)) rd 4) < (q_I (q_setI A rd 5 (q_I A rd 4)) rd 1) → f (q_setI (q_setI A rd 5 (q_I A rd 4)) rd 3 (nI 0)))) := by
  obtain ⟨x1, x2, x3, x4, x5, x6, x7, x8⟩ := id r
  have w := Tw_tok (T := T) hp
  have e4 : q_I (q_setI A rd 5 (q_I A rd 4)) rd 4 = nI s := by rw [I_set (Or.inr (by decide))]; exact i4
  have e1 : q_I (q_setI A rd 5 (q_I A rd 4)) rd 1 = nI N := by rw [I_set (Or.inr (by decide))]; exact x3
  have e5 : q_I (q_setI A rd 5 (q_I A rd 4)) rd 5 = nI s := by rw [I_set_s]; exact i4
  have e7 : q_I (q_setI A rd 5 (q_I A rd 4)) rd 7 = nI 0 := by rw [I_set (Or.inr (by decide))]; exact i7
  have o1 : oq A0 (q_setI A rd 5 (q_I A rd 4)) rd := o.set _ _
  have r1 : Rx (q_setI A rd 5 (q_I A rd 4)) rd txt la N T := r.set _ _ (by decide)
  have hne := x8
  have et : tok T N p = if N ≤ s then (0, s, s) else if t_le (T s) = true then (1, s, t_end t_le T N s) else if t_di (T s) = true then (if t_end t_di T N s - s ≤ 4 then 2 else 4, s, t_end t_di T N s) else (if T s = 59 then 3 else 4, s, s + 1) := by
    rw [es]; rfl
  refine ⟨fun c => ?_, fun c => ?_⟩
  · rw [e4, e1] at c
    have hlt : s < N := (nI_ltI (by omega) (by omega)).mp c
    have b := x7 s hlt
    have eb : q_I (q_setI A rd 5 (q_I A rd 4)) txt s = b8 (T s) := by rw [I_set (Or.inl (Ne.symm hne))]; exact b.2
    rw [if_neg (by omega)] at et
    refine ⟨_, x2, 700, x5, by decide, s, e4, by omega, ?_⟩
    rw [eb]
    refine c_isLetter b.1 ⟨fun c2 => ⟨x1, ?_⟩, fun c2 => ⟨x1, _, x2, 700, x5, by decide, s, e4, by omega, ?_⟩⟩
    · rw [if_pos c2] at et
      have hle := t_end_le (P := t_le) (T := T) (N := N) (p := s) (by omega)
      refine w_word (s := s) (e0 := t_end t_le T N s) hle.2 (fun A' o' r' i3 i4' i5 i7' => kk A' o' r' ?_) (t_end t_le T N s - s) s _ (by omega) rfl (o1.set _ _) (r1.set _ _ (by decide)) (I_set_s _ _ _ _) (by rw [I_set (Or.inr (by decide))]; exact e4) (by rw [I_set (Or.inr (by decide))]; exact e5) (by rw [I_set (Or.inr (by decide))]; exact e7)
      rw [et] at w ⊢
      exact ⟨i3, i4', i5, fun e => by dsimp only at e; omega, w, i7'⟩
    · rw [if_neg (by rw [c2]; decide)] at et
      rw [eb]
      refine c_isDigit b.1 ⟨fun c3 => ⟨x1, ?_⟩, fun c3 => ⟨x1, _, x2, 700, x5, by decide, s, e4, by omega, ?_⟩⟩
      · rw [if_pos c3] at et
        have hle := t_end_le (P := t_di) (T := T) (N := N) (p := s) (by omega)
        refine w_number (s := s) (e0 := t_end t_di T N s) hle.2 hle.1 (fun j h1 h2 => t_end_all h1 h2) (fun A' o' r' i3 i4' i5 i6 i7' => kk A' o' r' ?_) (t_end t_di T N s - s) s _ (by omega) (Nat.le_refl _) rfl (o1.set _ _) (r1.set _ _ (by decide)) (by rw [I_set (Or.inr (by decide))]; exact e4) (by rw [I_set (Or.inr (by decide))]; exact e5) (fun _ => by rw [I_set_s, Nat.sub_self]; rfl) (by rw [I_set (Or.inr (by decide))]; exact e7)
        rw [et] at w ⊢
        refine ⟨i3, i4', i5, fun e => i6 ?_, w, i7'⟩
        dsimp only at e
        by_cases c4 : t_end t_di T N s - s ≤ 4
        · exact c4
        · rw [if_neg c4] at e
          exact absurd e (by decide)
      · rw [if_neg (by rw [c3]; decide)] at et
        rw [eb]
        have h59 := (b8_bl (T s) b.1).2.2
        refine ⟨fun c4 => ?_, fun c4 => ?_⟩
        · rw [if_pos (h59.mp c4)] at et
          refine kk _ ((o1.set _ _).set _ _) ((r1.set _ _ (by decide)).set _ _ (by decide)) ?_
          rw [I_set (Or.inr (by decide)), e5, nI_add]
          rw [et] at w ⊢
          exact ⟨by rw [I_set (Or.inr (by decide)), I_set_s], by rw [I_set (Or.inr (by decide)), I_set (Or.inr (by decide))]; exact e4, I_set_s _ _ _ _, fun e => by dsimp only at e; omega, w, by rw [I_set (Or.inr (by decide)), I_set (Or.inr (by decide))]; exact e7⟩
        · rw [if_neg (fun q => c4 (h59.mpr q))] at et
          refine kk _ ((o1.set _ _).set _ _) ((r1.set _ _ (by decide)).set _ _ (by decide)) ?_
          rw [I_set (Or.inr (by decide)), e5, nI_add]
          rw [et] at w ⊢
          exact ⟨by rw [I_set (Or.inr (by decide)), I_set_s], by rw [I_set (Or.inr (by decide)), I_set (Or.inr (by decide))]; exact e4, I_set_s _ _ _ _, fun e => by dsimp only at e; omega, w, by rw [I_set (Or.inr (by decide)), I_set (Or.inr (by decide))]; exact e7⟩
  · rw [e4, e1] at c
    have hge : N ≤ s := Nat.le_of_not_lt fun q => c (nI_lt q (by omega))
    rw [if_pos hge] at et
    refine kk _ (o1.set _ _) (r1.set _ _ (by decide)) ?_
    rw [et] at w ⊢
    exact ⟨I_set_s _ _ _ _, by rw [I_set (Or.inr (by decide))]; exact e4, by rw [I_set (Or.inr (by decide))]; exact e5, fun e => by dsimp only at e; omega, w, by rw [I_set (Or.inr (by decide))]; exact e7⟩
theorem w_blank {f : q_H → Prop} {p : Nat} (hp : p ≤ N) (kk : ∀ A', oq A0 A' rd → Rx A' rd txt la N T → Ro A' rd N T (tok T N p) → f A') : ∀ (d s : Nat) (A : q_H), s + d = t_end t_bl T N p → t_end t_bl T N p = t_end t_bl T N s → oq A0 A rd → Rx A rd txt la N T → q_I A rd 4 = nI s → q_I A rd 7 = nI 0 → q_Wp G M_X9_nextToken (q_KV f) X 0 0 16 [some (.ref rd)] [] A
  | d, s, A, h1, h2, o, r, i4, i7 => by
    obtain ⟨x1, x2, x3, x4, x5, x6, x7, x8⟩ := id r
    have hle := t_end_le (P := t_bl) (T := T) hp
    refine f_X9_nextToken_16 ⟨x1, fun c => ?_, fun c => ⟨_, x2, 700, x5, by decide, s, i4, ?_, ?_⟩⟩
    · rw [x3, i4] at c
      have hNe : N ≤ s := (nI_leI (by omega) (by omega)).mp c
      exact c_after (p := p) (by omega) (by rw [h2, t_end_n hNe]) o r i4 i7 (fun q => by omega) kk hp
    · rw [x3, i4] at c
      have : s < N := Nat.lt_of_not_le fun q => c (nI_le q (by omega))
      omega
    · rw [x3, i4] at c
      have hlt : s < N := Nat.lt_of_not_le fun q => c (nI_le q (by omega))
      have b := x7 s hlt
      rw [b.2]
      refine c_isBlank b.1 ⟨fun c2 => ⟨x1, ?_⟩, fun c2 => ⟨x1, ?_⟩⟩
      · rw [i4, nI_add]
        have h3 := t_end_y (T := T) hlt c2
        have hle2 := t_end_le (P := t_bl) (T := T) (N := N) (p := s + 1) (by omega)
        match d, h1 with
        | 0, h1 => omega
        | d + 1, h1 => exact w_blank hp kk d (s + 1) _ (by omega) (by rw [h2, h3]) (o.set _ _) (r.set _ _ (by decide)) (I_set_s _ _ _ _) (by rw [I_set (Or.inr (by decide))]; exact i7)
      · exact c_after (p := p) (by omega) (by rw [h2, t_end_x hlt c2]) o r i4 i7 (fun _ => c2) kk hp
/-- the next token -/
theorem N_next {f : q_H → Prop} {t : T_k} (r : Rx A rd txt la N T) (h : Ro A rd N T t) (kk : ∀ A', oq A A' rd → Rx A' rd txt la N T → Ro A' rd N T (tok T N t.2.2) → f A') : q_Wc G M_X9_nextToken [.ref rd] A (q_KV f) X := by
  obtain ⟨i3, i4, i5, i6, w, i7⟩ := h
  have hle := t_end_le (P := t_bl) (T := T) w.2.1
  refine f_X9_nextToken ⟨r.1, fun _ => ?_, fun c => absurd i7 c⟩
  exact w_blank w.2.1 kk (t_end t_bl T N t.2.2 - t.2.2) t.2.2 _ (by omega) rfl ((oq.r A rd).set _ _) (r.set _ _ (by decide)) (by rw [I_set_s]; exact i5) (by rw [I_set (Or.inr (by decide))]; exact i7)
end NT

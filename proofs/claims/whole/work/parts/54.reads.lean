/-! THE CLASS'S READER: numbers, words, names; what it does once it has failed -/
def Rf (A : q_H) (rd txt la c : Nat) : Prop := q_sh A rd = (10, 0) ∧ q_R A rd 0 = some txt ∧ q_R A rd 2 = some la ∧ q_I A rd 7 = nI c ∧ 0 < c ∧ c < 10000 ∧ rd ≠ txt
theorem b8_eq {n c : Nat} (hn : n < 256) (hc : c < 128) : b8 n = nI c ↔ n = c := by
  unfold b8
  by_cases h : n < 128
  · rw [if_pos h]; exact nI_eq (by omega) (by omega)
  · rw [if_neg h]
    refine ⟨fun e => ?_, fun e => by omega⟩
    have : nI n - nI 256 + nI 256 = nI c + nI 256 := by rw [e]
    rw [Int32.sub_add_cancel, nI_add] at this
    have := (nI_eq (by omega) (by omega)).mp this
    omega
theorem map_nI (w : List Nat) (j : Nat) : (w.map nI).getD j 0 = nI (w.getD j 0) := by
  rw [List.getD_eq_getElem?_getD, List.getD_eq_getElem?_getD, List.getElem?_map]
  cases w[j]? <;> rfl
def t_all (T : Nat → Nat) (s : Nat) : Nat → Bool
  | 0 => true
  | n + 1 => t_all T s n && t_le (T (s + n))
theorem all_iff (T : Nat → Nat) (s : Nat) : ∀ n, t_all T s n = true ↔ ∀ j, j < n → t_le (T (s + j)) = true
  | 0 => ⟨fun _ j hj => absurd hj (Nat.not_lt_zero _), fun _ => rfl⟩
  | n + 1 => by
    have e : t_all T s (n + 1) = (t_all T s n && t_le (T (s + n))) := rfl
    rw [e, Bool.and_eq_true, all_iff T s n]
    refine ⟨fun h j hj => ?_, fun h => ⟨fun j hj => h j (by omega), h n (by omega)⟩⟩
    by_cases c : j = n
    · rw [c]; exact h.2
    · exact h.1 j (by omega)
def t_nm (T : Nat → Nat) (s e : Nat) : Int32 := if s < e ∧ e - s ≤ 6 ∧ t_all T s (e - s) = true then nI (t_code T s (e - s)) else -1
def nm_ok (c : Nat) : Prop := ∃ T s n, 0 < n ∧ n ≤ 6 ∧ t_all T s n = true ∧ c = t_code T s n
theorem nm_bd {c : Nat} (h : nm_ok c) : 0 < c ∧ c < 1073741824 := by
  obtain ⟨T, s, n, h0, h6, ha, e⟩ := h
  have hl := (all_iff T s n).mp ha
  have := code_bd T s n fun j hj => of_decide_eq_true (hl j hj)
  have h2 : 32 ^ n ≤ 32 ^ 6 := Nat.pow_le_pow_right (by decide) h6
  have h3 := this.2 h0
  have h4 := this.1
  have e6 : 32 ^ 6 = 1073741824 := by decide
  omega
section RDS
variable {G : q_G} {X : String → q_H → Prop} {A A0 : q_H} {rd txt la N : Nat} {T : Nat → Nat} {t : T_k}
theorem F_next {f : q_H → Prop} {c : Nat} (h : Rf A rd txt la c) (k : f A) : q_Wc G M_X9_nextToken [.ref rd] A (q_KV f) X :=
  f_X9_nextToken ⟨h.1, fun e => absurd ((nI_eq (by have := h.2.2.2.2.2.1; omega) (by decide)).mp (h.2.2.2.1.symm.trans e)) (by have := h.2.2.2.2.1; omega), fun _ => k⟩
theorem F_fail {f : q_H → Prop} {c : Nat} {x : Int32} (h : Rf A rd txt la c) (k : f A) : q_Wc G M_X9_fail [.ref rd, .int x] A (q_KV f) X :=
  f_X9_fail ⟨h.1, fun e => absurd ((nI_eq (by have := h.2.2.2.2.2.1; omega) (by decide)).mp (h.2.2.2.1.symm.trans e)) (by have := h.2.2.2.2.1; omega), fun _ => k⟩
theorem F_num {f : Int32 → q_H → Prop} {c : Nat} {x y : Int32} (h : Rf A rd txt la c) (k : ∀ v, f v A) : q_Wc G M_X9_readNumber [.ref rd, .int x, .int y] A (q_KI f) X :=
  f_X9_readNumber ⟨h.1, fun _ => ⟨fun _ => F_fail h (k _), fun _ => ⟨fun _ => F_next h (k _), fun _ => F_fail h (k _)⟩⟩, fun _ => F_fail h (k _)⟩
theorem F_semi {f : q_H → Prop} {c : Nat} (h : Rf A rd txt la c) (k : f A) : q_Wc G M_X9_readSemicolon [.ref rd] A (q_KV f) X :=
  f_X9_readSemicolon ⟨h.1, fun _ => F_next h k, fun _ => F_fail h k⟩
theorem N_fail {f : q_H → Prop} {kd : Nat} (r : Rx A rd txt la N T) (h : Ro A rd N T t) (h1 : 0 < kd) (h2 : kd < 8) (kk : ∀ A', oq A A' rd → Rf A' rd txt la (8 * t.2.1 + kd) → f A') : q_Wc G M_X9_fail [.ref rd, .int (nI kd)] A (q_KV f) X := by
  obtain ⟨i3, i4, i5, i6, w, i7⟩ := h
  have hN := r.2.2.2.2.2.1
  have w1 := w.1
  have w2 := w.2.1
  refine f_X9_fail ⟨r.1, fun _ => ?_, fun c => absurd i7 c⟩
  rw [i4, pk_mul, nI_add]
  exact kk _ ((oq.r A rd).set _ _) ⟨r.1, r.2.1, r.2.2.2.1, I_set_s _ _ _ _, by omega, by omega, r.2.2.2.2.2.2.2⟩
theorem N_num {f : Int32 → q_H → Prop} {lo hi : Nat} (r : Rx A rd txt la N T) (h : Ro A rd N T t) (hlo : lo < 100000) (hhi : hi < 100000)
    (k0 : ∀ v t', p_num T N lo hi t = .ok (v, t') → ∀ A', oq A A' rd → Rx A' rd txt la N T → Ro A' rd N T t' → f (nI v) A') (k1 : ∀ c, p_num T N lo hi t = .error c → ∀ A', oq A A' rd → Rf A' rd txt la c → f (nI lo) A') : q_Wc G M_X9_readNumber [.ref rd, .int (nI lo), .int (nI hi)] A (q_KI f) X := by
  obtain ⟨i3, i4, i5, i6, w, i7⟩ := id h
  have w5 := w.2.2.1
  have hv : t.1 = 2 → t_val T t.2.1 (t.2.2 - t.2.1) < 10000 := fun e => by
    obtain ⟨a, b⟩ := w.2.2.2.1 e
    have h1 := val_lt T t.2.1 (t.2.2 - t.2.1) fun j hj => (of_decide_eq_true (b (t.2.1 + j) (by omega) (by omega))).2
    have h2 : 10 ^ (t.2.2 - t.2.1) ≤ 10 ^ 4 := Nat.pow_le_pow_right (by decide) a
    omega
  refine f_X9_readNumber ⟨r.1, ?_⟩
  rw [i3]
  refine ⟨fun c => ?_, fun c => ?_⟩
  · have c2 : t.1 = 2 := (nI_eq (by omega) (by decide)).mp c
    have v := hv c2
    rw [i6 c2]
    have er : t_val T t.2.1 (t.2.2 - t.2.1) < lo ∨ hi < t_val T t.2.1 (t.2.2 - t.2.1) → p_num T N lo hi t = .error (8 * t.2.1 + 2) := fun q => by
      unfold p_num
      rw [if_neg (fun e => e c2), if_pos q]
    refine ⟨fun c3 => N_fail r h (by decide) (by decide) (k1 _ (er (Or.inl ((nI_ltI (by omega) (by omega)).mp c3)))), fun c3 => ⟨fun c4 => N_next r h (k0 _ _ ?_), fun c4 => N_fail r h (by decide) (by decide) (k1 _ (er (Or.inr (Nat.lt_of_not_le fun q => c4 (nI_le q (by omega))))))⟩⟩
    have h1 : ¬ t_val T t.2.1 (t.2.2 - t.2.1) < lo := fun q => c3 (nI_lt q (by omega))
    have h2 : t_val T t.2.1 (t.2.2 - t.2.1) ≤ hi := (nI_leI (by omega) (by omega)).mp c4
    unfold p_num
    rw [if_neg (fun e => e c2), if_neg (by omega)]
  · have c2 : t.1 ≠ 2 := fun e => c (by rw [e])
    exact N_fail r h (by decide) (by decide) (k1 _ (by unfold p_num; rw [if_pos c2]))
theorem N_semi {f : q_H → Prop} (r : Rx A rd txt la N T) (h : Ro A rd N T t) (k0 : ∀ t', p_end T N t = .ok t' → ∀ A', oq A A' rd → Rx A' rd txt la N T → Ro A' rd N T t' → f A') (k1 : ∀ c, p_end T N t = .error c → ∀ A', oq A A' rd → Rf A' rd txt la c → f A') : q_Wc G M_X9_readSemicolon [.ref rd] A (q_KV f) X := by
  have w5 := h.2.2.2.2.1.2.2.1
  refine f_X9_readSemicolon ⟨r.1, ?_⟩
  rw [h.1]
  refine ⟨fun c => ?_, fun c => ?_⟩
  · have c2 : t.1 = 3 := (nI_eq (by omega) (by decide)).mp c
    exact N_next r h (k0 _ (by unfold p_end; rw [if_pos c2]))
  · have c2 : ¬ t.1 = 3 := fun e => c (by rw [e])
    exact N_fail r h (by decide) (by decide) (k1 _ (by unfold p_end; rw [if_neg c2]))
theorem w_isWord {f : Bool → q_H → Prop} {t0 : Nat} {q0 : String × Nat × String × List Int32} {w : List Nat} (hq0 : q_txt[t0]? = some q0) (hw : q0.2.2.2 = w.map nI) (hb : ∀ j, j < w.length → w.getD j 0 < 128) (r : Rx A rd txt la N T) (h : Ro A rd N T t) (h1 : t.1 = 1) (h2 : t.2.2 - t.2.1 = w.length) (k : f (t_word T t w) A) :
    ∀ (d i : Nat), i + d = w.length → (∀ j, j < i → T (t.2.1 + j) = w.getD j 0) → q_Wp G M_X9_isWord (q_KB f) X 0 0 28 [some (.ref rd), some (.ref (q_aK G t0)), some (.int (nI i))] [] A
  | d, i, e, hi => by
    have hl := (q_txt_ok t0 q0 hq0).1
    rw [hw, List.length_map] at hl
    have hN := r.2.2.2.2.2.1
    have wl := h.2.2.2.2.1
    have w2 := wl.2.1
    have w1 := (wl.2.2.2.2 h1).1
    refine f_X9_isWord_28 hq0 (c_length hq0 ?_)
    rw [hw, List.length_map]
    refine ⟨fun c => ?_, fun c => ⟨r.1, _, r.2.1, 700, r.2.2.2.2.1, by decide, t.2.1 + i, by rw [h.2.1, nI_add], ?_, ?_⟩⟩
    · have hle := (nI_leI (by omega) (by omega)).mp c
      have : t_word T t w = true := decide_eq_true ⟨h1, h2, fun j hj => hi j (by omega)⟩
      rw [this] at k; exact k
    · have : i < w.length := Nat.lt_of_not_le fun q => c (nI_le q (by omega))
      omega
    · have hlt : i < w.length := Nat.lt_of_not_le fun q => c (nI_le q (by omega))
      have b := r.2.2.2.2.2.2.1 (t.2.1 + i) (by omega)
      refine c_charAt hq0 (by rw [hw, List.length_map]; exact hlt) ?_
      rw [hw, map_nI, b.2]
      have be := b8_eq b.1 (hb i hlt)
      refine ⟨fun c2 => ?_, fun c2 => ?_⟩
      · have e2 := be.mp c2
        rw [nI_add]
        match d, e with
        | 0, e => omega
        | d + 1, e =>
          refine w_isWord hq0 hw hb r h h1 h2 k d (i + 1) (by omega) fun j hj => ?_
          by_cases cj : j = i
          · rw [cj]; exact e2
          · exact hi j (by omega)
      · have : t_word T t w = false := decide_eq_false fun q => c2 (be.mpr (q.2.2 i hlt))
        rw [this] at k; exact k
theorem N_word {f : Bool → q_H → Prop} {t0 : Nat} {q0 : String × Nat × String × List Int32} {w : List Nat} (hq0 : q_txt[t0]? = some q0) (hw : q0.2.2.2 = w.map nI) (hb : ∀ j, j < w.length → w.getD j 0 < 128) (r : Rx A rd txt la N T) (h : Ro A rd N T t) (k : f (t_word T t w) A) : q_Wc G M_X9_isWord [.ref rd, .ref (q_aK G t0)] A (q_KB f) X := by
  have hl := (q_txt_ok t0 q0 hq0).1
  rw [hw, List.length_map] at hl
  have hN := r.2.2.2.2.2.1
  have wl := h.2.2.2.2.1
  have w5 := wl.2.2.1
  have w2 := wl.2.1
  refine f_X9_isWord hq0 ⟨r.1, ?_⟩
  rw [h.1]
  refine ⟨fun c => c_length hq0 ?_, fun c => ?_⟩
  · have c1 : t.1 = 1 := (nI_eq (by omega) (by decide)).mp c
    rw [h.2.2.1, h.2.1, pk_sub wl.1, hw, List.length_map]
    refine ⟨fun c2 => ?_, fun c2 => ?_⟩
    · have e2 := (nI_eq (by omega) (by omega)).mp c2
      exact w_isWord hq0 hw hb r h c1 e2 k w.length 0 (by omega) fun j hj => absurd hj (Nat.not_lt_zero _)
    · have : t_word T t w = false := decide_eq_false fun q => c2 (by rw [q.2.1])
      rw [this] at k; exact k
  · have : t_word T t w = false := decide_eq_false fun q => c (by rw [q.1])
    rw [this] at k; exact k
theorem hw0 : ∀ j, j < w_0.length → w_0.getD j 0 < 128 := by decide
theorem hw1 : ∀ j, j < w_1.length → w_1.getD j 0 < 128 := by decide
theorem hw2 : ∀ j, j < w_2.length → w_2.getD j 0 < 128 := by decide
theorem hw3 : ∀ j, j < w_3.length → w_3.getD j 0 < 128 := by decide
theorem hw4 : ∀ j, j < w_4.length → w_4.getD j 0 < 128 := by decide
theorem N_word0 {f : Bool → q_H → Prop} (r : Rx A rd txt la N T) (h : Ro A rd N T t) (k : f (t_word T t w_0) A) : q_Wc G M_X9_isWord [.ref rd, .ref (q_aK G 0)] A (q_KB f) X := N_word (q0 := q_txt.getD 0 default) rfl rfl hw0 r h k
theorem N_word1 {f : Bool → q_H → Prop} (r : Rx A rd txt la N T) (h : Ro A rd N T t) (k : f (t_word T t w_1) A) : q_Wc G M_X9_isWord [.ref rd, .ref (q_aK G 1)] A (q_KB f) X := N_word (q0 := q_txt.getD 1 default) rfl rfl hw1 r h k
theorem N_word2 {f : Bool → q_H → Prop} (r : Rx A rd txt la N T) (h : Ro A rd N T t) (k : f (t_word T t w_2) A) : q_Wc G M_X9_isWord [.ref rd, .ref (q_aK G 2)] A (q_KB f) X := N_word (q0 := q_txt.getD 2 default) rfl rfl hw2 r h k
theorem N_word3 {f : Bool → q_H → Prop} (r : Rx A rd txt la N T) (h : Ro A rd N T t) (k : f (t_word T t w_3) A) : q_Wc G M_X9_isWord [.ref rd, .ref (q_aK G 3)] A (q_KB f) X := N_word (q0 := q_txt.getD 3 default) rfl rfl hw3 r h k
theorem N_word4 {f : Bool → q_H → Prop} (r : Rx A rd txt la N T) (h : Ro A rd N T t) (k : f (t_word T t w_4) A) : q_Wc G M_X9_isWord [.ref rd, .ref (q_aK G 4)] A (q_KB f) X := N_word (q0 := q_txt.getD 4 default) rfl rfl hw4 r h k
theorem N_key {f : Bool → q_H → Prop} (r : Rx A rd txt la N T) (h : Ro A rd N T t) (k : f (t_key T t) A) : q_Wc G M_X9_isKeyword [.ref rd] A (q_KB f) X := by
  unfold t_key at k
  refine f_X9_isKeyword ⟨r.1, N_word0 r h ⟨fun c => ?_, fun c => ⟨r.1, N_word1 r h ⟨fun c1 => ?_, fun c1 => ⟨r.1, N_word2 r h ⟨fun c2 => ?_, fun c2 => ⟨r.1, N_word3 r h ⟨fun c3 => ?_, fun c3 => ⟨r.1, N_word4 r h ⟨fun c4 => ?_, fun c4 => ?_⟩⟩⟩⟩⟩⟩⟩⟩⟩⟩
  · simp only [c, Bool.true_or] at k; exact k
  · simp only [c, c1, Bool.true_or, Bool.or_true, Bool.false_or] at k; exact k
  · simp only [c, c1, c2, Bool.true_or, Bool.or_true, Bool.false_or] at k; exact k
  · simp only [c, c1, c2, c3, Bool.true_or, Bool.or_true, Bool.false_or] at k; exact k
  · simp only [c, c1, c2, c3, c4, Bool.true_or, Bool.or_true, Bool.false_or] at k; exact k
  · simp only [c, c1, c2, c3, c4, Bool.true_or, Bool.or_true, Bool.false_or] at k; exact k
theorem w_code {f : Int32 → q_H → Prop} {s e : Nat} (z : q_sh A txt = (51, 700)) (b : ∀ j, j < e → T j < 256 ∧ q_I A txt j = b8 (T j)) (he : e ≤ 700) (h1 : s < e) (h2 : e - s ≤ 6) (k : f (t_nm T s e) A) : ∀ (d n : Nat), s + n + d = e → t_all T s n = true → q_Wp G M_X9_nameCode (q_KI f) X 0 0 30 [some (.ref txt), none, some (.int (nI e)), some (.int (nI (t_code T s n))), some (.int (nI (s + n)))] [] A
  | d, n, h3, ha => by
    refine f_X9_nameCode_30 ⟨fun c => ?_, fun c => ⟨700, z, by decide, s + n, rfl, ?_, ?_⟩⟩
    · have hle := (nI_leI (by omega) (by omega)).mp c
      have en : n = e - s := by omega
      rw [en] at ha ⊢
      have : t_nm T s e = nI (t_code T s (e - s)) := if_pos ⟨h1, h2, ha⟩
      rw [this] at k; exact k
    · have : s + n < e := Nat.lt_of_not_le fun q => c (nI_le q (by omega))
      omega
    · have hlt : s + n < e := Nat.lt_of_not_le fun q => c (nI_le q (by omega))
      have bb := b (s + n) hlt
      rw [bb.2]
      refine c_isLetter bb.1 ⟨fun c2 => ⟨700, z, by decide, by omega, ?_⟩, fun c2 => ?_⟩
      · have l : 97 ≤ T (s + n) ∧ T (s + n) ≤ 122 := of_decide_eq_true c2
        rw [bb.2, b8_sm (by omega), pk_sub l.1, nI_add, pk_mul, nI_add, nI_add]
        have e1 : t_code T s n * 32 + (T (s + n) - 97 + 1) = t_code T s (n + 1) := by
          show _ = 32 * t_code T s n + (T (s + n) - 96)
          omega
        rw [e1]
        match d, h3 with
        | 0, h3 => omega
        | d + 1, h3 =>
          refine w_code z b he h1 h2 k d (n + 1) (by omega) ?_
          show (t_all T s n && t_le (T (s + n))) = true
          rw [ha, c2]; rfl
      · have : t_nm T s e = -1 := if_neg fun q => by
          have := (all_iff T s (e - s)).mp q.2.2 n (by omega)
          rw [c2] at this; cases this
        rw [this] at k; exact k
theorem N_code {f : Int32 → q_H → Prop} {s e : Nat} (z : q_sh A txt = (51, 700)) (b : ∀ j, j < e → T j < 256 ∧ q_I A txt j = b8 (T j)) (hs : s ≤ 700) (he : e ≤ 700) (k : f (t_nm T s e) A) : q_Wc G M_X9_nameCode [.ref txt, .int (nI s), .int (nI e)] A (q_KI f) X := by
  refine f_X9_nameCode ⟨fun c => absurd c (nI_pos (by omega)), fun _ => ⟨fun c => ?_, fun c => ⟨700, z, by decide, fun c2 => ?_, fun _ => ⟨fun c3 => ?_, fun c3 => ?_⟩⟩⟩⟩
  · have hle := (nI_leI (by omega) (by omega)).mp c
    have : t_nm T s e = -1 := if_neg (by omega)
    rw [this] at k; exact k
  · have := (nI_ltI (by omega) (by omega)).mp c2
    omega
  · have h1 : s < e := Nat.lt_of_not_le fun q => c (nI_le q (by omega))
    rw [pk_sub (by omega)] at c3
    have h2 := (nI_leI (by omega) (by decide)).mp c3
    exact w_code z b he h1 h2 k (e - s) 0 (by omega) rfl
  · have h1 : s < e := Nat.lt_of_not_le fun q => c (nI_le q (by omega))
    rw [pk_sub (by omega)] at c3
    have h2 : ¬ e - s ≤ 6 := fun q => c3 (nI_le q (by decide))
    have : t_nm T s e = -1 := if_neg (by omega)
    rw [this] at k; exact k
theorem new_iff (S : s_T) (c : Nat) : ∀ n, t_new S c n = true ↔ ∀ b, b < n → S 11 b 0 ≠ c
  | 0 => ⟨fun _ j hj => absurd hj (Nat.not_lt_zero _), fun _ => rfl⟩
  | n + 1 => by
    have e : t_new S c (n + 1) = (t_new S c n && decide (S 11 n 0 ≠ c)) := rfl
    rw [e, Bool.and_eq_true, new_iff S c n, decide_eq_true_eq]
    refine ⟨fun h j hj => ?_, fun h => ⟨fun j hj => h j (by omega), h n (by omega)⟩⟩
    by_cases cj : j = n
    · rw [cj]; exact h.2
    · exact h.1 j (by omega)
/-- a buyer's name -/
theorem N_name {f : Int32 → q_H → Prop} {l : l_T} {S : s_T} (p : Lp A A l S) (hn : ∀ b, b < S 8 2 0 → nm_ok (S 11 b 0)) (r : Rx A rd txt (l_a l) N T) (h : Ro A rd N T t)
    (k0 : ∀ v t', p_name T N S t = .ok (v, t') → nm_ok v → ∀ A', oq A A' rd → Rx A' rd txt (l_a l) N T → Ro A' rd N T t' → f (nI v) A') (k1 : ∀ c, p_name T N S t = .error c → ∀ v A', oq A A' rd → Rf A' rd txt (l_a l) c → f v A') : q_Wc G M_X9_readName [.ref rd] A (q_KI f) X := by
  have w5 := h.2.2.2.2.1.2.2.1
  have wl := h.2.2.2.2.1
  have hN := r.2.2.2.2.2.1
  have w2 := wl.2.1
  have w1 := wl.1
  refine f_X9_readName ⟨r.1, ?_⟩
  rw [h.1]
  refine ⟨fun c => N_key r h ⟨fun c2 => ⟨r.1, N_fail r h (by decide) (by decide) fun A' o rf => k1 _ ?_ _ A' o rf⟩, fun c2 => ⟨r.1, _, r.2.1, ?_⟩⟩, fun c => N_fail r h (by decide) (by decide) fun A' o rf => k1 _ ?_ _ A' o rf⟩
  · unfold p_name
    rw [if_neg (fun q => by rw [c2] at q; exact absurd q.2.1 (by decide))]
  · have c1 : t.1 = 1 := (nI_eq (by omega) (by decide)).mp c
    obtain ⟨hlt, hall⟩ := wl.2.2.2.2 c1
    have ha : t_all T t.2.1 (t.2.2 - t.2.1) = true := (all_iff _ _ _).mpr fun j hj => hall _ (by omega) (by omega)
    rw [h.2.1, h.2.2.1]
    refine N_code (T := T) r.2.2.2.2.1 (fun j hj => r.2.2.2.2.2.2.1 j (by omega)) (by omega) (by omega) ?_
    by_cases c6 : t.2.2 - t.2.1 ≤ 6
    · have en : t_nm T t.2.1 t.2.2 = nI (t_code T t.2.1 (t.2.2 - t.2.1)) := if_pos ⟨hlt, c6, ha⟩
      have hok : nm_ok (t_code T t.2.1 (t.2.2 - t.2.1)) := ⟨T, t.2.1, t.2.2 - t.2.1, by omega, c6, ha, rfl⟩
      have hb := nm_bd hok
      rw [en]
      have enm : p_name T N S t = if t_new S (t_code T t.2.1 (t.2.2 - t.2.1)) (S 8 2 0) = true then .ok (t_code T t.2.1 (t.2.2 - t.2.1), tok T N t.2.2) else .error (8 * t.2.1 + 3) := by
        unfold p_name
        rw [if_pos ⟨c1, c2, c6⟩]
      refine ⟨fun c3 => absurd (show (nI (t_code T t.2.1 (t.2.2 - t.2.1))) < 0 by rw [c3]; decide) (nI_pos (by omega)), fun _ => ⟨r.1, _, r.2.2.2.1, p.line, L_buyerNamed p (fun b hb1 e1 e2 => ⟨fun c4 => absurd (show nI b < 0 by rw [c4]; decide) (nI_pos (by have := p.b; unfold Lb at this; omega)), fun _ => ⟨r.1, N_fail r h (by decide) (by decide) fun A' o rf => k1 _ ?_ _ A' o rf⟩⟩) (fun hne => ⟨fun _ => ⟨r.1, N_next r h (k0 _ _ ?_ hok)⟩, fun c4 => absurd rfl c4⟩)⟩⟩
      · rw [enm, if_neg]
        intro q
        exact (new_iff _ _ _).mp q b hb1 ((nI_eq (by have := nm_bd (hn b hb1); omega) (by omega)).mp e1)
      · rw [enm, if_pos]
        exact (new_iff _ _ _).mpr fun b hb1 e => hne b hb1 (by rw [e])
    · have en : t_nm T t.2.1 t.2.2 = -1 := if_neg (by omega)
      rw [en]
      refine ⟨fun _ => ⟨r.1, N_fail r h (by decide) (by decide) fun A' o rf => k1 _ ?_ _ A' o rf⟩, fun c3 => absurd rfl c3⟩
      unfold p_name
      rw [if_neg (by omega)]
  · have c1 : t.1 ≠ 1 := fun e => c (by rw [e])
    unfold p_name
    rw [if_neg (fun q => c1 q.1)]
end RDS

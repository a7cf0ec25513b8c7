/-! THE REFERENCE'S READER: words, names, numbers; errors -/
/-- what a reading changes -/
def df (A A' : q_H) (mo : Nat) : Prop := q_sz A' = q_sz A ∧ q_sh A' = q_sh A ∧ q_R A' = q_R A ∧ q_D A' = q_D A ∧ (∀ x k, ¬ (x = mo + 3 ∨ x = mo + 7 ∨ x = mo + 11 ∨ (x = mo ∧ 14 ≤ k ∧ k ≤ 19)) → q_I A' x k = q_I A x k) ∧ ∀ x, x ≠ mo + 5 → q_L A' x = q_L A x
theorem df.r (A : q_H) (mo : Nat) : df A A mo := ⟨rfl, rfl, rfl, rfl, fun _ _ _ => rfl, fun _ _ => rfl⟩
theorem df.t {A B C : q_H} {mo : Nat} (h : df A B mo) (k : df B C mo) : df A C mo := ⟨k.1.trans h.1, k.2.1.trans h.2.1, k.2.2.1.trans h.2.2.1, k.2.2.2.1.trans h.2.2.2.1, fun x j q => (k.2.2.2.2.1 x j q).trans (h.2.2.2.2.1 x j q), fun x q => (k.2.2.2.2.2 x q).trans (h.2.2.2.2.2 x q)⟩
theorem df.set {A B : q_H} {mo x k : Nat} {v : Int32} (h : df A B mo) (hx : x = mo + 3 ∨ x = mo + 7 ∨ x = mo + 11 ∨ (x = mo ∧ 14 ≤ k ∧ k ≤ 19)) : df A (q_setI B x k v) mo := ⟨h.1, h.2.1, h.2.2.1, h.2.2.2.1, fun y j q => by
  rw [I_set (by
    by_cases c : y = x
    · subst c
      exact Or.inr fun e => q (by rw [e]; exact hx)
    · exact Or.inl c)]
  exact h.2.2.2.2.1 y j q, h.2.2.2.2.2⟩
theorem df.setL {A B : q_H} {mo k : Nat} {v : Int64} (h : df A B mo) : df A (q_setL B (mo + 5) k v) mo := ⟨h.1, h.2.1, h.2.2.1, h.2.2.2.1, h.2.2.2.2.1, fun y q => by
  rw [← h.2.2.2.2.2 y q]
  show q_u2 (q_L B) (mo + 5) k v y = q_L B y
  funext j
  exact q_u2_a _ _ _ _ q j⟩
theorem qo.df {A A' : q_H} {mo : Nat} (h : qo A A' mo) : df A A' mo := ⟨h.1, h.2.1, h.2.2.1, h.2.2.2.2.1, fun x k q => h.2.2.2.2.2 x k (by omega), fun x _ => by rw [h.2.2.2.1]⟩
theorem df.ms {A A' : q_H} {mo : Nat} (h : df A A' mo) (m : MS A mo) : MS A' mo := m.to h.2.1 h.2.2.1
theorem df.row {A A' : q_H} {mo x : Nat} (h : df A A' mo) (hx : x ≠ mo ∧ x ≠ mo + 3 ∧ x ≠ mo + 7 ∧ x ≠ mo + 11) : q_I A' x = q_I A x := by funext k; exact h.2.2.2.2.1 x k (by omega)
theorem df.sm {A A' : q_H} {mo x : Nat} (h : df A A' mo) (hx : x < mo ∨ mo + 13 ≤ x) : q_same A A' x := ⟨by rw [h.2.1], h.row (by omega), by rw [h.2.2.1], h.2.2.2.2.2 x (by omega), by rw [h.2.2.2.1]⟩
theorem Mb.df {A A' : q_H} {mo N : Nat} {T : Nat → Nat} (h : Mb A mo N T) (o : df A A' mo) : Mb A' mo N T := ⟨o.ms h.1, by rw [o.2.2.2.2.1 _ _ (by omega)]; exact h.2.1, h.2.2.1, fun j hj => by rw [o.row (by omega)]; exact h.2.2.2 j hj⟩
theorem row_set {A : q_H} {a k b : Nat} {v : Int32} (h : b ≠ a) : q_I (q_setI A a k v) b = q_I A b := by funext j; exact I_set (Or.inl h)
theorem rowL_set {A : q_H} {a k b : Nat} {v : Int64} (h : b ≠ a) : q_L (q_setL A a k v) b = q_L A b := by funext j; exact q_u2_a _ _ _ _ h j
theorem L_set (A : q_H) (a k : Nat) (v : Int64) (x : Nat) : q_L (q_setL A a k v) a x = if x = k then v else q_L A a x := q_u2_i _ _ _ _ _
/-- an error has been told -/
def er (A : q_H) (mo c : Nat) : Prop := nI 8 * q_I A mo 19 + q_I A mo 18 = nI c ∧ 0 < c ∧ c < 10000
theorem hw23 : ∀ j, j < w_0.length → w_0.getD j 0 < 128 := by decide
section RE
variable {G : q_G} {X : String → q_H → Prop} {A A0 : q_H} {mo N : Nat} {T : Nat → Nat} {t : T_k}
theorem v_isWord {f : Bool → q_H → Prop} {t0 : Nat} {q0 : String × Nat × String × List Int32} {w : List Nat} (hq0 : q_txt[t0]? = some q0) (hw : q0.2.2.2 = w.map nI) (hb : ∀ j, j < w.length → w.getD j 0 < 128) (b : Mb A mo N T) (h : Mk A mo N T t) (h1 : t.1 = 1) (h2 : t.2.2 - t.2.1 = w.length) (k : f (t_word T t w) A) :
    ∀ (d i : Nat), i + d = w.length → (∀ j, j < i → T (t.2.1 + j) = w.getD j 0) → q_Wp G M_X11_isWord (q_KB f) X 0 0 28 [some (.ref mo), some (.ref (q_aK G t0)), some (.int (nI i))] [] A
  | d, i, e, hi => by
    have hl := (q_txt_ok t0 q0 hq0).1
    rw [hw, List.length_map] at hl
    have hN := b.2.2.1
    have wl := h.2.2.2.2
    have w2 := wl.2.1
    have w1 := (wl.2.2.2.2 h1).1
    refine f_X11_isWord_28 hq0 (c_length hq0 ?_)
    rw [hw, List.length_map]
    refine ⟨fun c => ?_, fun c => ⟨b.1.z, _, b.1.r11, 700, b.1.z10, by decide, t.2.1 + i, by rw [h.2.1, nI_add], ?_, ?_⟩⟩
    · have hle := (nI_leI (by omega) (by omega)).mp c
      have : t_word T t w = true := decide_eq_true ⟨h1, h2, fun j hj => hi j (by omega)⟩
      rw [this] at k; exact k
    · have : i < w.length := Nat.lt_of_not_le fun q => c (nI_le q (by omega))
      omega
    · have hlt : i < w.length := Nat.lt_of_not_le fun q => c (nI_le q (by omega))
      have bb := b.2.2.2 (t.2.1 + i) (by omega)
      have hbi := hb i hlt
      refine c_charAt hq0 (by rw [hw, List.length_map]; exact hlt) ?_
      rw [hw, map_nI, bb.2]
      refine ⟨fun c2 => ?_, fun c2 => ?_⟩
      · have e2 := (nI_eq (by omega) (by omega)).mp c2
        rw [nI_add]
        match d, e with
        | 0, e => omega
        | d + 1, e =>
          refine v_isWord hq0 hw hb b h h1 h2 k d (i + 1) (by omega) fun j hj => ?_
          by_cases cj : j = i
          · rw [cj]; exact e2
          · exact hi j (by omega)
      · have : t_word T t w = false := decide_eq_false fun q => c2 (by rw [q.2.2 i hlt])
        rw [this] at k; exact k
theorem M_word {f : Bool → q_H → Prop} {t0 : Nat} {q0 : String × Nat × String × List Int32} {w : List Nat} (hq0 : q_txt[t0]? = some q0) (hw : q0.2.2.2 = w.map nI) (hb : ∀ j, j < w.length → w.getD j 0 < 128) (b : Mb A mo N T) (h : Mk A mo N T t) (k : f (t_word T t w) A) : q_Wc G M_X11_isWord [.ref mo, .ref (q_aK G t0)] A (q_KB f) X := by
  have hl := (q_txt_ok t0 q0 hq0).1
  rw [hw, List.length_map] at hl
  have hN := b.2.2.1
  have wl := h.2.2.2.2
  have w5 := wl.2.2.1
  have w2 := wl.2.1
  refine f_X11_isWord hq0 ⟨b.1.z, ?_⟩
  rw [h.1]
  refine ⟨fun c => c_length hq0 ?_, fun c => ?_⟩
  · have c1 : t.1 = 1 := (sg_eq w5 1 (by decide)).mp c
    rw [h.2.2.1, h.2.1, pk_sub wl.1, hw, List.length_map]
    refine ⟨fun c2 => ?_, fun c2 => ?_⟩
    · have e2 := (nI_eq (by omega) (by omega)).mp c2
      exact v_isWord hq0 hw hb b h c1 e2 k w.length 0 (by omega) fun j hj => absurd hj (Nat.not_lt_zero _)
    · have : t_word T t w = false := decide_eq_false fun q => c2 (by rw [q.2.1])
      rw [this] at k; exact k
  · have : t_word T t w = false := decide_eq_false fun q => c (by rw [q.1]; rfl)
    rw [this] at k; exact k
theorem M_word0 {f : Bool → q_H → Prop} (b : Mb A mo N T) (h : Mk A mo N T t) (k : f (t_word T t w_0) A) : q_Wc G M_X11_isWord [.ref mo, .ref (q_aK G 23)] A (q_KB f) X := M_word (q0 := q_txt.getD 23 default) rfl rfl hw0 b h k
theorem M_word1 {f : Bool → q_H → Prop} (b : Mb A mo N T) (h : Mk A mo N T t) (k : f (t_word T t w_1) A) : q_Wc G M_X11_isWord [.ref mo, .ref (q_aK G 24)] A (q_KB f) X := M_word (q0 := q_txt.getD 24 default) rfl rfl hw1 b h k
theorem M_word2 {f : Bool → q_H → Prop} (b : Mb A mo N T) (h : Mk A mo N T t) (k : f (t_word T t w_2) A) : q_Wc G M_X11_isWord [.ref mo, .ref (q_aK G 25)] A (q_KB f) X := M_word (q0 := q_txt.getD 25 default) rfl rfl hw2 b h k
theorem M_word3 {f : Bool → q_H → Prop} (b : Mb A mo N T) (h : Mk A mo N T t) (k : f (t_word T t w_3) A) : q_Wc G M_X11_isWord [.ref mo, .ref (q_aK G 26)] A (q_KB f) X := M_word (q0 := q_txt.getD 26 default) rfl rfl hw3 b h k
theorem M_word4 {f : Bool → q_H → Prop} (b : Mb A mo N T) (h : Mk A mo N T t) (k : f (t_word T t w_4) A) : q_Wc G M_X11_isWord [.ref mo, .ref (q_aK G 27)] A (q_KB f) X := M_word (q0 := q_txt.getD 27 default) rfl rfl hw4 b h k
theorem key_6 (h : t.2.2 - t.2.1 ≤ 6) : t_key T t = (t_word T t w_2 || t_word T t w_3 || t_word T t w_4) := by
  have h0 : t_word T t w_0 = false := decide_eq_false fun q => by
    have := q.2.1
    have e : w_0.length = 9 := rfl
    omega
  have h1 : t_word T t w_1 = false := decide_eq_false fun q => by
    have := q.2.1
    have e : w_1.length = 7 := rfl
    omega
  unfold t_key
  rw [h0, h1]; rfl
theorem M_isName {f : Bool → q_H → Prop} (b : Mb A mo N T) (h : Mk A mo N T t) (k : f (decide (t.1 = 1 ∧ t_key T t = false ∧ t.2.2 - t.2.1 ≤ 6)) A) : q_Wc G M_X11_isName [.ref mo] A (q_KB f) X := by
  have hN := b.2.2.1
  have wl := h.2.2.2.2
  have w5 := wl.2.2.1
  have w2 := wl.2.1
  refine f_X11_isName ⟨b.1.z, ?_⟩
  rw [h.1, h.2.2.1, h.2.1, pk_sub wl.1]
  refine ⟨fun c => ⟨fun c6 => ?_, fun c6 => ?_⟩, fun c => ?_⟩
  · have e6 := (nI_ltI (by omega) (by omega)).mp c6
    rw [decide_eq_false (fun q => by omega)] at k; exact k
  · have c1 : t.1 = 1 := (sg_eq w5 1 (by decide)).mp c
    have e6 : t.2.2 - t.2.1 ≤ 6 := Nat.le_of_not_lt fun q => c6 (nI_lt q (by omega))
    have ek := key_6 (T := T) e6
    refine M_word2 b h ⟨fun c2 => ?_, fun c2 => ⟨b.1.z, M_word3 b h ⟨fun c3 => ?_, fun c3 => ⟨b.1.z, M_word4 b h ⟨fun c4 => ?_, fun c4 => ?_⟩⟩⟩⟩⟩
    · rw [decide_eq_false (fun q => by rw [ek, c2] at q; exact absurd q.2.1 (by simp))] at k; exact k
    · rw [decide_eq_false (fun q => by rw [ek, c3] at q; exact absurd q.2.1 (by simp))] at k; exact k
    · rw [decide_eq_false (fun q => by rw [ek, c4] at q; exact absurd q.2.1 (by simp))] at k; exact k
    · rw [decide_eq_true ⟨c1, by rw [ek, c2, c3, c4]; rfl, e6⟩] at k; exact k
  · rw [decide_eq_false (fun q => c (by rw [q.1]; rfl))] at k; exact k
theorem M_bad {f : Bool → q_H → Prop} {kd : Nat} (b : Mb A mo N T) (h : Mk A mo N T t) (h1 : 0 < kd) (h2 : kd < 8) (k : ∀ A', qo A A' mo → er A' mo (8 * t.2.1 + kd) → f false A') : q_Wc G M_X11_bad [.ref mo, .int (nI kd)] A (q_KB f) X := by
  have w := h.2.2.2.2
  have hN := b.2.2.1
  have w1 := w.1
  have w2 := w.2.1
  refine f_X11_bad ⟨b.1.z, k _ (((qo.r A mo).set (by decide) (by decide)).set (by decide) (by decide)) ⟨?_, by omega, by omega⟩⟩
  rw [I_set_s, I_set (Or.inr (by decide)), I_set (Or.inr (by decide)), I_set_s, h.2.1, pk_mul, nI_add]
theorem Mb.set {a j : Nat} {v : Int32} (b : Mb A mo N T) (ha : a = mo + 3 ∨ a = mo + 7 ∨ a = mo + 11) : Mb (q_setI A a j v) mo N T := b.df ((df.r A mo).set (by omega))
theorem M_reads {f : Bool → q_H → Prop} {a z j lo hi : Nat} (b : Mb A mo N T) (h : Mk A mo N T t) (hz : q_sh A a = (50, z)) (z31 : z < 2147483648) (hj : j < z) (ha : a = mo + 3 ∨ a = mo + 7 ∨ a = mo + 11) (hlo : lo < 100000) (hhi : hi < 100000)
    (k0 : ∀ v t', p_num T N lo hi t = .ok (v, t') → ∀ A', qo (q_setI A a j (nI v)) A' mo → Mb A' mo N T → Mk A' mo N T t' → f true A') (k1 : ∀ c, p_num T N lo hi t = .error c → ∀ A', qo A A' mo → er A' mo c → f false A') : q_Wc G M_X11_reads [.ref mo, .ref a, .int (nI j), .int (nI lo), .int (nI hi)] A (q_KB f) X := by
  have w := h.2.2.2.2
  have w5 := w.2.2.1
  refine f_X11_reads ⟨b.1.z, ?_⟩
  rw [h.1]
  refine ⟨fun c => ?_, fun c => M_bad b h (by decide) (by decide) (k1 _ ?_)⟩
  · have c2 : t.1 = 2 := (sg_eq w5 2 (by decide)).mp c
    have e17 := h.2.2.2.1 c2
    obtain ⟨wa, wb⟩ := w.2.2.2.1 c2
    have hv : t_val T t.2.1 (t.2.2 - t.2.1) < 10000 := by
      have h1 := val_lt T t.2.1 (t.2.2 - t.2.1) fun j hj => (of_decide_eq_true (wb (t.2.1 + j) (by omega) (by omega))).2
      have h2 : 10 ^ (t.2.2 - t.2.1) ≤ 10 ^ 4 := Nat.pow_le_pow_right (by decide) wa
      omega
    obtain ⟨V, eV⟩ : ∃ V, V = t_val T t.2.1 (t.2.2 - t.2.1) := ⟨_, rfl⟩
    have ep : p_num T N lo hi t = if V < lo ∨ hi < V then .error (8 * t.2.1 + 2) else .ok (V, tok T N t.2.2) := by
      unfold p_num
      rw [if_neg (fun e => e c2), ← eV]
    rw [← eV] at e17 hv
    rw [e17]
    refine M_isInG lo (hi + 1) (by omega) (by rw [Int32.toInt_toInt64, nI_toInt (by omega)]) (by rw [Int32.toInt_toInt64, nI_toInt (by omega)]; omega) (fun v hl hvv e => ⟨fun _ => ⟨b.1.z, z, hz, z31, j, rfl, hj, ?_⟩, fun e => (by cases e)⟩) (fun hn => ⟨fun e => (by cases e), fun _ => ⟨b.1.z, M_bad b h (by decide) (by decide) (k1 _ ?_)⟩⟩)
    · have ev := (nI_eq (by omega) (by omega)).mp e
      rw [e17]
      refine M_go (b.set ha) w.2.1 (by rw [I_set (Or.inl (by omega))]; exact h.2.2.1) (k0 V _ ?_)
      rw [ep, if_neg (by omega)]
    · rw [ep, if_pos]
      by_cases c1 : V < lo
      · exact Or.inl c1
      · exact Or.inr (Nat.lt_of_not_le fun c3 => hn V (by omega) (by omega) rfl)
  · have c2 : t.1 ≠ 2 := fun e => c (by rw [e]; rfl)
    unfold p_num
    rw [if_pos c2]
theorem M_ends {f : Bool → q_H → Prop} (b : Mb A mo N T) (h : Mk A mo N T t) (k0 : ∀ t', p_end T N t = .ok t' → ∀ A', qo A A' mo → Mb A' mo N T → Mk A' mo N T t' → f true A') (k1 : ∀ c, p_end T N t = .error c → ∀ A', qo A A' mo → er A' mo c → f false A') : q_Wc G M_X11_ends [.ref mo] A (q_KB f) X := by
  have w := h.2.2.2.2
  have w5 := w.2.2.1
  refine f_X11_ends ⟨b.1.z, ?_⟩
  rw [h.1]
  refine ⟨fun c => M_go b w.2.1 h.2.2.1 (k0 _ ?_), fun c => M_bad b h (by decide) (by decide) (k1 _ ?_)⟩
  · have c2 : t.1 = 3 := (sg_eq w5 3 (by decide)).mp c
    unfold p_end
    rw [if_pos c2]
  · have c2 : ¬ t.1 = 3 := fun e => c (by rw [e]; rfl)
    unfold p_end
    rw [if_neg c2]
end RE
/-! names as letters -/
def t_let (T : Nat → Nat) (s : Nat) : Nat → Nat
  | 0 => 0
  | n + 1 => 27 * t_let T s n + (T (s + n) - 96)
theorem let_bd (T : Nat → Nat) (s : Nat) : ∀ n, t_all T s n = true → t_let T s n < 27 ^ n
  | 0, _ => by show (0 : Nat) < 1; omega
  | n + 1, h => by
    have e : t_all T s (n + 1) = (t_all T s n && t_le (T (s + n))) := rfl
    rw [e, Bool.and_eq_true] at h
    have ih := let_bd T s n h.1
    have h2 : 97 ≤ T (s + n) ∧ T (s + n) ≤ 122 := of_decide_eq_true h.2
    have el : t_let T s (n + 1) = 27 * t_let T s n + (T (s + n) - 96) := rfl
    rw [el, Nat.pow_succ]
    omega
theorem let_iff {T T' : Nat → Nat} {s s' : Nat} : ∀ n n', t_all T s n = true → t_all T' s' n' = true → (t_let T s n = t_let T' s' n' ↔ t_code T s n = t_code T' s' n')
  | 0, 0, _, _ => ⟨fun _ => rfl, fun _ => rfl⟩
  | 0, n' + 1, _, h' => by
    have e : t_all T' s' (n' + 1) = (t_all T' s' n' && t_le (T' (s' + n'))) := rfl
    rw [e, Bool.and_eq_true] at h'
    have h2 : 97 ≤ T' (s' + n') ∧ T' (s' + n') ≤ 122 := of_decide_eq_true h'.2
    have e1 : t_let T' s' (n' + 1) = 27 * t_let T' s' n' + (T' (s' + n') - 96) := rfl
    have e2 : t_code T' s' (n' + 1) = 32 * t_code T' s' n' + (T' (s' + n') - 96) := rfl
    have e3 : t_let T s 0 = 0 := rfl
    have e4 : t_code T s 0 = 0 := rfl
    omega
  | n + 1, 0, h, _ => by
    have e : t_all T s (n + 1) = (t_all T s n && t_le (T (s + n))) := rfl
    rw [e, Bool.and_eq_true] at h
    have h2 : 97 ≤ T (s + n) ∧ T (s + n) ≤ 122 := of_decide_eq_true h.2
    have e1 : t_let T s (n + 1) = 27 * t_let T s n + (T (s + n) - 96) := rfl
    have e2 : t_code T s (n + 1) = 32 * t_code T s n + (T (s + n) - 96) := rfl
    have e3 : t_let T' s' 0 = 0 := rfl
    have e4 : t_code T' s' 0 = 0 := rfl
    omega
  | n + 1, n' + 1, h, h' => by
    have e : t_all T s (n + 1) = (t_all T s n && t_le (T (s + n))) := rfl
    rw [e, Bool.and_eq_true] at h
    have e' : t_all T' s' (n' + 1) = (t_all T' s' n' && t_le (T' (s' + n'))) := rfl
    rw [e', Bool.and_eq_true] at h'
    have h2 : 97 ≤ T (s + n) ∧ T (s + n) ≤ 122 := of_decide_eq_true h.2
    have h2' : 97 ≤ T' (s' + n') ∧ T' (s' + n') ≤ 122 := of_decide_eq_true h'.2
    have ih := let_iff n n' h.1 h'.1
    have e1 : t_let T s (n + 1) = 27 * t_let T s n + (T (s + n) - 96) := rfl
    have e2 : t_code T s (n + 1) = 32 * t_code T s n + (T (s + n) - 96) := rfl
    have e3 : t_let T' s' (n' + 1) = 27 * t_let T' s' n' + (T' (s' + n') - 96) := rfl
    have e4 : t_code T' s' (n' + 1) = 32 * t_code T' s' n' + (T' (s' + n') - 96) := rfl
    rw [e1, e2, e3, e4]
    constructor
    · intro q
      have a : t_let T s n = t_let T' s' n' := by omega
      have b := ih.mp a
      omega
    · intro q
      have a : t_code T s n = t_code T' s' n' := by omega
      have b := ih.mpr a
      omega
/-- the name c as letters -/
def nm7 (c : Nat) (v : Int64) : Prop := ∃ T s n, 0 < n ∧ n ≤ 6 ∧ t_all T s n = true ∧ c = t_code T s n ∧ v = lN (t_let T s n)
theorem nm7.ok {c : Nat} {v : Int64} (h : nm7 c v) : nm_ok c := by
  obtain ⟨T, s, n, h0, h6, ha, e, -⟩ := h
  exact ⟨T, s, n, h0, h6, ha, e⟩
theorem let_lt {T : Nat → Nat} {s n : Nat} (h6 : n ≤ 6) (h : t_all T s n = true) : t_let T s n < 2147483648 := by
  have h1 := let_bd T s n h
  have h2 : 27 ^ n ≤ 27 ^ 6 := Nat.pow_le_pow_right (by decide) h6
  have e6 : 27 ^ 6 = 387420489 := by decide
  omega
theorem nm7_eq {c c' : Nat} {v v' : Int64} (h : nm7 c v) (h' : nm7 c' v') : v = v' ↔ c = c' := by
  obtain ⟨T, s, n, h0, h6, ha, e, ev⟩ := h
  obtain ⟨T', s', n', h0', h6', ha', e', ev'⟩ := h'
  rw [ev, ev', lN_eq (let_lt h6 ha) (let_lt h6' ha'), e, e']
  exact let_iff n n' ha ha'
def NM (V : Nat → Int64) (S : s_T) : Prop := ∀ b, b < S 8 2 0 → nm7 (S 11 b 0) (V b)
section LE
variable {G : q_G} {X : String → q_H → Prop} {A A0 : q_H} {mo N : Nat} {T : Nat → Nat} {t : T_k}
theorem v_letters {f : Int64 → q_H → Prop} {s e : Nat} (ms : MS A mo) (hb : ∀ j, j < e → T j < 256 ∧ q_I A (mo + 10) j = nI (T j)) (he : e ≤ 700) (ha : ∀ j, s ≤ j → j < e → t_le (T j) = true) (k : f (lN (t_let T s (e - s))) A) :
    ∀ (d n : Nat), s + n + d = e → q_Wp G M_X11_letters (q_KL f) X 0 0 5 [some (.ref mo), none, some (.int (nI e)), some (.long (lN (t_let T s n))), none, some (.int (nI (s + n)))] [] A
  | 0, n, h => by
    have en : n = e - s := by omega
    subst en
    exact f_X11_letters_5 ⟨fun _ => k, fun c => absurd (nI_le (by omega) (by omega)) c⟩
  | d + 1, n, h => by
    have bb := hb (s + n) (by omega)
    have l : 97 ≤ T (s + n) ∧ T (s + n) ≤ 122 := of_decide_eq_true (ha (s + n) (by omega) (by omega))
    refine f_X11_letters_5 ⟨fun c => absurd c (nI_ge (by omega) (by omega)), fun _ => ⟨ms.z, _, ms.r11, 700, ms.z10, by decide, s + n, rfl, by omega, ?_⟩⟩
    rw [bb.2, nI_l (by omega), lN_mul, lN_add, lN_sub (by omega), nI_add]
    have e1 : 27 * t_let T s n + T (s + n) - 96 = t_let T s (n + 1) := by
      show _ = 27 * t_let T s n + (T (s + n) - 96)
      omega
    rw [e1]
    exact v_letters ms hb he ha k d (n + 1) (by omega)
theorem M_letters {f : Int64 → q_H → Prop} {s e : Nat} (ms : MS A mo) (hb : ∀ j, j < e → T j < 256 ∧ q_I A (mo + 10) j = nI (T j)) (hs : s ≤ e) (he : e ≤ 700) (ha : ∀ j, s ≤ j → j < e → t_le (T j) = true) (k : f (lN (t_let T s (e - s))) A) : q_Wc G M_X11_letters [.ref mo, .int (nI s), .int (nI e)] A (q_KL f) X :=
  f_X11_letters (v_letters ms hb he ha k (e - s) 0 (by omega))
theorem v_buyerWith {f : Int32 → q_H → Prop} {a n z : Nat} {w : Int64} (hz : q_sh A a = (52, z)) (z31 : z < 2147483648) (hn : n ≤ z) (k1 : ∀ i, i < n → q_L A a i = w → (∀ c, c < i → ¬ q_L A a c = w) → f (nI i) A) (k0 : (∀ i, i < n → ¬ q_L A a i = w) → f (-1) A) :
    ∀ (d i : Nat), i + d = n → (∀ c, c < i → ¬ q_L A a c = w) → q_Wp G M_X11_buyerWith (q_KI f) X 0 0 3 [some (.long w), none, some (.ref a), some (.int (nI n)), some (.int (nI i))] [] A
  | 0, i, h, hi => by
    have : i = n := by omega
    subst this
    exact f_X11_buyerWith_3 ⟨fun _ => k0 hi, fun c => absurd (nI_le (Nat.le_refl _) (by omega)) c⟩
  | d + 1, i, h, hi => by
    refine f_X11_buyerWith_3 ⟨fun c => absurd c (nI_ge (by omega) (by omega)), fun _ => ⟨z, hz, z31, i, rfl, by omega, fun c => k1 i (by omega) c hi, fun c => ?_⟩⟩
    rw [nI_add]
    refine v_buyerWith hz z31 hn k1 k0 d (i + 1) (by omega) fun c' hc' => ?_
    by_cases e : c' = i
    · rw [e]; exact c
    · exact hi c' (by omega)
theorem M_buyerWith {f : Int32 → q_H → Prop} {a n z : Nat} {w : Int64} (hz : q_sh A a = (52, z)) (z31 : z < 2147483648) (hn : n ≤ z) (k1 : ∀ i, i < n → q_L A a i = w → (∀ c, c < i → ¬ q_L A a c = w) → f (nI i) A) (k0 : (∀ i, i < n → ¬ q_L A a i = w) → f (-1) A) : q_Wc G M_X11_buyerWith [.long w, .ref a, .int (nI n)] A (q_KI f) X :=
  f_X11_buyerWith (v_buyerWith hz z31 hn k1 k0 n 0 (by omega) fun c hc => absurd hc (Nat.not_lt_zero _))
end LE

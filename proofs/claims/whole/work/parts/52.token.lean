/-! TEXTS: bytes, tokens. T j < 256 the bytes, N how many; a token is (kind, start, end): 0 the end, 1 word, 2 number, 3 semicolon, 4 nothing of these -/
def b8 (n : Nat) : Int32 := if n < 128 then nI n else nI n - nI 256
def t_bl (c : Nat) : Bool := decide (c = 32 ∨ c = 10)
def t_le (c : Nat) : Bool := decide (97 ≤ c ∧ c ≤ 122)
def t_di (c : Nat) : Bool := decide (48 ≤ c ∧ c ≤ 57)
theorem b8_bl : ∀ n, n < 256 → (b8 n = nI 32 ↔ n = 32) ∧ (b8 n = nI 10 ↔ n = 10) ∧ (b8 n = nI 59 ↔ n = 59) := by decide +kernel
theorem b8_le : ∀ n, n < 256 → (b8 n < nI 97 ↔ n < 97 ∨ 128 ≤ n) ∧ (nI 122 < b8 n ↔ 122 < n ∧ n < 128) := by decide +kernel
theorem b8_di : ∀ n, n < 256 → (b8 n < nI 48 ↔ n < 48 ∨ 128 ≤ n) ∧ (nI 57 < b8 n ↔ 57 < n ∧ n < 128) := by decide +kernel
theorem b8_sm {n : Nat} (h : n < 128) : b8 n = nI n := if_pos h
def t_run (P : Nat → Bool) (T : Nat → Nat) : Nat → Nat → Nat
  | 0, p => p
  | d + 1, p => if P (T p) = true then t_run P T d (p + 1) else p
/-- where a run of such bytes from p on ends -/
def t_end (P : Nat → Bool) (T : Nat → Nat) (N p : Nat) : Nat := t_run P T (N - p) p
theorem t_end_n {P : Nat → Bool} {T : Nat → Nat} {N p : Nat} (h : N ≤ p) : t_end P T N p = p := by
  unfold t_end
  rw [show N - p = 0 by omega]
  rfl
theorem t_end_y {P : Nat → Bool} {T : Nat → Nat} {N p : Nat} (h : p < N) (hp : P (T p) = true) : t_end P T N p = t_end P T N (p + 1) := by
  unfold t_end
  rw [show N - p = (N - (p + 1)) + 1 by omega]
  exact if_pos hp
theorem t_end_x {P : Nat → Bool} {T : Nat → Nat} {N p : Nat} (h : p < N) (hp : P (T p) = false) : t_end P T N p = p := by
  unfold t_end
  rw [show N - p = (N - (p + 1)) + 1 by omega]
  exact if_neg (by rw [hp]; decide)
theorem t_run_le (P : Nat → Bool) (T : Nat → Nat) : ∀ d p, p ≤ t_run P T d p ∧ t_run P T d p ≤ p + d
  | 0, p => ⟨Nat.le_refl _, Nat.le_refl _⟩
  | d + 1, p => by
    have := t_run_le P T d (p + 1)
    unfold t_run
    split <;> omega
theorem t_end_le {P : Nat → Bool} {T : Nat → Nat} {N p : Nat} (h : p ≤ N) : p ≤ t_end P T N p ∧ t_end P T N p ≤ N := by
  have := t_run_le P T (N - p) p
  unfold t_end
  omega
theorem t_run_all (P : Nat → Bool) (T : Nat → Nat) : ∀ d p j, p ≤ j → j < t_run P T d p → P (T j) = true
  | 0, p, j, h1, h2 => by
    have h3 : j < p := h2
    omega
  | d + 1, p, j, h1, h2 => by
    unfold t_run at h2
    split at h2
    · by_cases c : j = p
      · rw [c]; assumption
      · exact t_run_all P T d (p + 1) j (by omega) h2
    · omega
theorem t_end_all {P : Nat → Bool} {T : Nat → Nat} {N p j : Nat} (h1 : p ≤ j) (h2 : j < t_end P T N p) : P (T j) = true := t_run_all P T _ p j h1 h2
/-- what n digits from s on say -/
def t_val (T : Nat → Nat) (s : Nat) : Nat → Nat
  | 0 => 0
  | n + 1 => 10 * t_val T s n + (T (s + n) - 48)
abbrev T_k : Type := Nat × Nat × Nat
def tok (T : Nat → Nat) (N p : Nat) : T_k :=
  let s := t_end t_bl T N p
  if N ≤ s then (0, s, s) else if t_le (T s) = true then (1, s, t_end t_le T N s) else if t_di (T s) = true then (if t_end t_di T N s - s ≤ 4 then 2 else 4, s, t_end t_di T N s) else (if T s = 59 then 3 else 4, s, s + 1)
theorem tok_bd {T : Nat → Nat} {N p : Nat} (h : p ≤ N) : p ≤ (tok T N p).2.1 ∧ (tok T N p).2.1 ≤ (tok T N p).2.2 ∧ (tok T N p).2.2 ≤ N ∧ (tok T N p).1 < 5 ∧ ((tok T N p).1 ≠ 0 → (tok T N p).2.1 < (tok T N p).2.2) ∧ ((tok T N p).1 = 2 → (tok T N p).2.2 - (tok T N p).2.1 ≤ 4) := by
  have h1 := t_end_le (P := t_bl) (T := T) h
  unfold tok
  dsimp only
  by_cases c1 : N ≤ t_end t_bl T N p
  · rw [if_pos c1]
    exact ⟨h1.1, Nat.le_refl _, h1.2, by dsimp only; omega, fun e => absurd rfl e, fun e => by dsimp only at e; omega⟩
  · rw [if_neg c1]
    have c1' : t_end t_bl T N p < N := by omega
    by_cases c2 : t_le (T (t_end t_bl T N p)) = true
    · rw [if_pos c2]
      have h2 := t_end_le (P := t_le) (T := T) (p := t_end t_bl T N p + 1) (N := N) (by omega)
      rw [← t_end_y c1' c2] at h2
      refine ⟨h1.1, ?_, h2.2, by dsimp only; omega, fun _ => ?_, fun e => by dsimp only at e; omega⟩ <;> dsimp only <;> omega
    · rw [if_neg c2]
      by_cases c3 : t_di (T (t_end t_bl T N p)) = true
      · rw [if_pos c3]
        have h2 := t_end_le (P := t_di) (T := T) (p := t_end t_bl T N p + 1) (N := N) (by omega)
        rw [← t_end_y c1' c3] at h2
        refine ⟨h1.1, ?_, h2.2, ?_, fun _ => ?_, fun e => ?_⟩ <;> dsimp only at *
        · omega
        · split <;> decide
        · omega
        · by_cases c4 : t_end t_di T N (t_end t_bl T N p) - t_end t_bl T N p ≤ 4
          · exact c4
          · rw [if_neg c4] at e
            exact absurd e (by decide)
      · rw [if_neg c3]
        refine ⟨h1.1, ?_, ?_, ?_, fun _ => ?_, fun e => ?_⟩ <;> dsimp only at *
        · omega
        · omega
        · split <;> decide
        · omega
        · split at e <;> exact absurd e (by decide)
theorem val_lt (T : Nat → Nat) (s : Nat) : ∀ n, (∀ j, j < n → T (s + j) ≤ 57) → t_val T s n < 10 ^ n
  | 0, _ => by show (0 : Nat) < 1; omega
  | n + 1, h => by
    have ih := val_lt T s n fun j hj => h j (by omega)
    have := h n (by omega)
    show 10 * t_val T s n + (T (s + n) - 48) < 10 ^ (n + 1)
    rw [Nat.pow_succ]
    omega
/-- a word -/
def t_word (T : Nat → Nat) (t : T_k) (w : List Nat) : Bool := decide (t.1 = 1 ∧ t.2.2 - t.2.1 = w.length ∧ ∀ j, j < w.length → T (t.2.1 + j) = w.getD j 0)
def w_0 : List Nat := [109, 97, 116, 101, 114, 105, 97, 108, 115]
def w_1 : List Nat := [115, 116, 97, 116, 105, 111, 110]
def w_2 : List Nat := [115, 101, 116]
def w_3 : List Nat := [108, 111, 97, 100]
def w_4 : List Nat := [98, 117, 121, 101, 114]
def t_key (T : Nat → Nat) (t : T_k) : Bool := t_word T t w_0 || t_word T t w_1 || t_word T t w_2 || t_word T t w_3 || t_word T t w_4
/-- a name's code: letters from s on, n of them -/
def t_code (T : Nat → Nat) (s : Nat) : Nat → Nat
  | 0 => 0
  | n + 1 => 32 * t_code T s n + (T (s + n) - 96)
theorem code_bd (T : Nat → Nat) (s : Nat) : ∀ n, (∀ j, j < n → 97 ≤ T (s + j) ∧ T (s + j) ≤ 122) → t_code T s n < 32 ^ n ∧ (0 < n → 0 < t_code T s n)
  | 0, _ => ⟨by show (0 : Nat) < 1; omega, fun h => absurd h (by decide)⟩
  | n + 1, h => by
    have ih := (code_bd T s n fun j hj => h j (by omega)).1
    have := h n (by omega)
    have e : t_code T s (n + 1) = 32 * t_code T s n + (T (s + n) - 96) := rfl
    rw [e, Nat.pow_succ]
    omega
/-! the text's meaning: an error 8 * where + kind, or what it makes -/
abbrev q_Pr (α : Type) : Type := Except Nat α
def p_num (T : Nat → Nat) (N lo hi : Nat) (t : T_k) : q_Pr (Nat × T_k) :=
  if t.1 ≠ 2 then .error (8 * t.2.1 + 1) else if t_val T t.2.1 (t.2.2 - t.2.1) < lo ∨ hi < t_val T t.2.1 (t.2.2 - t.2.1) then .error (8 * t.2.1 + 2) else .ok (t_val T t.2.1 (t.2.2 - t.2.1), tok T N t.2.2)
def p_end (T : Nat → Nat) (N : Nat) (t : T_k) : q_Pr T_k := if t.1 = 3 then .ok (tok T N t.2.2) else .error (8 * t.2.1 + 1)
def p_station (T : Nat → Nat) (N : Nat) (S : s_T) (t : T_k) : q_Pr (s_T × T_k) :=
  if S 8 1 0 < 8 then
    match p_num T N 0 (S 8 0 0 - 1) (tok T N t.2.2) with
    | .error c => .error c
    | .ok (a, t1) => match p_num T N 0 9 t1 with
      | .error c => .error c
      | .ok (p, t2) => match p_num T N 1 50 t2 with
        | .error c => .error c
        | .ok (r, t3) => match p_num T N 0 30 t3 with
          | .error c => .error c
          | .ok (e, t4) => .ok (o_addS S a p r e, t4)
  else .error (8 * t.2.1 + 5)
def p_setting (T : Nat → Nat) (N : Nat) (S : s_T) (t : T_k) : q_Pr (s_T × T_k) :=
  match p_num T N 0 7 (tok T N t.2.2) with
  | .error c => .error c
  | .ok (w, t1) => match p_num T N (s_lo w) (s_hi w) t1 with
    | .error c => .error c
    | .ok (v, t2) => .ok (s_p S 1 w 0 v, t2)
/-- masses from material m on, d materials are left -/
def p_mass (T : Nat → Nat) (N : Nat) : Nat → Nat → (Nat → Nat) → T_k → q_Pr ((Nat → Nat) × T_k)
  | 0, _, f, t => .ok (f, t)
  | d + 1, m, f, t => if t.1 = 2 then (match p_num T N 0 999 t with
    | .error c => .error c
    | .ok (v, t1) => p_mass T N d (m + 1) (fun j => if j = m then v else f j) t1) else .ok (f, t)
def o_put (S : s_T) (f : Nat → Nat) : s_T := if s6 f = 0 then S else s_p (o_add S f 0) 2 7 0 (S 2 7 0 + s6 f)
def p_load (T : Nat → Nat) (N : Nat) (S : s_T) (t : T_k) : q_Pr (s_T × T_k) :=
  if S 2 10 0 < 30 then
    match p_num T N 0 999 (tok T N t.2.2) with
    | .error c => .error c
    | .ok (v, t1) => match p_mass T N (S 8 0 0 - 1) 1 (fun j => if j = 0 then v else 0) t1 with
      | .error c => .error c
      | .ok (f, t2) => .ok (o_put S f, t2)
  else .error (8 * t.2.1 + 5)
def o_addB (S : s_T) (c a g p l u : Nat) : s_T := fun t i j => if t = 11 ∧ i = S 8 2 0 then c else if t = 7 ∧ i = S 8 2 0 then 0 else if t = 10 ∧ i = S 8 2 0 then (if j = 0 then a else if j = 1 then g else if j = 2 then p else if j = 3 then l else u) else if t = 8 ∧ i = 2 ∧ j = 0 then S 8 2 0 + 1 else S t i j
/-- no buyer has this name yet -/
def t_new (S : s_T) (c : Nat) : Nat → Bool
  | 0 => true
  | n + 1 => t_new S c n && decide (S 11 n 0 ≠ c)
def p_name (T : Nat → Nat) (N : Nat) (S : s_T) (t : T_k) : q_Pr (Nat × T_k) :=
  if t.1 = 1 ∧ t_key T t = false ∧ t.2.2 - t.2.1 ≤ 6 then (if t_new S (t_code T t.2.1 (t.2.2 - t.2.1)) (S 8 2 0) = true then .ok (t_code T t.2.1 (t.2.2 - t.2.1), tok T N t.2.2) else .error (8 * t.2.1 + 3)) else .error (8 * t.2.1 + 1)
def p_buyer (T : Nat → Nat) (N : Nat) (S : s_T) (t : T_k) : q_Pr (s_T × T_k) :=
  if S 8 2 0 < 4 then
    match p_name T N S (tok T N t.2.2) with
    | .error c => .error c
    | .ok (n, t0) => match p_num T N 0 (S 8 0 0 - 1) t0 with
      | .error c => .error c
      | .ok (a, t1) => match p_num T N 0 2 t1 with
        | .error c => .error c
        | .ok (g, t2) => match p_num T N 1 9999 t2 with
          | .error c => .error c
          | .ok (p, t3) => match p_num T N 0 100 t3 with
            | .error c => .error c
            | .ok (l, t4) => match p_num T N 0 100 t4 with
              | .error c => .error c
              | .ok (u, t5) => .ok (o_addB S n a g p l u, t5)
  else .error (8 * t.2.1 + 5)
def p_stat (T : Nat → Nat) (N : Nat) (S : s_T) (t : T_k) : q_Pr (s_T × T_k) :=
  if t_word T t w_1 = true then p_station T N S t else if t_word T t w_2 = true then p_setting T N S t else if t_word T t w_3 = true then p_load T N S t else if t_word T t w_4 = true then p_buyer T N S t else .error (8 * t.2.1 + 1)
def p_fin (S : s_T) (t : T_k) : q_Pr s_T := if S 8 1 0 = 0 then .error (8 * t.2.1 + 1) else .ok S
/-- at most d statements more -/
def p_loop (T : Nat → Nat) (N : Nat) : Nat → s_T → T_k → q_Pr s_T
  | 0, S, t => p_fin S t
  | d + 1, S, t => if t.1 = 0 then p_fin S t else match p_stat T N S t with
    | .error c => .error c
    | .ok (S', t1) => match p_end T N t1 with
      | .error c => .error c
      | .ok t2 => p_loop T N d S' t2
def p_text (T : Nat → Nat) (N : Nat) : q_Pr s_T :=
  if t_word T (tok T N 0) w_0 = true then
    match p_num T N 1 6 (tok T N (tok T N 0).2.2) with
    | .error c => .error c
    | .ok (v, t1) => match p_end T N t1 with
      | .error c => .error c
      | .ok t2 => p_loop T N 700 (s_p s_0 8 0 0 v) t2
  else .error (8 * (tok T N 0).2.1 + 1)

/-! WHERE A LINE OF THE CLASS LIES: l = base, the parcels of the slots, the bales of the stock, the ring's first -/
abbrev l_T : Type := Nat × (Nat → Nat) × (Nat → Nat) × Nat
def l_a (l : l_T) : Nat := l.1
def l_s (l : l_T) : Nat → Nat := l.2.1
def l_b (l : l_T) : Nat → Nat := l.2.2.1
def l_f (l : l_T) : Nat := l.2.2.2
def Lw (l : l_T) : Prop := (∀ s, s < 8 → ∃ j, j < 8 ∧ l_s l s = l_a l + 226 + 6 * j) ∧ (∀ s t, s < 8 → t < 8 → l_s l s = l_s l t → s = t) ∧ (∀ b, b < 40 → ∃ j, j < 40 ∧ l_b l b = l_a l + 98 + 3 * j) ∧ (∀ b c, b < 40 → c < 40 → l_b l b = l_b l c → b = c) ∧ l_f l < 30
/-- the heap of number h -/
def ha (l : l_T) (h : Nat) : Nat := if h = 0 then l_a l + 218 else if h = 1 then l_a l + 221 else if h = 2 then l_a l + 223 else if h < 11 then l_a l + 229 + 6 * (h - 3) else if h < 19 then l_s l (h - 11) + 1 else if h < 49 then l_a l + 7 + 3 * ((l_f l + (h - 19)) % 30) else l_b l (h - 49) + 1
def ca (l : l_T) (t i : Nat) : Nat := if t = 1 then l_a l + 1 else if t = 2 then (if i < 10 then l_a l + 220 else if i = 10 then l_a l + 4 else l_a l + 96) else if t = 3 then l_a l + 6 + 3 * ((l_f l + i) % 30) else if t = 5 ∨ t = 9 then l_a l + 225 + 6 * i else if t = 6 then l_b l i else if t = 8 then l_a l else l_a l + 273 + i
def cf (t i j : Nat) : Nat := if t = 1 then i else if t = 2 then (if i < 10 then i else if i = 10 then 2 else 1) else if t = 3 then 1 else if t = 5 then (if j = 0 then 1 else j + 3) else if t = 6 then j else if t = 7 then 6 else if t = 8 then (if i = 0 then 0 else if i = 1 then 3 else 5) else if t = 9 then (if j = 0 then 0 else j + 1) else if t = 10 then j + 1 else 0
def dm0 (t i j : Nat) : Prop := (t = 1 ∧ i < 8 ∧ j = 0) ∨ (t = 2 ∧ i < 12 ∧ j = 0) ∨ (t = 3 ∧ i < 30 ∧ j = 0) ∨ (t = 5 ∧ i < 8 ∧ j < 4) ∨ (t = 6 ∧ i < 40 ∧ j < 4) ∨ (t = 7 ∧ i < 4 ∧ j = 0) ∨ (t = 8 ∧ i < 3 ∧ j = 0) ∨ (t = 9 ∧ i < 8 ∧ j < 3) ∨ (t = 10 ∧ i < 4 ∧ j < 5) ∨ (t = 11 ∧ i < 4 ∧ j = 0)
def dm (S : s_T) (t i j : Nat) : Prop := dm0 t i j ∧ (t = 3 → i < S 2 10 0) ∧ (t = 5 ∨ t = 9 → i < S 8 1 0) ∧ (t = 6 → i < S 2 11 0) ∧ (t = 7 ∨ t = 10 ∨ t = 11 → i < S 8 2 0)
def okH (A : q_H) (h : Nat) : Prop := q_sh A h = (3, 0) ∧ q_R A h 0 = some (h + 1) ∧ q_sh A (h + 1) = (50, 6)
def okP (A : q_H) (p : Nat) : Prop := q_sh A p = (6, 0) ∧ q_R A p 0 = some (p + 1) ∧ okH A (p + 1)
def okB (A : q_H) (b : Nat) : Prop := q_sh A b = (1, 0) ∧ q_R A b 4 = some (b + 1) ∧ okH A (b + 1)
/-- its shapes and its pointers -/
def Ls0 (A : q_H) (l : l_T) : Prop := (q_sh A (l_a l) = (5, 0) ∧ q_R A (l_a l) 1 = some (l_a l + 1) ∧ q_R A (l_a l) 2 = some (l_a l + 2) ∧ q_R A (l_a l) 4 = some (l_a l + 3) ∧ q_R A (l_a l) 6 = some (l_a l + 4) ∧ q_R A (l_a l) 7 = some (l_a l + 96) ∧ q_R A (l_a l) 8 = some (l_a l + 218) ∧ q_R A (l_a l) 9 = some (l_a l + 220) ∧ q_R A (l_a l) 10 = some (l_a l + 221) ∧ q_R A (l_a l) 11 = some (l_a l + 223)) ∧
  q_sh A (l_a l + 1) = (50, 8) ∧ q_sh A (l_a l + 2) = (66, 8) ∧ q_sh A (l_a l + 3) = (61, 4) ∧ (q_sh A (l_a l + 4) = (4, 0) ∧ q_R A (l_a l + 4) 0 = some (l_a l + 5)) ∧ q_sh A (l_a l + 5) = (65, 30) ∧ (q_sh A (l_a l + 96) = (8, 0) ∧ q_R A (l_a l + 96) 0 = some (l_a l + 97)) ∧ q_sh A (l_a l + 97) = (60, 40) ∧ okH A (l_a l + 218) ∧ q_sh A (l_a l + 220) = (9, 0) ∧ okH A (l_a l + 221) ∧ okH A (l_a l + 223)
def Ls1 (A : q_H) (l : l_T) : Prop := (∀ s, s < 8 → q_R A (l_a l + 2) s = some (l_a l + 225 + 6 * s) ∧ q_sh A (l_a l + 225 + 6 * s) = (7, 0) ∧ q_R A (l_a l + 225 + 6 * s) 7 = some (l_s l s) ∧ q_R A (l_a l + 225 + 6 * s) 8 = some (l_a l + 229 + 6 * s) ∧ okP A (l_a l + 226 + 6 * s) ∧ okH A (l_a l + 229 + 6 * s)) ∧
  (∀ b, b < 4 → q_R A (l_a l + 3) b = some (l_a l + 273 + b) ∧ q_sh A (l_a l + 273 + b) = (2, 0)) ∧ (∀ i, i < 30 → q_R A (l_a l + 5) i = some (l_a l + 6 + 3 * i) ∧ okP A (l_a l + 6 + 3 * i)) ∧ (∀ b, b < 40 → q_R A (l_a l + 97) b = some (l_b l b) ∧ okB A (l_a l + 98 + 3 * b))
def Ls (A : q_H) (l : l_T) : Prop := Ls0 A l ∧ Ls1 A l
def Lb (S : s_T) : Prop := S 8 1 0 ≤ 8 ∧ S 8 2 0 ≤ 4 ∧ S 2 10 0 ≤ 30 ∧ S 2 11 0 ≤ 40
/-- what it holds -/
def Lv (A : q_H) (l : l_T) (S : s_T) : Prop := (∀ h, lv S h → (∀ m, m < 6 → q_I A (ha l h + 1) m = nI (S 0 h m)) ∧ q_I A (ha l h) 1 = nI (s6 (S 0 h))) ∧ (∀ t i j, dm S t i j → q_I A (ca l t i) (cf t i j) = nI (S t i j)) ∧ (∀ s, s < S 8 1 0 → S 4 s 0 ≠ 0 → q_I A (l_s l s) 1 = nI (S 4 s 0 - 1)) ∧ q_I A (l_a l + 4) 1 = nI (l_f l)
def Lr (A : q_H) (l : l_T) (S : s_T) : Prop := Lw l ∧ Ls A l ∧ Lb S ∧ Lv A l S
def q_same (A B : q_H) (x : Nat) : Prop := q_sh B x = q_sh A x ∧ q_I B x = q_I A x ∧ q_R B x = q_R A x ∧ q_L B x = q_L A x ∧ q_D B x = q_D A x
/-- off the w cells from a on all is as it was -/
def fr (A B : q_H) (a w : Nat) : Prop := q_sz A ≤ q_sz B ∧ ∀ x, (x < a ∨ a + w ≤ x) → x < q_sz A → q_same A B x
def Lp (A0 A : q_H) (l : l_T) (S : s_T) : Prop := Lr A l S ∧ fr A0 A (l_a l) 277
theorem q_same.r (A : q_H) (x : Nat) : q_same A A x := ⟨rfl, rfl, rfl, rfl, rfl⟩
theorem q_same.t {A B C : q_H} {x : Nat} (h : q_same A B x) (k : q_same B C x) : q_same A C x := ⟨k.1.trans h.1, k.2.1.trans h.2.1, k.2.2.1.trans h.2.2.1, k.2.2.2.1.trans h.2.2.2.1, k.2.2.2.2.trans h.2.2.2.2⟩
theorem q_same.setI {A B : q_H} {x a k : Nat} {v : Int32} (h : q_same A B x) (e : x ≠ a) : q_same A (q_setI B a k v) x := ⟨h.1, (q_u2_row _ _ _ _ e).trans h.2.1, h.2.2.1, h.2.2.2.1, h.2.2.2.2⟩
theorem q_same.setR {A B : q_H} {x a k : Nat} {v : Option Nat} (h : q_same A B x) (e : x ≠ a) : q_same A (q_setR B a k v) x := ⟨h.1, h.2.1, (q_u2_row _ _ _ _ e).trans h.2.2.1, h.2.2.2.1, h.2.2.2.2⟩
theorem q_same.rowI {A B : q_H} {x a : Nat} {g : Nat → Int32} (h : q_same A B x) (e : x ≠ a) : q_same A (q_rowI B a g) x := ⟨h.1, (q_rw_a _ _ _ e).trans h.2.1, h.2.2.1, h.2.2.2.1, h.2.2.2.2⟩
theorem q_same.new {A B : q_H} {x c n : Nat} (h : q_same A B x) (e : x ≠ q_sz B) : q_same A (q_new B c n) x := ⟨by rw [q_sh_new, if_neg e]; exact h.1, (q_rw_a _ _ _ e).trans h.2.1, (q_rw_a _ _ _ e).trans h.2.2.1, (q_rw_a _ _ _ e).trans h.2.2.2.1, (q_rw_a _ _ _ e).trans h.2.2.2.2⟩
theorem fr.r (A : q_H) (a w : Nat) : fr A A a w := ⟨Nat.le_refl _, fun x _ _ => q_same.r A x⟩
theorem fr.t {A B C : q_H} {a w : Nat} (h : fr A B a w) (k : fr B C a w) : fr A C a w := ⟨Nat.le_trans h.1 k.1, fun x hx hz => (h.2 x hx hz).t (k.2 x hx (Nat.lt_of_lt_of_le hz h.1))⟩
theorem fr.setI {A B : q_H} {a w y k : Nat} {v : Int32} (h : fr A B a w) (h1 : a ≤ y) (h2 : y < a + w) : fr A (q_setI B y k v) a w := ⟨h.1, fun x hx hz => (h.2 x hx hz).setI (by omega)⟩
theorem fr.setR {A B : q_H} {a w y k : Nat} {v : Option Nat} (h : fr A B a w) (h1 : a ≤ y) (h2 : y < a + w) : fr A (q_setR B y k v) a w := ⟨h.1, fun x hx hz => (h.2 x hx hz).setR (by omega)⟩
theorem fr.rowI {A B : q_H} {a w y : Nat} {g : Nat → Int32} (h : fr A B a w) (h1 : a ≤ y) (h2 : y < a + w) : fr A (q_rowI B y g) a w := ⟨h.1, fun x hx hz => (h.2 x hx hz).rowI (by omega)⟩
theorem fr.new {A B : q_H} {a w c n : Nat} (h : fr A B a w) : fr A (q_new B c n) a w := ⟨Nat.le_trans h.1 (Nat.le_succ _), fun x hx hz => (h.2 x hx hz).new (by have := h.1; omega)⟩
/-! where things are -/
theorem ha_bun (l : l_T) {s : Nat} (h : s < 8) : ha l (3 + s) = l_a l + 229 + 6 * s := by
  unfold ha; rw [if_neg (by omega), if_neg (by omega), if_neg (by omega), if_pos (by omega), show 3 + s - 3 = s by omega]
theorem ha_slot (l : l_T) {s : Nat} (h : s < 8) : ha l (11 + s) = l_s l s + 1 := by
  unfold ha; rw [if_neg (by omega), if_neg (by omega), if_neg (by omega), if_neg (by omega), if_pos (by omega), show 11 + s - 11 = s by omega]
theorem ha_par (l : l_T) {k : Nat} (h : k < 30) : ha l (19 + k) = l_a l + 7 + 3 * ((l_f l + k) % 30) := by
  unfold ha; rw [if_neg (by omega), if_neg (by omega), if_neg (by omega), if_neg (by omega), if_neg (by omega), if_pos (by omega), show 19 + k - 19 = k by omega]
theorem ha_bal (l : l_T) (b : Nat) : ha l (49 + b) = l_b l b + 1 := by
  unfold ha; rw [if_neg (by omega), if_neg (by omega), if_neg (by omega), if_neg (by omega), if_neg (by omega), if_neg (by omega), show 49 + b - 49 = b by omega]
theorem ha_cases (l : l_T) (w : Lw l) {h : Nat} (hh : h < 89) : (h = 0 ∧ ha l h = l_a l + 218) ∨ (h = 1 ∧ ha l h = l_a l + 221) ∨ (h = 2 ∧ ha l h = l_a l + 223) ∨ (∃ s, s < 8 ∧ h = 3 + s ∧ ha l h = l_a l + 229 + 6 * s) ∨ (∃ s j, s < 8 ∧ j < 8 ∧ h = 11 + s ∧ ha l h = l_a l + 227 + 6 * j ∧ l_s l s = l_a l + 226 + 6 * j) ∨ (∃ k, k < 30 ∧ h = 19 + k ∧ ha l h = l_a l + 7 + 3 * ((l_f l + k) % 30)) ∨ (∃ b j, b < 40 ∧ j < 40 ∧ h = 49 + b ∧ ha l h = l_a l + 99 + 3 * j ∧ l_b l b = l_a l + 98 + 3 * j) := by
  by_cases c0 : h = 0
  · exact Or.inl ⟨c0, by rw [c0]; rfl⟩
  · by_cases c1 : h = 1
    · exact Or.inr (Or.inl ⟨c1, by rw [c1]; rfl⟩)
    · by_cases c2 : h = 2
      · exact Or.inr (Or.inr (Or.inl ⟨c2, by rw [c2]; rfl⟩))
      · refine Or.inr (Or.inr (Or.inr ?_))
        by_cases c3 : h < 11
        · exact Or.inl ⟨h - 3, by omega, by omega, by have := ha_bun l (s := h - 3) (by omega); rwa [show 3 + (h - 3) = h by omega] at this⟩
        · refine Or.inr ?_
          by_cases c4 : h < 19
          · obtain ⟨j, hj, e⟩ := w.1 (h - 11) (by omega)
            have := ha_slot l (s := h - 11) (by omega)
            rw [show 11 + (h - 11) = h by omega] at this
            exact Or.inl ⟨h - 11, j, by omega, hj, by omega, by omega, e⟩
          · refine Or.inr ?_
            by_cases c5 : h < 49
            · exact Or.inl ⟨h - 19, by omega, by omega, by have := ha_par l (k := h - 19) (by omega); rwa [show 19 + (h - 19) = h by omega] at this⟩
            · obtain ⟨j, hj, e⟩ := w.2.2.1 (h - 49) (by omega)
              have := ha_bal l (h - 49)
              rw [show 49 + (h - 49) = h by omega] at this
              exact Or.inr ⟨h - 49, j, by omega, hj, by omega, by omega, e⟩
theorem ha_in (l : l_T) (w : Lw l) {h : Nat} (hh : h < 89) : l_a l ≤ ha l h ∧ ha l h + 1 < l_a l + 277 := by
  rcases ha_cases l w hh with ⟨-, e⟩ | ⟨-, e⟩ | ⟨-, e⟩ | ⟨s, hs, -, e⟩ | ⟨s, j, hs, hj, -, e, -⟩ | ⟨k, hk, -, e⟩ | ⟨b, j, hb, hj, -, e, -⟩ <;> omega
theorem ha_ne (l : l_T) (w : Lw l) {h h' : Nat} (hh : h < 89) (hh' : h' < 89) (ne : h ≠ h') : ha l h ≠ ha l h' ∧ ha l h ≠ ha l h' + 1 ∧ ha l h + 1 ≠ ha l h' := by
  have wf := w.2.2.2.2
  rcases ha_cases l w hh with ⟨g, e⟩ | ⟨g, e⟩ | ⟨g, e⟩ | ⟨s, hs, g, e⟩ | ⟨s, j, hs, hj, g, e, y⟩ | ⟨k, hk, g, e⟩ | ⟨b, j, hb, hj, g, e, y⟩ <;>
  rcases ha_cases l w hh' with ⟨g', e'⟩ | ⟨g', e'⟩ | ⟨g', e'⟩ | ⟨s', hs', g', e'⟩ | ⟨s', j', hs', hj', g', e', y'⟩ | ⟨k', hk', g', e'⟩ | ⟨b', j', hb', hj', g', e', y'⟩ <;>
  first
  | omega
  | (have q := w.2.1 s s' hs hs'; have : l_s l s ≠ l_s l s' := fun z => by have := q z; omega
     omega)
  | (have q := w.2.2.2.1 b b' hb hb'; have : l_b l b ≠ l_b l b' := fun z => by have := q z; omega
     omega)
theorem ca_cases (l : l_T) (w : Lw l) {t i j : Nat} (d : dm0 t i j) : (t = 1 ∧ i < 8 ∧ j = 0 ∧ ca l t i = l_a l + 1 ∧ cf t i j = i) ∨ (t = 2 ∧ i < 10 ∧ j = 0 ∧ ca l t i = l_a l + 220 ∧ cf t i j = i) ∨ (t = 2 ∧ i = 10 ∧ j = 0 ∧ ca l t i = l_a l + 4 ∧ cf t i j = 2) ∨ (t = 2 ∧ i = 11 ∧ j = 0 ∧ ca l t i = l_a l + 96 ∧ cf t i j = 1) ∨ (t = 3 ∧ i < 30 ∧ j = 0 ∧ ca l t i = l_a l + 6 + 3 * ((l_f l + i) % 30) ∧ cf t i j = 1) ∨ (t = 5 ∧ i < 8 ∧ j < 4 ∧ ca l t i = l_a l + 225 + 6 * i ∧ ((j = 0 ∧ cf t i j = 1) ∨ (j ≠ 0 ∧ cf t i j = j + 3))) ∨ (t = 6 ∧ i < 40 ∧ j < 4 ∧ (∃ x, x < 40 ∧ ca l t i = l_a l + 98 + 3 * x ∧ l_b l i = l_a l + 98 + 3 * x) ∧ cf t i j = j) ∨ (t = 7 ∧ i < 4 ∧ j = 0 ∧ ca l t i = l_a l + 273 + i ∧ cf t i j = 6) ∨ (t = 8 ∧ i < 3 ∧ j = 0 ∧ ca l t i = l_a l ∧ ((i = 0 ∧ cf t i j = 0) ∨ (i = 1 ∧ cf t i j = 3) ∨ (i = 2 ∧ cf t i j = 5))) ∨ (t = 9 ∧ i < 8 ∧ j < 3 ∧ ca l t i = l_a l + 225 + 6 * i ∧ ((j = 0 ∧ cf t i j = 0) ∨ (j ≠ 0 ∧ cf t i j = j + 1))) ∨ (t = 10 ∧ i < 4 ∧ j < 5 ∧ ca l t i = l_a l + 273 + i ∧ cf t i j = j + 1) ∨ (t = 11 ∧ i < 4 ∧ j = 0 ∧ ca l t i = l_a l + 273 + i ∧ cf t i j = 0) := by
  rcases d with ⟨rfl, a, b⟩ | ⟨rfl, a, b⟩ | ⟨rfl, a, b⟩ | ⟨rfl, a, b⟩ | ⟨rfl, a, b⟩ | ⟨rfl, a, b⟩ | ⟨rfl, a, b⟩ | ⟨rfl, a, b⟩ | ⟨rfl, a, b⟩ | ⟨rfl, a, b⟩
  · exact Or.inl ⟨rfl, a, b, rfl, rfl⟩
  · by_cases c : i < 10
    · exact Or.inr (Or.inl ⟨rfl, c, b, by simp [ca, c], by simp [cf, c]⟩)
    · by_cases c2 : i = 10
      · exact Or.inr (Or.inr (Or.inl ⟨rfl, c2, b, by simp [ca, c2], by simp [cf, c2]⟩))
      · exact Or.inr (Or.inr (Or.inr (Or.inl ⟨rfl, by omega, b, by simp [ca, c, c2], by simp [cf, c, c2]⟩)))
  · exact Or.inr (Or.inr (Or.inr (Or.inr (Or.inl ⟨rfl, a, b, by simp [ca], by simp [cf]⟩))))
  · refine Or.inr (Or.inr (Or.inr (Or.inr (Or.inr (Or.inl ⟨rfl, a, b, by simp [ca], ?_⟩)))))
    by_cases c : j = 0
    · exact Or.inl ⟨c, by simp [cf, c]⟩
    · exact Or.inr ⟨c, by simp [cf, c]⟩
  · obtain ⟨x, hx, e⟩ := w.2.2.1 i a
    exact Or.inr (Or.inr (Or.inr (Or.inr (Or.inr (Or.inr (Or.inl ⟨rfl, a, b, ⟨x, hx, by simp [ca]; exact e, e⟩, by simp [cf]⟩))))))
  · exact Or.inr (Or.inr (Or.inr (Or.inr (Or.inr (Or.inr (Or.inr (Or.inl ⟨rfl, a, b, by simp [ca], by simp [cf]⟩)))))))
  · refine Or.inr (Or.inr (Or.inr (Or.inr (Or.inr (Or.inr (Or.inr (Or.inr (Or.inl ⟨rfl, a, b, by simp [ca], ?_⟩))))))))
    match i, a with
    | 0, _ => exact Or.inl ⟨rfl, by simp [cf]⟩
    | 1, _ => exact Or.inr (Or.inl ⟨rfl, by simp [cf]⟩)
    | 2, _ => exact Or.inr (Or.inr ⟨rfl, by simp [cf]⟩)
  · refine Or.inr (Or.inr (Or.inr (Or.inr (Or.inr (Or.inr (Or.inr (Or.inr (Or.inr (Or.inl ⟨rfl, a, b, by simp [ca], ?_⟩)))))))))
    by_cases c : j = 0
    · exact Or.inl ⟨c, by simp [cf, c]⟩
    · exact Or.inr ⟨c, by simp [cf, c]⟩
  · exact Or.inr (Or.inr (Or.inr (Or.inr (Or.inr (Or.inr (Or.inr (Or.inr (Or.inr (Or.inr (Or.inl ⟨rfl, a, b, by simp [ca], by simp [cf]⟩))))))))))
  · exact Or.inr (Or.inr (Or.inr (Or.inr (Or.inr (Or.inr (Or.inr (Or.inr (Or.inr (Or.inr (Or.inr ⟨rfl, a, b, by simp [ca], by simp [cf]⟩))))))))))
theorem ca_in (l : l_T) (w : Lw l) {t i j : Nat} (d : dm0 t i j) : l_a l ≤ ca l t i ∧ ca l t i < l_a l + 277 := by
  have wf := w.2.2.2.2
  rcases ca_cases l w d with h | h | h | h | h | h | ⟨-, -, -, ⟨x, hx, h, -⟩, -⟩ | h | h | h | h | h <;> omega
theorem ca_ha (l : l_T) (w : Lw l) {t i j h : Nat} (d : dm0 t i j) (hh : h < 89) : ca l t i ≠ ha l h ∧ ca l t i ≠ ha l h + 1 := by
  have wf := w.2.2.2.2
  rcases ca_cases l w d with q | q | q | q | q | q | ⟨-, -, -, ⟨x, hx, q, -⟩, -⟩ | q | q | q | q | q <;>
  rcases ha_cases l w hh with ⟨g, e⟩ | ⟨g, e⟩ | ⟨g, e⟩ | ⟨s, hs, g, e⟩ | ⟨s, y, hs, hj, g, e, -⟩ | ⟨k, hk, g, e⟩ | ⟨b, y, hb, hj, g, e, -⟩ <;> omega
theorem ca_sl (l : l_T) (w : Lw l) {t i j s : Nat} (d : dm0 t i j) (hs : s < 8) : ca l t i ≠ l_s l s := by
  obtain ⟨y, hy, e⟩ := w.1 s hs
  have wf := w.2.2.2.2
  rcases ca_cases l w d with q | q | q | q | q | q | ⟨-, -, -, ⟨x, hx, q, -⟩, -⟩ | q | q | q | q | q <;> omega
theorem ha_sl (l : l_T) (w : Lw l) {h s : Nat} (hh : h < 89) (hs : s < 8) : ha l h ≠ l_s l s ∧ ha l h + 1 ≠ l_s l s := by
  obtain ⟨y, hy, e2⟩ := w.1 s hs
  have wf := w.2.2.2.2
  rcases ha_cases l w hh with ⟨g, e⟩ | ⟨g, e⟩ | ⟨g, e⟩ | ⟨s, hs, g, e⟩ | ⟨s, y, hs, hj, g, e, -⟩ | ⟨k, hk, g, e⟩ | ⟨b, y, hb, hj, g, e, -⟩ <;> omega
/-- the ring's first lies apart -/
theorem ca_fs (l : l_T) (w : Lw l) {t i j : Nat} (d : dm0 t i j) : ca l t i ≠ l_a l + 4 ∨ cf t i j ≠ 1 := by
  have wf := w.2.2.2.2
  rcases ca_cases l w d with q | q | q | q | q | q | ⟨-, -, -, ⟨x, hx, q, -⟩, -⟩ | q | q | q | q | q <;> omega
theorem ha_fs (l : l_T) (w : Lw l) {h : Nat} (hh : h < 89) : ha l h ≠ l_a l + 4 ∧ ha l h + 1 ≠ l_a l + 4 := by
  rcases ha_cases l w hh with ⟨g, e⟩ | ⟨g, e⟩ | ⟨g, e⟩ | ⟨s, hs, g, e⟩ | ⟨s, y, hs, hj, g, e, -⟩ | ⟨k, hk, g, e⟩ | ⟨b, y, hb, hj, g, e, -⟩ <;> omega
/-- cells of other numbers lie apart -/
theorem ca_ne (l : l_T) (w : Lw l) {t i j t' i' j' : Nat} (d : dm0 t i j) (d' : dm0 t' i' j') (ne : ¬ (t' = t ∧ i' = i ∧ j' = j)) : ca l t' i' ≠ ca l t i ∨ cf t' i' j' ≠ cf t i j := by
  have wf := w.2.2.2.2
  have wb : ∀ {b c x y : Nat}, b < 40 → c < 40 → l_b l b = l_a l + 98 + 3 * x → l_b l c = l_a l + 98 + 3 * y → x = y → b = c := fun hb hc e1 e2 e => w.2.2.2.1 _ _ hb hc (by rw [e1, e2, e])
  rcases ca_cases l w d with q | q | q | q | q | q | ⟨q1, q2, q3, ⟨x, hx, q, q5⟩, q4⟩ | q | q | q | q | q <;>
  rcases ca_cases l w d' with p | p | p | p | p | p | ⟨p1, p2, p3, ⟨y, hy, p, p5⟩, p4⟩ | p | p | p | p | p <;>
  first
  | omega
  | (by_cases c : i = i'
     · omega
     · have hxy : x ≠ y := fun e => c (wb q2 p2 q5 p5 e)
       omega)

/-! THE LINE AS NUMBERS: S tag i j.
 0 masses: S 0 h m, heaps h: 0 residue, 1 of all bales, 2 own in them, 3 + s bunkers, 11 + s slots, 19 + k parcels, 49 + b bales
 1 settings; 2: 0 ticks 1 pressed 2 pressed A 3 went round 4 sold 5 back 6 claims 7 loaded 8 sold mass 9 cleaned 10 waiting 11 in stock
 3 parcels' rounds; 4 slots' rounds + 1 (0: empty); 5 stations: 0 pickers 1 tired 2 bales 3 picked; 6 bales: 0 serial 1 material 2 purity 3 grade; 7 paid
 8: 0 materials 1 stations 2 buyers; 9 stations: 0 target 1 rate 2 error; 10 buyers: 0 material 1 grade 2 price 3 tolerance 4 limit; 11 names -/
abbrev s_T : Type := Nat → Nat → Nat → Nat
def s_p (S : s_T) (t i j v : Nat) : s_T := fun t' i' j' => if t' = t ∧ i' = i ∧ j' = j then v else S t' i' j'
def s_h (S : s_T) (h : Nat) (f : Nat → Nat) : s_T := fun t i j => if t = 0 ∧ i = h then f j else S t i j
def o_isT (S : s_T) (m : Nat) : Nat → Bool
  | 0 => false
  | n + 1 => o_isT S m n || decide (S 9 n 0 = m)
def o_want (S : s_T) (s : Nat) : Nat := sm (fun m => if o_isT S m (S 8 1 0) = true then S 0 (11 + s) m else 0) (S 8 0 0)
abbrev o_again (S : s_T) (s : Nat) : Prop := S 1 4 0 ≤ o_want S s * 100 / s6 (S 0 (11 + s)) ∧ 1 ≤ o_want S s ∧ S 4 s 0 - 1 < S 1 5 0 ∧ S 2 10 0 < 30
/-- a new parcel behind the others, its masses f, its rounds r -/
def o_add (S : s_T) (f : Nat → Nat) (r : Nat) : s_T := s_p (s_p (s_h S (19 + S 2 10 0) f) 3 (S 2 10 0) 0 r) 2 10 0 (S 2 10 0 + 1)
def o_lA (S : s_T) (s : Nat) : s_T := s_p (o_add S (S 0 (11 + s)) (S 4 s 0)) 2 3 0 (S 2 3 0 + 1)
def o_lR (S : s_T) (s : Nat) : s_T := s_h S 0 (fun m => S 0 0 m + S 0 (11 + s) m)
def o_lE (S : s_T) (s : Nat) : s_T := s_p (s_h S (11 + s) (fun _ => 0)) 4 s 0 0
def o_leave (S : s_T) : s_T := if S 4 (S 8 1 0 - 1) 0 = 0 then S else if o_again S (S 8 1 0 - 1) then o_lE (o_lA S (S 8 1 0 - 1)) (S 8 1 0 - 1) else o_lE (o_lR S (S 8 1 0 - 1)) (S 8 1 0 - 1)
def o_move (S : s_T) : s_T := fun t i j =>
  if t = 0 ∧ 11 ≤ i ∧ i < 11 + S 8 1 0 then S 0 (if i = 11 then 11 + (S 8 1 0 - 1) else i - 1) j
  else if t = 4 ∧ i < S 8 1 0 then S 4 (if i = 0 then S 8 1 0 - 1 else i - 1) j else S t i j
def o_drop (S : s_T) : s_T := fun t i j =>
  if t = 0 ∧ 19 ≤ i ∧ i < 48 then S 0 (i + 1) j else if t = 3 then S 3 (i + 1) j else if t = 2 ∧ i = 10 ∧ j = 0 then S 2 10 0 - 1 else S t i j
def o_fd (S : s_T) : s_T := s_p (s_h (s_h S 11 (tk (S 0 19) (S 1 0 0))) 19 (rs (S 0 19) (S 1 0 0))) 4 0 0 (S 3 0 0 + 1)
def o_feed (S : s_T) : s_T := if S 2 10 0 = 0 then S else if s6 (rs (S 0 19) (S 1 0 0)) = 0 then o_drop (o_fd S) else o_fd S
def o_cap (S : s_T) (s : Nat) : Nat := S 5 s 0 * S 9 s 1 * (100 - S 5 s 1) / 100
def o_right (S : s_T) (s : Nat) : Nat := if o_cap S s < S 0 (11 + s) (S 9 s 0) then o_cap S s else S 0 (11 + s) (S 9 s 0)
/-- a mass goes from a station's slot into its bunker -/
def o_go (S : s_T) (s m v : Nat) : s_T := s_h (s_h S (11 + s) (fun j => if j = m then S 0 (11 + s) m - v else S 0 (11 + s) j)) (3 + s) (fun j => if j = m then S 0 (3 + s) m + v else S 0 (3 + s) j)
def o_oth (S : s_T) (s : Nat) : Nat := am (S 0 (11 + s)) (S 9 s 0) 6
def o_wrong (S : s_T) (s r : Nat) : Nat := if o_oth S s = 0 then 0 else if r * S 9 s 2 / 100 < S 0 (11 + s) (o_oth S s - 1) then r * S 9 s 2 / 100 else S 0 (11 + s) (o_oth S s - 1)
def o_pkd (S : s_T) (s : Nat) : s_T := o_go (o_go S s (S 9 s 0) (o_right S s)) s (o_oth (o_go S s (S 9 s 0) (o_right S s)) s - 1) (o_wrong (o_go S s (S 9 s 0) (o_right S s)) s (o_right S s))
def o_pick (s : Nat) (S : s_T) : s_T := if S 4 s 0 = 0 ∨ o_right S s = 0 then s_p S 5 s 1 (S 5 s 1 - 2)
  else s_p (s_p (s_p (o_pkd S s) 5 s 3 (S 5 s 3 + (o_right S s + o_wrong (o_go S s (S 9 s 0) (o_right S s)) s (o_right S s)))) 5 s 1 (if 60 < S 5 s 1 + S 1 6 0 then 60 else S 5 s 1 + S 1 6 0)) 4 s 0 (if s6 (o_pkd S s 0 (11 + s)) = 0 then 0 else S 4 s 0)
def o_grade (S : s_T) (p : Nat) : Nat := if S 1 2 0 ≤ p then 0 else if S 1 3 0 ≤ p then 1 else 2
def o_pur (S : s_T) (s : Nat) : Nat := tk (S 0 (3 + s)) (S 1 1 0) (S 9 s 0) * 100 / S 1 1 0
/-- a bale's data -/
def o_dat (S : s_T) (b v0 v1 v2 v3 : Nat) : s_T := s_p (s_p (s_p (s_p S 6 b 0 v0) 6 b 1 v1) 6 b 2 v2) 6 b 3 v3
def o_press1 (s : Nat) (S : s_T) : s_T :=
  s_h (s_h (s_p (s_p (s_p (s_p (o_dat (s_h (s_h S (49 + S 2 11 0) (tk (S 0 (3 + s)) (S 1 1 0))) (3 + s) (rs (S 0 (3 + s)) (S 1 1 0))) (S 2 11 0) (S 2 1 0) (S 9 s 0) (o_pur S s) (o_grade S (o_pur S s))) 2 11 0 (S 2 11 0 + 1)) 5 s 2 (S 5 s 2 + 1)) 2 1 0 (S 2 1 0 + 1)) 2 2 0 (S 2 2 0 + if o_grade S (o_pur S s) = 0 then 1 else 0))
    1 (fun m => if m = S 9 s 0 then S 0 1 m + S 1 1 0 else S 0 1 m)) 2 (fun m => if m = S 9 s 0 then S 0 2 m + tk (S 0 (3 + s)) (S 1 1 0) m else S 0 2 m)
def o_pressN (s : Nat) : Nat → s_T → s_T
  | 0, S => S
  | n + 1, S => if s6 (S 0 (3 + s)) < S 1 1 0 then S else o_pressN s n (o_press1 s S)
def o_press (s : Nat) (S : s_T) : s_T := o_pressN s (40 - S 2 11 0) S
def o_picks : Nat → s_T → s_T
  | 0, S => S
  | n + 1, S => o_pick n (o_picks n S)
def o_presses : Nat → s_T → s_T
  | 0, S => S
  | n + 1, S => o_press n (o_presses n S)
def o_tick (S : s_T) : s_T :=
  let S1 := o_presses (S 8 1 0) (o_picks (S 8 1 0) (o_feed (o_move (o_leave S))))
  s_p S1 2 0 0 (S1 2 0 0 + 1)
def o_ticks : Nat → s_T → s_T
  | 0, S => S
  | n + 1, S => o_tick (o_ticks n S)
/-! what always holds -/
def lv (S : s_T) (h : Nat) : Prop := h < 3 ∨ (3 ≤ h ∧ h < 3 + S 8 1 0) ∨ (11 ≤ h ∧ h < 11 + S 8 1 0) ∨ (19 ≤ h ∧ h < 19 + S 2 10 0) ∨ (49 ≤ h ∧ h < 49 + S 2 11 0)
def iv_c (S : s_T) : Prop := 1 ≤ S 8 0 0 ∧ S 8 0 0 ≤ 6 ∧ 1 ≤ S 8 1 0 ∧ S 8 1 0 ≤ 8 ∧ S 8 2 0 ≤ 4 ∧ (∀ s, s < S 8 1 0 → S 9 s 0 < S 8 0 0 ∧ 1 ≤ S 9 s 1 ∧ S 9 s 1 ≤ 50 ∧ S 9 s 2 ≤ 30) ∧
  (∀ b, b < S 8 2 0 → S 10 b 0 < S 8 0 0 ∧ S 10 b 1 ≤ 2 ∧ 1 ≤ S 10 b 2 ∧ S 10 b 2 ≤ 9999 ∧ S 10 b 3 ≤ 100 ∧ S 10 b 4 ≤ 100)
def iv_s (S : s_T) : Prop := 1 ≤ S 1 0 0 ∧ S 1 0 0 ≤ 200 ∧ 20 ≤ S 1 1 0 ∧ S 1 1 0 ≤ 500 ∧ S 1 2 0 ≤ 100 ∧ S 1 3 0 ≤ 100 ∧ S 1 4 0 ≤ 100 ∧ S 1 5 0 ≤ 5 ∧ S 1 6 0 ≤ 5 ∧ S 1 7 0 ≤ 20
def iv_n (S : s_T) : Prop := S 2 10 0 ≤ 30 ∧ S 2 11 0 ≤ 40
def iv_t (S : s_T) : Prop := ∀ s, s < S 8 1 0 → S 5 s 0 ≤ 9 ∧ S 5 s 1 ≤ 60 ∧ S 4 s 0 ≤ 6 ∧ s6 (S 0 (11 + s)) ≤ 200 ∧ (S 4 s 0 = 0 ↔ s6 (S 0 (11 + s)) = 0)
def iv_p (S : s_T) : Prop := ∀ k, k < S 2 10 0 → 1 ≤ s6 (S 0 (19 + k)) ∧ s6 (S 0 (19 + k)) ≤ 5994 ∧ S 3 k 0 ≤ 5
def iv_b (S : s_T) : Prop := ∀ b, b < S 2 11 0 → 1 ≤ s6 (S 0 (49 + b)) ∧ s6 (S 0 (49 + b)) ≤ 500 ∧ S 6 b 1 < S 8 0 0 ∧ S 6 b 2 ≤ 100 ∧ S 6 b 3 ≤ 2
def iv_z (S : s_T) : Prop := ∀ h, lv S h → ∀ m, S 8 0 0 ≤ m → m < 6 → S 0 h m = 0
def iv_m (R : Nat) (B : Nat → Nat) (P : Nat) (S : s_T) : Prop := s6 (S 0 0) ≤ R ∧ (∀ s, s < S 8 1 0 → s6 (S 0 (3 + s)) ≤ B s) ∧ S 2 1 0 ≤ P ∧ s6 (S 0 1) ≤ 500 * S 2 1 0
def iw (R : Nat) (B : Nat → Nat) (P : Nat) (S : s_T) : Prop := iv_c S ∧ iv_s S ∧ iv_n S ∧ iv_t S ∧ iv_p S ∧ iv_b S ∧ iv_z S ∧ iv_m R B P S
def iv (S : s_T) : Prop := iw (200 * S 2 0 0) (fun _ => 200 * S 2 0 0) (40 * S 2 0 0) S
/-- nothing of a text's own has changed, nor a setting -/
def s_cf (S S' : s_T) : Prop := S' 1 = S 1 ∧ S' 8 = S 8 ∧ S' 9 = S 9 ∧ S' 10 = S 10 ∧ S' 11 = S 11
theorem s_p_t {S : s_T} {t i j v t' : Nat} (h : t' ≠ t) : s_p S t i j v t' = S t' := by funext a b; simp [s_p, h]
theorem s_h_t {S : s_T} {h : Nat} {f : Nat → Nat} {t' : Nat} (h0 : t' ≠ 0) : s_h S h f t' = S t' := by funext a b; simp [s_h, h0]
theorem s_h_s (S : s_T) (h : Nat) (f : Nat → Nat) : s_h S h f 0 h = f := by funext b; simp [s_h]
theorem s_h_n {S : s_T} {h h' : Nat} {f : Nat → Nat} (q : h' ≠ h) : s_h S h f 0 h' = S 0 h' := by funext b; simp [s_h, q]
theorem s_p_s (S : s_T) (t i j v : Nat) : s_p S t i j v t i j = v := by simp [s_p]
theorem s_p_i {S : s_T} {t i j v i' : Nat} (q : i' ≠ i) (j' : Nat) : s_p S t i j v t i' j' = S t i' j' := by simp [s_p, q]
theorem s_p_j {S : s_T} {t i j v j' : Nat} (i' : Nat) (q : j' ≠ j) : s_p S t i j v t i' j' = S t i' j' := by simp [s_p, q]
theorem s_p_ir {S : s_T} {t i j v i' : Nat} (q : i' ≠ i) : s_p S t i j v t i' = S t i' := by funext j'; simp [s_p, q]
theorem cf_p {S : s_T} {t i j v : Nat} (h : t ≠ 1 ∧ t ≠ 8 ∧ t ≠ 9 ∧ t ≠ 10 ∧ t ≠ 11) : s_cf S (s_p S t i j v) := ⟨s_p_t (Ne.symm h.1), s_p_t (Ne.symm h.2.1), s_p_t (Ne.symm h.2.2.1), s_p_t (Ne.symm h.2.2.2.1), s_p_t (Ne.symm h.2.2.2.2)⟩
theorem cf_h {S : s_T} {h : Nat} {f : Nat → Nat} : s_cf S (s_h S h f) := ⟨s_h_t (by decide), s_h_t (by decide), s_h_t (by decide), s_h_t (by decide), s_h_t (by decide)⟩
theorem cf_r (S : s_T) : s_cf S S := ⟨rfl, rfl, rfl, rfl, rfl⟩
theorem cf_t {S S1 S2 : s_T} (a : s_cf S S1) (b : s_cf S1 S2) : s_cf S S2 := ⟨b.1.trans a.1, b.2.1.trans a.2.1, b.2.2.1.trans a.2.2.1, b.2.2.2.1.trans a.2.2.2.1, b.2.2.2.2.trans a.2.2.2.2⟩

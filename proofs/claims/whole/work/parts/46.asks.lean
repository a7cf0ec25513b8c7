/-! WHAT THE OBJECT ANSWERS: (0, value), or (which exception of the method's own, 0) -/
def ix (y : Int32) : Nat → Option Nat
  | 0 => none
  | n + 1 => if y = nI n then some n else ix y n
theorem ix_cases (y : Int32) : ∀ (n : Nat), n < 2147483648 → (∃ i, i < n ∧ y = nI i ∧ ix y n = some i) ∨ ((∀ i, i < n → ¬ y = nI i) ∧ ix y n = none)
  | 0, _ => Or.inr ⟨fun i hi => absurd hi (Nat.not_lt_zero _), rfl⟩
  | n + 1, h => by
    have e : ix y (n + 1) = if y = nI n then some n else ix y n := rfl
    by_cases c : y = nI n
    · exact Or.inl ⟨n, by omega, c, by rw [e, if_pos c]⟩
    · rcases ix_cases y n (by omega) with ⟨i, hi, h1, h2⟩ | ⟨h1, h2⟩
      · exact Or.inl ⟨i, by omega, h1, by rw [e, if_neg c]; exact h2⟩
      · refine Or.inr ⟨fun i hi => ?_, by rw [e, if_neg c]; exact h2⟩
        by_cases ci : i = n
        · rw [ci]; exact c
        · exact h1 i (by omega)
theorem ix_nI {i n : Nat} (h : i < n) (hn : n < 2147483648) : ix (nI i) n = some i := by
  rcases ix_cases (nI i) n hn with ⟨j, hj, h1, h2⟩ | ⟨h1, h2⟩
  · rw [h2, (nI_eq (by omega) (by omega)).mp h1]
  · exact absurd rfl (h1 i h)
abbrev q_An : Type := Nat × Int32
def a_line (S : s_T) (y : Int32) : Int32 := match ix y 11 with
  | none => -1
  | some w => nI (if w = 0 then S 8 0 0 else if w = 1 then S 8 1 0 else if w = 2 then S 8 2 0 else if w = 3 then S 2 0 0 else if w = 4 then S 2 10 0 else if w = 5 then o_belt S else if w = 6 then S 2 11 0 else if w = 7 then S 2 1 0 else if w = 8 then S 2 4 0 else if w = 9 then S 2 5 0 else S 2 6 0)
def a_setting (S : s_T) (y : Int32) : q_An := match ix y 8 with
  | none => (1, 0)
  | some i => (0, nI (S 1 i 0))
def a_station (S : s_T) (x y : Int32) : q_An := match ix x (S 8 1 0) with
  | none => (1, 0)
  | some s => match ix y 11 with
    | none => (2, 0)
    | some w => (0, if w = 8 ∧ S 4 s 0 = 0 then -1 else nI (if w = 0 then S 9 s 0 else if w = 1 then S 5 s 0 else if w = 2 then S 9 s 1 else if w = 3 then S 9 s 2 else if w = 4 then S 5 s 1 else if w = 5 then o_cap S s else if w = 6 then s6 (S 0 (3 + s)) else if w = 7 then s6 (S 0 (11 + s)) else if w = 8 then S 4 s 0 - 1 else if w = 9 then S 5 s 2 else S 5 s 3))
def a_mass (S : s_T) (x y : Int32) : q_An := match ix x 47 with
  | none => (1, 0)
  | some p => match ix y (S 8 0 0) with
    | none => (2, 0)
    | some m => (0, nI (if p = 46 then S 0 0 m else if 16 ≤ p then (if p - 16 < S 2 10 0 then S 0 (19 + (p - 16)) m else 0) else if 8 ≤ p then (if p - 8 < S 8 1 0 then S 0 (11 + (p - 8)) m else 0) else if p < S 8 1 0 then S 0 (3 + p) m else 0))
def a_bale (S : s_T) (x y : Int32) : q_An := match ix x (S 2 11 0) with
  | none => (1, 0)
  | some b => match ix y (5 + S 8 0 0) with
    | none => (2, 0)
    | some w => (0, nI (if w = 0 then S 6 b 0 else if w = 1 then S 6 b 1 else if w = 2 then s6 (S 0 (49 + b)) else if w = 3 then S 6 b 2 else if w = 4 then S 6 b 3 else S 0 (49 + b) (w - 5)))
def a_buyer (S : s_T) (x y : Int32) : q_An := match ix x (S 8 2 0) with
  | none => (1, 0)
  | some b => match ix y 6 with
    | none => (2, 0)
    | some w => (0, nI (if w = 5 then S 7 b 0 else S 10 b w))
def a_balance (S : s_T) (y : Int32) : Int64 := match ix y 8 with
  | none => -1
  | some w => (nI (if w = 0 then S 2 7 0 else if w = 1 then o_hmass S else if w = 2 then o_bmass S else if w = 3 then o_kmass S else if w = 4 then o_smass S else if w = 5 then S 2 8 0 else if w = 6 then s6 (S 0 0) else S 2 9 0)).toInt64
section ASK
variable {G : q_G} {X : String → q_H → Prop} {A : q_H} {t : l_T} {S : s_T} {rl : Nat}
theorem C_line {f : Int32 → q_H → Prop} {y : Int32} (z : q_sh A rl = (11, 0)) (r : q_R A rl 2 = some (l_a t)) (p : Lp A A t S) (q : iv S) (k : f (a_line S y) A) : q_Wc G M_X10_line [.ref rl, .int y] A (q_KI f) X := by
  have ea : ∀ w, w < 11 → y = nI w → a_line S y = nI (if w = 0 then S 8 0 0 else if w = 1 then S 8 1 0 else if w = 2 then S 8 2 0 else if w = 3 then S 2 0 0 else if w = 4 then S 2 10 0 else if w = 5 then o_belt S else if w = 6 then S 2 11 0 else if w = 7 then S 2 1 0 else if w = 8 then S 2 4 0 else if w = 9 then S 2 5 0 else S 2 6 0) := fun w hw e => by
    rw [e]; unfold a_line; rw [ix_nI hw (by decide)]
  refine f_X10_line ⟨fun e => ?_, fun e => ?_, fun e => ?_, fun e => ?_, fun e => ?_, fun e => ?_, fun e => ?_, fun e => ?_, fun e => ?_, fun e => ?_, fun e => ?_, fun hn => ?_⟩
  · rw [ea 0 (by decide) e] at k; exact ⟨z, _, r, p.line, by rw [p.mats]; exact k⟩
  · rw [ea 1 (by decide) e] at k; exact ⟨z, _, r, p.line, by rw [p.nst]; exact k⟩
  · rw [ea 2 (by decide) e] at k; exact ⟨z, _, r, p.line, by rw [p.nby]; exact k⟩
  · rw [ea 3 (by decide) e] at k; exact ⟨z, _, r, p.line, _, p.r9, p.z220, by rw [p.tal (by decide)]; exact k⟩
  · rw [ea 4 (by decide) e] at k; exact ⟨z, _, r, p.line, _, p.r6, p.z4, by rw [p.wait]; exact k⟩
  · rw [ea 5 (by decide) e] at k; exact ⟨z, _, r, p.line, L_belt p q.2.2.2.1 k⟩
  · rw [ea 6 (by decide) e] at k; exact ⟨z, _, r, p.line, _, p.r7, p.z96, by rw [p.stock]; exact k⟩
  · rw [ea 7 (by decide) e] at k; exact ⟨z, _, r, p.line, _, p.r9, p.z220, by rw [p.tal (by decide)]; exact k⟩
  · rw [ea 8 (by decide) e] at k; exact ⟨z, _, r, p.line, _, p.r9, p.z220, by rw [p.tal (by decide)]; exact k⟩
  · rw [ea 9 (by decide) e] at k; exact ⟨z, _, r, p.line, _, p.r9, p.z220, by rw [p.tal (by decide)]; exact k⟩
  · rw [ea 10 (by decide) e] at k; exact ⟨z, _, r, p.line, _, p.r9, p.z220, by rw [p.tal (by decide)]; exact k⟩
  · rcases ix_cases y 11 (by decide) with ⟨i, hi, h1, -⟩ | ⟨-, h2⟩
    · exact absurd h1 (hn i hi)
    · have : a_line S y = -1 := by unfold a_line; rw [h2]
      rw [this] at k; exact k
theorem C_setting {f : Int32 → q_H → Prop} {y : Int32} (z : q_sh A rl = (11, 0)) (r : q_R A rl 2 = some (l_a t)) (p : Lp A A t S) (k0 : (a_setting S y).1 = 0 → f (a_setting S y).2 A) (k1 : (a_setting S y).1 = 1 → ∀ z, q_sz A ≤ z → X "java/lang/IndexOutOfBoundsException" (q_grow A z)) : q_Wc G M_X10_setting [.ref rl, .int y] A (q_KI f) X := by
  rcases ix_cases y 8 (by decide) with ⟨i, hi, e, h⟩ | ⟨hn, h⟩
  · have ea : a_setting S y = (0, nI (S 1 i 0)) := by unfold a_setting; rw [h]
    rw [ea] at k0
    subst e
    exact f_X10_setting ⟨fun c => absurd c (nI_pos (by omega)), fun _ => ⟨fun _ => ⟨z, _, r, p.line, _, p.r1, 8, p.z1, by decide, i, rfl, hi, by rw [p.set hi]; exact k0 rfl⟩, fun c => absurd (nI_lt hi (by decide)) c⟩⟩
  · have ea : a_setting S y = (1, 0) := by unfold a_setting; rw [h]
    rw [ea] at k1
    refine f_X10_setting ⟨fun _ => k1 rfl, fun c => ⟨fun c2 => ?_, fun _ => k1 rfl⟩⟩
    rcases pk_ix y (n := 8) (by decide) with c3 | c3 | ⟨j, hj, e⟩
    · exact absurd c3 c
    · exact absurd c2 (Int32.not_lt.mpr c3)
    · exact absurd e (hn j hj)
theorem C_station {f : Int32 → q_H → Prop} {x y : Int32} (z : q_sh A rl = (11, 0)) (r : q_R A rl 2 = some (l_a t)) (p : Lp A A t S) (q : iv S) (k0 : (a_station S x y).1 = 0 → f (a_station S x y).2 A) (k1 : (a_station S x y).1 = 1 → ∀ z, q_sz A ≤ z → X "java/lang/IndexOutOfBoundsException" (q_grow A z)) (k2 : (a_station S x y).1 = 2 → ∀ z, q_sz A ≤ z → X "java/lang/IllegalArgumentException" (q_grow A z)) : q_Wc G M_X10_station [.ref rl, .int x, .int y] A (q_KI f) X := by
  have hb := p.b
  unfold Lb at hb
  refine f_X10_station ⟨z, _, r, p.line, L_stationAt p (fun s hs e => ?_) (fun hn => ?_)⟩
  · have h := ix_nI hs (by omega)
    have hs8 := p.nst8 hs
    have q1 := q.1.2.2.2.2.2.1 s hs
    have q2 := q.2.2.2.1 s hs
    rw [e] at k0 k2
    refine ⟨fun e2 => (by cases e2), fun r5 e5 => ?_⟩
    cases e5
    have ea : ∀ w, w < 11 → y = nI w → a_station S (nI s) y = (0, if w = 8 ∧ S 4 s 0 = 0 then -1 else nI (if w = 0 then S 9 s 0 else if w = 1 then S 5 s 0 else if w = 2 then S 9 s 1 else if w = 3 then S 9 s 2 else if w = 4 then S 5 s 1 else if w = 5 then o_cap S s else if w = 6 then s6 (S 0 (3 + s)) else if w = 7 then s6 (S 0 (11 + s)) else if w = 8 then S 4 s 0 - 1 else if w = 9 then S 5 s 2 else S 5 s 3)) := fun w hw ey => by
      rw [ey]; unfold a_station; rw [h, ix_nI hw (by decide)]
    have zs := p.zs hs8
    refine ⟨fun ey => ?_, fun ey => ?_, fun ey => ?_, fun ey => ?_, fun ey => ?_, fun ey => ?_, fun ey => ?_, fun ey => ?_, fun ey => ?_, fun ey => ?_, fun ey => ?_, fun hn => ?_⟩
    · rw [ea 0 (by decide) ey] at k0; exact ⟨zs, by rw [p.tg hs]; exact k0 rfl⟩
    · rw [ea 1 (by decide) ey] at k0; exact ⟨zs, by rw [p.pk hs]; exact k0 rfl⟩
    · rw [ea 2 (by decide) ey] at k0; exact ⟨zs, by rw [p.ra hs]; exact k0 rfl⟩
    · rw [ea 3 (by decide) ey] at k0; exact ⟨zs, by rw [p.er hs]; exact k0 rfl⟩
    · rw [ea 4 (by decide) ey] at k0; exact ⟨zs, by rw [p.ti hs]; exact k0 rfl⟩
    · rw [ea 5 (by decide) ey] at k0; exact ⟨zs, L_capacity p hs q2.1 q1.2.2.1 q2.2.1 (k0 rfl)⟩
    · rw [ea 6 (by decide) ey] at k0; exact ⟨zs, _, p.rbn hs8, p.zh (by omega), by rw [p.t (lv_bun hs)]; exact k0 rfl⟩
    · rw [ea 7 (by decide) ey] at k0; exact ⟨zs, _, p.rs7 hs8, p.zsl hs8, _, p.rsl hs8, p.zh (by omega), by rw [p.t (lv_slot hs)]; exact k0 rfl⟩
    · rw [ea 8 (by decide) ey] at k0
      refine ⟨zs, L_isSlotEmpty p hs (by omega) fun b hb2 => ⟨fun e1 => ?_, fun e1 => ?_⟩⟩
      · have : S 4 s 0 = 0 := q2.2.2.2.2.mpr (hb2.mp e1)
        rw [if_pos ⟨rfl, this⟩] at k0
        exact k0 rfl
      · have h0 : S 4 s 0 ≠ 0 := fun c => by rw [hb2.mpr (q2.2.2.2.2.mp c)] at e1; cases e1
        rw [if_neg (fun c => h0 c.2)] at k0
        exact ⟨zs, _, p.rs7 hs8, p.zsl hs8, by rw [p.rnd hs h0]; exact k0 rfl⟩
    · rw [ea 9 (by decide) ey] at k0; exact ⟨zs, by rw [p.ba hs]; exact k0 rfl⟩
    · rw [ea 10 (by decide) ey] at k0; exact ⟨zs, by rw [p.pd hs]; exact k0 rfl⟩
    · rcases ix_cases y 11 (by decide) with ⟨i, hi, h1, -⟩ | ⟨-, h2⟩
      · exact absurd h1 (hn i hi)
      · have : a_station S (nI s) y = (2, 0) := by unfold a_station; rw [h, h2]
        rw [this] at k2; exact k2 rfl
  · rcases ix_cases x (S 8 1 0) (by omega) with ⟨i, hi, h1, -⟩ | ⟨-, h2⟩
    · exact absurd h1 (hn i hi)
    · have : a_station S x y = (1, 0) := by unfold a_station; rw [h2]
      rw [this] at k1
      exact ⟨fun _ => k1 rfl, fun r5 e5 => by cases e5⟩
theorem C_mass {f : Int32 → q_H → Prop} {x y : Int32} (z : q_sh A rl = (11, 0)) (r : q_R A rl 2 = some (l_a t)) (p : Lp A A t S) (q : iv S) (k0 : (a_mass S x y).1 = 0 → f (a_mass S x y).2 A) (k1 : (a_mass S x y).1 = 1 → ∀ z, q_sz A ≤ z → X "java/lang/IllegalArgumentException" (q_grow A z)) (k2 : (a_mass S x y).1 = 2 → ∀ z, q_sz A ≤ z → X "java/lang/IndexOutOfBoundsException" (q_grow A z)) : q_Wc G M_X10_mass [.ref rl, .int x, .int y] A (q_KI f) X := by
  have h6 := q.1.2.1
  rcases ix_cases x 47 (by decide) with ⟨i, hi, e, h⟩ | ⟨hn, h⟩
  · subst e
    refine f_X10_mass ⟨fun c => absurd c (nI_pos (by omega)), fun _ => ⟨fun _ => ⟨z, _, r, p.line, L_hasMat p h6 (fun m hm ey => ⟨fun _ => ⟨z, _, r, p.line, L_heapAt p (by omega) fun o ho => ?_⟩, fun e2 => (by cases e2)⟩) (fun hm => ⟨fun e2 => (by cases e2), fun _ => ?_⟩)⟩, fun c => absurd (nI_le (by omega) (by decide)) c⟩⟩
    · subst ey
      have hm6 : m < 6 := by omega
      have ea : a_mass S (nI i) (nI m) = (0, nI (if i = 46 then S 0 0 m else if 16 ≤ i then (if i - 16 < S 2 10 0 then S 0 (19 + (i - 16)) m else 0) else if 8 ≤ i then (if i - 8 < S 8 1 0 then S 0 (11 + (i - 8)) m else 0) else if i < S 8 1 0 then S 0 (3 + i) m else 0)) := by
        unfold a_mass; rw [h, ix_nI hm (by omega)]
      rw [ea] at k0
      have kk := k0 rfl
      have zh : ∀ u, lv S u → q_sh A (ha t u) = (3, 0) ∧ (∀ f' : Int32 → q_H → Prop, f' (nI (S 0 u m)) A → q_Wc G M_X2_of [.ref (ha t u), .int (nI m)] A (q_KI f') q_nX) := fun u hu => ⟨p.zh (lv_89 p.b hu), fun f' k' => L_of p hu hm6 k'⟩
      by_cases c1 : i = 46
      · rw [if_pos c1] at ho kk
        subst ho
        exact ⟨fun e => (by cases e), fun r15 e15 => by cases e15; exact ⟨(zh 0 (Or.inl (by decide))).1, (zh 0 (Or.inl (by decide))).2 _ kk⟩⟩
      · rw [if_neg c1] at ho kk
        by_cases c2 : 16 ≤ i
        · rw [if_pos c2] at ho kk
          by_cases c3 : i - 16 < S 2 10 0
          · rw [if_pos c3] at ho kk
            subst ho
            exact ⟨fun e => (by cases e), fun r15 e15 => by cases e15; exact ⟨(zh _ (lv_par c3)).1, (zh _ (lv_par c3)).2 _ kk⟩⟩
          · rw [if_neg c3] at ho kk
            subst ho
            exact ⟨fun _ => kk, fun r15 e15 => by cases e15⟩
        · rw [if_neg c2] at ho kk
          by_cases c4 : 8 ≤ i
          · rw [if_pos c4] at ho kk
            by_cases c3 : i - 8 < S 8 1 0
            · rw [if_pos c3] at ho kk
              subst ho
              exact ⟨fun e => (by cases e), fun r15 e15 => by cases e15; exact ⟨(zh _ (lv_slot c3)).1, (zh _ (lv_slot c3)).2 _ kk⟩⟩
            · rw [if_neg c3] at ho kk
              subst ho
              exact ⟨fun _ => kk, fun r15 e15 => by cases e15⟩
          · rw [if_neg c4] at ho kk
            by_cases c3 : i < S 8 1 0
            · rw [if_pos c3] at ho kk
              subst ho
              exact ⟨fun e => (by cases e), fun r15 e15 => by cases e15; exact ⟨(zh _ (lv_bun c3)).1, (zh _ (lv_bun c3)).2 _ kk⟩⟩
            · rw [if_neg c3] at ho kk
              subst ho
              exact ⟨fun _ => kk, fun r15 e15 => by cases e15⟩
    · rcases ix_cases y (S 8 0 0) (by omega) with ⟨j, hj, h1, -⟩ | ⟨-, h2⟩
      · exact absurd h1 (hm j hj)
      · have : a_mass S (nI i) y = (2, 0) := by unfold a_mass; rw [h, h2]
        rw [this] at k2; exact k2 rfl
  · have ea : a_mass S x y = (1, 0) := by unfold a_mass; rw [h]
    rw [ea] at k1
    refine f_X10_mass ⟨fun _ => k1 rfl, fun c => ⟨fun c2 => ?_, fun _ => k1 rfl⟩⟩
    rcases pk_ix x (n := 47) (by decide) with c3 | c3 | ⟨j, hj, e⟩
    · exact absurd c3 c
    · exact absurd (Int32.le_trans c3 c2) (by decide)
    · exact absurd e (hn j hj)
end ASK

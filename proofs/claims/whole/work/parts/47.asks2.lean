/-! what else is asked -/
theorem nn64 (a : Int32) {b : Int32} (h : b ≠ 0) : vf_n64 (FP.ddiv (FP.i2d a) (FP.i2d b)) := Jvm.Free.Fl.ddiv_out (Jvm.Free.Fl.i2d_fin a).noNaN (Jvm.Free.Fl.i2d_fin b) (Jvm.Free.Fl.i2d_nz h)
theorem nn32 (a : Int32) {b : Int32} (h : b ≠ 0) : vf_n32 (FP.fdiv (FP.i2f a) (FP.i2f b)) := Jvm.Free.Fl.fdiv_out (Jvm.Free.Fl.i2f_fin a).noNaN (Jvm.Free.Fl.i2f_fin b) (Jvm.Free.Fl.i2f_nz h)
def a_purity (S : s_T) (y : Int32) : Nat × UInt64 := match ix y (S 8 0 0) with
  | none => (1, FP.dconst0)
  | some m => (0, if S 0 1 m = 0 then FP.dconst0 else FP.ddiv (FP.i2d (nI (S 0 2 m))) (FP.i2d (nI (S 0 1 m))))
def a_loss (S : s_T) : UInt32 := if s6 (S 0 0) + s6 (S 0 1) = 0 then FP.fconst0 else FP.fdiv (FP.i2f (nI (s6 (S 0 0)))) (FP.i2f (nI (s6 (S 0 0) + s6 (S 0 1))))
abbrev p_tk (S : s_T) (y b : Nat) : Prop := S 6 b 1 = S 10 y 0 ∧ S 6 b 3 ≤ S 10 y 1
abbrev p_bk (S : s_T) (y b : Nat) : Prop := S 10 y 4 < 100 - S 6 b 2
def p_py (S : s_T) (y b : Nat) : Nat := p_pay (S 10 y 2) (S 6 b 2) (S 6 b 3) (S 10 y 3) (S 1 7 0)
/-- the buyer who pays most, + 1 -/
def o_bb (S : s_T) (b : Nat) : Nat → Nat
  | 0 => 0
  | n + 1 => if p_tk S n b ∧ ¬ p_bk S n b ∧ (o_bb S b n = 0 ∨ p_py S (o_bb S b n - 1) b < p_py S n b) then n + 1 else o_bb S b n
def a_bestBuyer (S : s_T) (x : Int32) : q_An := match ix x (S 2 11 0) with
  | none => (1, 0)
  | some b => (0, mb (o_bb S b (S 8 2 0)))
theorem bb_le (S : s_T) (b : Nat) : ∀ n, o_bb S b n ≤ n
  | 0 => Nat.le_refl _
  | n + 1 => by
    have := bb_le S b n
    unfold o_bb
    split <;> omega
theorem py_le (S : s_T) (y b : Nat) (h : S 10 y 2 ≤ 9999) : p_py S y b ≤ 9999 := by
  have := worth_le (S 10 y 2) (S 6 b 3)
  unfold p_py p_pay
  split <;> omega
section ASK2
variable {G : q_G} {X : String → q_H → Prop} {A : q_H} {t : l_T} {S : s_T} {rl : Nat}
theorem C_bale {f : Int32 → q_H → Prop} {x y : Int32} (z : q_sh A rl = (11, 0)) (r : q_R A rl 2 = some (l_a t)) (p : Lp A A t S) (q : iv S) (k0 : (a_bale S x y).1 = 0 → f (a_bale S x y).2 A) (k1 : (a_bale S x y).1 = 1 → ∀ z, q_sz A ≤ z → X "java/lang/IndexOutOfBoundsException" (q_grow A z)) (k2 : (a_bale S x y).1 = 2 → ∀ z, q_sz A ≤ z → X "java/lang/IllegalArgumentException" (q_grow A z)) : q_Wc G M_X10_bale [.ref rl, .int x, .int y] A (q_KI f) X := by
  have hb := p.b
  unfold Lb at hb
  have h6 := q.1.2.1
  refine f_X10_bale ⟨z, _, r, p.line, _, p.r7, p.z96, L_baleAt p (fun b hb1 e => ?_) (fun hn => ?_)⟩
  · have h := ix_nI hb1 (by omega)
    have zb : q_sh A (l_b t b) = (1, 0) := (p.kb (by omega)).1
    rw [e] at k0 k2
    refine ⟨fun e2 => (by cases e2), fun r5 e5 => ?_⟩
    cases e5
    have ea : ∀ w, w < 5 + S 8 0 0 → y = nI w → a_bale S (nI b) y = (0, nI (if w = 0 then S 6 b 0 else if w = 1 then S 6 b 1 else if w = 2 then s6 (S 0 (49 + b)) else if w = 3 then S 6 b 2 else if w = 4 then S 6 b 3 else S 0 (49 + b) (w - 5))) := fun w hw ey => by
      rw [ey]; unfold a_bale; rw [h, ix_nI hw (by omega)]
    have bad : (∀ w, w < 5 + S 8 0 0 → ¬ y = nI w) → ∀ z, q_sz A ≤ z → X "java/lang/IllegalArgumentException" (q_grow A z) := fun hn => by
      rcases ix_cases y (5 + S 8 0 0) (by omega) with ⟨i, hi, h1, -⟩ | ⟨-, h2⟩
      · exact absurd h1 (hn i hi)
      · have : a_bale S (nI b) y = (2, 0) := by unfold a_bale; rw [h, h2]
        rw [this] at k2; exact k2 rfl
    refine ⟨fun ey => ?_, fun ey => ?_, fun ey => ?_, fun ey => ?_, fun ey => ?_, fun hn => ⟨fun c => bad fun w hw ey => ?_, fun c => ⟨z, _, r, p.line, ?_⟩⟩⟩
    · rw [ea 0 (by omega) ey] at k0; exact ⟨zb, by rw [p.bal hb1 (by decide)]; exact k0 rfl⟩
    · rw [ea 1 (by omega) ey] at k0; exact ⟨zb, by rw [p.bal hb1 (by decide)]; exact k0 rfl⟩
    · rw [ea 2 (by omega) ey] at k0; exact ⟨zb, _, p.rba (by omega), p.zh (by omega), by rw [p.t (lv_bal hb1)]; exact k0 rfl⟩
    · rw [ea 3 (by omega) ey] at k0; exact ⟨zb, by rw [p.bal hb1 (by decide)]; exact k0 rfl⟩
    · rw [ea 4 (by omega) ey] at k0; exact ⟨zb, by rw [p.bal hb1 (by decide)]; exact k0 rfl⟩
    · rw [ey] at c; exact nI_pos (by omega) c
    · refine L_hasMat p h6 (fun m hm em => ⟨fun _ => ?_, fun e2 => (by cases e2)⟩) (fun hm => ⟨fun e2 => (by cases e2), fun _ => bad fun w hw ey => ?_⟩)
      · have ey : y = nI (m + 5) := by
          have : y - nI 5 + nI 5 = nI m + nI 5 := by rw [em]
          rw [nI_add, Int32.sub_add_cancel] at this
          exact this
        rw [ea (m + 5) (by omega) ey, if_neg (by omega), if_neg (by omega), if_neg (by omega), if_neg (by omega), if_neg (by omega), show m + 5 - 5 = m by omega] at k0
        rw [em]
        exact ⟨zb, _, p.rba (by omega), p.zh (by omega), L_of p (lv_bal hb1) (by omega) (k0 rfl)⟩
      · by_cases c5 : w < 5
        · exact hn w c5 ey
        · refine hm (w - 5) (by omega) ?_
          rw [ey, pk_sub (by omega)]
  · rcases ix_cases x (S 2 11 0) (by omega) with ⟨i, hi, h1, -⟩ | ⟨-, h2⟩
    · exact absurd h1 (hn i hi)
    · have : a_bale S x y = (1, 0) := by unfold a_bale; rw [h2]
      rw [this] at k1
      exact ⟨fun _ => k1 rfl, fun r5 e5 => by cases e5⟩
theorem C_buyer {f : Int32 → q_H → Prop} {x y : Int32} (z : q_sh A rl = (11, 0)) (r : q_R A rl 2 = some (l_a t)) (p : Lp A A t S) (k0 : (a_buyer S x y).1 = 0 → f (a_buyer S x y).2 A) (k1 : (a_buyer S x y).1 = 1 → ∀ z, q_sz A ≤ z → X "java/lang/IndexOutOfBoundsException" (q_grow A z)) (k2 : (a_buyer S x y).1 = 2 → ∀ z, q_sz A ≤ z → X "java/lang/IllegalArgumentException" (q_grow A z)) : q_Wc G M_X10_buyer [.ref rl, .int x, .int y] A (q_KI f) X := by
  have hb := p.b
  unfold Lb at hb
  refine f_X10_buyer ⟨z, _, r, p.line, L_buyerAt p (fun b hb1 e => ?_) (fun hn => ?_)⟩
  · have h := ix_nI hb1 (by omega)
    have zb := p.zb (b := b) (by omega)
    rw [e] at k0 k2
    refine ⟨fun e2 => (by cases e2), fun r5 e5 => ?_⟩
    cases e5
    have ea : ∀ w, w < 6 → y = nI w → a_buyer S (nI b) y = (0, nI (if w = 5 then S 7 b 0 else S 10 b w)) := fun w hw ey => by
      rw [ey]; unfold a_buyer; rw [h, ix_nI hw (by decide)]
    refine ⟨fun ey => ?_, fun ey => ?_, fun ey => ?_, fun ey => ?_, fun ey => ?_, fun ey => ?_, fun hn => ?_⟩
    · rw [ea 0 (by decide) ey] at k0; exact ⟨zb, by rw [p.buy hb1 (j := 0) (by decide)]; exact k0 rfl⟩
    · rw [ea 1 (by decide) ey] at k0; exact ⟨zb, by rw [p.buy hb1 (j := 1) (by decide)]; exact k0 rfl⟩
    · rw [ea 2 (by decide) ey] at k0; exact ⟨zb, by rw [p.buy hb1 (j := 2) (by decide)]; exact k0 rfl⟩
    · rw [ea 3 (by decide) ey] at k0; exact ⟨zb, by rw [p.buy hb1 (j := 3) (by decide)]; exact k0 rfl⟩
    · rw [ea 4 (by decide) ey] at k0; exact ⟨zb, by rw [p.buy hb1 (j := 4) (by decide)]; exact k0 rfl⟩
    · rw [ea 5 (by decide) ey] at k0; exact ⟨zb, by rw [p.paid hb1]; exact k0 rfl⟩
    · rcases ix_cases y 6 (by decide) with ⟨i, hi, h1, -⟩ | ⟨-, h2⟩
      · exact absurd h1 (hn i hi)
      · have : a_buyer S (nI b) y = (2, 0) := by unfold a_buyer; rw [h, h2]
        rw [this] at k2; exact k2 rfl
  · rcases ix_cases x (S 8 2 0) (by omega) with ⟨i, hi, h1, -⟩ | ⟨-, h2⟩
    · exact absurd h1 (hn i hi)
    · have : a_buyer S x y = (1, 0) := by unfold a_buyer; rw [h2]
      rw [this] at k1
      exact ⟨fun _ => k1 rfl, fun r5 e5 => by cases e5⟩
theorem C_balance {f : Int64 → q_H → Prop} {y : Int32} (z : q_sh A rl = (11, 0)) (r : q_R A rl 2 = some (l_a t)) (p : Lp A A t S) (k : f (a_balance S y) A) : q_Wc G M_X10_balance [.ref rl, .int y] A (q_KL f) X := by
  have ea : ∀ w, w < 8 → y = nI w → a_balance S y = (nI (if w = 0 then S 2 7 0 else if w = 1 then o_hmass S else if w = 2 then o_bmass S else if w = 3 then o_kmass S else if w = 4 then o_smass S else if w = 5 then S 2 8 0 else if w = 6 then s6 (S 0 0) else S 2 9 0)).toInt64 := fun w hw e => by
    rw [e]; unfold a_balance; rw [ix_nI hw (by decide)]
  refine f_X10_balance ⟨fun e => ?_, fun e => ?_, fun e => ?_, fun e => ?_, fun e => ?_, fun e => ?_, fun e => ?_, fun e => ?_, fun hn => ?_⟩
  · rw [ea 0 (by decide) e] at k; exact ⟨z, _, r, p.line, _, p.r9, p.z220, by rw [p.tal (by decide)]; exact k⟩
  · rw [ea 1 (by decide) e] at k; exact ⟨z, _, r, p.line, _, p.r6, p.z4, L_hmass p k⟩
  · rw [ea 2 (by decide) e] at k; exact ⟨z, _, r, p.line, L_bmass p k⟩
  · rw [ea 3 (by decide) e] at k; exact ⟨z, _, r, p.line, L_kmass p k⟩
  · rw [ea 4 (by decide) e] at k; exact ⟨z, _, r, p.line, _, p.r7, p.z96, L_smass p k⟩
  · rw [ea 5 (by decide) e] at k; exact ⟨z, _, r, p.line, _, p.r9, p.z220, by rw [p.tal (by decide)]; exact k⟩
  · rw [ea 6 (by decide) e] at k
    have e0 : q_I A (l_a t + 218) 1 = nI (s6 (S 0 0)) := p.t (x := 0) (Or.inl (by decide))
    exact ⟨z, _, r, p.line, _, p.r8, p.k218.1, by rw [e0]; exact k⟩
  · rw [ea 7 (by decide) e] at k; exact ⟨z, _, r, p.line, _, p.r9, p.z220, by rw [p.tal (by decide)]; exact k⟩
  · rcases ix_cases y 8 (by decide) with ⟨i, hi, h1, -⟩ | ⟨-, h2⟩
    · exact absurd h1 (hn i hi)
    · have : a_balance S y = -1 := by unfold a_balance; rw [h2]
      rw [this] at k; exact k
theorem C_purity {f : UInt64 → q_H → Prop} {y : Int32} (z : q_sh A rl = (11, 0)) (r : q_R A rl 2 = some (l_a t)) (p : Lp A A t S) (q : iv S) (ht : S 2 0 0 ≤ 9999) (k0 : (a_purity S y).1 = 0 → f (a_purity S y).2 A) (k1 : (a_purity S y).1 = 1 → ∀ z, q_sz A ≤ z → X "java/lang/IndexOutOfBoundsException" (q_grow A z)) : q_Wc G M_X10_purity [.ref rl, .int y] A (q_KD f) X := by
  have h6 := q.1.2.1
  refine f_X10_purity ⟨z, _, r, p.line, L_hasMat p h6 (fun m hm e => ⟨fun _ => ?_, fun e2 => (by cases e2)⟩) (fun hn => ⟨fun e2 => (by cases e2), fun _ => ?_⟩)⟩
  · subst e
    have hm6 : m < 6 := by omega
    have qm := q.2.2.2.2.2.2.2
    have b1 := s6_at (S 0 1) hm6
    have b2 : s6 (S 0 1) ≤ 500 * S 2 1 0 := qm.2.2.2
    have b3 : S 2 1 0 ≤ 40 * S 2 0 0 := qm.2.2.1
    have ea : a_purity S (nI m) = (0, if S 0 1 m = 0 then FP.dconst0 else FP.ddiv (FP.i2d (nI (S 0 2 m))) (FP.i2d (nI (S 0 1 m)))) := by
      unfold a_purity; rw [ix_nI hm (by omega)]
    rw [ea] at k0
    have kk := k0 rfl
    have g1 : ha t 1 = l_a t + 221 := rfl
    have g2 : ha t 2 = l_a t + 223 := rfl
    refine ⟨z, _, r, p.line, _, p.r10, p.k221.1, L_of (x := 1) p (Or.inl (by decide)) hm6 ⟨z, _, r, p.line, _, p.r11, p.k223.1, L_of (x := 2) p (Or.inl (by decide)) hm6 ⟨fun c => ?_, fun c => ?_⟩⟩⟩
    · have : S 0 1 m = 0 := Nat.le_zero.mp ((nI_leI (by omega) (by decide)).mp c)
      rw [if_pos this] at kk; exact kk
    · have h0 : S 0 1 m ≠ 0 := fun e => c (by rw [e]; exact nI_le (Nat.le_refl _) (by decide))
      rw [if_neg h0] at kk
      exact ⟨nn64 _ (fun e => h0 ((nI_eq (b := 0) (by omega) (by decide)).mp e)), kk⟩
  · rcases ix_cases y (S 8 0 0) (by omega) with ⟨i, hi, h1, -⟩ | ⟨-, h2⟩
    · exact absurd h1 (hn i hi)
    · have : a_purity S y = (1, FP.dconst0) := by unfold a_purity; rw [h2]
      rw [this] at k1; exact k1 rfl
theorem C_loss {f : UInt32 → q_H → Prop} (z : q_sh A rl = (11, 0)) (r : q_R A rl 2 = some (l_a t)) (p : Lp A A t S) (q : iv S) (ht : S 2 0 0 ≤ 9999) (k : f (a_loss S) A) : q_Wc G M_X10_loss [.ref rl] A (q_KF f) X := by
  have qm := q.2.2.2.2.2.2.2
  have b0 : s6 (S 0 0) ≤ 200 * S 2 0 0 := qm.1
  have b2 : s6 (S 0 1) ≤ 500 * S 2 1 0 := qm.2.2.2
  have b3 : S 2 1 0 ≤ 40 * S 2 0 0 := qm.2.2.1
  have e0 : q_I A (l_a t + 218) 1 = nI (s6 (S 0 0)) := p.t (x := 0) (Or.inl (by decide))
  have e1 : q_I A (l_a t + 221) 1 = nI (s6 (S 0 1)) := p.t (x := 1) (Or.inl (by decide))
  refine f_X10_loss ⟨z, _, r, p.line, _, p.r8, p.k218.1, _, p.r10, p.k221.1, ?_⟩
  rw [e0, e1, nI_add]
  unfold a_loss at k
  refine ⟨fun c => ?_, fun c => ?_⟩
  · have : s6 (S 0 0) + s6 (S 0 1) = 0 := Nat.le_zero.mp ((nI_leI (by omega) (by decide)).mp c)
    rw [if_pos this] at k; exact k
  · have h0 : ¬ s6 (S 0 0) + s6 (S 0 1) = 0 := fun e => c (by rw [e]; exact nI_le (Nat.le_refl _) (by decide))
    rw [if_neg h0] at k
    exact ⟨nn32 _ (fun e => h0 ((nI_eq (b := 0) (by omega) (by decide)).mp e)), k⟩
theorem C_length {f : Int32 → q_H → Prop} {len : Nat} (z : q_sh A rl = (11, 0)) (e : q_I A rl 1 = nI len) (k : f (nI len) A) : q_Wc G M_X10_bufferLength [.ref rl] A (q_KI f) X := f_X10_bufferLength ⟨z, by rw [e]; exact k⟩
theorem w_bestBuyer {f : Int32 → q_H → Prop} {b : Nat} (z : q_sh A rl = (11, 0)) (r : q_R A rl 2 = some (l_a t)) (p : Lp A A t S) (q : iv S) (hb : b < S 2 11 0) (k : f (mb (o_bb S b (S 8 2 0))) A) : ∀ (d i : Nat), i + d = S 8 2 0 → q_Wp G M_X10_bestBuyer (q_KI f) X 0 0 34 [some (.ref rl), none, some (.ref (l_b t b)), some (.int (mb (o_bb S b i))), some (.int (if o_bb S b i = 0 then -1 else nI (p_py S (o_bb S b i - 1) b))), some (.int (nI i)), none, none] [] A
  | 0, i, e => by
    have hlb := p.b
    unfold Lb at hlb
    have ei : i = S 8 2 0 := by omega
    subst ei
    refine f_X10_bestBuyer_34 ⟨z, _, r, p.line, ?_⟩
    rw [p.nby]
    exact ⟨fun _ => ⟨⟨by decide, by decide⟩, k⟩, fun c => absurd (nI_le (Nat.le_refl _) (by omega)) c⟩
  | d + 1, i, e => by
    have hlb := p.b
    unfold Lb at hlb
    have hi : i < S 8 2 0 := by omega
    have ih := w_bestBuyer z r p q hb k d (i + 1) (by omega)
    have zb : q_sh A (l_b t b) = (1, 0) := (p.kb (by omega)).1
    have zy := p.zb (b := i) (by omega)
    have qy := q.1.2.2.2.2.2.2 i hi
    have qb := q.2.2.2.2.2.1 b hb
    have qs := q.2.1
    have q86 := q.1.2.1
    have hle := bb_le S b i
    have step : ∀ c : Prop, (c ↔ (p_tk S i b ∧ ¬ p_bk S i b ∧ (o_bb S b i = 0 ∨ p_py S (o_bb S b i - 1) b < p_py S i b))) → (c → o_bb S b (i + 1) = i + 1) ∧ (¬ c → o_bb S b (i + 1) = o_bb S b i) := fun c hc => ⟨fun h => if_pos (hc.mp h), fun h => if_neg (fun h2 => h (hc.mpr h2))⟩
    have st := step _ Iff.rfl
    refine f_X10_bestBuyer_34 ⟨z, _, r, p.line, ?_⟩
    rw [p.nby]
    refine ⟨fun c => absurd c (nI_ge hi (by omega)), fun _ => ⟨_, p.r4, 4, p.z3, by decide, i, rfl, by omega, _, p.rb (by omega), ⟨by decide, by decide⟩, zy, ?_⟩⟩
    rw [nI_add]
    refine c_takes zy zb (p.buy hi (j := 0) (by decide)) (p.buy hi (j := 1) (by decide)) (p.bal hb (j := 1) (by decide)) (p.bal hb (j := 3) (by decide)) (by omega) (by omega) (by omega) (by omega) ⟨fun c => ⟨⟨by decide, by decide⟩, zy, ?_⟩, fun c => ?_⟩
    · have c1 : p_tk S i b := of_decide_eq_true c
      refine c_sendsBack zy zb (p.buy hi (j := 4) (by decide)) (p.bal hb (j := 2) (by decide)) qy.2.2.2.2.2 qb.2.2.2.1 ⟨fun c2 => ?_, fun c2 => ⟨z, _, r, p.line, _, p.r1, 8, p.z1, by decide, by decide, ⟨by decide, by decide⟩, zy, ?_⟩⟩
      · have c3 : p_bk S i b := of_decide_eq_true c2
        rw [st.2 (fun h => h.2.1 c3)] at ih
        exact ih
      · have c3 : ¬ p_bk S i b := of_decide_eq_false c2
        rw [p.set (by decide)]
        refine c_payFor zy zb (p.buy hi (j := 2) (by decide)) (p.buy hi (j := 3) (by decide)) (p.bal hb (j := 2) (by decide)) (p.bal hb (j := 3) (by decide)) qy.2.2.2.1 qy.2.2.2.2.1 qb.2.2.2.1 (by omega) qs.2.2.2.2.2.2.2.2.2 ?_
        have hpy := py_le S i b qy.2.2.2.1
        show (nI (p_py S i b) ≤ _ → _) ∧ (¬ nI (p_py S i b) ≤ _ → _)
        by_cases c0 : o_bb S b i = 0
        · have up := st.1 ⟨c1, c3, Or.inl c0⟩
          rw [up] at ih
          rw [if_pos c0]
          refine ⟨fun c4 => absurd (Int32.le_trans (nI_pos' (n := p_py S i b) (by omega)) c4) (by decide), fun _ => ?_⟩
          simp only [mb, Nat.add_sub_cancel, Nat.add_eq_zero_iff, Nat.one_ne_zero, and_false, if_false] at ih
          exact ih
        · have hpy2 := py_le S (o_bb S b i - 1) b (q.1.2.2.2.2.2.2 (o_bb S b i - 1) (by omega)).2.2.2.1
          rw [if_neg c0]
          refine ⟨fun c4 => ?_, fun c4 => ?_⟩
          · have := (nI_leI (by omega) (by omega)).mp c4
            have up := st.2 (fun h => by have := h.2.2; omega)
            rw [up, if_neg c0] at ih
            exact ih
          · have : p_py S (o_bb S b i - 1) b < p_py S i b := Nat.lt_of_not_le fun h => c4 (nI_le h (by omega))
            have up := st.1 ⟨c1, c3, Or.inr this⟩
            rw [up] at ih
            simp only [mb, Nat.add_sub_cancel, Nat.add_eq_zero_iff, Nat.one_ne_zero, and_false, if_false] at ih
            exact ih
    · have c1 : ¬ p_tk S i b := of_decide_eq_false c
      rw [st.2 (fun h => c1 h.1)] at ih
      exact ih
theorem C_bestBuyer {f : Int32 → q_H → Prop} {x : Int32} (z : q_sh A rl = (11, 0)) (r : q_R A rl 2 = some (l_a t)) (p : Lp A A t S) (q : iv S) (k0 : (a_bestBuyer S x).1 = 0 → f (a_bestBuyer S x).2 A) (k1 : (a_bestBuyer S x).1 = 1 → ∀ z, q_sz A ≤ z → X "java/lang/IndexOutOfBoundsException" (q_grow A z)) : q_Wc G M_X10_bestBuyer [.ref rl, .int x] A (q_KI f) X := by
  have hlb := p.b
  unfold Lb at hlb
  refine f_X10_bestBuyer ⟨z, _, r, p.line, _, p.r7, p.z96, L_baleAt p (fun b hb e => ?_) (fun hn => ?_)⟩
  · subst e
    have : a_bestBuyer S (nI b) = (0, mb (o_bb S b (S 8 2 0))) := by unfold a_bestBuyer; rw [ix_nI hb (by omega)]
    rw [this] at k0
    refine ⟨fun e2 => (by cases e2), fun r5 e5 => ?_⟩
    cases e5
    exact w_bestBuyer z r p q hb (k0 rfl) (S 8 2 0) 0 (by omega)
  · rcases ix_cases x (S 2 11 0) (by omega) with ⟨i, hi, h1, -⟩ | ⟨-, h2⟩
    · exact absurd h1 (hn i hi)
    · have : a_bestBuyer S x = (1, 0) := by unfold a_bestBuyer; rw [h2]
      rw [this] at k1
      exact ⟨fun _ => k1 rfl, fun r5 e5 => by cases e5⟩
end ASK2

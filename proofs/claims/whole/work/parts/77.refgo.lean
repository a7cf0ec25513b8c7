/-! THE REFERENCE'S READER: bytes and tokens -/
def sg (k : Nat) : Nat := if k = 0 then 0 else if k = 4 then 1 else k + 1
theorem sg_eq {k : Nat} (h : k < 5) (j : Nat) (hj : j < 5) : nI (sg k) = nI (sg j) ↔ k = j := by
  have b : ∀ k, k < 5 → sg k < 5 := fun k hk => by unfold sg; split <;> (try split) <;> omega
  refine ⟨fun e => ?_, fun e => by rw [e]⟩
  have e2 := (nI_eq (by have := b k h; omega) (by have := b j hj; omega)).mp e
  unfold sg at e2
  split at e2 <;> split at e2 <;> (try split at e2) <;> (try split at e2) <;> omega
/-- only the reader's numbers have changed -/
def qo (A A' : q_H) (mo : Nat) : Prop := q_sz A' = q_sz A ∧ q_sh A' = q_sh A ∧ q_R A' = q_R A ∧ q_L A' = q_L A ∧ q_D A' = q_D A ∧ ∀ x k, ¬ (x = mo ∧ 14 ≤ k ∧ k ≤ 19) → q_I A' x k = q_I A x k
theorem qo.r (A : q_H) (mo : Nat) : qo A A mo := ⟨rfl, rfl, rfl, rfl, rfl, fun _ _ _ => rfl⟩
theorem qo.t {A B C : q_H} {mo : Nat} (h : qo A B mo) (k : qo B C mo) : qo A C mo := ⟨k.1.trans h.1, k.2.1.trans h.2.1, k.2.2.1.trans h.2.2.1, k.2.2.2.1.trans h.2.2.2.1, k.2.2.2.2.1.trans h.2.2.2.2.1, fun x j q => (k.2.2.2.2.2 x j q).trans (h.2.2.2.2.2 x j q)⟩
theorem qo.set {A B : q_H} {mo k : Nat} {v : Int32} (h : qo A B mo) (hk : 14 ≤ k) (hk2 : k ≤ 19) : qo A (q_setI B mo k v) mo := ⟨h.1, h.2.1, h.2.2.1, h.2.2.2.1, h.2.2.2.2.1, fun y j q => by
  rw [I_set (by omega)]
  exact h.2.2.2.2.2 y j q⟩
theorem qo.row {A A' : q_H} {mo x : Nat} (h : qo A A' mo) (hx : x ≠ mo) : q_I A' x = q_I A x := by funext k; exact h.2.2.2.2.2 x k (by omega)
/-- the text -/
def Mb (A : q_H) (mo N : Nat) (T : Nat → Nat) : Prop := MS A mo ∧ q_I A mo 13 = nI N ∧ N ≤ 700 ∧ ∀ j, j < N → T j < 256 ∧ q_I A (mo + 10) j = nI (T j)
theorem Mb.qo {A A' : q_H} {mo N : Nat} {T : Nat → Nat} (h : Mb A mo N T) (o : qo A A' mo) : Mb A' mo N T := ⟨h.1.to o.2.1 o.2.2.1, by rw [o.2.2.2.2.2 _ _ (by omega)]; exact h.2.1, h.2.2.1, fun j hj => by rw [o.row (by omega)]; exact h.2.2.2 j hj⟩
/-- the token -/
def Mk (A : q_H) (mo N : Nat) (T : Nat → Nat) (t : T_k) : Prop := q_I A mo 16 = nI (sg t.1) ∧ q_I A mo 15 = nI t.2.1 ∧ q_I A mo 14 = nI t.2.2 ∧ (t.1 = 2 → q_I A mo 17 = nI (t_val T t.2.1 (t.2.2 - t.2.1))) ∧ Tw T N t
section GO
variable {G : q_G} {X : String → q_H → Prop} {A A0 : q_H} {mo N : Nat} {T : Nat → Nat}
theorem M_byteAt {f : Int32 → q_H → Prop} {p : Nat} (b : Mb A mo N T) (hp : p < 2147483648) (k1 : p < N → f (nI (T p)) A) (k0 : N ≤ p → f (-1) A) : q_Wc G M_X11_byteAt [.ref mo, .int (nI p)] A (q_KI f) X := by
  obtain ⟨ms, e13, h7, hb⟩ := b
  refine f_X11_byteAt ⟨ms.z, ?_⟩
  rw [e13]
  refine ⟨fun c => k0 ((nI_leI (by omega) (by omega)).mp c), fun c => ?_⟩
  have hpN : p < N := Nat.lt_of_not_le fun z => c (nI_le z (by omega))
  exact ⟨_, ms.r11, 700, ms.z10, by decide, p, rfl, by omega, by rw [(hb p hpN).2]; exact k1 hpN⟩
theorem M_isSmall {f : Bool → q_H → Prop} {n : Nat} (hn : n < 256) (k : f (t_le n) A) : q_Wc G M_X11_isSmall [.int (nI n)] A (q_KB f) X := by
  refine f_X11_isSmall ⟨fun c => ?_, fun c => ⟨fun c2 => ?_, fun c2 => ?_⟩⟩
  · have := (nI_ltI (by omega) (by decide)).mp c
    rw [show t_le n = false from decide_eq_false (by omega)] at k; exact k
  · have := (nI_ltI (by decide) (by omega)).mp c2
    rw [show t_le n = false from decide_eq_false (by omega)] at k; exact k
  · have h1 : ¬ n < 97 := fun z => c (nI_lt z (by decide))
    have h2 : ¬ 122 < n := fun z => c2 (nI_lt z (by omega))
    rw [show t_le n = true from decide_eq_true (by omega)] at k; exact k
theorem M_isSmall0 {f : Bool → q_H → Prop} (k : f false A) : q_Wc G M_X11_isSmall [.int (-1)] A (q_KB f) X := f_X11_isSmall ⟨fun _ => k, fun c => absurd (by decide) c⟩
theorem M_isDigit {f : Bool → q_H → Prop} {n : Nat} (hn : n < 256) (k : f (t_di n) A) : q_Wc G M_X11_isDigit [.int (nI n)] A (q_KB f) X := by
  refine f_X11_isDigit ⟨fun c => ?_, fun c => ⟨fun c2 => ?_, fun c2 => ?_⟩⟩
  · have := (nI_ltI (by omega) (by decide)).mp c
    rw [show t_di n = false from decide_eq_false (by omega)] at k; exact k
  · have := (nI_ltI (by decide) (by omega)).mp c2
    rw [show t_di n = false from decide_eq_false (by omega)] at k; exact k
  · have h1 : ¬ n < 48 := fun z => c (nI_lt z (by decide))
    have h2 : ¬ 57 < n := fun z => c2 (nI_lt z (by omega))
    rw [show t_di n = true from decide_eq_true (by omega)] at k; exact k
theorem M_isDigit0 {f : Bool → q_H → Prop} (k : f false A) : q_Wc G M_X11_isDigit [.int (-1)] A (q_KB f) X := f_X11_isDigit ⟨fun _ => k, fun c => absurd (by decide) c⟩
theorem v_go76 {f : q_H → Prop} {s : Nat} (kk : ∀ A', qo A0 A' mo → Mb A' mo N T → q_I A' mo 16 = nI 2 → q_I A' mo 15 = nI s → q_I A' mo 14 = nI (t_end t_le T N s) → f A') :
    ∀ (d e : Nat) (A : q_H), e + d = N → t_end t_le T N s = t_end t_le T N e → qo A0 A mo → Mb A mo N T → q_I A mo 15 = nI s → q_I A mo 14 = nI e → q_Wp G M_X11_go (q_KV f) X 0 0 76 [some (.ref mo), none] [] A
  | 0, e, A, he, ee, o, b, e15, e14 => by
    have hN := b.2.2.1
    refine f_X11_go_76 ⟨b.1.z, ?_⟩
    rw [e14]
    refine M_byteAt b (by omega) (fun c => by omega) (fun _ => M_isSmall0 ⟨fun e => (by cases e), fun _ => ⟨b.1.z, ?_⟩⟩)
    have o' : qo A (q_setI A mo 16 (nI 2)) mo := (qo.r A mo).set (by decide) (by decide)
    refine kk _ (o.t o') (b.qo o') (I_set_s _ _ _ _) (by rw [I_set (Or.inr (by decide)), e15]) ?_
    rw [I_set (Or.inr (by decide)), e14, ee, t_end_n (by omega)]
  | d + 1, e, A, he, ee, o, b, e15, e14 => by
    have hN := b.2.2.1
    have hb := (b.2.2.2 e (by omega)).1
    refine f_X11_go_76 ⟨b.1.z, ?_⟩
    rw [e14]
    refine M_byteAt b (by omega) (fun _ => M_isSmall hb ⟨fun c => ⟨b.1.z, ?_⟩, fun c => ⟨b.1.z, ?_⟩⟩) (fun c => by omega)
    · rw [e14, nI_add]
      have o' : qo A (q_setI A mo 14 (nI (e + 1))) mo := (qo.r A mo).set (by decide) (by decide)
      refine v_go76 kk d (e + 1) _ (by omega) (by rw [ee, t_end_y (by omega) c]) (o.t o') (b.qo o') (by rw [I_set (Or.inr (by decide)), e15]) (I_set_s _ _ _ _)
    · have o' : qo A (q_setI A mo 16 (nI 2)) mo := (qo.r A mo).set (by decide) (by decide)
      refine kk _ (o.t o') (b.qo o') (I_set_s _ _ _ _) (by rw [I_set (Or.inr (by decide)), e15]) ?_
      rw [I_set (Or.inr (by decide)), e14, ee, t_end_x (by omega) c]
theorem v_go123 {f : q_H → Prop} {s : Nat} (kk : ∀ A', qo A0 A' mo → Mb A' mo N T → q_I A' mo 16 = nI (if t_end t_di T N s - s ≤ 4 then 3 else 1) → q_I A' mo 15 = nI s → q_I A' mo 14 = nI (t_end t_di T N s) → (t_end t_di T N s - s ≤ 4 → q_I A' mo 17 = nI (t_val T s (t_end t_di T N s - s))) → f A') :
    ∀ (d e : Nat) (A : q_H), e + d = N → s ≤ e → t_end t_di T N s = t_end t_di T N e → qo A0 A mo → Mb A mo N T → q_I A mo 15 = nI s → q_I A mo 14 = nI e → (e - s ≤ 4 → q_I A mo 17 = nI (t_val T s (e - s))) → q_Wp G M_X11_go (q_KV f) X 0 0 123 [some (.ref mo), none] [] A := by
  have fin : ∀ (e : Nat) (A : q_H), s ≤ e → e ≤ N → t_end t_di T N s = e → qo A0 A mo → Mb A mo N T → q_I A mo 15 = nI s → q_I A mo 14 = nI e → (e - s ≤ 4 → q_I A mo 17 = nI (t_val T s (e - s))) → ((q_I A mo 14 - q_I A mo 15 ≤ nI 4 → f (q_setI A mo 16 (nI 3))) ∧ (¬ q_I A mo 14 - q_I A mo 15 ≤ nI 4 → f (q_setI A mo 16 (nI 1)))) := fun e A hs hN ee o b e15 e14 e17 => by
    have hN7 := b.2.2.1
    rw [e14, e15, pk_sub hs]
    have o' : ∀ v, qo A (q_setI A mo 16 v) mo := fun v => (qo.r A mo).set (by decide) (by decide)
    have fx : ∀ v k, k ≠ 16 → q_I (q_setI A mo 16 v) mo k = q_I A mo k := fun v k hk => I_set (Or.inr hk)
    refine ⟨fun c => ?_, fun c => ?_⟩
    · have c1 := (nI_leI (by omega) (by decide)).mp c
      refine kk _ (o.t (o' _)) (b.qo (o' _)) ?_ (by rw [fx _ _ (by decide), e15]) (by rw [fx _ _ (by decide), e14, ee]) (fun _ => by rw [fx _ _ (by decide), ee]; exact e17 c1)
      rw [ee, if_pos c1]; exact I_set_s _ _ _ _
    · have c1 : ¬ e - s ≤ 4 := fun z => c (nI_le z (by decide))
      refine kk _ (o.t (o' _)) (b.qo (o' _)) ?_ (by rw [fx _ _ (by decide), e15]) (by rw [fx _ _ (by decide), e14, ee]) (fun z => absurd (ee ▸ z) c1)
      rw [ee, if_neg c1]; exact I_set_s _ _ _ _
  intro d
  induction d with
  | zero =>
    intro e A he hs ee o b e15 e14 e17
    have hN := b.2.2.1
    refine f_X11_go_123 ⟨b.1.z, ?_⟩
    have ff := fin e A hs (by omega) (by rw [ee, t_end_n (by omega)]) o b e15 e14 e17
    rw [e14]
    exact M_byteAt b (by omega) (fun c => by omega) (fun _ => M_isDigit0 ⟨fun e => (by cases e), fun _ => ⟨b.1.z, ff⟩⟩)
  | succ d ih =>
    intro e A he hs ee o b e15 e14 e17
    have hN := b.2.2.1
    have hb := (b.2.2.2 e (by omega))
    refine f_X11_go_123 ⟨b.1.z, ?_⟩
    by_cases cd : t_di (T e) = true
    · have ee2 : t_end t_di T N s = t_end t_di T N (e + 1) := by rw [ee, t_end_y (by omega) cd]
      have hd : 48 ≤ T e ∧ T e ≤ 57 := of_decide_eq_true cd
      rw [e14]
      refine M_byteAt b (by omega) (fun _ => M_isDigit hb.1 ⟨fun _ => ⟨b.1.z, ?_⟩, fun c => (by rw [cd] at c; cases c)⟩) (fun c => by omega)
      rw [e14, e15, pk_sub hs]
      refine ⟨fun c => ?_, fun c => ⟨_, b.1.r11, 700, b.1.z10, by decide, e, rfl, by omega, fun A20 e20 => ?_⟩⟩
      · have c1 := (nI_leI (by decide) (by omega)).mp c
        rw [nI_add]
        have o' : qo A (q_setI A mo 14 (nI (e + 1))) mo := (qo.r A mo).set (by decide) (by decide)
        exact ih (e + 1) _ (by omega) (by omega) ee2 (o.t o') (b.qo o') (by rw [I_set (Or.inr (by decide)), e15]) (I_set_s _ _ _ _) (fun z => by omega)
      · have c1 : e - s < 4 := Nat.lt_of_not_le fun z => c (nI_le z (by omega))
        rw [hb.2, e17 (by omega), pk_mul, nI_add, pk_sub (by omega), I_set (Or.inr (by decide)), e14, nI_add] at e20
        have o' : qo A A20 mo := by rw [e20]; exact ((qo.r A mo).set (by decide) (by decide)).set (by decide) (by decide)
        refine ih (e + 1) A20 (by omega) (by omega) ee2 (o.t o') (b.qo o') (by rw [e20, I_set (Or.inr (by decide)), I_set (Or.inr (by decide)), e15]) (by rw [e20, I_set_s]) (fun _ => ?_)
        rw [e20, I_set (Or.inr (by decide)), I_set_s, show e + 1 - s = (e - s) + 1 by omega]
        show _ = nI (10 * t_val T s (e - s) + (T (s + (e - s)) - 48))
        rw [show s + (e - s) = e by omega]
        congr 1
        omega
    · have cd' : t_di (T e) = false := by cases h : t_di (T e) with
        | true => exact absurd h cd
        | false => rfl
      have ff := fin e A hs (by omega) (by rw [ee, t_end_x (by omega) cd']) o b e15 e14 e17
      rw [e14]
      exact M_byteAt b (by omega) (fun _ => M_isDigit hb.1 ⟨fun c => (by rw [cd'] at c; cases c), fun _ => ⟨b.1.z, ff⟩⟩) (fun c => by omega)
theorem v_go0 {f : q_H → Prop} {p : Nat} (hp : p ≤ N) (kk : ∀ A', qo A0 A' mo → Mb A' mo N T → Mk A' mo N T (tok T N p) → f A') :
    ∀ (d s : Nat) (A : q_H), s + d = N → t_end t_bl T N p = t_end t_bl T N s → qo A0 A mo → Mb A mo N T → q_I A mo 14 = nI s → q_Wp G M_X11_go (q_KV f) X 0 0 0 [some (.ref mo), none] [] A
  | 0, s, A, hs, es, o, b, e14 => by
    have hN := b.2.2.1
    have hsN : s = N := by omega
    rw [t_end_n (p := s) (by omega)] at es
    have et : tok T N p = (0, s, s) := by unfold tok; rw [es]; exact if_pos (by omega)
    have tw := Tw_tok (T := T) hp
    rw [et] at kk tw
    refine f_X11_go_0 ⟨b.1.z, ?_⟩
    rw [e14]
    refine M_byteAt b (by omega) (fun c => by omega) (fun _ => ⟨fun c => absurd c (by decide), fun _ => ⟨b.1.z, ?_⟩⟩)
    rw [e14]
    refine M_byteAt b (by omega) (fun c => by omega) (fun _ => ⟨fun c => absurd c (by decide), fun _ => ⟨b.1.z, ?_⟩⟩)
    have o1 : qo A (q_setI A mo 15 (nI s)) mo := (qo.r A mo).set (by decide) (by decide)
    rw [e14, I_set (Or.inr (by decide : (14 : Nat) ≠ 15)), e14]
    refine M_byteAt (b.qo o1) (by omega) (fun c => by omega) (fun _ => ⟨fun _ => ⟨b.1.z, ?_⟩, fun c => absurd rfl c⟩)
    have o2 : qo A (q_setI (q_setI A mo 15 (nI s)) mo 16 (nI 0)) mo := o1.set (by decide) (by decide)
    refine kk _ (o.t o2) (b.qo o2) ⟨I_set_s _ _ _ _, ?_, ?_, fun e => ?_, tw⟩
    · rw [I_set (Or.inr (by decide)), I_set_s]
    · rw [I_set (Or.inr (by decide)), I_set (Or.inr (by decide)), e14]
    · exact absurd (show (0 : Nat) = 2 from e) (by decide)
  | d + 1, s, A, hs, es, o, b, e14 => by
    have hN := b.2.2.1
    have hb := (b.2.2.2 s (by omega)).1
    have nx : t_bl (T s) = true → q_Wp G M_X11_go (q_KV f) X 0 0 0 [some (.ref mo), none] [] (q_setI A mo 14 (q_I A mo 14 + nI 1)) := fun c => by
      rw [e14, nI_add]
      have o' : qo A (q_setI A mo 14 (nI (s + 1))) mo := (qo.r A mo).set (by decide) (by decide)
      exact v_go0 hp kk d (s + 1) _ (by omega) (by rw [es, t_end_y (by omega) c]) (o.t o') (b.qo o') (I_set_s _ _ _ _)
    refine f_X11_go_0 ⟨b.1.z, ?_⟩
    rw [e14]
    refine M_byteAt b (by omega) (fun _ => ⟨fun c => ⟨b.1.z, ?_⟩, fun c32 => ⟨b.1.z, ?_⟩⟩) (fun c => by omega)
    · exact nx (decide_eq_true (Or.inl ((nI_eq (by omega) (by decide)).mp c)))
    rw [e14]
    refine M_byteAt b (by omega) (fun _ => ⟨fun c => ⟨b.1.z, ?_⟩, fun c10 => ⟨b.1.z, ?_⟩⟩) (fun c => by omega)
    · exact nx (decide_eq_true (Or.inr ((nI_eq (by omega) (by decide)).mp c)))
    have cb : t_bl (T s) = false := decide_eq_false fun z => z.elim (fun e => c32 (by rw [e])) (fun e => c10 (by rw [e]))
    rw [t_end_x (by omega) cb] at es
    have tw := Tw_tok (T := T) hp
    have o1 : qo A (q_setI A mo 15 (nI s)) mo := (qo.r A mo).set (by decide) (by decide)
    rw [e14, I_set (Or.inr (by decide : (14 : Nat) ≠ 15)), e14]
    obtain ⟨A1, eA1⟩ : ∃ A1, A1 = q_setI A mo 15 (nI s) := ⟨_, rfl⟩
    have e15 : q_I A1 mo 15 = nI s := by rw [eA1, I_set_s]
    have e14' : q_I A1 mo 14 = nI s := by rw [eA1, I_set (Or.inr (by decide)), e14]
    rw [← eA1] at o1 ⊢
    have b1 := b.qo o1
    refine M_byteAt b1 (by omega) (fun _ => ⟨fun c => absurd (show nI (T s) < 0 by rw [c]; decide) (nI_pos (by omega)), fun _ => M_isSmall hb ⟨fun cl => ?_, fun cl => M_isDigit hb ⟨fun cd => ⟨b1.1.z, ?_⟩, fun cd => ⟨b1.1.z, ?_⟩⟩⟩⟩) (fun c => by omega)
    · have et : tok T N p = (1, s, t_end t_le T N s) := by
        unfold tok
        rw [es]
        show (if N ≤ s then _ else if t_le (T s) = true then _ else _) = _
        rw [if_neg (by omega), if_pos cl]
      rw [et] at kk tw
      refine v_go76 (A0 := A1) (s := s) (fun A' o' b' i16 i15 i14 => kk A' ((o.t o1).t o') b' ⟨i16, i15, i14, fun e => absurd (show (1 : Nat) = 2 from e) (by decide), tw⟩) (d + 1) s A1 hs rfl (qo.r A1 mo) b1 e15 e14'
    · have et : tok T N p = (if t_end t_di T N s - s ≤ 4 then 2 else 4, s, t_end t_di T N s) := by
        unfold tok
        rw [es]
        show (if N ≤ s then _ else if t_le (T s) = true then _ else if t_di (T s) = true then _ else _) = _
        rw [if_neg (by omega), if_neg (by rw [cl]; decide), if_pos cd]
      rw [et] at kk tw
      have o2 : qo A1 (q_setI A1 mo 17 (nI 0)) mo := (qo.r A1 mo).set (by decide) (by decide)
      refine v_go123 (A0 := q_setI A1 mo 17 (nI 0)) (s := s) (fun A' o' b' i16 i15 i14 i17 => kk A' (((o.t o1).t o2).t o') b' ⟨?_, i15, i14, fun e => i17 ?_, tw⟩) (d + 1) s _ hs (Nat.le_refl _) rfl (qo.r _ mo) (b1.qo o2) (by rw [I_set (Or.inr (by decide)), e15]) (by rw [I_set (Or.inr (by decide)), e14']) (fun _ => by rw [I_set_s, Nat.sub_self]; rfl)
      · rw [i16]
        show _ = nI (sg (if t_end t_di T N s - s ≤ 4 then 2 else 4))
        split <;> rfl
      · have e' : (if t_end t_di T N s - s ≤ 4 then 2 else 4) = 2 := e
        by_cases c4 : t_end t_di T N s - s ≤ 4
        · exact c4
        · rw [if_neg c4] at e'
          exact absurd e' (by decide)
    · have et : tok T N p = (if T s = 59 then 3 else 4, s, s + 1) := by
        unfold tok
        rw [es]
        show (if N ≤ s then _ else if t_le (T s) = true then _ else if t_di (T s) = true then _ else _) = _
        rw [if_neg (by omega), if_neg (by rw [cl]; decide), if_neg (by rw [cd]; decide)]
      rw [et] at kk tw
      rw [e14', nI_add]
      have o2 : ∀ v, qo A1 (q_setI (q_setI A1 mo 14 (nI (s + 1))) mo 16 v) mo := fun v => ((qo.r A1 mo).set (by decide) (by decide)).set (by decide) (by decide)
      have fx : ∀ v, q_I (q_setI (q_setI A1 mo 14 (nI (s + 1))) mo 16 v) mo 15 = nI s ∧ q_I (q_setI (q_setI A1 mo 14 (nI (s + 1))) mo 16 v) mo 14 = nI (s + 1) ∧ q_I (q_setI (q_setI A1 mo 14 (nI (s + 1))) mo 16 v) mo 16 = v := fun v => ⟨by rw [I_set (Or.inr (by decide)), I_set (Or.inr (by decide)), e15], by rw [I_set (Or.inr (by decide)), I_set_s], I_set_s _ _ _ _⟩
      refine ⟨fun c => ?_, fun c => ?_⟩
      · have c59 : T s = 59 := (nI_eq (by omega) (by decide)).mp c
        rw [if_pos c59] at kk tw
        exact kk _ ((o.t o1).t (o2 _)) (b1.qo (o2 _)) ⟨(fx _).2.2, (fx _).1, (fx _).2.1, fun e => absurd (show (3 : Nat) = 2 from e) (by decide), tw⟩
      · have c59 : T s ≠ 59 := fun e => c (by rw [e])
        rw [if_neg c59] at kk tw
        exact kk _ ((o.t o1).t (o2 _)) (b1.qo (o2 _)) ⟨(fx _).2.2, (fx _).1, (fx _).2.1, fun e => absurd (show (4 : Nat) = 2 from e) (by decide), tw⟩
theorem M_go {f : q_H → Prop} {p : Nat} (b : Mb A mo N T) (hp : p ≤ N) (e14 : q_I A mo 14 = nI p) (kk : ∀ A', qo A A' mo → Mb A' mo N T → Mk A' mo N T (tok T N p) → f A') : q_Wc G M_X11_go [.ref mo] A (q_KV f) X :=
  f_X11_go (v_go0 hp kk (N - p) p A (by omega) rfl (qo.r A mo) b e14)
end GO

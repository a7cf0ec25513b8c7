/-! THE CLASS'S READER: loads -/
section LD
variable {G : q_G} {X : String → q_H → Prop} {A A0 A' : q_H} {l l' : l_T} {S S' : s_T} {rd txt N : Nat} {T : Nat → Nat} {t t' : T_k}
theorem Lp.agr (h : Lp A0 A l S) (h8 : ∀ i, i < 3 → S' 8 i 0 = S 8 i 0) (h2 : ∀ i, i < 12 → S' 2 i 0 = S 2 i 0) (hH : ∀ x, lv S x → ∀ m, S' 0 x m = S 0 x m) (hD : ∀ t i j, dm S t i j → S' t i j = S t i j) (hQ : ∀ s, s < S 8 1 0 → S' 4 s 0 = S 4 s 0) : Lp A0 A l S' := by
  have a0 := h8 0 (by decide)
  have a1 := h8 1 (by decide)
  have a2 := h8 2 (by decide)
  have b10 := h2 10 (by decide)
  have b11 := h2 11 (by decide)
  have k := h.k (S' := S') (fun x => lv S x) (fun t i j => dm S t i j) (fun s => s < S 8 1 0 ∨ s = 8) (fun x q => ⟨q, hH x q⟩) (fun t i j q => ⟨q, hD t i j q⟩) (fun s q => q.elim (fun q => Or.inr ⟨q, hQ s q⟩) Or.inl)
  refine ⟨k.done ?_ (fun x q => ?_) (fun t i j q => ?_) (fun s q => ?_), h.2⟩
  · have := h.b
    unfold Lb at this ⊢
    rw [a1, a2, b10, b11]; exact this
  · unfold lv at q ⊢
    rw [a1, b10, b11] at q; exact q
  · unfold dm at q ⊢
    rw [a1, a2, b10, b11] at q; exact q
  · rw [a1] at q; exact q
theorem w_loadF {f : q_H → Prop} {c n M : Nat} {A0 : q_H} (hn : n < 30) (hM : M ≤ 6) (k1 : ∀ A', fq A0 A' (l_a l) rd → Sf A' l rd txt c → f A') :
    ∀ (d m : Nat) (A : q_H), m + d = 6 → fq A0 A (l_a l) rd → Sf A l rd txt c → q_I A (l_a l) 0 = nI M → q_Wp G M_X9_readLoad (q_KV f) X 0 0 44 [some (.ref rd), some (.ref (pa l n)), some (.int (nI m))] [] A
  | d, m, A, e, o, s, em => by
    have z := Lz_p s.1.1 s.1.2.1
    have hl := ha_pa l hn
    have hp : l_a l + 6 ≤ pa l n ∧ pa l n < l_a l + 96 := by unfold pa; omega
    have zp : q_sh A (pa l n) = (6, 0) := z.zp n
    have zh : okH A (ha l (19 + n)) := z.kh (x := 19 + n) (by omega)
    have fin : ∀ (A1 : q_H), A1 = q_setI A (l_a l + 220) 7 (q_I A (l_a l + 220) 7 + q_I A (ha l (19 + n)) 1) → (q_I A1 (ha l (19 + n)) 1 = nI 0 → ∃ r14 : Nat, q_R A (l_a l) 6 = some r14 ∧ q_sh A r14 = (4, 0) ∧ q_Wc G M_X3_dropLast [.ref r14] A1 (q_KV fun A16 => f A16) q_nX) ∧ (¬ q_I A1 (ha l (19 + n)) 1 = nI 0 → f A1) := fun A1 e1 => by
      have o1 : fq A0 A1 (l_a l) rd := by rw [e1]; exact o.set (by omega) (by omega)
      have s1 : Sf A1 l rd txt c := by rw [e1]; exact s.set (by omega) (by omega) (by omega)
      have z1 := Lz_p s1.1.1 s1.1.2.1
      refine ⟨fun _ => ⟨_, z.r6, z.z4, f_X3_dropLast ⟨z1.z4, fun _ => k1 _ o1 s1, fun _ => k1 _ (o1.set (by omega) (by omega)) (s1.set (by omega) (by omega) (by omega))⟩⟩, fun _ => k1 _ o1 s1⟩
    refine f_X9_readLoad_44 ⟨s.2.1.1, _, s.2.1.2.2.1, z.line, ?_⟩
    rw [em]
    refine ⟨fun _ => ⟨_, z.r9, z.z220, zp, _, z.rpa hn, zh.1, fin _ rfl⟩, fun c1 => ⟨fun c2 => ⟨zp, _, z.rpa hn, F_num s.2.1 fun v => ⟨zh.1, ?_⟩⟩, fun _ => ⟨_, z.r9, z.z220, zp, _, z.rpa hn, zh.1, fin _ rfl⟩⟩⟩
    have hm : m < M := Nat.lt_of_not_le fun q => c1 (nI_le q (by omega))
    refine c_put zh (by omega) ?_
    rw [nI_add]
    match d, e with
    | 0, e => omega
    | d + 1, e =>
      refine w_loadF hn hM k1 d (m + 1) _ (by omega) ((o.set (by omega) (by omega)).set (by omega) (by omega)) ((s.set (by omega) (by omega) (by omega)).set (by omega) (by omega) (by omega)) ?_
      rw [I_set (Or.inl (by omega)), I_set (Or.inl (by omega))]; exact em
theorem w_load {f : q_H → Prop} {A0 : q_H} {a : Nat} (hM : 1 ≤ S 8 0 0 ∧ S 8 0 0 ≤ 6) (hw : S 2 10 0 < 30) :
    ∀ (d m : Nat) (g : Nat → Nat) (A : q_H) (t : T_k), l_a l = a → m + d = S 8 0 0 → 1 ≤ m → fq A0 A a rd → Sk A l (o_add S g 0) rd txt N T t → (∀ j, m ≤ j → g j = 0) → (∀ j, g j ≤ 999) →
      (∀ g' t', p_mass T N d m g t = .ok (g', t') → ∀ A' l', l_a l' = a → fq A0 A' a rd → Sk A' l' (o_put S g') rd txt N T t' → f A') → (∀ c, p_mass T N d m g t = .error c → ∀ A' l', l_a l' = a → fq A0 A' a rd → Sf A' l' rd txt c → f A') →
      q_Wp G M_X9_readLoad (q_KV f) X 0 0 44 [some (.ref rd), some (.ref (pa l (S 2 10 0))), some (.int (nI m))] [] A
  | d, m, g, A, t, ea, e, h1, o, s, hg, hgb, kk0, kk1 => by
    subst ea
    obtain ⟨n, en⟩ : ∃ n, n = S 2 10 0 := ⟨_, rfl⟩
    have p := s.p
    have ht := s.2.2.1.2.2.2.2.1.2.2.1
    have lx : lv (o_add S g 0) (19 + n) := lv_par (by rw [add_w]; omega)
    have e8 : o_add S g 0 8 = S 8 := add_t _ _ _ (by decide) (by decide) (by decide)
    have hs6 : s6 g ≤ 5994 := by
      have := sm_bd (f := g) (c := 999) (n := 6) (fun i _ => hgb i)
      rw [s6_sm] at this; omega
    have etot : q_I A (ha l (19 + n)) 1 = nI (s6 g) := by rw [p.t lx, en, add_0]
    have eld : q_I A (l_a l + 220) 7 = nI (S 2 7 0) := by rw [p.tal (by decide), add_2 _ _ _ (by decide)]
    have hl := ha_pa l (k := n) (by omega)
    have hpp : l_a l + 6 ≤ pa l n ∧ pa l n < l_a l + 96 := by unfold pa; omega
    have mats : q_I A (l_a l) 0 = nI (S 8 0 0) := by rw [p.mats, e8]
    rw [← en]
    have fin : (∀ A' l', l_a l' = l_a l → fq A0 A' (l_a l) rd → Sk A' l' (o_put S g) rd txt N T t → f A') → ∀ (A1 : q_H), A1 = q_setI A (l_a l + 220) 7 (q_I A (l_a l + 220) 7 + q_I A (ha l (19 + n)) 1) → (q_I A1 (ha l (19 + n)) 1 = nI 0 → ∃ r14 : Nat, q_R A (l_a l) 6 = some r14 ∧ q_sh A r14 = (4, 0) ∧ q_Wc G M_X3_dropLast [.ref r14] A1 (q_KV fun A16 => f A16) q_nX) ∧ (¬ q_I A1 (ha l (19 + n)) 1 = nI 0 → f A1) := fun kk A1 e1 => by
      rw [eld, etot, nI_add] at e1
      have p1 : Lp A A1 l (s_p (o_add S g 0) 2 7 0 (S 2 7 0 + s6 g)) := by
        rw [e1]
        exact p.put (t := 2) (i := 7) (j := 0) _ (by unfold dm0; omega) ⟨fun _ => by decide, fun e => absurd e (by decide)⟩
      have s1 := s.line rfl p1
      have e2 : q_I A1 (ha l (19 + n)) 1 = nI (s6 g) := by rw [e1, I_set (Or.inl (by omega))]; exact etot
      have o1 : fq A0 A1 (l_a l) rd := by rw [e1]; exact o.set (by omega) (by omega)
      rw [e2]
      refine ⟨fun c => ⟨_, p.r6, p.z4, ?_⟩, fun c => ?_⟩
      · have h0 : s6 g = 0 := (nI_eq (by omega) (by decide)).mp c
        have ew : q_I A1 (l_a l + 4) 2 = nI (n + 1) := by
          rw [p1.wait, s_p_i (by decide), add_w, en]
        refine f_X3_dropLast ⟨p1.z4, ?_⟩
        rw [ew, pk_sub (by omega), Nat.add_sub_cancel]
        refine ⟨fun c2 => absurd ((nI_leI (by omega) (by decide)).mp c2) (by omega), fun _ => ?_⟩
        have p2 := p1.less (t := 2) (i := 10) n (Or.inl ⟨rfl, rfl⟩) (by rw [s_p_i (by decide), add_w]; omega)
        have p3 : Lp A (q_setI A1 (l_a l + 4) 2 (nI n)) l S := by
          refine Lp.agr (S := s_p (s_p (o_add S g 0) 2 7 0 (S 2 7 0 + s6 g)) 2 10 0 n) p2 (fun i hi => ?_) (fun i hi => ?_) (fun x q m => ?_) (fun t i j q => ?_) (fun s hs => ?_)
          · rw [s_p_t (by decide), s_p_t (by decide), e8]
          · by_cases c10 : i = 10
            · rw [c10, s_p_s, en]
            · by_cases c7 : i = 7
              · rw [c7, s_p_i (by decide), s_p_s, h0, Nat.add_zero]
              · rw [s_p_i c10, s_p_i c7, add_2 _ _ _ c10]
          · have hx : x ≠ 19 + S 2 10 0 := by
              unfold lv at q
              rw [s_p_s, s_p_t (by decide), s_p_t (by decide), e8, s_p_i (by decide), s_p_i (by decide), add_2 _ _ _ (by decide)] at q
              have hb := p.b
              unfold Lb at hb
              rw [e8] at hb
              omega
            rw [s_p_00 (by decide), s_p_00 (by decide), add_n _ _ _ hx]
          · have q1 := q.1
            have q2 := q.2.1
            rw [s_p_s] at q2
            by_cases c2 : t = 2
            · subst c2
              have hj : j = 0 := by unfold dm0 at q1; omega
              subst hj
              by_cases c10 : i = 10
              · rw [c10, s_p_s, en]
              · by_cases c7 : i = 7
                · rw [c7, s_p_i (by decide), s_p_s, h0, Nat.add_zero]
                · rw [s_p_i c10, s_p_i c7, add_2 _ _ _ c10]
            · rw [s_p_t c2, s_p_t c2]
              by_cases c3 : t = 3
              · subst c3
                have hi : i ≠ S 2 10 0 := by have := q2 rfl; omega
                unfold o_add
                rw [s_p_t (by decide), s_p_i hi, s_h_t (by decide)]
              · have h00 : t ≠ 0 := by unfold dm0 at q1; omega
                rw [add_t _ _ _ h00 c2 c3]
          · rw [s_p_t (by decide), s_p_t (by decide), add_t _ _ _ (by decide) (by decide) (by decide)]
        have eput : o_put S g = S := if_pos h0
        rw [eput] at kk
        exact kk _ l rfl (o1.set (by omega) (by omega)) (s.line rfl p3)
      · have h0 : ¬ s6 g = 0 := fun q => c (by rw [q])
        have eput : o_put S g = s_p (o_add S g 0) 2 7 0 (S 2 7 0 + s6 g) := if_neg h0
        rw [eput] at kk
        exact kk _ l rfl o1 s1
    have zp : q_sh A (pa l n) = (6, 0) := p.zp n
    have zh : okH A (ha l (19 + n)) := p.kh (by omega)
    refine f_X9_readLoad_44 ⟨s.2.1.1, _, s.2.1.2.2.2.1, p.line, ?_⟩
    rw [mats]
    refine ⟨fun c => ⟨_, p.r9, p.z220, zp, _, p.rpa (by omega), zh.1, fin ?_ _ rfl⟩, fun c => ⟨fun c2 => ⟨zp, _, p.rpa (by omega), ?_⟩, fun c2 => ⟨_, p.r9, p.z220, zp, _, p.rpa (by omega), zh.1, fin ?_ _ rfl⟩⟩⟩
    · have hle := (nI_leI (by omega) (by omega)).mp c
      have : d = 0 := by omega
      subst this
      exact kk0 g t rfl
    · have hlt : m < S 8 0 0 := Nat.lt_of_not_le fun q => c (nI_le q (by omega))
      rw [s.2.2.1.1] at c2
      have c3 : t.1 = 2 := (nI_eq (by omega) (by decide)).mp c2
      match d, e with
      | 0, e => omega
      | d + 1, e =>
        have em : p_mass T N (d + 1) m g t = (match p_num T N 0 999 t with
          | .error c => .error c
          | .ok (v, t1) => p_mass T N d (m + 1) (fun j => if j = m then v else g j) t1) := if_pos c3
        refine N_num s.2.1 s.2.2.1 (by decide) (by decide) (fun v t1 e1 A2 o2 r2 g2 => ⟨?_, ?_⟩) (fun c' e1 A2 o2 r2 => ⟨?_, ?_⟩)
        · rw [o2.2.1]; exact zh.1
        · have s2 := s.go o2 r2 g2
          have hv := (num_ok e1).2.1
          refine L_put s2.p lx (by omega) fun A3 _ _ p3 => ?_
          rw [en, add_h, add_0] at p3
          have ef : (fun j => if j = m then g m + v else g j) = (fun j => if j = m then v else g j) := by
            funext j
            rw [hg m (Nat.le_refl _), Nat.zero_add]
          rw [ef] at p3
          rw [nI_add]
          rw [em, e1] at kk0 kk1
          have := w_load hM hw d (m + 1) (fun j => if j = m then v else g j) A3 t1 rfl (by omega) (by omega) ((o.t (fq.o o2)).t (fq.fr p3.2)) (s2.line rfl p3) (fun j hj => by
            show (if j = m then v else g j) = 0
            rw [if_neg (by omega)]; exact hg j (by omega)) (fun j => by
            show (if j = m then v else g j) ≤ 999
            split
            · omega
            · exact hgb j) kk0 kk1
          rw [← en] at this
          exact this
        · rw [o2.2.1]; exact zh.1
        · have s2 := s.f o2 r2
          have zh2 : okH A2 (ha l (19 + n)) := (Lz_p s2.1.1 s2.1.2.1).kh (x := 19 + n) (by omega)
          refine c_put zh2 (by omega) ?_
          rw [nI_add]
          have hrd := s.2.2.2.1
          have ep : pa l (S 2 10 0) = pa l n := by rw [en]
          refine w_loadF (A0 := A0) (n := n) (M := S 8 0 0) (by omega) hM.2 (fun A' o' s' => kk1 c' (by rw [em, e1]) A' l rfl o' s') (6 - (m + 1)) (m + 1) _ (by omega) (((o.t (fq.o o2)).set (by omega) (by omega)).set (by omega) (by omega)) ((s2.set (by omega) (by omega) (by omega)).set (by omega) (by omega) (by omega)) ?_
          rw [I_set (Or.inl (by omega)), I_set (Or.inl (by omega)), (o2.2.2.2 (l_a l) (by omega)).2.1]
          exact mats
    · have c3 : ¬ t.1 = 2 := fun q => c2 (by rw [s.2.2.1.1, q])
      refine kk0 g t ?_
      cases d with
      | zero => rfl
      | succ d => exact if_neg c3
theorem P_load {f : q_H → Prop} (h : Sk A l S rd txt N T t) (hM : 1 ≤ S 8 0 0 ∧ S 8 0 0 ≤ 6)
    (k0 : ∀ S' t', p_load T N S t = .ok (S', t') → ∀ A' l', l_a l' = l_a l → fq A A' (l_a l) rd → Sk A' l' S' rd txt N T t' → f A') (k1 : ∀ c, p_load T N S t = .error c → ∀ A' l', l_a l' = l_a l → fq A A' (l_a l) rd → Sf A' l' rd txt c → f A') : q_Wc G M_X9_readLoad [.ref rd] A (q_KV f) X := by
  have p := h.p
  have hb := p.b
  unfold Lb at hb
  refine f_X9_readLoad ⟨h.2.1.1, _, h.2.1.2.2.2.1, p.line, _, p.r6, p.z4, ?_⟩
  by_cases hw : S 2 10 0 < 30
  · refine L_addLast p hw fun A1 p1 => ⟨fun e => (by cases e), fun r8 e8 => ?_⟩
    cases e8
    have s1 := h.line rfl p1
    have hl := ha_pa l hw
    have hpp : l_a l + 6 ≤ pa l (S 2 10 0) ∧ pa l (S 2 10 0) < l_a l + 96 := by unfold pa; omega
    refine ⟨s1.2.1.1, N_next s1.2.1 s1.2.2.1 fun A2 o2 r2 g2 => ?_⟩
    have s2 := s1.go o2 r2 g2
    have lx : lv (o_add S (fun _ => 0) 0) (19 + S 2 10 0) := lv_par (by rw [add_w]; omega)
    have zh2 : okH A2 (ha l (19 + S 2 10 0)) := s2.p.kh (by omega)
    refine ⟨s2.p.zp _, _, s2.p.rpa hw, r2.1, N_num s2.2.1 s2.2.2.1 (by decide) (by decide) (fun v t1 e1 A3 o3 r3 g3 => ⟨?_, ?_⟩) (fun c e1 A3 o3 r3 => ⟨?_, ?_⟩)⟩
    · rw [o3.2.1]; exact zh2.1
    · have s3 := s2.go o3 r3 g3
      have hv := (num_ok e1).2.1
      refine L_put s3.p lx (by decide) fun A4 _ _ p4 => ?_
      rw [add_h, add_0] at p4
      have ef : (fun j => if j = 0 then 0 + v else (fun _ => 0) j) = (fun j => if j = 0 then v else 0) := by
        funext j
        by_cases c : j = 0
        · rw [if_pos c, if_pos c]; omega
        · rw [if_neg c, if_neg c]
      rw [ef] at p4
      refine w_load (A0 := A) (a := l_a l) hM hw (S 8 0 0 - 1) 1 (fun j => if j = 0 then v else 0) A4 t1 rfl (by omega) (by decide) ((((fq.fr p1.2).t (fq.o o2)).t (fq.o o3)).t (fq.fr p4.2)) (s3.line rfl p4) (fun j hj => if_neg (by omega)) (fun j => by
        show (if j = 0 then v else 0) ≤ 999
        split <;> omega) (fun g' t' em => k0 _ _ ?_) (fun c em => k1 c ?_)
      · unfold p_load
        simp only [hw, if_true, e1, em]
      · unfold p_load
        simp only [hw, if_true, e1, em]
    · rw [o3.2.1]; exact zh2.1
    · have s3 := s2.f o3 r3
      have zh3 : okH A3 (ha l (19 + S 2 10 0)) := (Lz_p s3.1.1 s3.1.2.1).kh (x := 19 + S 2 10 0) (by omega)
      refine c_put zh3 (by decide) ?_
      have mats : q_I A2 (l_a l) 0 = nI (S 8 0 0) := by rw [s2.p.mats, add_t _ _ _ (by decide) (by decide) (by decide)]
      have hrd := h.2.2.2.1
      refine w_loadF (A0 := A) (n := S 2 10 0) (M := S 8 0 0) hw hM.2 (fun A' o' s' => k1 c ?_ A' l rfl o' s') 5 1 _ (by omega) (((((fq.fr p1.2).t (fq.o o2)).t (fq.o o3)).set (by omega) (by omega)).set (by omega) (by omega)) ((s3.set (by omega) (by omega) (by omega)).set (by omega) (by omega) (by omega)) ?_
      · unfold p_load
        simp only [hw, if_true, e1]
      · rw [I_set (Or.inl (by omega)), I_set (Or.inl (by omega)), (o3.2.2.2 (l_a l) (by omega)).2.1]
        exact mats
  · refine L_addLastF p hw ⟨fun _ => ⟨h.2.1.1, N_fail h.2.1 h.2.2.1 (by decide) (by decide) fun A1 o1 r1 => k1 _ ?_ A1 l rfl (fq.o o1) (h.f o1 r1)⟩, fun r e => by cases e⟩
    unfold p_load
    rw [if_neg hw]
end LD

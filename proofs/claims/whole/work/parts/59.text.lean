/-! THE CLASS READS A TEXT -/
section TX
variable {G : q_G} {X : String → q_H → Prop} {A A0 A' : q_H} {l l' : l_T} {S S' : s_T} {rd txt N : Nat} {T : Nat → Nat} {t t' : T_k}
theorem P_stat {f : q_H → Prop} (h : Sk A l S rd txt N T t) (hM : 1 ≤ S 8 0 0 ∧ S 8 0 0 ≤ 6) (hnm : ∀ b, b < S 8 2 0 → nm_ok (S 11 b 0))
    (k0 : ∀ S' t', p_stat T N S t = .ok (S', t') → ∀ A' l', l_a l' = l_a l → fq A A' (l_a l) rd → Sk A' l' S' rd txt N T t' → f A') (k1 : ∀ c, p_stat T N S t = .error c → ∀ A' l', l_a l' = l_a l → fq A A' (l_a l) rd → Sf A' l' rd txt c → f A') : q_Wc G M_X9_readStatement [.ref rd] A (q_KV f) X := by
  unfold p_stat at k0 k1
  refine f_X9_readStatement ⟨h.2.1.1, N_word1 h.2.1 h.2.2.1 ⟨fun c1 => ⟨h.2.1.1, ?_⟩, fun c1 => ⟨h.2.1.1, N_word2 h.2.1 h.2.2.1 ⟨fun c2 => ⟨h.2.1.1, ?_⟩, fun c2 => ⟨h.2.1.1, N_word3 h.2.1 h.2.2.1 ⟨fun c3 => ⟨h.2.1.1, ?_⟩, fun c3 => ⟨h.2.1.1, N_word4 h.2.1 h.2.2.1 ⟨fun c4 => ⟨h.2.1.1, ?_⟩, fun c4 => ⟨h.2.1.1, ?_⟩⟩⟩⟩⟩⟩⟩⟩⟩
  · simp only [c1, if_true] at k0 k1
    exact P_station h hM k0 k1
  · simp only [c1, c2, if_true, Bool.false_eq_true, if_false] at k0 k1
    exact P_setting h k0 k1
  · simp only [c1, c2, c3, if_true, Bool.false_eq_true, if_false] at k0 k1
    exact P_load h hM k0 k1
  · simp only [c1, c2, c3, c4, if_true, Bool.false_eq_true, if_false] at k0 k1
    exact P_buyer h hM hnm k0 k1
  · simp only [c1, c2, c3, c4, Bool.false_eq_true, if_false] at k0 k1
    exact N_fail h.2.1 h.2.2.1 (by decide) (by decide) fun A1 o1 r1 => k1 _ rfl A1 l rfl (fq.o o1) (h.f o1 r1)
/-- the end: a line without a station is an error -/
theorem P_fin {f : Int32 → q_H → Prop} {A0 : q_H} (o : fq A0 A (l_a l) rd) (h : Sk A l S rd txt N T t) (k0 : ∀ S', p_fin S t = .ok S' → ∀ A' l', l_a l' = l_a l → fq A0 A' (l_a l) rd → Lr A' l' S' → f (nI 0) A') (k1 : ∀ c, p_fin S t = .error c → 0 < c → c < 10000 → ∀ A' l', l_a l' = l_a l → fq A0 A' (l_a l) rd → Lg A' l' → f (nI c) A') :
    ∃ r3 : Nat, q_R A rd 2 = some r3 ∧ q_sh A r3 = (5, 0) ∧ (((q_I A r3 3) = nI 0 → (1 ≤ 1 ∧ 10 ≤ 10) ∧ q_Wc G M_X9_fail [.ref rd, .int (nI 1)] A (q_KV fun A9 => q_sh A9 rd = (10, 0) ∧ (1 ≤ 1 ∧ 10 ≤ 10) ∧ f (q_I A9 rd 7) A9) q_nX) ∧ (¬ (q_I A r3 3) = nI 0 → (1 ≤ 1 ∧ 10 ≤ 10) ∧ f (q_I A rd 7) A)) := by
  have hb := h.p.b
  unfold Lb at hb
  refine ⟨_, h.2.1.2.2.2.1, h.p.line, ?_⟩
  rw [h.p.nst]
  refine ⟨fun c => ⟨⟨by decide, by decide⟩, N_fail h.2.1 h.2.2.1 (by decide) (by decide) fun A1 o1 r1 => ⟨r1.1, ⟨by decide, by decide⟩, ?_⟩⟩, fun c => ⟨⟨by decide, by decide⟩, ?_⟩⟩
  · have c0 : S 8 1 0 = 0 := (nI_eq (by omega) (by decide)).mp c
    have s1 := h.f o1 r1
    rw [r1.2.2.2.1]
    exact k1 _ (if_pos c0) r1.2.2.2.2.1 r1.2.2.2.2.2.1 A1 l rfl (o.t (fq.o o1)) s1.1
  · have c0 : ¬ S 8 1 0 = 0 := fun e => c (by rw [e])
    rw [h.2.2.1.2.2.2.2.2]
    exact k0 S (if_neg c0) A l rfl o h.1
theorem P_finF {f : Int32 → q_H → Prop} {A0 : q_H} {c : Nat} (o : fq A0 A (l_a l) rd) (h : Sf A l rd txt c) (k1 : ∀ A' l', l_a l' = l_a l → fq A0 A' (l_a l) rd → Lg A' l' → f (nI c) A') :
    ∃ r3 : Nat, q_R A rd 2 = some r3 ∧ q_sh A r3 = (5, 0) ∧ (((q_I A r3 3) = nI 0 → (1 ≤ 1 ∧ 10 ≤ 10) ∧ q_Wc G M_X9_fail [.ref rd, .int (nI 1)] A (q_KV fun A9 => q_sh A9 rd = (10, 0) ∧ (1 ≤ 1 ∧ 10 ≤ 10) ∧ f (q_I A9 rd 7) A9) q_nX) ∧ (¬ (q_I A r3 3) = nI 0 → (1 ≤ 1 ∧ 10 ≤ 10) ∧ f (q_I A rd 7) A)) := by
  have e7 := h.2.1.2.2.2.1
  refine ⟨_, h.2.1.2.2.1, h.1.2.1.1.1.1, fun _ => ⟨⟨by decide, by decide⟩, F_fail h.2.1 ⟨h.2.1.1, ⟨by decide, by decide⟩, ?_⟩⟩, fun _ => ⟨⟨by decide, by decide⟩, ?_⟩⟩
  · rw [e7]; exact k1 A l rfl o h.1
  · rw [e7]; exact k1 A l rfl o h.1
theorem P_loopF {f : Int32 → q_H → Prop} {A0 : q_H} {c : Nat} {x : Int32} (o : fq A0 A (l_a l) rd) (h : Sf A l rd txt c) (k1 : ∀ A' l', l_a l' = l_a l → fq A0 A' (l_a l) rd → Lg A' l' → f (nI c) A') : q_Wp G M_X9_readText (q_KI f) X 1 10 52 [some (.ref rd), some (.int x)] [] A :=
  f_X9_readText_52 ⟨fun _ => ⟨h.2.1.1, P_finF o h k1⟩, fun _ => ⟨h.2.1.1, fun e => absurd e h.ne, fun _ => P_finF o h k1⟩⟩
theorem w_text {f : Int32 → q_H → Prop} {A0 : q_H} {a : Nat} : ∀ (d i : Nat) (A : q_H) (l : l_T) (S : s_T) (t : T_k), l_a l = a → i + d = 700 → fq A0 A a rd → Sk A l S rd txt N T t → rv S →
    (∀ S', p_loop T N d S t = .ok S' → ∀ A' l', l_a l' = a → fq A0 A' a rd → Lr A' l' S' → f (nI 0) A') → (∀ c, p_loop T N d S t = .error c → 0 < c → c < 10000 → ∀ A' l', l_a l' = a → fq A0 A' a rd → Lg A' l' → f (nI c) A') → q_Wp G M_X9_readText (q_KI f) X 1 10 52 [some (.ref rd), some (.int (nI i))] [] A
  | 0, i, A, l, S, t, ea, e, o, h, r, k0, k1 => by
    subst ea
    have ei : i = 700 := by omega
    subst ei
    exact f_X9_readText_52 ⟨fun _ => ⟨h.2.1.1, P_fin o h k0 k1⟩, fun c => absurd (nI_le (Nat.le_refl _) (by decide)) c⟩
  | d + 1, i, A, l, S, t, ea, e, o, h, r, k0, k1 => by
    subst ea
    have ht := h.2.2.1.2.2.2.2.1.2.2.1
    have w2 := h.2.2.1.2.2.2.2.1.2.1
    have el : p_loop T N (d + 1) S t = if t.1 = 0 then p_fin S t else match p_stat T N S t with
      | .error c => .error c
      | .ok (S', t1) => match p_end T N t1 with
        | .error c => .error c
        | .ok t2 => p_loop T N d S' t2 := rfl
    rw [el] at k0 k1
    refine f_X9_readText_52 ⟨fun c => absurd c (nI_ge (by omega) (by decide)), fun _ => ⟨h.2.1.1, fun _ => ?_, fun c => absurd h.2.2.1.2.2.2.2.2 c⟩⟩
    rw [h.2.2.1.1]
    refine ⟨fun c => ?_, fun c => ⟨⟨by decide, by decide⟩, ?_⟩⟩
    · have c0 : t.1 = 0 := (nI_eq (by omega) (by decide)).mp c
      rw [if_pos c0] at k0 k1
      exact P_fin o h k0 k1
    · have c0 : ¬ t.1 = 0 := fun e => c (by rw [e])
      rw [if_neg c0] at k0 k1
      refine P_stat h ⟨r.1.1, r.1.2.1⟩ r.2.2.2.2.2.2.2.2.2.2 (fun S' t1 e1 A1 l1 ea1 o1 h1 => ⟨⟨by decide, by decide⟩, h1.2.1.1, ?_⟩) (fun c e1 A1 l1 ea1 o1 h1 => ⟨⟨by decide, by decide⟩, h1.2.1.1, F_semi h1.2.1 ?_⟩)
      · have hw := Tw_tok (T := T) w2
        have r' := rv_stat r hw e1
        simp only [e1] at k0 k1
        rw [← ea1] at o o1 k0 k1
        refine N_semi h1.2.1 h1.2.2.1 (fun t2 e2 A2 o2 r2 g2 => ?_) (fun c e2 A2 o2 r2 => ?_)
        · have h2 := h1.go o2 r2 g2
          simp only [e2] at k0 k1
          rw [nI_add]
          exact w_text d (i + 1) A2 l1 S' t2 rfl (by omega) ((o.t o1).t (fq.o o2)) h2 r' k0 k1
        · have h2 := h1.f o2 r2
          exact P_loopF ((o.t o1).t (fq.o o2)) h2 fun A' l' ea o' g => k1 c (by simp only [e2]) r2.2.2.2.2.1 r2.2.2.2.2.2.1 A' l' ea o' g
      · rw [← ea1] at o o1 k0 k1
        exact P_loopF (o.t o1) h1 fun A' l' ea o' g => k1 c (by simp only [e1]) h1.2.1.2.2.2.2.1 h1.2.1.2.2.2.2.2.1 A' l' ea o' g
/-- a text is read into a line -/
theorem P_text {f : Int32 → q_H → Prop} (g : Lg A l) (r : Rx A rd txt (l_a l) N T) (sp : sp_ A (l_a l) rd txt) (i3 : q_I A rd 3 = nI 0) (i4 : q_I A rd 4 = nI 0) (i5 : q_I A rd 5 = nI 0) (i7 : q_I A rd 7 = nI 0) (sz : l_a l + 277 ≤ q_sz A)
    (k0 : ∀ S', p_text T N = .ok S' → ∀ A' l', l_a l' = l_a l → fq A A' (l_a l) rd → Lr A' l' S' → f (nI 0) A') (k1 : ∀ c, p_text T N = .error c → 0 < c → c < 10000 → ∀ A' l', l_a l' = l_a l → fq A A' (l_a l) rd → Lg A' l' → f (nI c) A') : q_Wc G M_X9_readText [.ref rd] A (q_KI f) X := by
  refine f_X9_readText ⟨r.1, _, r.2.2.2.1, g.2.1.1.1.1, L_reset g.1 g.2.1 g.2.2 sz fun A1 p1 => ?_⟩
  have c0 := p1.2.2 rd sp.1 sp.2.2.1
  have c1 := p1.2.2 txt sp.2.1 sp.2.2.2
  have r1 : Rx A1 rd txt (l_a l) N T := by
    unfold Rx at r ⊢
    rw [c0.1, c0.2.1, c0.2.2.1, c1.1, c1.2.1]; exact r
  have g1 : Ro A1 rd N T (0, 0, 0) := by
    unfold Ro
    rw [c0.2.1]
    exact ⟨i3, i4, i5, fun e => by dsimp only at e; omega, ⟨Nat.le_refl _, Nat.zero_le _, by dsimp only; omega, fun e => by dsimp only at e; omega, fun e => by dsimp only at e; omega⟩, i7⟩
  have sp1 : sp_ A1 (l_a l) rd txt := ⟨sp.1, sp.2.1, Nat.lt_of_lt_of_le sp.2.2.1 p1.2.1, Nat.lt_of_lt_of_le sp.2.2.2 p1.2.1⟩
  have h1 : Sk A1 l s_0 rd txt N T (0, 0, 0) := ⟨p1.1, r1, g1, sp1⟩
  have o1 : fq A A1 (l_a l) rd := fq.fr p1.2
  refine ⟨r1.1, N_next r1 g1 fun A2 o2 r2 g2 => ?_⟩
  have h2 := h1.go o2 r2 g2
  unfold p_text at k0 k1
  refine ⟨r2.1, N_word0 r2 g2 ⟨fun c => ⟨r2.1, N_next r2 g2 fun A3 o3 r3 g3 => ?_⟩, fun c => ⟨r2.1, N_fail r2 g2 (by decide) (by decide) fun A3 o3 r3 => ?_⟩⟩⟩
  · simp only [c, if_true] at k0 k1
    have h3 := h2.go o3 r3 g3
    refine ⟨r3.1, _, r3.2.2.2.1, N_num r3 g3 (by decide) (by decide) (fun v t1 e1 A4 o4 r4 g4 => ?_) (fun c e1 A4 o4 r4 => ?_)⟩
    · have h4 := h3.go o4 r4 g4
      simp only [e1] at k0 k1
      have p5 := h4.p.put (t := 8) (i := 0) (j := 0) v (by unfold dm0; omega) ⟨fun e => absurd e (by decide), fun _ => rfl⟩
      have h5 := h4.line (l' := l) rfl p5
      have o5 : fq A (q_setI A4 (l_a l) 0 (nI v)) (l_a l) rd := (((o1.t (fq.o o2)).t (fq.o o3)).t (fq.o o4)).set (by omega) (by omega)
      refine ⟨h4.p.line, r4.1, N_semi h5.2.1 h5.2.2.1 (fun t2 e2 A6 o6 r6 g6 => ?_) (fun c e2 A6 o6 r6 => ?_)⟩
      · have h6 := h5.go o6 r6 g6
        simp only [e2] at k0 k1
        have a1 := num_ok e1
        exact w_text (A0 := A) (a := l_a l) 700 0 A6 l (s_p s_0 8 0 0 v) t2 rfl (by omega) (o5.t (fq.o o6)) h6 (rv_0 a1.1 a1.2.1) k0 k1
      · exact P_loopF (o5.t (fq.o o6)) (h5.f o6 r6) fun A' l' ea o' g' => k1 c (by simp only [e2]) r6.2.2.2.2.1 r6.2.2.2.2.2.1 A' l' ea o' g'
    · have h4 := h3.f o4 r4
      have h5 : Sf (q_setI A4 (l_a l) 0 (nI 1)) l rd txt c := h4.set (by omega) (by omega) (by omega)
      exact ⟨h4.1.2.1.1.1.1, r4.1, F_semi h5.2.1 (P_loopF ((((o1.t (fq.o o2)).t (fq.o o3)).t (fq.o o4)).set (by omega) (by omega)) h5 fun A' l' ea o' g' => k1 c (by simp only [e1]) r4.2.2.2.2.1 r4.2.2.2.2.2.1 A' l' ea o' g')⟩
  · simp only [c, Bool.false_eq_true, if_false] at k0 k1
    exact P_loopF ((o1.t (fq.o o2)).t (fq.o o3)) (h2.f o3 r3) fun A' l' ea o' g' => k1 _ rfl r3.2.2.2.2.1 r3.2.2.2.2.2.1 A' l' ea o' g'
end TX

/-! THE CLASS'S READER: statements -/
def fq (A A' : q_H) (la rd : Nat) : Prop := q_sz A ≤ q_sz A' ∧ ∀ x, (x < la ∨ la + 277 ≤ x) → x ≠ rd → x < q_sz A → q_same A A' x
def sp_ (A : q_H) (la rd txt : Nat) : Prop := (rd < la ∨ la + 277 ≤ rd) ∧ (txt < la ∨ la + 277 ≤ txt) ∧ rd < q_sz A ∧ txt < q_sz A
def Sk (A : q_H) (l : l_T) (S : s_T) (rd txt N : Nat) (T : Nat → Nat) (t : T_k) : Prop := Lr A l S ∧ Rx A rd txt (l_a l) N T ∧ Ro A rd N T t ∧ sp_ A (l_a l) rd txt
def Sf (A : q_H) (l : l_T) (rd txt c : Nat) : Prop := Lg A l ∧ Rf A rd txt (l_a l) c ∧ sp_ A (l_a l) rd txt
theorem fq.r (A : q_H) (la rd : Nat) : fq A A la rd := ⟨Nat.le_refl _, fun x _ _ _ => q_same.r A x⟩
theorem fq.t {A B C : q_H} {la rd : Nat} (h : fq A B la rd) (k : fq B C la rd) : fq A C la rd := ⟨Nat.le_trans h.1 k.1, fun x a b c => (h.2 x a b c).t (k.2 x a b (Nat.lt_of_lt_of_le c h.1))⟩
theorem fq.o {A B : q_H} {la rd : Nat} (h : oq A B rd) : fq A B la rd := ⟨Nat.le_of_eq h.1.symm, fun x _ b _ => h.2.2.2 x b⟩
theorem fq.fr {A B : q_H} {la rd : Nat} (h : fr A B la 277) : fq A B la rd := ⟨h.1, fun x a _ c => h.2 x a c⟩
theorem fq.set {A B : q_H} {la rd x k : Nat} {v : Int32} (h : fq A B la rd) (h1 : la ≤ x) (h2 : x < la + 277) : fq A (q_setI B x k v) la rd := ⟨h.1, fun y a b c => (h.2 y a b c).setI (by omega)⟩
section SKS
variable {G : q_G} {X : String → q_H → Prop} {A A' : q_H} {l l' : l_T} {S S' : s_T} {rd txt N : Nat} {T : Nat → Nat} {t t' : T_k}
theorem Sk.go (h : Sk A l S rd txt N T t) (o : oq A A' rd) (r : Rx A' rd txt (l_a l) N T) (g : Ro A' rd N T t') : Sk A' l S rd txt N T t' :=
  ⟨h.1.sm fun x h1 h2 => o.2.2.2 x (by have := h.2.2.2.1; omega), r, g, by have := h.2.2.2; unfold sp_ at this ⊢; rw [o.1]; exact this⟩
theorem Sk.f (h : Sk A l S rd txt N T t) {c : Nat} (o : oq A A' rd) (r : Rf A' rd txt (l_a l) c) : Sf A' l rd txt c :=
  ⟨(h.1.sm fun x h1 h2 => o.2.2.2 x (by have := h.2.2.2.1; omega)).g, r, by have := h.2.2.2; unfold sp_ at this ⊢; rw [o.1]; exact this⟩
theorem Sk.p (h : Sk A l S rd txt N T t) : Lp A A l S := ⟨h.1, fr.r _ _ _⟩
theorem Sk.line (h : Sk A l S rd txt N T t) (ea : l_a l' = l_a l) (p : Lp A A' l' S') : Sk A' l' S' rd txt N T t := by
  obtain ⟨h1, h2, h3, h4⟩ := h
  have f := p.2
  rw [ea] at f
  have c0 := f.2 rd h4.1 h4.2.2.1
  have c1 := f.2 txt h4.2.1 h4.2.2.2
  unfold Sk
  rw [ea]
  refine ⟨p.1, ?_, ?_, h4.1, h4.2.1, Nat.lt_of_lt_of_le h4.2.2.1 f.1, Nat.lt_of_lt_of_le h4.2.2.2 f.1⟩
  · unfold Rx at h2 ⊢
    rw [c0.1, c0.2.1, c0.2.2.1, c1.1, c1.2.1]; exact h2
  · unfold Ro at h3 ⊢
    rw [c0.2.1]; exact h3
theorem Sf.set {c : Nat} (h : Sf A l rd txt c) {x k : Nat} {v : Int32} (h1 : l_a l ≤ x) (h2 : x < l_a l + 277) (h3 : ¬ (x = l_a l + 4 ∧ k = 1)) : Sf (q_setI A x k v) l rd txt c := by
  obtain ⟨⟨g1, g2, g3⟩, r, s⟩ := h
  refine ⟨⟨g1, g2.to rfl rfl, by rw [I_set (by omega)]; exact g3⟩, ?_, s⟩
  unfold Rf at r ⊢
  have s1 := s.1
  rw [I_set (Or.inl (by omega))]
  exact r
theorem Sf.ne {c : Nat} (h : Sf A l rd txt c) : ¬ q_I A rd 7 = nI 0 := fun e => absurd ((nI_eq (by have := h.2.1.2.2.2.2.2.1; omega) (by decide)).mp (h.2.1.2.2.2.1.symm.trans e)) (by have := h.2.1.2.2.2.2.1; omega)
theorem num_ok {lo hi v : Nat} (e : p_num T N lo hi t = .ok (v, t')) : lo ≤ v ∧ v ≤ hi ∧ t' = tok T N t.2.2 ∧ t.1 = 2 := by
  unfold p_num at e
  by_cases c : t.1 ≠ 2
  · rw [if_pos c] at e; cases e
  · rw [if_neg c] at e
    by_cases c2 : t_val T t.2.1 (t.2.2 - t.2.1) < lo ∨ hi < t_val T t.2.1 (t.2.2 - t.2.1)
    · rw [if_pos c2] at e; cases e
    · rw [if_neg c2] at e
      cases e
      exact ⟨by omega, by omega, rfl, by omega⟩
theorem P_station {f : q_H → Prop} (h : Sk A l S rd txt N T t) (hm : 1 ≤ S 8 0 0 ∧ S 8 0 0 ≤ 6)
    (k0 : ∀ S' t', p_station T N S t = .ok (S', t') → ∀ A' l', l_a l' = l_a l → fq A A' (l_a l) rd → Sk A' l' S' rd txt N T t' → f A') (k1 : ∀ c, p_station T N S t = .error c → ∀ A' l', l_a l' = l_a l → fq A A' (l_a l) rd → Sf A' l' rd txt c → f A') : q_Wc G M_X9_readStation [.ref rd] A (q_KV f) X := by
  have hb := h.p.b
  unfold Lb at hb
  refine f_X9_readStation ⟨h.2.1.1, _, h.2.1.2.2.2.1, h.p.line, ?_⟩
  rw [h.p.nst]
  refine ⟨fun c => N_next h.2.1 h.2.2.1 fun A1 o1 r1 g1 => ?_, fun c => N_fail h.2.1 h.2.2.1 (by decide) (by decide) fun A1 o1 r1 => k1 _ ?_ A1 l rfl (fq.o o1) (h.f o1 r1)⟩
  · have hlt := (nI_ltI (by omega) (by decide)).mp c
    have h1 := h.go o1 r1 g1
    refine ⟨r1.1, _, r1.2.2.2.1, h1.p.line, ?_⟩
    rw [h1.p.mats, pk_sub hm.1]
    refine N_num h1.2.1 h1.2.2.1 (by decide) (by omega) (fun v1 t1 e1 A2 o2 r2 g2 => ?_) (fun c e1 A2 o2 r2 => ?_)
    · have h2 := h1.go o2 r2 g2
      refine ⟨r2.1, N_num h2.2.1 h2.2.2.1 (by decide) (by decide) (fun v2 t2 e2 A3 o3 r3 g3 => ?_) (fun c e2 A3 o3 r3 => ?_)⟩
      · have h3 := h2.go o3 r3 g3
        refine ⟨r3.1, N_num h3.2.1 h3.2.2.1 (by decide) (by decide) (fun v3 t3 e3 A4 o4 r4 g4 => ?_) (fun c e3 A4 o4 r4 => ?_)⟩
        · have h4 := h3.go o4 r4 g4
          refine ⟨r4.1, N_num h4.2.1 h4.2.2.1 (by decide) (by decide) (fun v4 t4 e4 A5 o5 r5 g5 => ?_) (fun c e4 A5 o5 r5 => ?_)⟩
          · have h5 := h4.go o5 r5 g5
            refine ⟨r5.1, fun _ => ⟨_, r5.2.2.2.1, h5.p.line, L_addStation h5.p hlt fun A6 p6 => k0 _ _ ?_ A6 l rfl ((((((fq.o o1).t (fq.o o2)).t (fq.o o3)).t (fq.o o4)).t (fq.o o5)).t (fq.fr p6.2)) (h5.line rfl p6)⟩, fun c => absurd g5.2.2.2.2.2 c⟩
            unfold p_station
            simp only [hlt, if_true, e1, e2, e3, e4]
          · have s5 := h4.f o5 r5
            refine ⟨r5.1, fun e => absurd e s5.ne, fun _ => k1 c ?_ A5 l rfl (((((fq.o o1).t (fq.o o2)).t (fq.o o3)).t (fq.o o4)).t (fq.o o5)) s5⟩
            unfold p_station
            simp only [hlt, if_true, e1, e2, e3, e4]
        · have s5 := h3.f o4 r4
          refine ⟨r4.1, F_num r4 fun _ => ⟨r4.1, fun e => absurd e s5.ne, fun _ => k1 c ?_ A4 l rfl ((((fq.o o1).t (fq.o o2)).t (fq.o o3)).t (fq.o o4)) s5⟩⟩
          unfold p_station
          simp only [hlt, if_true, e1, e2, e3]
      · have s5 := h2.f o3 r3
        refine ⟨r3.1, F_num r3 fun _ => ⟨r3.1, F_num r3 fun _ => ⟨r3.1, fun e => absurd e s5.ne, fun _ => k1 c ?_ A3 l rfl (((fq.o o1).t (fq.o o2)).t (fq.o o3)) s5⟩⟩⟩
        unfold p_station
        simp only [hlt, if_true, e1, e2]
    · have s5 := h1.f o2 r2
      refine ⟨r2.1, F_num r2 fun _ => ⟨r2.1, F_num r2 fun _ => ⟨r2.1, F_num r2 fun _ => ⟨r2.1, fun e => absurd e s5.ne, fun _ => k1 c ?_ A2 l rfl ((fq.o o1).t (fq.o o2)) s5⟩⟩⟩⟩
      unfold p_station
      simp only [hlt, if_true, e1]
  · have hlt : ¬ S 8 1 0 < 8 := fun q => c (nI_lt q (by decide))
    unfold p_station
    rw [if_neg hlt]
theorem P_setting {f : q_H → Prop} (h : Sk A l S rd txt N T t)
    (k0 : ∀ S' t', p_setting T N S t = .ok (S', t') → ∀ A' l', l_a l' = l_a l → fq A A' (l_a l) rd → Sk A' l' S' rd txt N T t' → f A') (k1 : ∀ c, p_setting T N S t = .error c → ∀ A' l', l_a l' = l_a l → fq A A' (l_a l) rd → Sf A' l' rd txt c → f A') : q_Wc G M_X9_readSetting [.ref rd] A (q_KV f) X := by
  refine f_X9_readSetting ⟨h.2.1.1, N_next h.2.1 h.2.2.1 fun A1 o1 r1 g1 => ⟨r1.1, ?_⟩⟩
  have h1 := h.go o1 r1 g1
  refine N_num h1.2.1 h1.2.2.1 (by decide) (by decide) (fun v1 t1 e1 A2 o2 r2 g2 => ?_) (fun c e1 A2 o2 r2 => ?_)
  · have h2 := h1.go o2 r2 g2
    have hv := num_ok e1
    have hh := hi_le v1
    have hd : dm0 1 v1 0 := by unfold dm0; omega
    refine ⟨fun c => absurd c (nI_pos (by omega)), fun _ => ⟨fun c => absurd c (nI_ge (by omega) (by decide)), fun _ => ⟨r2.1, _, r2.2.2.2.1, h2.p.line, _, h2.p.r1, v1, rfl, by omega, ?_⟩⟩⟩
    rw [sv_lo v1 (by omega), sv_hi v1 (by omega)]
    refine N_num h2.2.1 h2.2.2.1 (by omega) (by omega) (fun v2 t2 e2 A3 o3 r3 g3 => ?_) (fun c e2 A3 o3 r3 => ?_)
    · have h3 := h2.go o3 r3 g3
      have p4 := h3.p.put (t := 1) (i := v1) (j := 0) v2 hd ⟨fun e => absurd e (by decide), fun e => absurd e (by decide)⟩
      refine ⟨8, h3.p.z1, by decide, by omega, k0 _ _ ?_ _ l rfl ((((fq.o o1).t (fq.o o2)).t (fq.o o3)).t (fq.fr p4.2)) (h3.line rfl p4)⟩
      unfold p_setting
      simp only [e1, e2]
    · have s5 := h2.f o3 r3
      refine ⟨8, s5.1.2.1.1.2.1, by decide, by omega, k1 c ?_ _ l rfl ((((fq.o o1).t (fq.o o2)).t (fq.o o3)).set (by omega) (by omega)) (s5.set (by omega) (by omega) (by omega))⟩
      unfold p_setting
      simp only [e1, e2]
  · have s5 := h1.f o2 r2
    refine ⟨fun c => absurd c (by decide), fun _ => ⟨fun c => absurd c (by decide), fun _ => ⟨r2.1, _, r2.2.2.1, s5.1.2.1.1.1.1, _, s5.1.2.1.1.1.2.1, 0, rfl, by decide, F_num r2 fun _ => ⟨8, s5.1.2.1.1.2.1, by decide, by decide, k1 c ?_ _ l rfl (((fq.o o1).t (fq.o o2)).set (by omega) (by omega)) (s5.set (by omega) (by omega) (by omega))⟩⟩⟩⟩
    unfold p_setting
    simp only [e1]
end SKS

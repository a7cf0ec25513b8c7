/-! THE CLASS'S READER: buyers -/
def B0 (f : q_H → Prop) (rd r20 : Nat) (v : Int32) (A : q_H) : Prop := q_sh A r20 = (2, 0) ∧ q_sh A rd = (10, 0) ∧ ∃ r49 : Nat, q_R A rd 2 = some r49 ∧ q_sh A r49 = (5, 0) ∧ f (q_setI (q_setI (q_setI A r20 5 v) r20 6 (nI 0)) r49 5 ((q_I (q_setI (q_setI A r20 5 v) r20 6 (nI 0)) r49 5) + (nI 1)))
def B1 (G : q_G) (f : q_H → Prop) (rd r20 : Nat) (v : Int32) (A : q_H) : Prop := q_sh A r20 = (2, 0) ∧ q_sh A rd = (10, 0) ∧ q_Wc G M_X9_readNumber [.ref rd, .int (nI 0), .int (nI 100)] (q_setI A r20 4 v) (q_KI fun r45 A44 => B0 f rd r20 r45 A44) q_nX
def B2 (G : q_G) (f : q_H → Prop) (rd r20 : Nat) (v : Int32) (A : q_H) : Prop := q_sh A r20 = (2, 0) ∧ q_sh A rd = (10, 0) ∧ q_Wc G M_X9_readNumber [.ref rd, .int (nI 0), .int (nI 100)] (q_setI A r20 3 v) (q_KI fun r45 A44 => B1 G f rd r20 r45 A44) q_nX
def B3 (G : q_G) (f : q_H → Prop) (rd r20 : Nat) (v : Int32) (A : q_H) : Prop := q_sh A r20 = (2, 0) ∧ q_sh A rd = (10, 0) ∧ q_Wc G M_X9_readNumber [.ref rd, .int (nI 1), .int (nI 9999)] (q_setI A r20 2 v) (q_KI fun r45 A44 => B2 G f rd r20 r45 A44) q_nX
def B4 (G : q_G) (f : q_H → Prop) (rd r20 : Nat) (v : Int32) (A : q_H) : Prop := q_sh A r20 = (2, 0) ∧ q_sh A rd = (10, 0) ∧ q_Wc G M_X9_readNumber [.ref rd, .int (nI 0), .int (nI 2)] (q_setI A r20 1 v) (q_KI fun r45 A44 => B3 G f rd r20 r45 A44) q_nX
section BY
variable {G : q_G} {f : q_H → Prop} {A A0 A' : q_H} {l l' : l_T} {S S' U : s_T} {rd txt N : Nat} {T : Nat → Nat} {t t' : T_k} {H : Nat → Prop} {D : Nat → Nat → Nat → Prop} {Q : Nat → Prop}
theorem FB0 {c n : Nat} (hn : n < 4) (k : ∀ A', fq A0 A' (l_a l) rd → Sf A' l rd txt c → f A') (o : fq A0 A (l_a l) rd) (s : Sf A l rd txt c) (v : Int32) : B0 f rd (l_a l + 273 + n) v A := by
  have z := Lz_p s.1.1 s.1.2.1
  exact ⟨z.zb hn, s.2.1.1, _, s.2.1.2.2.1, z.line, k _ (((o.set (by omega) (by omega)).set (by omega) (by omega)).set (by omega) (by omega)) (((s.set (by omega) (by omega) (by omega)).set (by omega) (by omega) (by omega)).set (by omega) (by omega) (by omega))⟩
theorem FB1 {c n : Nat} (hn : n < 4) (k : ∀ A', fq A0 A' (l_a l) rd → Sf A' l rd txt c → f A') (o : fq A0 A (l_a l) rd) (s : Sf A l rd txt c) (v : Int32) : B1 G f rd (l_a l + 273 + n) v A := by
  have z := Lz_p s.1.1 s.1.2.1
  have s1 : Sf (q_setI A (l_a l + 273 + n) 4 v) l rd txt c := s.set (by omega) (by omega) (by omega)
  exact ⟨z.zb hn, s.2.1.1, F_num s1.2.1 fun v' => FB0 hn k (o.set (by omega) (by omega)) s1 v'⟩
theorem FB2 {c n : Nat} (hn : n < 4) (k : ∀ A', fq A0 A' (l_a l) rd → Sf A' l rd txt c → f A') (o : fq A0 A (l_a l) rd) (s : Sf A l rd txt c) (v : Int32) : B2 G f rd (l_a l + 273 + n) v A := by
  have z := Lz_p s.1.1 s.1.2.1
  have s1 : Sf (q_setI A (l_a l + 273 + n) 3 v) l rd txt c := s.set (by omega) (by omega) (by omega)
  exact ⟨z.zb hn, s.2.1.1, F_num s1.2.1 fun v' => FB1 hn k (o.set (by omega) (by omega)) s1 v'⟩
theorem FB3 {c n : Nat} (hn : n < 4) (k : ∀ A', fq A0 A' (l_a l) rd → Sf A' l rd txt c → f A') (o : fq A0 A (l_a l) rd) (s : Sf A l rd txt c) (v : Int32) : B3 G f rd (l_a l + 273 + n) v A := by
  have z := Lz_p s.1.1 s.1.2.1
  have s1 : Sf (q_setI A (l_a l + 273 + n) 2 v) l rd txt c := s.set (by omega) (by omega) (by omega)
  exact ⟨z.zb hn, s.2.1.1, F_num s1.2.1 fun v' => FB2 hn k (o.set (by omega) (by omega)) s1 v'⟩
theorem FB4 {c n : Nat} (hn : n < 4) (k : ∀ A', fq A0 A' (l_a l) rd → Sf A' l rd txt c → f A') (o : fq A0 A (l_a l) rd) (s : Sf A l rd txt c) (v : Int32) : B4 G f rd (l_a l + 273 + n) v A := by
  have z := Lz_p s.1.1 s.1.2.1
  have s1 : Sf (q_setI A (l_a l + 273 + n) 1 v) l rd txt c := s.set (by omega) (by omega) (by omega)
  exact ⟨z.zb hn, s.2.1.1, F_num s1.2.1 fun v' => FB3 hn k (o.set (by omega) (by omega)) s1 v'⟩
/-- a line being written, beside the reader -/
def Bk (A : q_H) (l : l_T) (U : s_T) (H : Nat → Prop) (D : Nat → Nat → Nat → Prop) (Q : Nat → Prop) (rd txt N : Nat) (T : Nat → Nat) (t : T_k) : Prop := Lk A A l U H D Q ∧ Rx A rd txt (l_a l) N T ∧ Ro A rd N T t ∧ sp_ A (l_a l) rd txt
theorem Lk.mv (h : Lk A0 A l U H D Q) (e : ∀ x, l_a l ≤ x → x < l_a l + 277 → q_same A A' x) : Lk A' A' l U H D Q := by
  have zI : ∀ x j, l_a l ≤ x → x < l_a l + 277 → q_I A' x j = q_I A x j := fun x j a b => by rw [(e x a b).2.1]
  refine ⟨h.1, h.2.1.sm e, fr.r _ _ _, fun x q => ?_, fun t i j q => ?_, fun s q => ?_⟩
  · have a := h.2.2.2.1 x q
    have hin := ha_in l h.1 a.1
    exact ⟨a.1, fun m hm => by rw [zI _ _ (by omega) (by omega)]; exact a.2.1 m hm, by rw [zI _ _ (by omega) (by omega)]; exact a.2.2⟩
  · have a := h.2.2.2.2.1 t i j q
    have hin := ca_in l h.1 a.1
    exact ⟨a.1, by rw [zI _ _ (by omega) (by omega)]; exact a.2⟩
  · have a := h.2.2.2.2.2 s q
    refine ⟨fun h8 h0 => ?_, fun h8 => ?_⟩
    · obtain ⟨j, hj, ej⟩ := h.1.1 s h8
      rw [zI _ _ (by omega) (by omega)]; exact a.1 h8 h0
    · rw [zI _ _ (by omega) (by omega)]; exact a.2 h8
theorem Bk.go (h : Bk A l U H D Q rd txt N T t) (o : oq A A' rd) (r : Rx A' rd txt (l_a l) N T) (g : Ro A' rd N T t') : Bk A' l U H D Q rd txt N T t' :=
  ⟨h.1.mv fun x h1 h2 => o.2.2.2 x (by have := h.2.2.2.1; omega), r, g, by have := h.2.2.2; unfold sp_ at this ⊢; rw [o.1]; exact this⟩
theorem Bk.ff (h : Bk A l U H D Q rd txt N T t) (q8 : Q 8) {c : Nat} (o : oq A A' rd) (r : Rf A' rd txt (l_a l) c) : Sf A' l rd txt c := by
  have k := h.1.mv (A' := A') fun x h1 h2 => o.2.2.2 x (by have := h.2.2.2.1; omega)
  exact ⟨⟨k.1, k.2.1, (k.2.2.2.2.2 8 q8).2 rfl⟩, r, by have := h.2.2.2; unfold sp_ at this ⊢; rw [o.1]; exact this⟩
/-- a cell of the line is written -/
theorem Bk.put (h : Bk A l U H D Q rd txt N T t) {a i j : Nat} (v : Nat) (d : dm0 a i j) (nD : ¬ D a i j) : Bk (q_setI A (ca l a i) (cf a i j) (nI v)) l (s_p U a i j v) H (fun x y z => D x y z ∨ (x = a ∧ y = i ∧ z = j)) Q rd txt N T t := by
  have ha : a ≠ 0 ∧ a ≠ 4 := by unfold dm0 at d; omega
  have hin := ca_in l h.1.1 d
  have k := (h.1.chg (S' := s_p U a i j v) (H' := H) (D' := D) (Q' := Q) (fun x q => ⟨q, fun m => by rw [s_p_00 ha.1]⟩) (fun x y z q => ⟨q, if_neg fun e => nD (by rw [← e.1, ← e.2.1, ← e.2.2]; exact q)⟩) (fun s q => ⟨q, by rw [s_p_t (Ne.symm ha.2)]⟩)).put d
  rw [s_p_s] at k
  obtain ⟨-, r, g, s⟩ := h
  have s1 := s.1
  have s2 := s.2.1
  refine ⟨k.mv fun x _ _ => q_same.r _ x, ?_, ?_, s⟩
  · unfold Rx at r ⊢
    refine ⟨r.1, r.2.1, by rw [I_set (Or.inl (by omega))]; exact r.2.2.1, r.2.2.2.1, r.2.2.2.2.1, r.2.2.2.2.2.1, fun j hj => ⟨(r.2.2.2.2.2.2.1 j hj).1, by rw [I_set (Or.inl (by omega))]; exact (r.2.2.2.2.2.2.1 j hj).2⟩, r.2.2.2.2.2.2.2⟩
  · unfold Ro at g ⊢
    have e : ∀ k, q_I (q_setI A (ca l a i) (cf a i j) (nI v)) rd k = q_I A rd k := fun k => I_set (Or.inl (by omega))
    rw [e, e, e, e, e]; exact g
end BY
section BY2
variable {G : q_G} {X : String → q_H → Prop} {f : q_H → Prop} {A A0 A' : q_H} {l l' : l_T} {S S' U : s_T} {rd txt N : Nat} {T : Nat → Nat} {t t' : T_k}
theorem P_buyer (h : Sk A l S rd txt N T t) (hM : 1 ≤ S 8 0 0 ∧ S 8 0 0 ≤ 6) (hnm : ∀ b, b < S 8 2 0 → nm_ok (S 11 b 0))
    (k0 : ∀ S' t', p_buyer T N S t = .ok (S', t') → ∀ A' l', l_a l' = l_a l → fq A A' (l_a l) rd → Sk A' l' S' rd txt N T t' → f A') (k1 : ∀ c, p_buyer T N S t = .error c → ∀ A' l', l_a l' = l_a l → fq A A' (l_a l) rd → Sf A' l' rd txt c → f A') : q_Wc G M_X9_readBuyer [.ref rd] A (q_KV f) X := by
  have p := h.p
  have hb := p.b
  unfold Lb at hb
  obtain ⟨n, en⟩ : ∃ n, n = S 8 2 0 := ⟨_, rfl⟩
  refine f_X9_readBuyer ⟨h.2.1.1, _, h.2.1.2.2.2.1, p.line, ?_⟩
  rw [p.nby, ← en]
  refine ⟨fun c => N_next h.2.1 h.2.2.1 fun A1 o1 r1 g1 => ?_, fun c => N_fail h.2.1 h.2.2.1 (by decide) (by decide) fun A1 o1 r1 => k1 _ ?_ A1 l rfl (fq.o o1) (h.f o1 r1)⟩
  · have hlt : n < 4 := (nI_ltI (by omega) (by decide)).mp c
    have hlt' : S 8 2 0 < 4 := by omega
    have s1 := h.go o1 r1 g1
    have p1 := s1.p
    have q1 := fq.o (la := l_a l) o1
    refine ⟨r1.1, _, r1.2.2.2.1, p1.line, _, p1.r4, 4, p1.z3, by decide, n, by rw [p1.nby, en], by omega, _, p1.rb (by omega), N_name p1 hnm s1.2.1 s1.2.2.1 (fun v0 t0 e0 hv0 A2 o2 r2 g2 => ?_) (fun c e0 v A2 o2 r2 => ?_)⟩
    · have s2 := s1.go o2 r2 g2
      have p2 := s2.p
      -- the line is being written from here on
      have b0 : Bk A2 l S (fun x => lv S x) (fun t i j => dm S t i j) (fun s => s < S 8 1 0 ∨ s = 8) rd txt N T t0 := ⟨p2.k _ _ _ (fun x q => ⟨q, fun _ => rfl⟩) (fun t i j q => ⟨q, rfl⟩) (fun s q => q.elim (fun q => Or.inr ⟨q, rfl⟩) Or.inl), s2.2.1, s2.2.2.1, s2.2.2.2⟩
      have nd : ∀ a j, a = 7 ∨ a = 10 ∨ a = 11 → ¬ dm S a n j := fun a j ha q => by have := q.2.2.2.2 ha; omega
      have b1 := b0.put (a := 11) (i := n) (j := 0) v0 (by unfold dm0; omega) (nd 11 0 (by decide))
      have z1 := b1.1.z
      have m1 : q_I (q_setI A2 (l_a l + 273 + n) 0 (nI v0)) (l_a l) 0 = nI (S 8 0 0) := by rw [I_set (Or.inl (by omega))]; exact p2.mats
      have fs1 : fq A (q_setI A2 (l_a l + 273 + n) 0 (nI v0)) (l_a l) rd := (q1.t (fq.o o2)).set (by omega) (by omega)
      refine ⟨p2.zb (by omega), r2.1, _, r2.2.2.2.1, p2.line, ?_⟩
      rw [m1, pk_sub hM.1]
      refine N_num (t := t0) b1.2.1 b1.2.2.1 (by decide) (by omega) (fun v1 t1 e1 A3 o3 r3 g3 => ?_) (fun c e1 A3 o3 r3 => ?_)
      · have b2 := (b1.go o3 r3 g3).put (a := 10) (i := n) (j := 0) v1 (by unfold dm0; omega) (fun q => q.elim (nd 10 0 (by decide)) (fun q => by omega))
        have fs2 := (fs1.t (fq.o o3)).set (x := l_a l + 273 + n) (k := 1) (v := nI v1) (by omega) (by omega)
        refine ⟨(b1.go o3 r3 g3).1.z.zb hlt, r3.1, N_num (t := t1) b2.2.1 b2.2.2.1 (by decide) (by decide) (fun v2 t2 e2 A4 o4 r4 g4 => ?_) (fun c e2 A4 o4 r4 => ?_)⟩
        · have b3 := (b2.go o4 r4 g4).put (a := 10) (i := n) (j := 1) v2 (by unfold dm0; omega) (fun q => q.elim (fun q => q.elim (nd 10 1 (by decide)) (fun q => by omega)) (fun q => by omega))
          have fs3 := (fs2.t (fq.o o4)).set (x := l_a l + 273 + n) (k := 2) (v := nI v2) (by omega) (by omega)
          refine ⟨(b2.go o4 r4 g4).1.z.zb hlt, r4.1, N_num (t := t2) b3.2.1 b3.2.2.1 (by decide) (by decide) (fun v3 t3 e3 A5 o5 r5 g5 => ?_) (fun c e3 A5 o5 r5 => ?_)⟩
          · have b4 := (b3.go o5 r5 g5).put (a := 10) (i := n) (j := 2) v3 (by unfold dm0; omega) (fun q => q.elim (fun q => q.elim (fun q => q.elim (nd 10 2 (by decide)) (fun q => by omega)) (fun q => by omega)) (fun q => by omega))
            have fs4 := (fs3.t (fq.o o5)).set (x := l_a l + 273 + n) (k := 3) (v := nI v3) (by omega) (by omega)
            refine ⟨(b3.go o5 r5 g5).1.z.zb hlt, r5.1, N_num (t := t3) b4.2.1 b4.2.2.1 (by decide) (by decide) (fun v4 t4 e4 A6 o6 r6 g6 => ?_) (fun c e4 A6 o6 r6 => ?_)⟩
            · have b5 := (b4.go o6 r6 g6).put (a := 10) (i := n) (j := 3) v4 (by unfold dm0; omega) (fun q => q.elim (fun q => q.elim (fun q => q.elim (fun q => q.elim (nd 10 3 (by decide)) (fun q => by omega)) (fun q => by omega)) (fun q => by omega)) (fun q => by omega))
              have fs5 := (fs4.t (fq.o o6)).set (x := l_a l + 273 + n) (k := 4) (v := nI v4) (by omega) (by omega)
              refine ⟨(b4.go o6 r6 g6).1.z.zb hlt, r6.1, N_num (t := t4) b5.2.1 b5.2.2.1 (by decide) (by decide) (fun v5 t5 e5 A7 o7 r7 g7 => ?_) (fun c e5 A7 o7 r7 => ?_)⟩
              · have b6 := (b5.go o7 r7 g7).put (a := 10) (i := n) (j := 4) v5 (by unfold dm0; omega) (fun q => q.elim (fun q => q.elim (fun q => q.elim (fun q => q.elim (fun q => q.elim (nd 10 4 (by decide)) (fun q => by omega)) (fun q => by omega)) (fun q => by omega)) (fun q => by omega)) (fun q => by omega))
                have b7 := b6.put (a := 7) (i := n) (j := 0) 0 (by unfold dm0; omega) (fun q => q.elim (fun q => q.elim (fun q => q.elim (fun q => q.elim (fun q => q.elim (fun q => q.elim (nd 7 0 (by decide)) (fun q => by omega)) (fun q => by omega)) (fun q => by omega)) (fun q => by omega)) (fun q => by omega)) (fun q => by omega))
                have fs7 := ((fs5.t (fq.o o7)).set (x := l_a l + 273 + n) (k := 5) (v := nI v5) (by omega) (by omega)).set (x := l_a l + 273 + n) (k := 6) (v := nI 0) (by omega) (by omega)
                have ec : q_I (q_setI (q_setI A7 (l_a l + 273 + n) 5 (nI v5)) (l_a l + 273 + n) 6 (nI 0)) (l_a l) 5 = nI n := by
                  have := b7.1.c (a := 8) (b := 2) (c := 0) (Or.inl (Or.inl (Or.inl (Or.inl (Or.inl (Or.inl (Or.inl (dm_8 S (by decide)))))))))
                  have e8 : s_p (s_p (s_p (s_p (s_p (s_p (s_p S 11 n 0 v0) 10 n 0 v1) 10 n 1 v2) 10 n 2 v3) 10 n 3 v4) 10 n 4 v5) 7 n 0 0 8 2 0 = S 8 2 0 := by simp [s_p]
                  rw [e8, ← en] at this
                  exact this
                refine ⟨(b5.go o7 r7 g7).1.z.zb hlt, r7.1, _, r7.2.2.2.1, (b5.go o7 r7 g7).1.z.line, ?_⟩
                rw [ec, nI_add]
                -- all cells as o_addB says
                have V : ∀ x y z, (dm S x y z ∨ (x = 11 ∧ y = n ∧ z = 0) ∨ (x = 10 ∧ y = n ∧ z < 5) ∨ (x = 7 ∧ y = n ∧ z = 0)) → ¬ (x = 8 ∧ y = 2 ∧ z = 0) → o_addB S v0 v1 v2 v3 v4 v5 x y z = s_p (s_p (s_p (s_p (s_p (s_p (s_p S 11 n 0 v0) 10 n 0 v1) 10 n 1 v2) 10 n 2 v3) 10 n 3 v4) 10 n 4 v5) 7 n 0 0 x y z := fun x y z q nq => by
                  rcases q with q | ⟨rfl, rfl, rfl⟩ | ⟨rfl, rfl, q⟩ | ⟨rfl, rfl, rfl⟩
                  · have q1 := q.2.2.2.2
                    have hne : ¬ ((x = 7 ∨ x = 10 ∨ x = 11) ∧ y = n) := fun e => by have := q1 e.1; omega
                    unfold o_addB s_p
                    rw [if_neg (by omega), if_neg (by omega), if_neg (by omega), if_neg (by omega), if_neg (by omega), if_neg (by omega), if_neg (by omega), if_neg (by omega), if_neg (by omega), if_neg (by omega), if_neg (by omega)]
                  · simp [o_addB, s_p, ← en]
                  · have : z = 0 ∨ z = 1 ∨ z = 2 ∨ z = 3 ∨ z = 4 := by omega
                    rcases this with e | e | e | e | e <;> subst e <;> simp [o_addB, s_p, ← en]
                  · simp [o_addB, s_p, ← en]
                have k8 := (b7.1.chg (S' := o_addB S v0 v1 v2 v3 v4 v5) (H' := fun x => lv S x) (D' := fun x y z => (dm S x y z ∨ (x = 11 ∧ y = n ∧ z = 0) ∨ (x = 10 ∧ y = n ∧ z < 5) ∨ (x = 7 ∧ y = n ∧ z = 0)) ∧ ¬ (x = 8 ∧ y = 2 ∧ z = 0)) (Q' := fun s => s < S 8 1 0 ∨ s = 8) (fun x q => ⟨q, fun m => by simp [o_addB, s_p]⟩) (fun x y z q => ⟨?_, V x y z q.1 q.2⟩) (fun s q => ⟨q, by simp [o_addB, s_p]⟩)).put (t := 8) (i := 2) (j := 0) (by unfold dm0; omega)
                · have w8 : o_addB S v0 v1 v2 v3 v4 v5 8 2 0 = n + 1 := by simp [o_addB, en]
                  have w80 : ∀ i, i ≠ 2 → o_addB S v0 v1 v2 v3 v4 v5 8 i 0 = S 8 i 0 := fun i hi => by simp [o_addB, hi]
                  have w2 : ∀ i, o_addB S v0 v1 v2 v3 v4 v5 2 i 0 = S 2 i 0 := fun i => by simp [o_addB]
                  rw [w8] at k8
                  have w81 := w80 1 (by decide)
                  have w210 := w2 10
                  have w211 := w2 11
                  have fin : Lr (q_setI (q_setI (q_setI A7 (l_a l + 273 + n) 5 (nI v5)) (l_a l + 273 + n) 6 (nI 0)) (l_a l) 5 (nI (n + 1))) l (o_addB S v0 v1 v2 v3 v4 v5) := by
                    refine k8.done ?_ (fun x q => ?_) (fun x y z q => ?_) (fun s q => ?_)
                    · unfold Lb
                      omega
                    · unfold lv at q ⊢
                      rw [w81, w210, w211] at q; exact q
                    · by_cases c8 : x = 8 ∧ y = 2 ∧ z = 0
                      · exact Or.inr c8
                      · refine Or.inl ⟨?_, c8⟩
                        unfold dm at q ⊢
                        rw [w8, w81, w210, w211] at q
                        by_cases cn : (x = 7 ∨ x = 10 ∨ x = 11) ∧ y = n
                        · have d0 := q.1
                          unfold dm0 at d0
                          exact Or.inr (by omega)
                        · exact Or.inl ⟨q.1, q.2.1, q.2.2.1, q.2.2.2.1, fun e => by have := q.2.2.2.2 e; omega⟩
                    · rw [w81] at q; exact q
                  have fx := fs7.set (x := l_a l) (k := 5) (v := nI (n + 1)) (by omega) (by omega)
                  have hs1 := b7.2.2.2.1
                  have hs2 := b7.2.2.2.2.1
                  refine k0 _ t5 ?_ _ l rfl fx ⟨fin, ?_, ?_, b7.2.2.2⟩
                  · unfold p_buyer
                    simp only [hlt', if_true, e0, e1, e2, e3, e4, e5]
                  · have r := b7.2.1
                    unfold Rx at r ⊢
                    refine ⟨r.1, r.2.1, by rw [I_set (Or.inl (by omega))]; exact r.2.2.1, r.2.2.2.1, r.2.2.2.2.1, r.2.2.2.2.2.1, fun j hj => ⟨(r.2.2.2.2.2.2.1 j hj).1, by rw [I_set (Or.inl (by omega))]; exact (r.2.2.2.2.2.2.1 j hj).2⟩, r.2.2.2.2.2.2.2⟩
                  · have g := b7.2.2.1
                    unfold Ro at g ⊢
                    have e : ∀ k, q_I (q_setI (q_setI (q_setI A7 (l_a l + 273 + n) 5 (nI v5)) (l_a l + 273 + n) 6 (nI 0)) (l_a l) 5 (nI (n + 1))) rd k = q_I (q_setI (q_setI A7 (l_a l + 273 + n) 5 (nI v5)) (l_a l + 273 + n) 6 (nI 0)) rd k := fun k => I_set (Or.inl (by omega))
                    rw [e, e, e, e, e]; exact g
                · rcases q.1 with q | ⟨rfl, rfl, rfl⟩ | ⟨rfl, rfl, q⟩ | ⟨rfl, rfl, rfl⟩
                  · exact Or.inl (Or.inl (Or.inl (Or.inl (Or.inl (Or.inl (Or.inl q))))))
                  · simp
                  · simp; omega
                  · simp
              · exact FB0 hlt (fun A' o s => k1 c (by unfold p_buyer; simp only [hlt', if_true, e0, e1, e2, e3, e4, e5]) A' l rfl o s) (fs5.t (fq.o o7)) (b5.ff (Or.inr rfl) o7 r7) _
            · exact FB1 hlt (fun A' o s => k1 c (by unfold p_buyer; simp only [hlt', if_true, e0, e1, e2, e3, e4]) A' l rfl o s) (fs4.t (fq.o o6)) (b4.ff (Or.inr rfl) o6 r6) _
          · exact FB2 hlt (fun A' o s => k1 c (by unfold p_buyer; simp only [hlt', if_true, e0, e1, e2, e3]) A' l rfl o s) (fs3.t (fq.o o5)) (b3.ff (Or.inr rfl) o5 r5) _
        · exact FB3 hlt (fun A' o s => k1 c (by unfold p_buyer; simp only [hlt', if_true, e0, e1, e2]) A' l rfl o s) (fs2.t (fq.o o4)) (b2.ff (Or.inr rfl) o4 r4) _
      · exact FB4 hlt (fun A' o s => k1 c (by unfold p_buyer; simp only [hlt', if_true, e0, e1]) A' l rfl o s) (fs1.t (fq.o o3)) (b1.ff (Or.inr rfl) o3 r3) _
    · have s2 := s1.f o2 r2
      have z := Lz_p s2.1.1 s2.1.2.1
      have s3 : Sf (q_setI A2 (l_a l + 273 + n) 0 v) l rd txt c := s2.set (by omega) (by omega) (by omega)
      exact ⟨z.zb hlt, r2.1, _, r2.2.2.1, z.line, F_num s3.2.1 fun v' => FB4 hlt (fun A' o s => k1 c (by unfold p_buyer; simp only [hlt', if_true, e0]) A' l rfl o s) ((q1.t (fq.o o2)).set (by omega) (by omega)) s3 v'⟩
  · have hlt : ¬ S 8 2 0 < 4 := fun q => c (nI_lt (by omega) (by decide))
    unfold p_buyer
    rw [if_neg hlt]
end BY2

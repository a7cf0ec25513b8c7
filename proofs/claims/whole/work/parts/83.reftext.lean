/-! THE REFERENCE'S TEXT: append, truncate, find, read -/
def Bf (A : q_H) (mo len : Nat) (B : Nat → Nat) : Prop := q_I A mo 12 = nI len ∧ len ≤ 700 ∧ ∀ j, j < len → q_I A (mo + 10) j = nI (B j)
def Rg3 (V : Nat → Int32) : Prop := Rgs V ∧ ∀ i, i < 8 → V (3 * i + 2) = nI (s_0 1 i 0)
/-- all of the reference -/
def MA (A : q_H) (mo : Nat) (S : s_T) (hh : Nat → s_T) (n len : Nat) (B : Nat → Nat) : Prop := MP A mo S ∧ Kp A mo hh n ∧ NM (q_L A (mo + 4)) S ∧ Rg3 (q_I A (mo + 1)) ∧ Bf A mo len B
/-- only rows of P have changed -/
def xf (P : Nat → Prop) (A A' : q_H) : Prop := q_sz A' = q_sz A ∧ q_sh A' = q_sh A ∧ q_R A' = q_R A ∧ q_D A' = q_D A ∧ ∀ x, ¬ P x → q_I A' x = q_I A x ∧ q_L A' x = q_L A x
section XF
variable {P Q : Nat → Prop} {A B C : q_H} {mo : Nat}
theorem xf.r (P : Nat → Prop) (A : q_H) : xf P A A := ⟨rfl, rfl, rfl, rfl, fun _ _ => ⟨rfl, rfl⟩⟩
theorem xf.t (h : xf P A B) (k : xf P B C) : xf P A C := ⟨k.1.trans h.1, k.2.1.trans h.2.1, k.2.2.1.trans h.2.2.1, k.2.2.2.1.trans h.2.2.2.1, fun x q => ⟨(k.2.2.2.2 x q).1.trans (h.2.2.2.2 x q).1, (k.2.2.2.2 x q).2.trans (h.2.2.2.2 x q).2⟩⟩
theorem xf.w (h : xf P A B) (k : ∀ x, P x → Q x) : xf Q A B := ⟨h.1, h.2.1, h.2.2.1, h.2.2.2.1, fun x q => h.2.2.2.2 x fun p => q (k x p)⟩
theorem xf.set {x k : Nat} {v : Int32} (h : xf P A B) (hx : P x) : xf P A (q_setI B x k v) := ⟨h.1, h.2.1, h.2.2.1, h.2.2.2.1, fun y q => ⟨(row_set fun e => q (by rw [e]; exact hx)).trans (h.2.2.2.2 y q).1, (h.2.2.2.2 y q).2⟩⟩
theorem xf.setL {x k : Nat} {v : Int64} (h : xf P A B) (hx : P x) : xf P A (q_setL B x k v) := ⟨h.1, h.2.1, h.2.2.1, h.2.2.2.1, fun y q => ⟨(h.2.2.2.2 y q).1, (rowL_set fun e => q (by rw [e]; exact hx)).trans (h.2.2.2.2 y q).2⟩⟩
theorem xf.ms (h : xf P A B) (m : MS A mo) : MS B mo := m.to h.2.1 h.2.2.1
theorem xf.sm {x : Nat} (h : xf P A B) (hx : ¬ P x) : q_same A B x := ⟨by rw [h.2.1], (h.2.2.2.2 x hx).1, by rw [h.2.2.1], (h.2.2.2.2 x hx).2, by rw [h.2.2.2.1]⟩
end XF
/-- the reference's block -/
def bk (mo : Nat) : Nat → Prop := fun x => mo ≤ x ∧ x < mo + 13
theorem df.xf {A A' : q_H} {mo : Nat} (h : df A A' mo) : xf (bk mo) A A' := ⟨h.1, h.2.1, h.2.2.1, h.2.2.2.1, fun x q => by
  unfold bk at q
  exact ⟨h.row (by omega), h.2.2.2.2.2 x (by omega)⟩⟩
theorem kf.xf {A A' : q_H} {mo : Nat} (h : kf A A' mo) : xf (bk mo) A A' := ⟨h.1, h.2.1, h.2.2.1, h.2.2.2.2.1, fun x q => by
  unfold bk at q
  exact ⟨by funext k; exact h.2.2.2.2.2 x k (by omega), by rw [h.2.2.2.1]⟩⟩
/-- only the text and a few numbers have changed -/
def tf (A A' : q_H) (mo : Nat) : Prop := q_sz A' = q_sz A ∧ q_sh A' = q_sh A ∧ q_R A' = q_R A ∧ q_L A' = q_L A ∧ q_D A' = q_D A ∧ ∀ x k, ¬ (x = mo + 10 ∨ (x = mo ∧ (k = 0 ∨ (12 ≤ k ∧ k ≤ 19)))) → q_I A' x k = q_I A x k
theorem tf.r (A : q_H) (mo : Nat) : tf A A mo := ⟨rfl, rfl, rfl, rfl, rfl, fun _ _ _ => rfl⟩
theorem tf.t {A B C : q_H} {mo : Nat} (h : tf A B mo) (k : tf B C mo) : tf A C mo := ⟨k.1.trans h.1, k.2.1.trans h.2.1, k.2.2.1.trans h.2.2.1, k.2.2.2.1.trans h.2.2.2.1, k.2.2.2.2.1.trans h.2.2.2.2.1, fun x j q => (k.2.2.2.2.2 x j q).trans (h.2.2.2.2.2 x j q)⟩
theorem tf.set {A B : q_H} {mo x k : Nat} {v : Int32} (h : tf A B mo) (hx : x = mo + 10 ∨ (x = mo ∧ (k = 0 ∨ (12 ≤ k ∧ k ≤ 19)))) : tf A (q_setI B x k v) mo := ⟨h.1, h.2.1, h.2.2.1, h.2.2.2.1, h.2.2.2.2.1, fun y j q => by
  rw [I_set (by
    by_cases c : y = x
    · subst c
      exact Or.inr fun e => q (by rw [e]; exact hx)
    · exact Or.inl c)]
  exact h.2.2.2.2.2 y j q⟩
theorem tf.row {A A' : q_H} {mo x : Nat} (h : tf A A' mo) (hx : x ≠ mo ∧ x ≠ mo + 10) : q_I A' x = q_I A x := by funext k; exact h.2.2.2.2.2 x k (by omega)
theorem tf.xf {A A' : q_H} {mo : Nat} (h : tf A A' mo) : xf (bk mo) A A' := ⟨h.1, h.2.1, h.2.2.1, h.2.2.2.2.1, fun x q => by
  unfold bk at q
  exact ⟨h.row (by omega), by rw [h.2.2.2.1]⟩⟩
section MAS
variable {A A' : q_H} {mo : Nat} {S S' : s_T} {hh hh' : Nat → s_T} {n n' len len' : Nat} {B B' : Nat → Nat}
/-- the text has changed -/
theorem MA.tf (h : MA A mo S hh n len B) (o : tf A A' mo) (b : Bf A' mo len' B') : MA A' mo S hh n len' B' := by
  obtain ⟨h1, h2, h3, h4, h5⟩ := h
  refine ⟨⟨h1.1.to o.2.1 o.2.2.1, by rw [o.row (by omega)]; exact h1.2.1, by rw [o.row (by omega)]; exact h1.2.2⟩, h2.to (o.2.2.2.2.2 _ _ (by omega)) (o.row (by omega)), by rw [o.2.2.2.1]; exact h3, by rw [o.row (by omega)]; exact h4, b⟩
/-- the line has changed -/
theorem MA.kf (h : MA A mo S hh n len B) (o : kf A A' mo) (p : MP A' mo S') (kp : Kp A' mo hh' n') (ct : s_ct S S') : MA A' mo S' hh' n' len B := by
  obtain ⟨h1, h2, h3, h4, h5⟩ := h
  have e1 : q_I A' (mo + 1) = q_I A (mo + 1) := by funext k; exact o.2.2.2.2.2 _ k (by omega)
  have e10 : q_I A' (mo + 10) = q_I A (mo + 10) := by funext k; exact o.2.2.2.2.2 _ k (by omega)
  refine ⟨p, kp, by rw [o.2.2.2.1]; exact h3.ct ct, by rw [e1]; exact h4, ?_⟩
  unfold Bf at h5 ⊢
  rw [e10, o.2.2.2.2.2 mo 12 (by omega)]; exact h5
/-- the block is as it was -/
theorem MA.sm (h : MA A mo S hh n len B) (e : ∀ y, mo ≤ y → y < mo + 13 → q_same A A' y) : MA A' mo S hh n len B := by
  obtain ⟨h1, h2, h3, h4, h5⟩ := h
  have eI : ∀ j, j < 13 → q_I A' (mo + j) = q_I A (mo + j) := fun j hj => (e (mo + j) (by omega) (by omega)).2.1
  have eS : ∀ j, j < 13 → q_sh A' (mo + j) = q_sh A (mo + j) := fun j hj => (e (mo + j) (by omega) (by omega)).1
  have eR : q_R A' mo = q_R A mo := (e mo (by omega) (by omega)).2.2.1
  have e0 : q_I A' mo = q_I A mo := eI 0 (by decide)
  have s0 : q_sh A' mo = q_sh A mo := eS 0 (by decide)
  refine ⟨⟨?_, by rw [eI 6 (by decide)]; exact h1.2.1, by rw [eI 2 (by decide)]; exact h1.2.2⟩, h2.to (by rw [e0]) (eI 9 (by decide)), by rw [(e (mo + 4) (by omega) (by omega)).2.2.2.1]; exact h3, by rw [eI 1 (by decide)]; exact h4, ?_⟩
  · have m := h1.1
    unfold MS at m ⊢
    rw [eR, s0, eS 1 (by decide), eS 2 (by decide), eS 3 (by decide), eS 4 (by decide), eS 5 (by decide), eS 6 (by decide), eS 7 (by decide), eS 8 (by decide), eS 9 (by decide), eS 10 (by decide), eS 11 (by decide), eS 12 (by decide)]
    exact m
  · unfold Bf at h5 ⊢
    rw [e0, eI 10 (by decide)]; exact h5
theorem kf_th (A : q_H) (mo c : Nat) : kf A (th A mo c) mo := th.kf A mo c
theorem MA.th (h : MA A mo S hh n len B) (c : Nat) : MA (th A mo c) mo S hh n len B := h.kf (kf_th A mo c) (h.1.th c) (h.2.1.th c) (ct_r S)
end MAS
section TX2
variable {G : q_G} {X : String → q_H → Prop} {A A0 : q_H} {mo len : Nat} {B : Nat → Nat} {S : s_T} {hh : Nat → s_T} {n : Nat}
theorem v_adds {f : q_H → Prop} {w : Int32} {k l : Nat} {s : Int32} (hs : s = nI k) (hk : k = 0 ∨ k = 8 ∨ k = 16 ∨ k = 24) (ms : MS A mo) (e12 : q_I A mo 12 = nI l) (hl : l < 700) (kk : ∀ A', A' = q_setI (q_setI A (mo + 10) l (nI (wb w k))) mo 12 (nI (l + 1)) → q_Wp G M_X11_adds (q_KV f) X 0 0 3 [some (.ref mo), some (.int w), some (.int (s + Int32.ofInt (-8)))] [] A') : q_Wp G M_X11_adds (q_KV f) X 0 0 3 [some (.ref mo), some (.int w), some (.int s)] [] A := by
  subst hs
  refine f_X11_adds_3 ⟨fun c => absurd c (nI_pos (by omega)), fun _ => ⟨ms.z, _, ms.r11, 700, ms.z10, by decide, l, e12, hl, fun A11 e11 => ?_⟩⟩
  rw [wb_r w k hk, I_set (Or.inl (by omega)), e12, nI_add] at e11
  exact kk A11 e11
theorem M_adds {f : q_H → Prop} {w : Int32} (ms : MS A mo) (b : Bf A mo len B) (hl : len + 4 ≤ 700) (kk : ∀ A', tf A A' mo → Bf A' mo (len + 4) (o_ap B len w) → f A') : q_Wc G M_X11_adds [.ref mo, .int w] A (q_KV f) X := by
  obtain ⟨b1, b2, b3⟩ := b
  refine f_X11_adds (v_adds (k := 24) (l := len) rfl (by decide) ms b1 (by omega) fun A1 e1 => ?_)
  have o1 : tf A A1 mo := by rw [e1]; exact ((tf.r A mo).set (Or.inl rfl)).set (Or.inr ⟨rfl, Or.inr ⟨by decide, by decide⟩⟩)
  have c1 : q_I A1 mo 12 = nI (len + 1) := by rw [e1, I_set_s]
  have r1 : ∀ j, q_I A1 (mo + 10) j = if j = len then nI (wb w 24) else q_I A (mo + 10) j := fun j => by rw [e1, row_set (by omega), ix_set]
  refine v_adds (k := 16) (l := len + 1) (by decide) (by decide) (ms.to o1.2.1 o1.2.2.1) c1 (by omega) fun A2 e2 => ?_
  have o2 : tf A A2 mo := by rw [e2]; exact (o1.set (Or.inl rfl)).set (Or.inr ⟨rfl, Or.inr ⟨by decide, by decide⟩⟩)
  have c2 : q_I A2 mo 12 = nI (len + 2) := by rw [e2, I_set_s]
  have r2 : ∀ j, q_I A2 (mo + 10) j = if j = len + 1 then nI (wb w 16) else q_I A1 (mo + 10) j := fun j => by rw [e2, row_set (by omega), ix_set]
  refine v_adds (k := 8) (l := len + 2) (by decide) (by decide) (ms.to o2.2.1 o2.2.2.1) c2 (by omega) fun A3 e3 => ?_
  have o3 : tf A A3 mo := by rw [e3]; exact (o2.set (Or.inl rfl)).set (Or.inr ⟨rfl, Or.inr ⟨by decide, by decide⟩⟩)
  have c3 : q_I A3 mo 12 = nI (len + 3) := by rw [e3, I_set_s]
  have r3 : ∀ j, q_I A3 (mo + 10) j = if j = len + 2 then nI (wb w 8) else q_I A2 (mo + 10) j := fun j => by rw [e3, row_set (by omega), ix_set]
  refine v_adds (k := 0) (l := len + 3) (by decide) (by decide) (ms.to o3.2.1 o3.2.2.1) c3 (by omega) fun A4 e4 => f_X11_adds_3 ⟨fun _ => ?_, fun c => absurd (by decide) c⟩
  have o4 : tf A A4 mo := by rw [e4]; exact (o3.set (Or.inl rfl)).set (Or.inr ⟨rfl, Or.inr ⟨by decide, by decide⟩⟩)
  have c4 : q_I A4 mo 12 = nI (len + 4) := by rw [e4, I_set_s]
  have r4 : ∀ j, q_I A4 (mo + 10) j = if j = len + 3 then nI (wb w 0) else q_I A3 (mo + 10) j := fun j => by rw [e4, row_set (by omega), ix_set]
  refine kk A4 o4 ⟨c4, by omega, fun j hj => ?_⟩
  rw [r4, r3, r2, r1]
  unfold o_ap
  by_cases k3 : j = len + 3
  · rw [if_pos k3, if_pos k3]
  · rw [if_neg k3, if_neg k3]
    by_cases k2 : j = len + 2
    · rw [if_pos k2, if_pos k2]
    · rw [if_neg k2, if_neg k2]
      by_cases k1 : j = len + 1
      · rw [if_pos k1, if_pos k1]
      · rw [if_neg k1, if_neg k1]
        by_cases k0 : j = len
        · rw [if_pos k0, if_pos k0]
        · rw [if_neg k0, if_neg k0]; exact b3 j (by omega)
theorem M_append {f : Int32 → q_H → Prop} {a b c d e : Int32} (h : MA A mo S hh n len B) (k0 : len + 20 ≤ 700 → ∀ A', tf A A' mo → MA A' mo S hh n (len + 20) (o_app B len a b c d e) → f (nI (len + 20)) A') (k1 : ¬ len + 20 ≤ 700 → f (-1) (th A mo 0)) : q_Wc G M_X11_append [.ref mo, .int a, .int b, .int c, .int d, .int e] A (q_KI f) X := by
  have ms := h.1.1
  have h0 : MA (th A mo 0) mo S hh n len B := h.th 0
  have e12 : q_I (th A mo 0) mo 12 = nI len := h0.2.2.2.2.1
  have o0 : tf A (th A mo 0) mo := (tf.r A mo).set (Or.inr ⟨rfl, Or.inl rfl⟩)
  have hl7 := h.2.2.2.2.2.1
  refine f_X11_append ⟨ms.z, ?_⟩
  show ((q_I (th A mo 0) mo 12 + nI 20 ≤ nI 700 → _) ∧ (¬ q_I (th A mo 0) mo 12 + nI 20 ≤ nI 700 → _))
  rw [e12, nI_add]
  refine ⟨fun cc => ?_, fun cc => k1 fun q => cc (nI_le q (by decide))⟩
  have hl := (nI_leI (by omega) (by decide)).mp cc
  refine M_adds (ms.to o0.2.1 o0.2.2.1) h0.2.2.2.2 (by omega) fun A1 o1 b1 => ⟨(ms.to (o0.t o1).2.1 (o0.t o1).2.2.1).z, ?_⟩
  have t1 := o0.t o1
  refine M_adds (ms.to t1.2.1 t1.2.2.1) b1 (by omega) fun A2 o2 b2 => ⟨(ms.to (t1.t o2).2.1 (t1.t o2).2.2.1).z, ?_⟩
  have t2 := t1.t o2
  refine M_adds (ms.to t2.2.1 t2.2.2.1) b2 (by omega) fun A3 o3 b3 => ⟨(ms.to (t2.t o3).2.1 (t2.t o3).2.2.1).z, ?_⟩
  have t3 := t2.t o3
  refine M_adds (ms.to t3.2.1 t3.2.2.1) b3 (by omega) fun A4 o4 b4 => ⟨(ms.to (t3.t o4).2.1 (t3.t o4).2.2.1).z, ?_⟩
  have t4 := t3.t o4
  refine M_adds (ms.to t4.2.1 t4.2.2.1) b4 (by omega) fun A5 o5 b5 => ⟨(ms.to (t4.t o5).2.1 (t4.t o5).2.2.1).z, ?_⟩
  have t5 := t4.t o5
  rw [b5.1]
  exact k0 hl A5 t5 (h.tf t5 b5)
theorem M_truncate {f : Bool → q_H → Prop} {y : Int32} (h : MA A mo S hh n len B) (k0 : ∀ k, ix y (len + 1) = some k → k ≤ len → ∀ A', tf A A' mo → MA A' mo S hh n k B → f true A') (k1 : ix y (len + 1) = none → f false (th A mo 0)) : q_Wc G M_X11_truncate [.ref mo, .int y] A (q_KB f) X := by
  have h0 : MA (th A mo 0) mo S hh n len B := h.th 0
  have e12 : q_I (th A mo 0) mo 12 = nI len := h0.2.2.2.2.1
  have o0 : tf A (th A mo 0) mo := (tf.r A mo).set (Or.inr ⟨rfl, Or.inl rfl⟩)
  have hl7 := h.2.2.2.2.2.1
  refine f_X11_truncate ⟨h.1.1.z, ?_⟩
  show q_Wc G M_X11_isIn [.long y.toInt64, .long (lN 0), .long (q_I (th A mo 0) mo 12).toInt64] (th A mo 0) _ _
  rw [e12]
  refine M_isIn (len + 1) (by omega) (by rw [Int32.toInt_toInt64, nI_toInt (by omega)]; omega) (fun i hi e => ⟨fun _ => ⟨h0.1.1.z, ?_⟩, fun e => (by cases e)⟩) (fun hn => ⟨fun e => (by cases e), fun _ => k1 (ix_no (by omega) hn)⟩)
  subst e
  refine k0 i (ix_nI hi (by omega)) (by omega) _ (o0.set (Or.inr ⟨rfl, Or.inr ⟨by decide, by decide⟩⟩)) (h.tf (o0.set (Or.inr ⟨rfl, Or.inr ⟨by decide, by decide⟩⟩)) ⟨I_set_s _ _ _ _, by omega, fun j hj => ?_⟩)
  rw [I_set (Or.inl (by omega))]
  exact h0.2.2.2.2.2.2 j (by omega)
theorem M_length {f : Int32 → q_H → Prop} (h : MA A mo S hh n len B) (k : f (nI len) (th A mo 0)) : q_Wc G M_X11_bufferLength [.ref mo] A (q_KI f) X := by
  refine f_X11_bufferLength ⟨h.1.1.z, ?_⟩
  rw [I_set (Or.inr (by decide)), h.2.2.2.2.1]
  exact k
theorem v_find27 {f : Int32 → q_H → Prop} (h : MP A mo S) (nm : NM (q_L A (mo + 4)) S) (hb : ∀ j, j < len → B j < 256 ∧ q_I A (mo + 10) j = nI (B j)) (hl : len ≤ 700) (k : f (a_find S B len) A) :
    ∀ (d i : Nat) (y : Bool), i + d = len → y = (decide (1 ≤ len ∧ len ≤ 6) && t_all B 0 i) → q_Wp G M_X11_find (q_KI f) X 0 0 27 [some (.ref mo), some (.int (nI len)), some (.int (q_i y)), some (.int (nI i))] [] A
  | 0, i, y, e, ey => by
    have ei : i = len := by omega
    rw [ei] at ey ⊢
    have hb4 := h.2.1.b
    unfold Lb at hb4
    have e2 : q_I A (mo + 2) 2 = nI (S 8 2 0) := h.2.2.1.2.2
    have hf := fnd_at S (t_nm B 0 len) (S 8 2 0) 0
    refine f_X11_find_27 ⟨fun _ => ⟨fun c => ⟨h.1.z, ?_⟩, fun c => ?_⟩, fun c => absurd (nI_le (Nat.le_refl _) (by omega)) c⟩
    · rw [ey, Bool.and_eq_true] at c
      have h6 : 1 ≤ len ∧ len ≤ 6 := of_decide_eq_true c.1
      have ha := (all_iff B 0 len).mp c.2
      have en : t_nm B 0 len = nI (t_code B 0 len) := if_pos ⟨by omega, by omega, c.2⟩
      have h7 : nm7 (t_code B 0 len) (lN (t_let B 0 len)) := ⟨B, 0, len, by omega, h6.2, c.2, rfl, rfl⟩
      have eqv : ∀ i, i < S 8 2 0 → (q_L A (mo + 4) i = lN (t_let B 0 len) ↔ nI (S 11 i 0) = t_nm B 0 len) := fun i hi => by
        have a := nm_bd (nm i hi).ok
        have b := nm_bd h7.ok
        rw [en, nI_eq (by omega) (by omega)]
        exact nm7_eq (nm i hi) h7
      refine M_letters h.1 hb (Nat.zero_le _) hl (fun j _ hj => by have := ha j hj; rw [Nat.zero_add] at this; exact this) ⟨h.1.z, _, h.1.r4, _, h.1.r2, 47, h.1.z2, by decide, by decide, ?_⟩
      rw [e2]
      unfold a_find at k
      refine M_buyerWith h.1.z4 (by decide) (by omega) (fun i hi e1 e3 => ?_) (fun hn => ?_)
      · rw [hf.1 i (Nat.zero_le _) (by omega) ((eqv i hi).mp e1) (fun c _ hc e4 => e3 c hc ((eqv c (by omega)).mpr e4))] at k
        exact k
      · rw [hf.2 (fun i _ hi e4 => hn i (by omega) ((eqv i (by omega)).mpr e4))] at k
        exact k
    · rw [ey] at c
      have en : t_nm B 0 len = -1 := if_neg fun q => by
        have : (decide (1 ≤ len ∧ len ≤ 6) && t_all B 0 len) = true := by
          rw [Bool.and_eq_true]
          exact ⟨decide_eq_true ⟨by omega, by omega⟩, q.2.2⟩
        rw [this] at c
        cases c
      unfold a_find at k
      rw [hf.2 (fun i _ hi e4 => by
        rw [en] at e4
        have a := nm_bd (nm i (by omega)).ok
        exact absurd (show nI (S 11 i 0) < 0 by rw [e4]; decide) (nI_pos (by omega)))] at k
      exact k
  | d + 1, i, y, e, ey => by
    have bb := hb i (by omega)
    have et : t_all B 0 (i + 1) = (t_all B 0 i && t_le (B i)) := by
      show (t_all B 0 i && t_le (B (0 + i))) = _
      rw [Nat.zero_add]
    have nx : ∀ z, z = (decide (1 ≤ len ∧ len ≤ 6) && t_all B 0 (i + 1)) → q_Wp G M_X11_find (q_KI f) X 0 0 27 [some (.ref mo), some (.int (nI len)), some (.int (q_i z)), some (.int (nI i + nI 1))] [] A := fun z ez => by
      rw [nI_add]
      exact v_find27 h nm hb hl k d (i + 1) z (by omega) ez
    refine f_X11_find_27 ⟨fun c => absurd c (nI_ge (by omega) (by omega)), fun _ => ⟨fun c => ⟨h.1.z, _, h.1.r11, 700, h.1.z10, by decide, i, rfl, by omega, ?_⟩, fun c => nx false ?_⟩⟩
    · rw [bb.2]
      rw [ey, Bool.and_eq_true] at c
      refine M_isSmall bb.1 ⟨fun c2 => nx true ?_, fun c2 => nx false ?_⟩
      · rw [et, c.1, c.2, c2]; rfl
      · rw [et, c2, Bool.and_false, Bool.and_false]
    · rw [c] at ey
      rw [et, ← Bool.and_assoc, ← ey]; rfl
theorem M_find {f : Int32 → q_H → Prop} (h : MA A mo S hh n len B) (hB : ∀ j, B j < 256) (k : ∀ A', tf A A' mo → MA A' mo S hh n 0 B → f (a_find S B len) A') : q_Wc G M_X11_find [.ref mo] A (q_KI f) X := by
  have hl7 := h.2.2.2.2.2.1
  have e12 : q_I (q_setI A mo 0 (nI 0)) mo 12 = nI len := by rw [I_set (Or.inr (by decide))]; exact h.2.2.2.2.1
  obtain ⟨A1, eA1⟩ : ∃ A1, A1 = q_setI (q_setI A mo 0 (nI 0)) mo 12 (nI 0) := ⟨_, rfl⟩
  have o1 : tf A A1 mo := by rw [eA1]; exact ((tf.r A mo).set (Or.inr ⟨rfl, Or.inl rfl⟩)).set (Or.inr ⟨rfl, Or.inr ⟨by decide, by decide⟩⟩)
  have m1 : MA A1 mo S hh n 0 B := h.tf o1 ⟨by rw [eA1, I_set_s], Nat.zero_le _, fun j hj => absurd hj (Nat.not_lt_zero _)⟩
  have r10 : q_I A1 (mo + 10) = q_I A (mo + 10) := by rw [eA1, row_set (by omega), row_set (by omega)]
  refine f_X11_find ⟨h.1.1.z, ?_⟩
  rw [e12, ← eA1]
  have kk := k A1 o1 m1
  have go : ∀ y, y = decide (1 ≤ len ∧ len ≤ 6) → q_Wp G M_X11_find (q_KI f) X 0 0 27 [some (.ref mo), some (.int (nI len)), some (.int (q_i y)), some (.int (nI 0))] [] A1 := fun y ey =>
    v_find27 m1.1 m1.2.2.1 (fun j hj => ⟨hB j, by rw [r10]; exact h.2.2.2.2.2.2 j hj⟩) hl7 kk len 0 y (by omega) (by rw [ey]; show _ = (_ && true); rw [Bool.and_true])
  refine M_isInG 1 7 (by decide) (by decide) (by decide) (fun v hl hv e => go true ?_) (fun hn => go false ?_)
  · have := (nI_eq (by omega) (by omega)).mp e
    exact (decide_eq_true ⟨by omega, by omega⟩).symm
  · exact (decide_eq_false fun q => hn len (by omega) (by omega) rfl).symm
end TX2

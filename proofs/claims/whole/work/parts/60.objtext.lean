/-! THE OBJECT'S TEXT: bytes of an int, append, truncate, find, read -/
def wb (w : Int32) (k : Nat) : Nat := (w.toBitVec >>> k).toNat % 256
theorem bv_c (v : BitVec 32) (k : Nat) (hk : k = 0 ∨ k = 8 ∨ k = 16 ∨ k = 24) : ((((v.sshiftRight k).signExtend 8).signExtend 32).signExtend 8).signExtend 32 = ((v >>> k).setWidth 8).signExtend 32 := by
  have e1 : ((v.sshiftRight k).signExtend 8) = ((v >>> k).setWidth 8) := by
    apply BitVec.eq_of_getLsbD_eq
    intro i hi
    rw [BitVec.getLsbD_signExtend, BitVec.getLsbD_setWidth, BitVec.getLsbD_ushiftRight, BitVec.getLsbD_sshiftRight]
    have h1 : decide (32 ≤ i) = false := by simp; omega
    have h2 : k + i < 32 := by omega
    have h3 : i < 32 := by omega
    simp [h1, h2, h3, hi]
  rw [e1]
  have e2 : ∀ u : BitVec 8, ((u.signExtend 32).signExtend 8) = u := by decide +kernel
  rw [e2]
theorem wb_c (w : Int32) (k : Nat) (hk : k = 0 ∨ k = 8 ∨ k = 16 ∨ k = 24) : (((w >>> (nI k &&& 31)).toInt8.toInt32).toInt8.toInt32) = b8 (wb w k) := by
  have e : ∀ v : BitVec 8, (Int32.ofBitVec (v.signExtend 32)) = b8 v.toNat := by decide +kernel
  have e2 : wb w k = ((w.toBitVec >>> k).setWidth 8).toNat := by simp [wb, BitVec.toNat_setWidth]
  rw [e2, ← e, ← bv_c _ _ hk]
  apply Int32.toBitVec.inj
  have e3 : (w >>> (nI k &&& 31)).toBitVec = w.toBitVec.sshiftRight k := by
    rcases hk with rfl | rfl | rfl | rfl <;> rfl
  have e4 : ∀ z : Int32, z.toInt8.toInt32.toInt8.toInt32.toBitVec = (((z.toBitVec.signExtend 8).signExtend 32).signExtend 8).signExtend 32 := fun z => rfl
  rw [e4, e3]
  rfl
theorem wb_r (w : Int32) (k : Nat) (hk : k = 0 ∨ k = 8 ∨ k = 16 ∨ k = 24) : (((w.toUInt32 >>> ((nI k).toUInt32 &&& Int32.toUInt32 31)).toInt32) &&& (nI 255)) = nI (wb w k) := by
  have e : ∀ v : BitVec 8, (Int32.ofBitVec (v.setWidth 32)) = nI v.toNat := by decide +kernel
  have e2 : wb w k = ((w.toBitVec >>> k).setWidth 8).toNat := by simp [wb, BitVec.toNat_setWidth]
  rw [e2, ← e]
  apply Int32.toBitVec.inj
  have e3 : (((w.toUInt32 >>> ((nI k).toUInt32 &&& Int32.toUInt32 31)).toInt32) &&& (nI 255)).toBitVec = (w.toBitVec >>> k) &&& 255#32 := by
    rcases hk with rfl | rfl | rfl | rfl <;> rfl
  rw [e3]
  show _ = ((w.toBitVec >>> k).setWidth 8).setWidth 32
  apply BitVec.eq_of_getLsbD_eq
  intro i hi
  rw [BitVec.getLsbD_and, BitVec.getLsbD_setWidth, BitVec.getLsbD_setWidth]
  have h255 : ∀ i, i < 32 → (255#32).getLsbD i = decide (i < 8) := by decide
  rw [h255 i hi]
  by_cases c : i < 8
  · simp [c, hi]
  · simp [c]
theorem wb_lt (w : Int32) (k : Nat) : wb w k < 256 := Nat.mod_lt _ (by decide)

def o_ap (B : Nat → Nat) (len : Nat) (w : Int32) : Nat → Nat := fun j => if j = len + 3 then wb w 0 else if j = len + 2 then wb w 8 else if j = len + 1 then wb w 16 else if j = len then wb w 24 else B j
def o_app (B : Nat → Nat) (len : Nat) (a b c d e : Int32) : Nat → Nat := o_ap (o_ap (o_ap (o_ap (o_ap B len a) (len + 4) b) (len + 8) c) (len + 12) d) (len + 16) e
def tb (B : Nat → Nat) : Nat → Int32 := fun j => b8 (B j)
theorem ap_tb (B : Nat → Nat) (len : Nat) (w : Int32) : (fun j => if j = len + 1 + 1 + 1 then b8 (wb w 0) else (fun j => if j = len + 1 + 1 then b8 (wb w 8) else (fun j => if j = len + 1 then b8 (wb w 16) else (fun j => if j = len then b8 (wb w 24) else tb B j) j) j) j) = tb (o_ap B len w) := by
  funext j
  show (if j = len + 3 then b8 (wb w 0) else if j = len + 2 then b8 (wb w 8) else if j = len + 1 then b8 (wb w 16) else if j = len then b8 (wb w 24) else tb B j) = b8 (o_ap B len w j)
  unfold o_ap tb
  split
  · rfl
  · split
    · rfl
    · split
      · rfl
      · split <;> rfl
theorem ap_lt {B : Nat → Nat} (h : ∀ j, B j < 256) (len : Nat) (w : Int32) : ∀ j, o_ap B len w j < 256 := fun j => by
  unfold o_ap
  have h0 := wb_lt w 0
  have h1 := wb_lt w 8
  have h2 := wb_lt w 16
  have h3 := wb_lt w 24
  have h4 := h j
  split
  · exact h0
  · split
    · exact h1
    · split
      · exact h2
      · split
        · exact h3
        · exact h4
def o_fnd (S : s_T) (x : Int32) : Nat → Nat → Int32
  | 0, _ => -1
  | d + 1, b => if nI (S 11 b 0) = x then nI b else o_fnd S x d (b + 1)
def a_find (S : s_T) (B : Nat → Nat) (len : Nat) : Int32 := o_fnd S (t_nm B 0 len) (S 8 2 0) 0
theorem fnd_at (S : s_T) (x : Int32) : ∀ d b, (∀ i, b ≤ i → i < b + d → nI (S 11 i 0) = x → (∀ c, b ≤ c → c < i → ¬ nI (S 11 c 0) = x) → o_fnd S x d b = nI i) ∧ ((∀ i, b ≤ i → i < b + d → ¬ nI (S 11 i 0) = x) → o_fnd S x d b = -1)
  | 0, b => ⟨fun i h1 h2 => by omega, fun _ => rfl⟩
  | d + 1, b => by
    have ih := fnd_at S x d (b + 1)
    have e : o_fnd S x (d + 1) b = if nI (S 11 b 0) = x then nI b else o_fnd S x d (b + 1) := rfl
    refine ⟨fun i h1 h2 h3 h4 => ?_, fun h => ?_⟩
    · by_cases c : i = b
      · subst c
        rw [e, if_pos h3]
      · rw [e, if_neg (h4 b (Nat.le_refl _) (by omega))]
        exact ih.1 i (by omega) (by omega) h3 (fun c hc1 hc2 => h4 c (by omega) hc2)
    · rw [e, if_neg (h b (Nat.le_refl _) (by omega))]
      exact ih.2 fun i h1 h2 => h i (by omega) (by omega)
section OT
variable {G : q_G} {X : String → q_H → Prop} {A0 A A' : q_H} {rl m W : Nat} {L : L_T} {S S' : s_T} {h : Nat → s_T} {n x len : Nat} {T : Nat → Int32}
theorem Rc.ln (r : Rc A0 A rl m W L S h n x len T) {k : Nat} (hk : k ≤ len) : Rc A0 (q_setI A rl 1 (nI k)) rl m W L S h n x k T := by
  obtain ⟨r1, r2, r3, r4, r5⟩ := r
  have hz := r1.2.2.1
  unfold Rz at hz
  obtain ⟨w1, w2⟩ := r1.sm (A' := q_setI A rl 1 (nI k)) (Nat.le_refl _) (fun y _ => ⟨rfl, rfl⟩) (fun y _ h1 _ _ _ => (q_same.r A y).setI h1)
  refine ⟨w1, ⟨?_, fun i hi => ?_⟩, ?_, ?_, r5.1, fun y h1 h2 => (r5.2 y h1 h2).setI (by omega)⟩
  · obtain ⟨t, et, ht⟩ := r2.1
    exact ⟨t, et, w2 0 t (by decide) et _ ht⟩
  · obtain ⟨t, et, ht⟩ := r2.2 i hi
    exact ⟨t, et, w2 _ t (by omega) et _ ht⟩
  · unfold Rn at r3 ⊢
    rw [I_set (Or.inr (by decide)), I_set (Or.inr (by decide))]; exact r3
  · unfold Rt at r4 ⊢
    exact ⟨I_set_s _ _ _ _, by omega, fun j hj => by rw [I_set (Or.inl (by omega))]; exact r4.2.2 j (by omega)⟩
theorem Rc.byte (r : Rc A0 A rl m W L S h n x len T) (hl : len < 700) (v : Int32) : Rc A0 (q_setI (q_setI A (rl + 1) len v) rl 1 (nI (len + 1))) rl m W L S h n x (len + 1) (fun j => if j = len then v else T j) := by
  obtain ⟨r1, r2, r3, r4, r5⟩ := r
  have hz := r1.2.2.1
  unfold Rz at hz
  obtain ⟨w1, w2⟩ := r1.sm (A' := q_setI (q_setI A (rl + 1) len v) rl 1 (nI (len + 1))) (Nat.le_refl _) (fun y _ => ⟨rfl, rfl⟩) (fun y _ h1 h2 _ _ => ((q_same.r A y).setI h2).setI h1)
  refine ⟨w1, ⟨?_, fun i hi => ?_⟩, ?_, ?_, r5.1, fun y h1 h2 => ((r5.2 y h1 h2).setI (by omega)).setI (by omega)⟩
  · obtain ⟨t, et, ht⟩ := r2.1
    exact ⟨t, et, w2 0 t (by decide) et _ ht⟩
  · obtain ⟨t, et, ht⟩ := r2.2 i hi
    exact ⟨t, et, w2 _ t (by omega) et _ ht⟩
  · unfold Rn at r3 ⊢
    rw [I_set (Or.inr (by decide)), I_set (Or.inl (by omega)), I_set (Or.inr (by decide)), I_set (Or.inl (by omega))]; exact r3
  · unfold Rt at r4 ⊢
    refine ⟨I_set_s _ _ _ _, by omega, fun j hj => ?_⟩
    show _ = if j = len then v else T j
    rw [I_set (Or.inl (by omega))]
    by_cases c : j = len
    · subst c
      rw [I_set_s, if_pos rfl]
    · rw [I_set (Or.inr c), if_neg c]; exact r4.2.2 j (by omega)
theorem w_byte {f : q_H → Prop} {w : Int32} {k : Nat} {s : Int32} (hs : s = nI k) (hk : k = 0 ∨ k = 8 ∨ k = 16 ∨ k = 24) (r : Rc A0 A rl m W L S h n x len T) (hl : len < 700) (kk : ∀ A', Rc A0 A' rl m W L S h n x (len + 1) (fun j => if j = len then b8 (wb w k) else T j) → q_Wp G M_X10_appendBytes (q_KV f) X 0 0 3 [some (.ref rl), some (.int w), some (.int (s + Int32.ofInt (-8)))] [] A') : q_Wp G M_X10_appendBytes (q_KV f) X 0 0 3 [some (.ref rl), some (.int w), some (.int s)] [] A := by
  subst hs
  have r4 := r.2.2.2.1
  unfold Rt at r4
  refine f_X10_appendBytes_3 ⟨fun c => absurd c (nI_pos (by omega)), fun _ => ⟨r.1.1.1, _, r.1.1.2.1, 700, r.1.1.2.2.1, by decide, ?_⟩⟩
  rw [r4.1]
  refine ⟨fun c => absurd c (nI_ge (by omega) (by decide)), fun _ => ⟨len, rfl, hl, fun A12 e12 => ?_⟩⟩
  rw [I_set (Or.inl (by omega)), r4.1, nI_add, wb_c w k hk] at e12
  exact kk A12 (by rw [e12]; exact r.byte hl _)
theorem C_appendBytes {f : q_H → Prop} {w : Int32} {B : Nat → Nat} (r : Rc A0 A rl m W L S h n x len (tb B)) (hl : len + 4 ≤ 700) (kk : ∀ A', Rc A0 A' rl m W L S h n x (len + 4) (tb (o_ap B len w)) → f A') : q_Wc G M_X10_appendBytes [.ref rl, .int w] A (q_KV f) X := by
  refine f_X10_appendBytes (w_byte (k := 24) rfl (by decide) r (by omega) fun A1 r1 => w_byte (k := 16) (by decide) (by decide) r1 (by omega) fun A2 r2 => w_byte (k := 8) (by decide) (by decide) r2 (by omega) fun A3 r3 => w_byte (k := 0) (by decide) (by decide) r3 (by omega) fun A4 r4 => f_X10_appendBytes_3 ⟨fun _ => ?_, fun c => absurd (by decide) c⟩)
  have e := ap_tb B len w
  rw [e] at r4
  exact kk A4 r4
theorem C_append {f : Int32 → q_H → Prop} {a b c d e : Int32} {B : Nat → Nat} (r : Rc A0 A rl m W L S h n x len (tb B)) (k0 : len + 20 ≤ 700 → ∀ A', Rc A0 A' rl m W L S h n x (len + 20) (tb (o_app B len a b c d e)) → f (nI (len + 20)) A') (k1 : ¬ len + 20 ≤ 700 → f (-1) A) : q_Wc G M_X10_append [.ref rl, .int a, .int b, .int c, .int d, .int e] A (q_KI f) X := by
  have r4 := r.2.2.2.1
  unfold Rt at r4
  refine f_X10_append ⟨r.1.1.1, ?_⟩
  rw [r4.1, nI_add]
  refine ⟨fun c => ?_, fun c => k1 fun q => c (nI_le q (by decide))⟩
  have hl := (nI_leI (by omega) (by decide)).mp c
  refine C_appendBytes r (by omega) fun A1 r1 => ⟨r1.1.1.1, C_appendBytes r1 (by omega) fun A2 r2 => ⟨r2.1.1.1, C_appendBytes r2 (by omega) fun A3 r3 => ⟨r3.1.1.1, C_appendBytes r3 (by omega) fun A4 r4' => ⟨r4'.1.1.1, C_appendBytes r4' (by omega) fun A5 r5 => ⟨r5.1.1.1, ?_⟩⟩⟩⟩⟩
  have e5 := r5.2.2.2.1.1
  rw [e5]
  exact k0 hl A5 r5
theorem C_truncate {f : Bool → q_H → Prop} {y : Int32} (r : Rc A0 A rl m W L S h n x len T) (k0 : ∀ k, ix y (len + 1) = some k → k ≤ len → ∀ A', Rc A0 A' rl m W L S h n x k T → f true A') (k1 : ix y (len + 1) = none → f false A) : q_Wc G M_X10_truncate [.ref rl, .int y] A (q_KB f) X := by
  have r4 := r.2.2.2.1
  unfold Rt at r4
  rcases ix_cases y (len + 1) (by omega) with ⟨k, hk, e, hx⟩ | ⟨hn, hx⟩
  · subst e
    refine f_X10_truncate ⟨fun c => absurd c (nI_pos (by omega)), fun _ => ⟨r.1.1.1, ?_⟩⟩
    rw [r4.1]
    exact ⟨fun _ => k0 k hx (by omega) _ (r.ln (by omega)), fun c => absurd (nI_le (by omega) (by omega)) c⟩
  · refine f_X10_truncate ⟨fun _ => k1 hx, fun c => ⟨r.1.1.1, ?_⟩⟩
    rw [r4.1]
    refine ⟨fun c2 => ?_, fun _ => k1 hx⟩
    rcases pk_ix y (n := len + 1) (by omega) with c3 | c3 | ⟨j, hj, e⟩
    · exact absurd c3 c
    · have := (nI_leI (by omega) (by omega)).mp (Int32.le_trans c3 c2)
      omega
    · exact absurd e (hn j hj)
theorem C_find {f : Int32 → q_H → Prop} {B : Nat → Nat} (r : Rc A0 A rl m W L S h n x len (tb B)) (hB : ∀ j, B j < 256) (kk : ∀ A', Rc A0 A' rl m W L S h n x 0 (tb B) → f (a_find S B len) A') : q_Wc G M_X10_find [.ref rl] A (q_KI f) X := by
  have r4 := r.2.2.2.1
  unfold Rt at r4
  obtain ⟨t, et, ht, z, rr, p, qq⟩ := r.t
  have r1 := r.ln (k := 0) (Nat.zero_le _)
  obtain ⟨z1, rr1, p1⟩ := r1.to_t et
  have k1 := kk _ r1
  refine f_X10_find ⟨z, _, r.1.1.2.1, ?_⟩
  rw [r4.1]
  refine N_code (T := B) r.1.1.2.2.1 (fun j hj => ⟨hB j, r4.2.2 j hj⟩) (by decide) (by omega) ⟨z, _, rr, p.line, ?_⟩
  have hf := fnd_at S (t_nm B 0 len) (S 8 2 0) 0
  refine L_buyerNamed p1 (fun b hb e1 e2 => ?_) (fun hn => ?_)
  · have := hf.1 b (Nat.zero_le _) (by omega) e1 (fun c _ hc => e2 c hc)
    unfold a_find at k1
    rw [this] at k1; exact k1
  · have := hf.2 fun i _ hi => hn i (by omega)
    unfold a_find at k1
    rw [this] at k1; exact k1
theorem C_read {f : Int32 → q_H → Prop} {B : Nat → Nat} (r : Rc A0 A rl m W L S h n x len (tb B)) (hB : ∀ j, B j < 256)
    (k0 : ∀ S', p_text B len = .ok S' → ∀ A' L' h', Rc A0 A' rl m W L' S' h' 0 x 0 (tb B) → f (nI (S' 8 1 0)) A') (k1 : ∀ c, p_text B len = .error c → 0 < c → c < 10000 → ∀ A' L', Rc A0 A' rl m W L' S h n x 0 (tb B) → f (-(nI c)) A') : q_Wc G M_X10_read [.ref rl] A (q_KI f) X := by
  refine f_X10_read ⟨r.1.1.1, C_spareLine r fun A1 L1 t r1 e0 e1 => ⟨_, rfl, ?_⟩⟩
  have r4 := r1.2.2.2.1
  unfold Rt at r4
  have hz := r1.1.2.2.1
  unfold Rz at hz
  obtain ⟨gt, qt⟩ := r1.1.line (by decide) e1
  unfold Rq at qt
  obtain ⟨rd, erd⟩ : ∃ rd, rd = q_sz A1 := ⟨_, rfl⟩
  have shn : ∀ y, y < q_sz A1 → q_sh (q_new A1 10 0) y = q_sh A1 y := fun y hy => sh_new_n (by omega)
  have Rn' : ∀ y, y < q_sz A1 → q_R (q_new A1 10 0) y = q_R A1 y := fun y hy => by rw [q_R_new, q_rw_a _ _ _ (by omega)]
  have In' : ∀ y, y < q_sz A1 → q_I (q_new A1 10 0) y = q_I A1 y := fun y hy => by rw [q_I_new, q_rw_a _ _ _ (by omega)]
  have Inz : ∀ k, q_I (q_new A1 10 0) rd k = nI 0 := fun k => by rw [erd, q_I_new, q_rw_s]; rfl
  have shrd : q_sh (q_new A1 10 0) rd = (10, 0) := by rw [erd]; exact sh_new_s _ _ _
  refine ⟨by rw [shn _ (by omega)]; exact r1.1.1.1, _, by rw [Rn' _ (by omega)]; exact r1.1.1.2.1, ?_⟩
  rw [In' _ (by omega), r4.1, ← erd]
  refine f_X9_init ⟨shrd, by rw [show q_sh (q_setR (q_setI (q_setR (q_new A1 10 0) rd 0 (some (rl + 1))) rd 1 (nI len)) rd 2 (some (l_a t))) rl = q_sh (q_new A1 10 0) rl from rfl, shn _ (by omega)]; exact r1.1.1.1, shrd, ?_⟩
  obtain ⟨A9, e9⟩ : ∃ A9, A9 = q_setI (q_setR (q_setI (q_setR (q_new A1 10 0) rd 0 (some (rl + 1))) rd 1 (nI len)) rd 2 (some (l_a t))) rl 1 (nI 0) := ⟨_, rfl⟩
  have o9 : ∀ y, y < q_sz A1 → y ≠ rl → q_same A1 A9 y := fun y hy hr => by
    rw [e9]
    exact (((((q_same.r A1 y).new (by omega)).setR (by omega)).setI (by omega)).setR (by omega)).setI hr
  have z9 : q_sz A9 = q_sz A1 + 1 := by rw [e9]; rfl
  rw [← e9]
  have g9 : Lg A9 t := gt.sm fun y h1 h2 => o9 y (by omega) (by omega)
  have i9 : ∀ k, k ≠ 1 → q_I A9 rd k = nI 0 := fun k hk => by
    rw [e9, I_set (Or.inl (by omega))]
    show q_I (q_setI (q_setR (q_new A1 10 0) rd 0 (some (rl + 1))) rd 1 (nI len)) rd k = _
    rw [I_set (Or.inr hk)]
    exact Inz k
  have x9 : Rx A9 rd (rl + 1) (l_a t) len B := by
    refine ⟨by rw [e9]; exact shrd, ?_, ?_, ?_, (o9 (rl + 1) (by omega) (by omega)).1.trans r1.1.1.2.2.1, r4.2.1, fun j hj => ⟨hB j, by rw [(o9 (rl + 1) (by omega) (by omega)).2.1]; exact r4.2.2 j hj⟩, by omega⟩
    · rw [e9]
      show q_R (q_setR (q_setI (q_setR (q_new A1 10 0) rd 0 (some (rl + 1))) rd 1 (nI len)) rd 2 (some (l_a t))) rd 0 = _
      rw [R_set (Or.inr (by decide))]
      exact R_set_s _ _ _ _
    · rw [e9, I_set (Or.inl (by omega))]
      exact I_set_s _ _ _ _
    · rw [e9]
      exact R_set_s _ _ _ _
  have rb := r1.ln (k := 0) (Nat.zero_le _)
  -- what the reading leaves, seen from the object with no text
  have back : ∀ A12 l12, l_a l12 = l_a t → fq A9 A12 (l_a t) rd → fr (q_setI A1 rl 1 (nI 0)) A12 (l_a t) 277 := fun A12 l12 ea o => by
    refine ⟨by have := o.1; show q_sz A1 ≤ _; omega, fun y hy hyz => ?_⟩
    have hyz' : y < q_sz A1 := hyz
    by_cases c : y = rl
    · have a := o.2 y hy (by omega) (by omega)
      subst c
      refine q_same.t ?_ a
      rw [e9]
      refine ⟨?_, ?_, ?_, ?_, ?_⟩
      · exact shn y hyz'
      · funext k
        show q_I (q_setI (q_setR (q_setI (q_setR (q_new A1 10 0) rd 0 (some (y + 1))) rd 1 (nI len)) rd 2 (some (l_a t))) y 1 (nI 0)) y k = q_I (q_setI A1 y 1 (nI 0)) y k
        by_cases ck : k = 1
        · subst ck
          rw [I_set_s, I_set_s]
        · rw [I_set (Or.inr ck), I_set (Or.inr ck)]
          show q_I (q_setI (q_setR (q_new A1 10 0) rd 0 (some (y + 1))) rd 1 (nI len)) y k = _
          rw [I_set (Or.inl (by omega))]
          exact congrFun (In' y hyz') k
      · have : q_R (q_setR (q_setI (q_setR (q_new A1 10 0) rd 0 (some (y + 1))) rd 1 (nI len)) rd 2 (some (l_a t))) y = q_R A1 y := by
          funext k
          rw [R_set (Or.inl (by omega))]
          show q_R (q_setR (q_new A1 10 0) rd 0 (some (y + 1))) y k = _
          rw [R_set (Or.inl (by omega))]
          exact congrFun (Rn' y hyz') k
        exact this
      · show q_L (q_new A1 10 0) y = q_L A1 y
        rw [q_L_new, q_rw_a _ _ _ (by omega)]
      · show q_D (q_new A1 10 0) y = q_D A1 y
        rw [q_D_new, q_rw_a _ _ _ (by omega)]
    · have a := o.2 y hy (by omega) (by omega)
      have b := o9 y hyz' c
      refine q_same.t ?_ (b.t a)
      exact ⟨rfl, by funext k; rw [I_set (Or.inl c)], rfl, rfl, rfl⟩
  refine P_text (l := t) (T := B) g9 x9 ⟨by omega, by omega, by omega, by omega⟩ (i9 3 (by decide)) (i9 4 (by decide)) (i9 5 (by decide)) (i9 7 (by decide)) (by omega) (fun S' e' A12 l12 ea o12 l' => ?_) (fun c e' hc1 hc2 A12 l12 ea o12 g12 => ?_)
  · have rc := rb.spare (t' := l12) e1 ea (back A12 l12 ea o12) l'.g
    refine ⟨fun _ => ?_, fun c => absurd rfl c⟩
    obtain ⟨u, eu, hu, zu, ru, pu, qu⟩ := rc.t
    have p12 : Lp A12 A12 l12 S' := ⟨l', fr.r _ _ _⟩
    refine ⟨zu, _, ru, l_a t, R_set_s _ _ _ _, by rw [← ea]; exact p12.line, ?_⟩
    -- the two lines change places
    have e1' : L_up L1 1 l12 1 = some l12 := L_up_s _ _ _
    obtain ⟨L', eL'⟩ : ∃ L' : L_T, L' = fun j => if j = 0 then some l12 else if j = 1 then some u else L_up L1 1 l12 j := ⟨_, rfl⟩
    have l0 : L' 0 = some l12 := by rw [eL']; rfl
    have l1 : L' 1 = some u := by rw [eL']; rfl
    have lj : ∀ j, j ≠ 0 → j ≠ 1 → L' j = L_up L1 1 l12 j := fun j h1 h2 => by rw [eL']; show (if j = 0 then _ else _) = _; rw [if_neg h1, if_neg h2]
    obtain ⟨A', eA'⟩ : ∃ A', A' = q_setI (q_setR (q_setR A12 rl 3 (some (l_a u))) rl 2 (some (l_a t))) rl 5 (nI 0) := ⟨_, rfl⟩
    have zz : q_sz A' = q_sz A12 := by rw [eA']; rfl
    have sm : ∀ y, y ≠ rl → q_same A12 A' y := fun y h1 => by rw [eA']; exact (((q_same.r A12 y).setR h1).setR h1).setI h1
    have shA : q_sh A' = q_sh A12 := by rw [eA']; rfl
    have rA : ∀ y k, ¬ (y = rl ∧ (k = 2 ∨ k = 3)) → q_R A' y k = q_R A12 y k := fun y k h1 => by
      rw [eA']
      show q_R (q_setR (q_setR A12 rl 3 (some (l_a u))) rl 2 (some (l_a t))) y k = _
      rw [R_set (by omega), R_set (by omega)]
    have hz2 := rc.1.2.2.1
    unfold Rz at hz2
    have gl : ∀ j v, j < 8 → L_up L1 1 l12 j = some v → (Lg A' v ∧ Rq rl m W (q_sz A') v) ∧ ∀ S, Lr A12 v S → Lr A' v S := fun j v hj ej => by
      have q := rc.1.2.2.2.1 j v hj ej
      have q2 := q.2
      rw [zz]
      unfold Rq at q2
      exact ⟨⟨q.1.sm fun y h1 h2 => sm y (by omega), q.2⟩, fun S hS => hS.sm fun y h1 h2 => sm y (by omega)⟩
    have backL : ∀ j v, j < 8 → L' j = some v → ∃ j', j' < 8 ∧ L_up L1 1 l12 j' = some v ∧ (j' = if j = 0 then 1 else if j = 1 then 0 else j) := fun j v hj ej => by
      by_cases c0 : j = 0
      · rw [c0, l0] at ej
        cases ej
        exact ⟨1, by decide, e1', by rw [if_pos c0]⟩
      · by_cases c1 : j = 1
        · rw [c1, l1] at ej
          cases ej
          exact ⟨0, by decide, eu, by rw [if_neg c0, if_pos c1]⟩
        · rw [lj j c0 c1] at ej
          exact ⟨j, hj, ej, by rw [if_neg c0, if_neg c1]⟩
    obtain ⟨a1, a2, a3, a4, a5⟩ := rc.1.1
    have r3 := rc.2.2.1
    unfold Rn at r3
    have r4' := rc.2.2.2.1
    unfold Rt at r4'
    have fin : Rc A0 A' rl m W L' S' h 0 x 0 (tb B) := by
      refine ⟨⟨⟨by rw [shA]; exact a1, by rw [rA _ _ (by omega)]; exact a2, by rw [shA]; exact a3, by rw [rA _ _ (by omega)]; exact a4, by rw [shA]; exact a5⟩, ⟨?_, ?_, fun i hi => ?_⟩, by rw [zz]; exact rc.1.2.2.1, fun j v hj ej => ?_, fun i j t1 t2 hi hj hij e1 e2 => ?_⟩, ⟨⟨l12, l0, (gl 1 l12 (by decide) e1').2 _ l'⟩, fun i hi => absurd hi (Nat.not_lt_zero _)⟩, ⟨by rw [eA']; exact I_set_s _ _ _ _, Nat.zero_le _, ?_, r3.2.2.2⟩, ⟨?_, Nat.zero_le _, fun j hj => absurd hj (Nat.not_lt_zero _)⟩, by rw [zz]; exact rc.2.2.2.2.1, fun y h1 h2 => (rc.2.2.2.2.2 y h1 h2).t (sm y (by omega))⟩
      · unfold L_at
        rw [l0, eA']
        show q_R (q_setR (q_setR A12 rl 3 (some (l_a u))) rl 2 (some (l_a t))) rl 2 = some (l_a l12)
        rw [R_set_s, ea]
      · unfold L_at
        rw [l1, eA']
        show q_R (q_setR (q_setR A12 rl 3 (some (l_a u))) rl 2 (some (l_a t))) rl 3 = some (l_a u)
        rw [R_set (Or.inr (by decide)), R_set_s]
      · unfold L_at
        rw [lj _ (by omega) (by omega), rA _ _ (by omega)]
        exact rc.1.2.1.2.2 i hi
      · obtain ⟨j', hj', ej', -⟩ := backL j v hj ej
        exact (gl j' v hj' ej').1
      · obtain ⟨i', hi', ei', wi⟩ := backL i t1 hi e1
        obtain ⟨j', hj', ej', wj⟩ := backL j t2 hj e2
        refine rc.1.2.2.2.2 i' j' t1 t2 hi' hj' ?_ ei' ej'
        rw [wi, wj]
        split <;> split <;> (try split) <;> (try split) <;> omega
      · rw [eA', I_set (Or.inr (by decide))]
        exact r3.2.2.1
      · rw [eA', I_set (Or.inr (by decide))]
        exact r4'.1
    have ev : q_I A' (l_a t) 3 = nI (S' 8 1 0) := by
      obtain ⟨tt, ett, htt, ztt, rtt, ptt, -⟩ := fin.t
      rw [l0] at ett
      cases ett
      rw [← ea]
      exact ptt.nst
    have hk := k0 S' e' A' L' h fin
    rw [← ev, eA'] at hk
    exact hk
  · have rc := rb.spare (t' := l12) e1 ea (back A12 l12 ea o12) g12
    refine ⟨fun c0 => ?_, fun _ => k1 c e' hc1 hc2 A12 _ rc⟩
    have := (nI_eq (by omega) (by decide)).mp c0
    omega
end OT

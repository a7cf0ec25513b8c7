/-! THE LAW -/
theorem lt_sub6 {a b : Nat} (ha : a < 1073741824) (hb : b < 1073741824) : (nI a - nI 6) < nI b ↔ a < b + 6 := by
  rw [Int32.lt_iff_toInt_lt, pk_sub_toInt (by omega) (by omega), nI_toInt (by omega)]
  omega
section LL
variable {G : q_G} {f : Bool → q_H → Prop} {X : String → q_H → Prop}
theorem v_law28 {rl mo : Nat} (kf : ∀ A, f true A) (hL : q_sL G ≤ 3072) : ∀ (d i : Nat) (A : q_H) (L : L_T) (S : s_T) (hh : Nat → s_T) (n x len : Nat) (B : Nat → Nat) (kc ns : Nat), q_sL G < 6 * (i + d) + 6 → i ≤ 512 → JJ A rl mo L S hh n x len B → kc ≤ 295 + 280 * i → ns ≤ 9868 + 1223 * i → q_Wp G M_L_law (q_KB f) X kc ns 28 [some (.ref (q_sb G)), some (.ref rl), some (.ref mo), some (.ref (mo + 13)), some (.ref (mo + 14)), some (.int (nI (6 * i))), none, none, none, none] [] A
  | 0, i, A, L, S, hh, n, x, len, B, kc, ns, hd, hi, j, hk, hn =>
    f_L_law_28 (by omega) ⟨fun _ => ⟨⟨by omega, by omega⟩, kf A⟩, fun c => absurd ((lt_sub6 (by omega) (by omega)).mpr (by omega)) c⟩
  | d + 1, i, A, L, S, hh, n, x, len, B, kc, ns, hd, hi, j, hk, hn => by
    by_cases c : q_sL G < 6 * i + 6
    · exact f_L_law_28 (by omega) ⟨fun _ => ⟨⟨by omega, by omega⟩, kf A⟩, fun c2 => absurd ((lt_sub6 (by omega) (by omega)).mpr c) c2⟩
    · have nx : NX G f X rl mo i := fun A' L' S' hh' n' x' len' B' kc' ns' j' hk' hn' => by
        refine f_L_law_1398 (by omega) ?_
        rw [nI_add, show 6 * i + 6 = 6 * (i + 1) by omega]
        exact v_law28 kf hL d (i + 1) A' L' S' hh' n' x' len' B' kc' ns' (by omega) (by omega) j' hk' hn'
      have l31 : q_sL G < 2147483648 := by omega
      have h5 : 6 * i + 5 < q_sL G := by omega
      have h9 : i < 512 := by omega
      refine f_L_law_28 l31 ⟨fun c2 => absurd ((lt_sub6 (by omega) (by omega)).mp c2) c, fun _ => ⟨6 * i, rfl, by omega, ?_⟩⟩
      exact ⟨fun _ => W_160 nx j l31 h5 hk hn h9, fun _ => W_233 nx j l31 h5 hk hn h9, fun _ => W_258 nx j l31 h5 hk hn h9, fun _ => W_271 nx j l31 h5 hk hn h9, fun _ => W_284 nx j l31 h5 hk hn h9, fun _ => W_297 nx j l31 h5 hk hn h9, fun _ => W_322 nx j l31 h5 hk hn h9, fun _ => W_378 nx j l31 h5 hk hn h9, fun _ => W_446 nx j l31 h5 hk hn h9, fun _ => W_514 nx j l31 h5 hk hn h9, fun _ => W_582 nx j l31 h5 hk hn h9, fun _ => W_650 nx j l31 h5 hk hn h9, fun _ => W_676 nx j l31 h5 hk hn h9, fun _ => W_753 nx j l31 h5 hk hn h9, fun _ => W_796 nx j l31 h5 hk hn h9, fun _ => W_864 nx j l31 h5 hk hn h9, fun _ => W_932 nx j l31 h5 hk hn h9, fun _ => W_1000 nx j l31 h5 hk hn h9, fun _ => W_1056 nx j l31 h5 hk hn h9, fun _ => W_1124 nx j l31 h5 hk hn h9, fun _ => W_1180 nx j l31 h5 hk hn h9, fun _ => W_1193 nx j l31 h5 hk hn h9, fun _ => W_1249 nx j l31 h5 hk hn h9, fun _ => W_1317 nx j l31 h5 hk hn h9, fun _ => W_1385 nx j l31 h5 hk hn h9, fun _ => nx A L S hh n x len B kc ns j (by omega) (by omega)⟩
theorem v_law (kf : ∀ A, f true A) (hL : q_sL G ≤ 3072) (A : q_H) : q_Wp G M_L_law (q_KB f) X 0 0 0 [some (.ref (q_sb G)), none, none, none, none, none, none, none, none, none] [] A := by
  refine f_L_law (by omega) (C_init (tb fun _ => 0) (fun _ => s_1) rfl fun A2 L s2 r => ?_)
  refine M_init rfl fun A5 s5 z5 m5 => ?_
  obtain ⟨mo, em⟩ : ∃ mo, mo = q_sz A2 := ⟨_, rfl⟩
  rw [← em] at s5 z5 m5 ⊢
  have z6 : q_sz (q_new A5 52 1) = mo + 14 := by
    show q_sz A5 + 1 = _
    omega
  have z7 : q_sz (q_new (q_new A5 52 1) 53 1) = mo + 15 := by
    show q_sz A5 + 1 + 1 = _
    omega
  have e57 : ∀ y, y < mo + 13 → q_same A5 (q_new (q_new A5 52 1) 53 1) y := fun y hy => ((q_same.r A5 y).new (by omega)).new (by omega)
  have j : JJ (q_new (q_new A5 52 1) 53 1) (q_sz A) mo L s_1 (fun _ => s_1) 0 0 0 (fun _ => 0) := by
    refine ⟨⟨r.reb (by omega) (by omega) (fun y hy => (s5 y (by omega)).t (e57 y (by omega))), (m5 _ _).sm fun y h1 h2 => e57 y h2, ?_, ?_⟩, gd_1, fun i hi => absurd hi (Nat.not_lt_zero _), fun j => (show (0 : Nat) < 256 by decide)⟩
    · rw [sh_new_n (by omega), ← z5]
      exact sh_new_s A5 52 1
    · rw [← z6]
      exact sh_new_s (q_new A5 52 1) 53 1
  rw [z6, z5]
  exact v_law28 kf hL 512 0 _ L s_1 _ 0 0 0 _ 295 9868 (by omega) (by omega) j (by omega) (by omega)
end LL

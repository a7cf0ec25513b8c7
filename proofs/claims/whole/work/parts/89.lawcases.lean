/-! THE LAW'S CASES -/
/-- the next round -/
def NX (G : q_G) (f : Bool → q_H → Prop) (X : String → q_H → Prop) (rl mo i : Nat) : Prop := ∀ (A : q_H) (L : L_T) (S : s_T) (hh : Nat → s_T) (n x len : Nat) (B : Nat → Nat) (kc ns : Nat), JJ A rl mo L S hh n x len B → kc ≤ 295 + 280 * (i + 1) → ns ≤ 9868 + 1223 * (i + 1) → q_Wp G M_L_law (q_KB f) X kc ns 1398 [some (.ref (q_sb G)), some (.ref rl), some (.ref mo), some (.ref (mo + 13)), some (.ref (mo + 14)), some (.int (nI (6 * i))), none, none, none, none] [] A
section LC
variable {G : q_G} {f : Bool → q_H → Prop} {X : String → q_H → Prop} {A : q_H} {rl mo i : Nat} {L : L_T} {S : s_T} {hh : Nat → s_T} {n x len : Nat} {B : Nat → Nat} {kc ns : Nat}
theorem TF_ok {P Q : q_H → Prop} {c : Nat} {v : Int32} (ms : q_sh A mo = (12, 0)) (e0 : q_I A mo 0 = nI c) (s13 : q_sh A (mo + 13) = (52, 1)) (hv : nI c = nI 0 → q_L A (mo + 13) 0 = v.toInt64) (k : P A) : q_Wc G M_X11_thrown [.ref mo] A (q_KI fun r16 A15 => ((r16 = nI c → ((nI c = nI 0 → ∃ z21 : Nat, q_sh A15 (mo + 13) = (52, z21) ∧ z21 < 2147483648 ∧ 0 < z21 ∧ (((q_L A15 (mo + 13) 0) = (v.toInt64) → P A15) ∧ (¬ (q_L A15 (mo + 13) 0) = (v.toInt64) → Q A15))) ∧ (¬ nI c = nI 0 → P A15))) ∧ (¬ r16 = nI c → Q A15))) q_nX := by
  refine f_X11_thrown ⟨ms, fun _ => ⟨fun z => ⟨1, s13, by decide, by decide, fun _ => k, fun z2 => absurd (hv z) z2⟩, fun _ => k⟩, fun z => absurd e0 z⟩
theorem TF_bad {P Q R : q_H → Prop} {c : Nat} (ms : q_sh A mo = (12, 0)) (e0 : q_I A mo 0 = nI c) (hc : ¬ nI c = nI 0) (k : P A) : q_Wc G M_X11_thrown [.ref mo] A (q_KI fun r16 A15 => ((r16 = nI c → ((nI c = nI 0 → R A15) ∧ (¬ nI c = nI 0 → P A15))) ∧ (¬ r16 = nI c → Q A15))) q_nX :=
  f_X11_thrown ⟨ms, fun _ => ⟨fun z => absurd z hc, fun _ => k⟩, fun z => absurd e0 z⟩
theorem W_322 (nx : NX G f X rl mo i) (j : JJ A rl mo L S hh n x len B) (hL : q_sL G < 2147483648) (hi : 6 * i + 5 < q_sL G) (hk : kc ≤ 295 + 280 * i) (hn : ns ≤ 9868 + 1223 * i) (h512 : i < 512) : q_Wp G M_L_law (q_KB f) X kc ns 322 [some (.ref (q_sb G)), some (.ref rl), some (.ref mo), some (.ref (mo + 13)), some (.ref (mo + 14)), some (.int (nI (6 * i))), none, none, none, none] [] A := by
  obtain ⟨jc, g, gh, hB⟩ := j
  refine f_L_law_322 hL ⟨6 * i + 1, by rw [nI_add], by omega, ⟨by omega, by omega⟩, L_setting jc g fun A1 j1 hv => ⟨⟨by omega, by omega⟩, j1.2.1.1.1.z, M_setting j1.2.1.1 ⟨⟨by omega, by omega⟩, j1.2.1.1.1.z, ?_⟩⟩⟩
  exact TF_ok j1.2.1.1.1.z (I_set_s _ _ _ _) j1.2.2.1 hv (nx _ _ _ _ _ _ _ _ _ _ (j1.join (th.kf _ _ _).xf (j1.2.1.th _) g gh hB) (by omega) (by omega))
theorem W_378 (nx : NX G f X rl mo i) (j : JJ A rl mo L S hh n x len B) (hL : q_sL G < 2147483648) (hi : 6 * i + 5 < q_sL G) (hk : kc ≤ 295 + 280 * i) (hn : ns ≤ 9868 + 1223 * i) (h512 : i < 512) : q_Wp G M_L_law (q_KB f) X kc ns 378 [some (.ref (q_sb G)), some (.ref rl), some (.ref mo), some (.ref (mo + 13)), some (.ref (mo + 14)), some (.int (nI (6 * i))), none, none, none, none] [] A := by
  obtain ⟨jc, g, gh, hB⟩ := j
  refine f_L_law_378 hL ⟨6 * i + 1, by rw [nI_add], by omega, 6 * i + 2, by rw [nI_add], by omega, ⟨by omega, by omega⟩, L_station jc g fun A1 j1 hv => ⟨⟨by omega, by omega⟩, j1.2.1.1.1.z, M_station j1.2.1.1 g.1 ⟨⟨by omega, by omega⟩, j1.2.1.1.1.z, ?_⟩⟩⟩
  exact TF_ok j1.2.1.1.1.z (I_set_s _ _ _ _) j1.2.2.1 hv (nx _ _ _ _ _ _ _ _ _ _ (j1.join (th.kf _ _ _).xf (j1.2.1.th _) g gh hB) (by omega) (by omega))
theorem W_446 (nx : NX G f X rl mo i) (j : JJ A rl mo L S hh n x len B) (hL : q_sL G < 2147483648) (hi : 6 * i + 5 < q_sL G) (hk : kc ≤ 295 + 280 * i) (hn : ns ≤ 9868 + 1223 * i) (h512 : i < 512) : q_Wp G M_L_law (q_KB f) X kc ns 446 [some (.ref (q_sb G)), some (.ref rl), some (.ref mo), some (.ref (mo + 13)), some (.ref (mo + 14)), some (.int (nI (6 * i))), none, none, none, none] [] A := by
  obtain ⟨jc, g, gh, hB⟩ := j
  refine f_L_law_446 hL ⟨6 * i + 1, by rw [nI_add], by omega, 6 * i + 2, by rw [nI_add], by omega, ⟨by omega, by omega⟩, L_mass jc g fun A1 j1 hv => ⟨⟨by omega, by omega⟩, j1.2.1.1.1.z, M_mass j1.2.1.1 g.1 ⟨⟨by omega, by omega⟩, j1.2.1.1.1.z, ?_⟩⟩⟩
  exact TF_ok j1.2.1.1.1.z (I_set_s _ _ _ _) j1.2.2.1 hv (nx _ _ _ _ _ _ _ _ _ _ (j1.join (th.kf _ _ _).xf (j1.2.1.th _) g gh hB) (by omega) (by omega))
theorem W_514 (nx : NX G f X rl mo i) (j : JJ A rl mo L S hh n x len B) (hL : q_sL G < 2147483648) (hi : 6 * i + 5 < q_sL G) (hk : kc ≤ 295 + 280 * i) (hn : ns ≤ 9868 + 1223 * i) (h512 : i < 512) : q_Wp G M_L_law (q_KB f) X kc ns 514 [some (.ref (q_sb G)), some (.ref rl), some (.ref mo), some (.ref (mo + 13)), some (.ref (mo + 14)), some (.int (nI (6 * i))), none, none, none, none] [] A := by
  obtain ⟨jc, g, gh, hB⟩ := j
  refine f_L_law_514 hL ⟨6 * i + 1, by rw [nI_add], by omega, 6 * i + 2, by rw [nI_add], by omega, ⟨by omega, by omega⟩, L_bale jc g fun A1 j1 hv => ⟨⟨by omega, by omega⟩, j1.2.1.1.1.z, M_bale j1.2.1.1 g.1 ⟨⟨by omega, by omega⟩, j1.2.1.1.1.z, ?_⟩⟩⟩
  exact TF_ok j1.2.1.1.1.z (I_set_s _ _ _ _) j1.2.2.1 hv (nx _ _ _ _ _ _ _ _ _ _ (j1.join (th.kf _ _ _).xf (j1.2.1.th _) g gh hB) (by omega) (by omega))
theorem W_582 (nx : NX G f X rl mo i) (j : JJ A rl mo L S hh n x len B) (hL : q_sL G < 2147483648) (hi : 6 * i + 5 < q_sL G) (hk : kc ≤ 295 + 280 * i) (hn : ns ≤ 9868 + 1223 * i) (h512 : i < 512) : q_Wp G M_L_law (q_KB f) X kc ns 582 [some (.ref (q_sb G)), some (.ref rl), some (.ref mo), some (.ref (mo + 13)), some (.ref (mo + 14)), some (.int (nI (6 * i))), none, none, none, none] [] A := by
  obtain ⟨jc, g, gh, hB⟩ := j
  refine f_L_law_582 hL ⟨6 * i + 1, by rw [nI_add], by omega, 6 * i + 2, by rw [nI_add], by omega, ⟨by omega, by omega⟩, L_buyer jc g fun A1 j1 hv => ⟨⟨by omega, by omega⟩, j1.2.1.1.1.z, M_buyer j1.2.1.1 ⟨⟨by omega, by omega⟩, j1.2.1.1.1.z, ?_⟩⟩⟩
  exact TF_ok j1.2.1.1.1.z (I_set_s _ _ _ _) j1.2.2.1 hv (nx _ _ _ _ _ _ _ _ _ _ (j1.join (th.kf _ _ _).xf (j1.2.1.th _) g gh hB) (by omega) (by omega))
theorem W_1193 (nx : NX G f X rl mo i) (j : JJ A rl mo L S hh n x len B) (hL : q_sL G < 2147483648) (hi : 6 * i + 5 < q_sL G) (hk : kc ≤ 295 + 280 * i) (hn : ns ≤ 9868 + 1223 * i) (h512 : i < 512) : q_Wp G M_L_law (q_KB f) X kc ns 1193 [some (.ref (q_sb G)), some (.ref rl), some (.ref mo), some (.ref (mo + 13)), some (.ref (mo + 14)), some (.int (nI (6 * i))), none, none, none, none] [] A := by
  obtain ⟨jc, g, gh, hB⟩ := j
  refine f_L_law_1193 hL ⟨6 * i + 1, by rw [nI_add], by omega, ⟨by omega, by omega⟩, L_bestBuyer jc g fun A1 j1 hv => ⟨⟨by omega, by omega⟩, j1.2.1.1.1.z, M_bestBuyer j1.2.1.1 g.1 ⟨⟨by omega, by omega⟩, j1.2.1.1.1.z, ?_⟩⟩⟩
  exact TF_ok j1.2.1.1.1.z (I_set_s _ _ _ _) j1.2.2.1 hv (nx _ _ _ _ _ _ _ _ _ _ (j1.join (th.kf _ _ _).xf (j1.2.1.th _) g gh hB) (by omega) (by omega))
theorem W_1249 (nx : NX G f X rl mo i) (j : JJ A rl mo L S hh n x len B) (hL : q_sL G < 2147483648) (hi : 6 * i + 5 < q_sL G) (hk : kc ≤ 295 + 280 * i) (hn : ns ≤ 9868 + 1223 * i) (h512 : i < 512) : q_Wp G M_L_law (q_KB f) X kc ns 1249 [some (.ref (q_sb G)), some (.ref rl), some (.ref mo), some (.ref (mo + 13)), some (.ref (mo + 14)), some (.int (nI (6 * i))), none, none, none, none] [] A := by
  obtain ⟨jc, g, gh, hB⟩ := j
  refine f_L_law_1249 hL ⟨6 * i + 1, by rw [nI_add], by omega, 6 * i + 2, by rw [nI_add], by omega, ⟨by omega, by omega⟩, L_outlook jc g fun A1 L1 j1 hv => ⟨⟨by omega, by omega⟩, j1.2.1.1.1.z, M_outlook j1.2.1.1 g.1 g.2.2 j1.2.1.2.1 fun A2 o2 e2 p2 kp2 => ⟨⟨by omega, by omega⟩, p2.1.z, ?_⟩⟩⟩
  exact TF_ok p2.1.z e2 (by rw [o2.2.1]; exact j1.2.2.1) (fun z => by rw [o2.2.2.2.1]; exact hv z) (nx _ _ _ _ _ _ _ _ _ _ (j1.join o2.xf (j1.2.1.kf o2 p2 kp2 (ct_r S)) g gh hB) (by omega) (by omega))
theorem W_1317 (nx : NX G f X rl mo i) (j : JJ A rl mo L S hh n x len B) (hL : q_sL G < 2147483648) (hi : 6 * i + 5 < q_sL G) (hk : kc ≤ 295 + 280 * i) (hn : ns ≤ 9868 + 1223 * i) (h512 : i < 512) : q_Wp G M_L_law (q_KB f) X kc ns 1317 [some (.ref (q_sb G)), some (.ref rl), some (.ref mo), some (.ref (mo + 13)), some (.ref (mo + 14)), some (.int (nI (6 * i))), none, none, none, none] [] A := by
  obtain ⟨jc, g, gh, hB⟩ := j
  refine f_L_law_1317 hL ⟨6 * i + 1, by rw [nI_add], by omega, 6 * i + 2, by rw [nI_add], by omega, ⟨by omega, by omega⟩, L_bestStaff jc g fun A1 L1 j1 hv => ⟨⟨by omega, by omega⟩, j1.2.1.1.1.z, M_bestStaff j1.2.1.1 g.1 g.2.1 g.2.2 j1.2.1.2.1 fun A2 o2 e2 p2 kp2 => ⟨⟨by omega, by omega⟩, p2.1.z, ?_⟩⟩⟩
  exact TF_ok p2.1.z e2 (by rw [o2.2.1]; exact j1.2.2.1) (fun z => by rw [o2.2.2.2.1]; exact hv z) (nx _ _ _ _ _ _ _ _ _ _ (j1.join o2.xf (j1.2.1.kf o2 p2 kp2 (ct_r S)) g gh hB) (by omega) (by omega))
theorem W_796 (nx : NX G f X rl mo i) (j : JJ A rl mo L S hh n x len B) (hL : q_sL G < 2147483648) (hi : 6 * i + 5 < q_sL G) (hk : kc ≤ 295 + 280 * i) (hn : ns ≤ 9868 + 1223 * i) (h512 : i < 512) : q_Wp G M_L_law (q_KB f) X kc ns 796 [some (.ref (q_sb G)), some (.ref rl), some (.ref mo), some (.ref (mo + 13)), some (.ref (mo + 14)), some (.int (nI (6 * i))), none, none, none, none] [] A := by
  obtain ⟨jc, g, gh, hB⟩ := j
  refine f_L_law_796 hL ⟨6 * i + 1, by rw [nI_add], by omega, 6 * i + 2, by rw [nI_add], by omega, ⟨by omega, by omega⟩, L_load jc g (fun c0 A1 L1 j1 hv => ⟨⟨by omega, by omega⟩, j1.2.1.1.1.z, M_load j1.2.1.1 g.1 j1.2.1.2.1 (fun _ A2 o2 e2 p2 kp2 => ⟨⟨by omega, by omega⟩, p2.1.z, ?_⟩) (fun c => absurd c0 c)⟩) (fun c0 c1 A1 j1 => ⟨⟨by omega, by omega⟩, j1.2.1.1.1.z, M_load j1.2.1.1 g.1 j1.2.1.2.1 (fun c => absurd c c0) (fun _ => ⟨⟨by omega, by omega⟩, j1.2.1.1.1.z, ?_⟩)⟩)⟩
  · have gg := gd_load g c0
    exact TF_ok p2.1.z e2 (by rw [o2.2.1]; exact j1.2.2.1) (fun _ => by rw [o2.2.2.2.1]; exact hv) (nx _ _ _ _ _ _ _ _ _ _ (j1.join o2.xf (j1.2.1.kf o2 p2 kp2 gg.2) gg.1 (gh_push g gh gg.2) hB) (by omega) (by omega))
  · exact TF_bad j1.2.1.1.1.z (I_set_s _ _ _ _) c1 (nx _ _ _ _ _ _ _ _ _ _ (j1.join (th.kf _ _ _).xf (j1.2.1.th _) g gh hB) (by omega) (by omega))
theorem W_864 (nx : NX G f X rl mo i) (j : JJ A rl mo L S hh n x len B) (hL : q_sL G < 2147483648) (hi : 6 * i + 5 < q_sL G) (hk : kc ≤ 295 + 280 * i) (hn : ns ≤ 9868 + 1223 * i) (h512 : i < 512) : q_Wp G M_L_law (q_KB f) X kc ns 864 [some (.ref (q_sb G)), some (.ref rl), some (.ref mo), some (.ref (mo + 13)), some (.ref (mo + 14)), some (.int (nI (6 * i))), none, none, none, none] [] A := by
  obtain ⟨jc, g, gh, hB⟩ := j
  refine f_L_law_864 hL ⟨6 * i + 1, by rw [nI_add], by omega, 6 * i + 2, by rw [nI_add], by omega, ⟨by omega, by omega⟩, L_sets jc g (fun c0 A1 L1 j1 hv => ⟨⟨by omega, by omega⟩, j1.2.1.1.1.z, M_set j1.2.1.1 j1.2.1.2.2.2.1.1 j1.2.1.2.1 (fun _ A2 o2 e2 p2 kp2 => ⟨⟨by omega, by omega⟩, p2.1.z, ?_⟩) (fun c => absurd c0 c)⟩) (fun c0 c1 A1 j1 => ⟨⟨by omega, by omega⟩, j1.2.1.1.1.z, M_set j1.2.1.1 j1.2.1.2.2.2.1.1 j1.2.1.2.1 (fun c => absurd c c0) (fun _ => ⟨⟨by omega, by omega⟩, j1.2.1.1.1.z, ?_⟩)⟩)⟩
  · have gg := gd_set g c0
    exact TF_ok p2.1.z e2 (by rw [o2.2.1]; exact j1.2.2.1) (fun _ => by rw [o2.2.2.2.1]; exact hv) (nx _ _ _ _ _ _ _ _ _ _ (j1.join o2.xf (j1.2.1.kf o2 p2 kp2 gg.2) gg.1 (gh_push g gh gg.2) hB) (by omega) (by omega))
  · exact TF_bad j1.2.1.1.1.z (I_set_s _ _ _ _) c1 (nx _ _ _ _ _ _ _ _ _ _ (j1.join (th.kf _ _ _).xf (j1.2.1.th _) g gh hB) (by omega) (by omega))
theorem W_932 (nx : NX G f X rl mo i) (j : JJ A rl mo L S hh n x len B) (hL : q_sL G < 2147483648) (hi : 6 * i + 5 < q_sL G) (hk : kc ≤ 295 + 280 * i) (hn : ns ≤ 9868 + 1223 * i) (h512 : i < 512) : q_Wp G M_L_law (q_KB f) X kc ns 932 [some (.ref (q_sb G)), some (.ref rl), some (.ref mo), some (.ref (mo + 13)), some (.ref (mo + 14)), some (.int (nI (6 * i))), none, none, none, none] [] A := by
  obtain ⟨jc, g, gh, hB⟩ := j
  refine f_L_law_932 hL ⟨6 * i + 1, by rw [nI_add], by omega, 6 * i + 2, by rw [nI_add], by omega, ⟨by omega, by omega⟩, L_staff jc g (fun c0 A1 L1 j1 hv => ⟨⟨by omega, by omega⟩, j1.2.1.1.1.z, M_staff j1.2.1.1 j1.2.1.2.1 (fun _ A2 o2 e2 p2 kp2 => ⟨⟨by omega, by omega⟩, p2.1.z, ?_⟩) (fun c => absurd c0 c)⟩) (fun c0 c1 A1 j1 => ⟨⟨by omega, by omega⟩, j1.2.1.1.1.z, M_staff j1.2.1.1 j1.2.1.2.1 (fun c => absurd c c0) (fun _ => ⟨⟨by omega, by omega⟩, j1.2.1.1.1.z, ?_⟩)⟩)⟩
  · have gg := gd_staff g c0
    exact TF_ok p2.1.z e2 (by rw [o2.2.1]; exact j1.2.2.1) (fun _ => by rw [o2.2.2.2.1]; exact hv) (nx _ _ _ _ _ _ _ _ _ _ (j1.join o2.xf (j1.2.1.kf o2 p2 kp2 gg.2) gg.1 (gh_push g gh gg.2) hB) (by omega) (by omega))
  · exact TF_bad j1.2.1.1.1.z (I_set_s _ _ _ _) c1 (nx _ _ _ _ _ _ _ _ _ _ (j1.join (th.kf _ _ _).xf (j1.2.1.th _) g gh hB) (by omega) (by omega))
theorem W_1000 (nx : NX G f X rl mo i) (j : JJ A rl mo L S hh n x len B) (hL : q_sL G < 2147483648) (hi : 6 * i + 5 < q_sL G) (hk : kc ≤ 295 + 280 * i) (hn : ns ≤ 9868 + 1223 * i) (h512 : i < 512) : q_Wp G M_L_law (q_KB f) X kc ns 1000 [some (.ref (q_sb G)), some (.ref rl), some (.ref mo), some (.ref (mo + 13)), some (.ref (mo + 14)), some (.int (nI (6 * i))), none, none, none, none] [] A := by
  obtain ⟨jc, g, gh, hB⟩ := j
  refine f_L_law_1000 hL ⟨6 * i + 1, by rw [nI_add], by omega, ⟨by omega, by omega⟩, L_run jc g (fun c0 A1 L1 j1 hv => ⟨⟨by omega, by omega⟩, j1.2.1.1.1.z, M_run j1.2.1.1 g.1 g.2.2 j1.2.1.2.1 (fun _ A2 o2 e2 p2 kp2 => ⟨⟨by omega, by omega⟩, p2.1.z, ?_⟩) (fun c => absurd c0 c)⟩) (fun c0 c1 A1 j1 => ⟨⟨by omega, by omega⟩, j1.2.1.1.1.z, M_run j1.2.1.1 g.1 g.2.2 j1.2.1.2.1 (fun c => absurd c c0) (fun _ => ⟨⟨by omega, by omega⟩, j1.2.1.1.1.z, ?_⟩)⟩)⟩
  · have gg := gd_run g c0
    exact TF_ok p2.1.z e2 (by rw [o2.2.1]; exact j1.2.2.1) (fun _ => by rw [o2.2.2.2.1]; exact hv) (nx _ _ _ _ _ _ _ _ _ _ (j1.join o2.xf (j1.2.1.kf o2 p2 kp2 gg.2) gg.1 (gh_push g gh gg.2) hB) (by omega) (by omega))
  · exact TF_bad j1.2.1.1.1.z (I_set_s _ _ _ _) c1 (nx _ _ _ _ _ _ _ _ _ _ (j1.join (th.kf _ _ _).xf (j1.2.1.th _) g gh hB) (by omega) (by omega))
theorem W_1056 (nx : NX G f X rl mo i) (j : JJ A rl mo L S hh n x len B) (hL : q_sL G < 2147483648) (hi : 6 * i + 5 < q_sL G) (hk : kc ≤ 295 + 280 * i) (hn : ns ≤ 9868 + 1223 * i) (h512 : i < 512) : q_Wp G M_L_law (q_KB f) X kc ns 1056 [some (.ref (q_sb G)), some (.ref rl), some (.ref mo), some (.ref (mo + 13)), some (.ref (mo + 14)), some (.int (nI (6 * i))), none, none, none, none] [] A := by
  obtain ⟨jc, g, gh, hB⟩ := j
  refine f_L_law_1056 hL ⟨6 * i + 1, by rw [nI_add], by omega, 6 * i + 2, by rw [nI_add], by omega, ⟨by omega, by omega⟩, L_sell jc g (fun c0 A1 L1 j1 hv => ⟨⟨by omega, by omega⟩, j1.2.1.1.1.z, M_sell j1.2.1.1 g.1 j1.2.1.2.1 (fun _ A2 o2 e2 p2 kp2 => ⟨⟨by omega, by omega⟩, p2.1.z, ?_⟩) (fun c => absurd c0 c)⟩) (fun c0 c1 A1 j1 => ⟨⟨by omega, by omega⟩, j1.2.1.1.1.z, M_sell j1.2.1.1 g.1 j1.2.1.2.1 (fun c => absurd c c0) (fun _ => ⟨⟨by omega, by omega⟩, j1.2.1.1.1.z, ?_⟩)⟩)⟩
  · have gg := gd_sell g c0
    exact TF_ok p2.1.z e2 (by rw [o2.2.1]; exact j1.2.2.1) (fun _ => by rw [o2.2.2.2.1]; exact hv) (nx _ _ _ _ _ _ _ _ _ _ (j1.join o2.xf (j1.2.1.kf o2 p2 kp2 gg.2) gg.1 (gh_push g gh gg.2) hB) (by omega) (by omega))
  · exact TF_bad j1.2.1.1.1.z (I_set_s _ _ _ _) c1 (nx _ _ _ _ _ _ _ _ _ _ (j1.join (th.kf _ _ _).xf (j1.2.1.th _) g gh hB) (by omega) (by omega))
theorem W_1124 (nx : NX G f X rl mo i) (j : JJ A rl mo L S hh n x len B) (hL : q_sL G < 2147483648) (hi : 6 * i + 5 < q_sL G) (hk : kc ≤ 295 + 280 * i) (hn : ns ≤ 9868 + 1223 * i) (h512 : i < 512) : q_Wp G M_L_law (q_KB f) X kc ns 1124 [some (.ref (q_sb G)), some (.ref rl), some (.ref mo), some (.ref (mo + 13)), some (.ref (mo + 14)), some (.int (nI (6 * i))), none, none, none, none] [] A := by
  obtain ⟨jc, g, gh, hB⟩ := j
  refine f_L_law_1124 hL ⟨6 * i + 1, by rw [nI_add], by omega, ⟨by omega, by omega⟩, L_clean jc g (fun c0 A1 L1 j1 hv => ⟨⟨by omega, by omega⟩, j1.2.1.1.1.z, M_clean j1.2.1.1 j1.2.1.2.1 (fun _ A2 o2 e2 p2 kp2 => ⟨⟨by omega, by omega⟩, p2.1.z, ?_⟩) (fun c => absurd c0 c)⟩) (fun c0 c1 A1 j1 => ⟨⟨by omega, by omega⟩, j1.2.1.1.1.z, M_clean j1.2.1.1 j1.2.1.2.1 (fun c => absurd c c0) (fun _ => ⟨⟨by omega, by omega⟩, j1.2.1.1.1.z, ?_⟩)⟩)⟩
  · have gg := gd_clean g c0
    exact TF_ok p2.1.z e2 (by rw [o2.2.1]; exact j1.2.2.1) (fun _ => by rw [o2.2.2.2.1]; exact hv) (nx _ _ _ _ _ _ _ _ _ _ (j1.join o2.xf (j1.2.1.kf o2 p2 kp2 gg.2) gg.1 (gh_push g gh gg.2) hB) (by omega) (by omega))
  · exact TF_bad j1.2.1.1.1.z (I_set_s _ _ _ _) c1 (nx _ _ _ _ _ _ _ _ _ _ (j1.join (th.kf _ _ _).xf (j1.2.1.th _) g gh hB) (by omega) (by omega))
theorem W_676 (nx : NX G f X rl mo i) (j : JJ A rl mo L S hh n x len B) (hL : q_sL G < 2147483648) (hi : 6 * i + 5 < q_sL G) (hk : kc ≤ 295 + 280 * i) (hn : ns ≤ 9868 + 1223 * i) (h512 : i < 512) : q_Wp G M_L_law (q_KB f) X kc ns 676 [some (.ref (q_sb G)), some (.ref rl), some (.ref mo), some (.ref (mo + 13)), some (.ref (mo + 14)), some (.int (nI (6 * i))), none, none, none, none] [] A := by
  obtain ⟨jc, g, gh, hB⟩ := j
  refine f_L_law_676 hL ⟨6 * i + 1, by rw [nI_add], by omega, ⟨by omega, by omega⟩, L_purity jc g fun A1 j1 hv => ⟨⟨by omega, by omega⟩, j1.2.1.1.1.z, M_purity j1.2.1.1 g.1 (by have := g.2.2; omega) ⟨⟨by omega, by omega⟩, j1.2.1.1.1.z, ?_⟩⟩⟩
  have fin := fun A2 (o2 : xf (bk mo) A1 A2) (m2 : MA A2 mo S hh n len B) => nx _ _ _ _ _ _ _ _ (kc + 1) (ns + 6) (j1.join o2 m2 g gh hB) (by omega) (by omega)
  have f1 := fin _ (th.kf A1 mo (a_purity S (q_xs G (6 * i + 1))).1).xf (j1.2.1.th _)
  refine f_X11_thrown ⟨j1.2.1.1.1.z, fun _ => ⟨fun z => ⟨1, j1.2.2.2, by decide, by decide, ?_⟩, fun _ => f1⟩, fun z => absurd (I_set_s _ _ _ _) z⟩
  have ev : q_D (th A1 mo (a_purity S (q_xs G (6 * i + 1))).1) (mo + 14) 0 = (a_purity S (q_xs G (6 * i + 1))).2 := hv z
  rw [ev]
  exact ⟨fun _ => f1, fun c => ⟨fun c2 => absurd c2 c, fun _ => ⟨fun c2 => absurd c2 c, fun _ => f1⟩⟩⟩
theorem W_753 (nx : NX G f X rl mo i) (j : JJ A rl mo L S hh n x len B) (hL : q_sL G < 2147483648) (hi : 6 * i + 5 < q_sL G) (hk : kc ≤ 295 + 280 * i) (hn : ns ≤ 9868 + 1223 * i) (h512 : i < 512) : q_Wp G M_L_law (q_KB f) X kc ns 753 [some (.ref (q_sb G)), some (.ref rl), some (.ref mo), some (.ref (mo + 13)), some (.ref (mo + 14)), some (.int (nI (6 * i))), none, none, none, none] [] A := by
  obtain ⟨jc, g, gh, hB⟩ := j
  obtain ⟨t, et, ht, z, rr, p, qq⟩ := jc.1.t
  have f1 := nx _ _ _ _ _ _ _ _ kc ns (jc.join (th.kf A mo 0).xf (jc.2.1.th 0) g gh hB) (by omega) (by omega)
  refine f_L_law_753 hL ⟨⟨by omega, by omega⟩, z, C_loss z rr p g.1 g.2.2 ⟨loss_nn g, ⟨by omega, by omega⟩, jc.2.1.1.1.z, M_loss jc.2.1.1 g.1 (by have := g.2.2; omega) ⟨loss_nn g, ?_⟩⟩⟩
  exact ⟨fun _ => f1, fun c => ⟨fun c2 => absurd c2 c, fun _ => ⟨fun c2 => absurd c2 c, fun _ => f1⟩⟩⟩
theorem W_650 (nx : NX G f X rl mo i) (j : JJ A rl mo L S hh n x len B) (hL : q_sL G < 2147483648) (hi : 6 * i + 5 < q_sL G) (hk : kc ≤ 295 + 280 * i) (hn : ns ≤ 9868 + 1223 * i) (h512 : i < 512) : q_Wp G M_L_law (q_KB f) X kc ns 650 [some (.ref (q_sb G)), some (.ref rl), some (.ref mo), some (.ref (mo + 13)), some (.ref (mo + 14)), some (.int (nI (6 * i))), none, none, none, none] [] A := by
  obtain ⟨jc, g, gh, hB⟩ := j
  obtain ⟨t, et, ht, z, rr, p, qq⟩ := jc.1.t
  exact f_L_law_650 hL ⟨6 * i + 1, by rw [nI_add], by omega, ⟨by omega, by omega⟩, z, C_balance z rr p ⟨⟨by omega, by omega⟩, jc.2.1.1.1.z, M_balance jc.2.1.1 g.1 (by have := g.2.2; omega) ⟨fun _ => nx _ _ _ _ _ _ _ _ kc ns (jc.join (th.kf A mo 0).xf (jc.2.1.th 0) g gh hB) (by omega) (by omega), fun c => absurd rfl c⟩⟩⟩
theorem W_297 (nx : NX G f X rl mo i) (j : JJ A rl mo L S hh n x len B) (hL : q_sL G < 2147483648) (hi : 6 * i + 5 < q_sL G) (hk : kc ≤ 295 + 280 * i) (hn : ns ≤ 9868 + 1223 * i) (h512 : i < 512) : q_Wp G M_L_law (q_KB f) X kc ns 297 [some (.ref (q_sb G)), some (.ref rl), some (.ref mo), some (.ref (mo + 13)), some (.ref (mo + 14)), some (.int (nI (6 * i))), none, none, none, none] [] A := by
  obtain ⟨jc, g, gh, hB⟩ := j
  obtain ⟨t, et, ht, z, rr, p, qq⟩ := jc.1.t
  exact f_L_law_297 hL ⟨6 * i + 1, by rw [nI_add], by omega, ⟨by omega, by omega⟩, z, C_line z rr p g.1 ⟨⟨by omega, by omega⟩, jc.2.1.1.1.z, M_line jc.2.1.1 g.1 ⟨fun _ => nx _ _ _ _ _ _ _ _ kc ns (jc.join (th.kf A mo 0).xf (jc.2.1.th 0) g gh hB) (by omega) (by omega), fun c => absurd rfl c⟩⟩⟩
theorem W_258 (nx : NX G f X rl mo i) (j : JJ A rl mo L S hh n x len B) (hL : q_sL G < 2147483648) (hi : 6 * i + 5 < q_sL G) (hk : kc ≤ 295 + 280 * i) (hn : ns ≤ 9868 + 1223 * i) (h512 : i < 512) : q_Wp G M_L_law (q_KB f) X kc ns 258 [some (.ref (q_sb G)), some (.ref rl), some (.ref mo), some (.ref (mo + 13)), some (.ref (mo + 14)), some (.int (nI (6 * i))), none, none, none, none] [] A := by
  obtain ⟨jc, g, gh, hB⟩ := j
  exact f_L_law_258 hL ⟨⟨by omega, by omega⟩, jc.1.1.1.1, C_length jc.1.1.1.1 jc.1.2.2.2.1.1 ⟨⟨by omega, by omega⟩, jc.2.1.1.1.z, M_length jc.2.1 ⟨fun _ => nx _ _ _ _ _ _ _ _ kc ns (jc.join (th.kf A mo 0).xf (jc.2.1.th 0) g gh hB) (by omega) (by omega), fun c => absurd rfl c⟩⟩⟩
theorem W_160 (nx : NX G f X rl mo i) (j : JJ A rl mo L S hh n x len B) (hL : q_sL G < 2147483648) (hi : 6 * i + 5 < q_sL G) (hk : kc ≤ 295 + 280 * i) (hn : ns ≤ 9868 + 1223 * i) (h512 : i < 512) : q_Wp G M_L_law (q_KB f) X kc ns 160 [some (.ref (q_sb G)), some (.ref rl), some (.ref mo), some (.ref (mo + 13)), some (.ref (mo + 14)), some (.int (nI (6 * i))), none, none, none, none] [] A := by
  obtain ⟨jc, g, gh, hB⟩ := j
  refine f_L_law_160 hL ⟨6 * i + 1, by rw [nI_add], by omega, 6 * i + 2, by rw [nI_add], by omega, 6 * i + 3, by rw [nI_add], by omega, 6 * i + 4, by rw [nI_add], by omega, 6 * i + 5, by rw [nI_add], by omega, ⟨by omega, by omega⟩, jc.1.1.1.1, C_append jc.1 (fun hl A1 r1 => ⟨⟨by omega, by omega⟩, (jc.of r1).2.1.1.1.z, M_append (jc.of r1).2.1 (fun _ A2 o2 m2 => ⟨fun _ => ?_, fun c => absurd rfl c⟩) (fun c => absurd hl c)⟩) (fun hl => ⟨⟨by omega, by omega⟩, jc.2.1.1.1.z, M_append jc.2.1 (fun c => absurd c hl) (fun _ => ⟨fun _ => ?_, fun c => absurd rfl c⟩)⟩)⟩
  · exact nx _ _ _ _ _ _ _ _ kc ns ((jc.of r1).join o2.xf m2 g gh (ap_lt (ap_lt (ap_lt (ap_lt (ap_lt hB _ _) _ _) _ _) _ _) _ _)) (by omega) (by omega)
  · exact nx _ _ _ _ _ _ _ _ kc ns (jc.join (th.kf A mo 0).xf (jc.2.1.th 0) g gh hB) (by omega) (by omega)
theorem W_233 (nx : NX G f X rl mo i) (j : JJ A rl mo L S hh n x len B) (hL : q_sL G < 2147483648) (hi : 6 * i + 5 < q_sL G) (hk : kc ≤ 295 + 280 * i) (hn : ns ≤ 9868 + 1223 * i) (h512 : i < 512) : q_Wp G M_L_law (q_KB f) X kc ns 233 [some (.ref (q_sb G)), some (.ref rl), some (.ref mo), some (.ref (mo + 13)), some (.ref (mo + 14)), some (.int (nI (6 * i))), none, none, none, none] [] A := by
  obtain ⟨jc, g, gh, hB⟩ := j
  refine f_L_law_233 hL ⟨6 * i + 1, by rw [nI_add], by omega, ⟨by omega, by omega⟩, jc.1.1.1.1, C_truncate jc.1 (fun k ek hk' A1 r1 => ⟨⟨by omega, by omega⟩, (jc.of r1).2.1.1.1.z, M_truncate (jc.of r1).2.1 (fun k' ek' _ A2 o2 m2 => ⟨fun _ => ?_, fun c => absurd rfl c⟩) (fun e => by rw [ek] at e; cases e)⟩) (fun ek => ⟨⟨by omega, by omega⟩, jc.2.1.1.1.z, M_truncate jc.2.1 (fun k' ek' => by rw [ek] at ek'; cases ek') (fun _ => ⟨fun _ => ?_, fun c => absurd rfl c⟩)⟩)⟩
  · rw [ek] at ek'
    cases ek'
    exact nx _ _ _ _ _ _ _ _ kc ns ((jc.of r1).join o2.xf m2 g gh hB) (by omega) (by omega)
  · exact nx _ _ _ _ _ _ _ _ kc ns (jc.join (th.kf A mo 0).xf (jc.2.1.th 0) g gh hB) (by omega) (by omega)
theorem W_284 (nx : NX G f X rl mo i) (j : JJ A rl mo L S hh n x len B) (hL : q_sL G < 2147483648) (hi : 6 * i + 5 < q_sL G) (hk : kc ≤ 295 + 280 * i) (hn : ns ≤ 9868 + 1223 * i) (h512 : i < 512) : q_Wp G M_L_law (q_KB f) X kc ns 284 [some (.ref (q_sb G)), some (.ref rl), some (.ref mo), some (.ref (mo + 13)), some (.ref (mo + 14)), some (.int (nI (6 * i))), none, none, none, none] [] A := by
  obtain ⟨jc, g, gh, hB⟩ := j
  refine f_L_law_284 hL ⟨⟨by omega, by omega⟩, jc.1.1.1.1, C_find jc.1 hB fun A1 r1 => ⟨⟨by omega, by omega⟩, (jc.of r1).2.1.1.1.z, M_find (jc.of r1).2.1 hB fun A2 o2 m2 => ⟨fun _ => ?_, fun c => absurd rfl c⟩⟩⟩
  exact nx _ _ _ _ _ _ _ _ kc ns ((jc.of r1).join o2.xf m2 g gh hB) (by omega) (by omega)
theorem W_271 (nx : NX G f X rl mo i) (j : JJ A rl mo L S hh n x len B) (hL : q_sL G < 2147483648) (hi : 6 * i + 5 < q_sL G) (hk : kc ≤ 295 + 280 * i) (hn : ns ≤ 9868 + 1223 * i) (h512 : i < 512) : q_Wp G M_L_law (q_KB f) X kc ns 271 [some (.ref (q_sb G)), some (.ref rl), some (.ref mo), some (.ref (mo + 13)), some (.ref (mo + 14)), some (.int (nI (6 * i))), none, none, none, none] [] A := by
  obtain ⟨jc, g, gh, hB⟩ := j
  refine f_L_law_271 hL ⟨⟨by omega, by omega⟩, jc.1.1.1.1, C_read jc.1 hB (fun S' e A1 L1 h1 r1 => ⟨⟨by omega, by omega⟩, (jc.of r1).2.1.1.1.z, M_read (jc.of r1).2.1 hB (fun S2 e2 A2 o2 m2 => ?_) (fun c e2 => by rw [e] at e2; cases e2)⟩) (fun c e c0 c1 A1 L1 r1 => ⟨⟨by omega, by omega⟩, (jc.of r1).2.1.1.1.z, M_read (jc.of r1).2.1 hB (fun S2 e2 => by rw [e] at e2; cases e2) (fun c2 e2 A2 o2 m2 => ?_)⟩)⟩
  · rw [e] at e2
    cases e2
    have rt := rv_text e
    exact ⟨fun _ => nx _ _ _ _ _ _ _ _ (kc + 279) (ns + 1223) ((jc.of r1).join o2 (m2 h1) (rv_gd rt.1 rt.2) (fun i hi => absurd hi (Nat.not_lt_zero _)) hB) (by omega) (by omega), fun c => absurd rfl c⟩
  · rw [e] at e2
    cases e2
    exact ⟨fun _ => nx _ _ _ _ _ _ _ _ (kc + 279) (ns + 1223) ((jc.of r1).join o2 m2 g gh hB) (by omega) (by omega), fun c => absurd rfl c⟩
theorem W_1180 (nx : NX G f X rl mo i) (j : JJ A rl mo L S hh n x len B) (hL : q_sL G < 2147483648) (hi : 6 * i + 5 < q_sL G) (hk : kc ≤ 295 + 280 * i) (hn : ns ≤ 9868 + 1223 * i) (h512 : i < 512) : q_Wp G M_L_law (q_KB f) X kc ns 1180 [some (.ref (q_sb G)), some (.ref rl), some (.ref mo), some (.ref (mo + 13)), some (.ref (mo + 14)), some (.int (nI (6 * i))), none, none, none, none] [] A := by
  obtain ⟨jc, g, gh, hB⟩ := j
  refine f_L_law_1180 hL ⟨⟨by omega, by omega⟩, jc.1.1.1.1, C_undo jc.1 (fun e => ⟨⟨by omega, by omega⟩, jc.2.1.1.1.z, M_undo jc.2.1.1 jc.2.1.2.1 (fun c => absurd e c) (fun _ => ⟨fun _ => ?_, fun c => absurd rfl c⟩) (fun c => absurd e c)⟩) (fun e A1 L1 r1 => ⟨⟨by omega, by omega⟩, (jc.of r1).2.1.1.1.z, M_undo (jc.of r1).2.1.1 (jc.of r1).2.1.2.1 (fun _ => (gh 0 (by omega)).2) (fun c => absurd c e) (fun _ A2 o2 e2 p2 kp2 => ⟨fun _ => ?_, fun c => absurd rfl c⟩)⟩)⟩
  · exact nx _ _ _ _ _ _ _ _ kc ns (jc.join (th.kf A mo 0).xf (jc.2.1.th 0) g gh hB) (by omega) (by omega)
  · have g0 := gh 0 (by omega)
    exact nx _ _ _ _ _ _ _ _ kc ns ((jc.of r1).join o2.xf ((jc.of r1).2.1.kf o2 p2 kp2 g0.2) g0.1 (fun i hi => ⟨(gh (i + 1) (by omega)).1, ct_t (ct_s g0.2) (gh (i + 1) (by omega)).2⟩) hB) (by omega) (by omega)
theorem W_1385 (nx : NX G f X rl mo i) (j : JJ A rl mo L S hh n x len B) (hL : q_sL G < 2147483648) (hi : 6 * i + 5 < q_sL G) (hk : kc ≤ 295 + 280 * i) (hn : ns ≤ 9868 + 1223 * i) (h512 : i < 512) : q_Wp G M_L_law (q_KB f) X kc ns 1385 [some (.ref (q_sb G)), some (.ref rl), some (.ref mo), some (.ref (mo + 13)), some (.ref (mo + 14)), some (.int (nI (6 * i))), none, none, none, none] [] A := by
  obtain ⟨jc, g, gh, hB⟩ := j
  refine f_L_law_1385 hL ⟨⟨by omega, by omega⟩, jc.1.1.1.1, C_emptied jc.1 g.1 g.2.2 fun A1 L1 r1 => ⟨⟨by omega, by omega⟩, (jc.of r1).2.1.1.1.z, M_emptied (jc.of r1).2.1.1 g.1 g.2.2 (jc.of r1).2.1.2.1 fun A2 o2 e2 p2 kp2 => ⟨fun _ => ?_, fun c => absurd rfl c⟩⟩⟩
  exact nx _ _ _ _ _ _ _ _ (kc + 277) (ns + 1205) ((jc.of r1).join o2.xf ((jc.of r1).2.1.kf o2 p2 kp2 (ct_r S)) g gh hB) (by omega) (by omega)
end LC

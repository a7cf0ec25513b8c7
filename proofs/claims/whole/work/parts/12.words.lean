/-! WORDS -/
set_option maxRecDepth 50000
theorem q_ckw {C : String} {T : u_T} {N : Nat} (h : ∀ k, k < N → u_lay C T k ∈ q_UW) : ∀ w ∈ u_ws C T N, w ∈ q_UW := by
  intro w hw
  obtain ⟨k, hk, rfl⟩ := List.mem_map.mp hw
  exact h k (List.mem_range.mp hk)
theorem q_inU {L : List Cond} (h : (L.all fun w => q_UW.contains w) = true) : ∀ w ∈ L, w ∈ q_UW := fun w hw => by
  have := List.all_eq_true.mp h w hw
  simpa using this
theorem q_inN {L : List Cond} (h : (L.all fun w => q_NW.contains w) = true) : ∀ w ∈ L, w ∈ q_NW := fun w hw => by
  have := List.all_eq_true.mp h w hw
  simpa using this
theorem q_nz (b : Bool) : narrow .boolean (.int (q_i b)) = .int (q_i b) := by cases b <;> rfl
theorem q_kdI0 : ∀ k, (q_kd 0)[k]? = some false → tyX0 k = .int := fun k h => match k, h with
  | 0, h => rfl
  | 1, h => rfl
  | 2, h => rfl
  | 3, h => rfl
  | 4, h => by cases h
  | _ + 5, h => absurd h (by simp [q_kd])
theorem q_kdR0 : ∀ k, (q_kd 0)[k]? = some true → (∃ n, tyX0 k = .object n) ∨ ∃ t, tyX0 k = .array t := fun k h => match k, h with
  | 0, h => by cases h
  | 1, h => by cases h
  | 2, h => by cases h
  | 3, h => by cases h
  | 4, h => Or.inl ⟨_, rfl⟩
  | _ + 5, h => absurd h (by simp [q_kd])
theorem q_kdI1 : ∀ k, (q_kd 1)[k]? = some false → tyX1 k = .int := fun k h => match k, h with
  | 0, h => rfl
  | 1, h => rfl
  | 2, h => rfl
  | 3, h => rfl
  | 4, h => rfl
  | 5, h => rfl
  | 6, h => rfl
  | _ + 7, h => absurd h (by simp [q_kd])
theorem q_kdR1 : ∀ k, (q_kd 1)[k]? = some true → (∃ n, tyX1 k = .object n) ∨ ∃ t, tyX1 k = .array t := fun k h => match k, h with
  | 0, h => by cases h
  | 1, h => by cases h
  | 2, h => by cases h
  | 3, h => by cases h
  | 4, h => by cases h
  | 5, h => by cases h
  | 6, h => by cases h
  | _ + 7, h => absurd h (by simp [q_kd])
theorem q_kdI2 : ∀ k, (q_kd 2)[k]? = some false → tyX2 k = .int := fun k h => match k, h with
  | 0, h => by cases h
  | 1, h => rfl
  | _ + 2, h => absurd h (by simp [q_kd])
theorem q_kdR2 : ∀ k, (q_kd 2)[k]? = some true → (∃ n, tyX2 k = .object n) ∨ ∃ t, tyX2 k = .array t := fun k h => match k, h with
  | 0, h => Or.inr ⟨_, rfl⟩
  | 1, h => by cases h
  | _ + 2, h => absurd h (by simp [q_kd])
theorem q_kdI3 : ∀ k, (q_kd 3)[k]? = some false → tyX3 k = .int := fun k h => match k, h with
  | 0, h => by cases h
  | 1, h => rfl
  | 2, h => rfl
  | _ + 3, h => absurd h (by simp [q_kd])
theorem q_kdR3 : ∀ k, (q_kd 3)[k]? = some true → (∃ n, tyX3 k = .object n) ∨ ∃ t, tyX3 k = .array t := fun k h => match k, h with
  | 0, h => Or.inr ⟨_, rfl⟩
  | 1, h => by cases h
  | 2, h => by cases h
  | _ + 3, h => absurd h (by simp [q_kd])
theorem q_kdI4 : ∀ k, (q_kd 4)[k]? = some false → tyX4 k = .int := fun k h => match k, h with
  | 0, h => rfl
  | 1, h => by cases h
  | 2, h => by cases h
  | 3, h => rfl
  | 4, h => by cases h
  | 5, h => rfl
  | 6, h => by cases h
  | 7, h => by cases h
  | 8, h => by cases h
  | 9, h => by cases h
  | 10, h => by cases h
  | 11, h => by cases h
  | _ + 12, h => absurd h (by simp [q_kd])
theorem q_kdR4 : ∀ k, (q_kd 4)[k]? = some true → (∃ n, tyX4 k = .object n) ∨ ∃ t, tyX4 k = .array t := fun k h => match k, h with
  | 0, h => by cases h
  | 1, h => Or.inr ⟨_, rfl⟩
  | 2, h => Or.inr ⟨_, rfl⟩
  | 3, h => by cases h
  | 4, h => Or.inr ⟨_, rfl⟩
  | 5, h => by cases h
  | 6, h => Or.inl ⟨_, rfl⟩
  | 7, h => Or.inl ⟨_, rfl⟩
  | 8, h => Or.inl ⟨_, rfl⟩
  | 9, h => Or.inl ⟨_, rfl⟩
  | 10, h => Or.inl ⟨_, rfl⟩
  | 11, h => Or.inl ⟨_, rfl⟩
  | _ + 12, h => absurd h (by simp [q_kd])
theorem q_kdI5 : ∀ k, (q_kd 5)[k]? = some false → tyX5 k = .int := fun k h => match k, h with
  | 0, h => by cases h
  | 1, h => rfl
  | _ + 2, h => absurd h (by simp [q_kd])
theorem q_kdR5 : ∀ k, (q_kd 5)[k]? = some true → (∃ n, tyX5 k = .object n) ∨ ∃ t, tyX5 k = .array t := fun k h => match k, h with
  | 0, h => Or.inl ⟨_, rfl⟩
  | 1, h => by cases h
  | _ + 2, h => absurd h (by simp [q_kd])
theorem q_kdI6 : ∀ k, (q_kd 6)[k]? = some false → tyX6 k = .int := fun k h => match k, h with
  | 0, h => rfl
  | 1, h => rfl
  | 2, h => rfl
  | 3, h => rfl
  | 4, h => rfl
  | 5, h => rfl
  | 6, h => rfl
  | 7, h => by cases h
  | 8, h => by cases h
  | _ + 9, h => absurd h (by simp [q_kd])
theorem q_kdR6 : ∀ k, (q_kd 6)[k]? = some true → (∃ n, tyX6 k = .object n) ∨ ∃ t, tyX6 k = .array t := fun k h => match k, h with
  | 0, h => by cases h
  | 1, h => by cases h
  | 2, h => by cases h
  | 3, h => by cases h
  | 4, h => by cases h
  | 5, h => by cases h
  | 6, h => by cases h
  | 7, h => Or.inl ⟨_, rfl⟩
  | 8, h => Or.inl ⟨_, rfl⟩
  | _ + 9, h => absurd h (by simp [q_kd])
theorem q_kdI7 : ∀ k, (q_kd 7)[k]? = some false → tyX7 k = .int := fun k h => match k, h with
  | 0, h => by cases h
  | 1, h => rfl
  | _ + 2, h => absurd h (by simp [q_kd])
theorem q_kdR7 : ∀ k, (q_kd 7)[k]? = some true → (∃ n, tyX7 k = .object n) ∨ ∃ t, tyX7 k = .array t := fun k h => match k, h with
  | 0, h => Or.inr ⟨_, rfl⟩
  | 1, h => by cases h
  | _ + 2, h => absurd h (by simp [q_kd])
theorem q_kdI8 : ∀ k, (q_kd 8)[k]? = some false → tyX8 k = .int := fun k h => match k, h with
  | 0, h => rfl
  | 1, h => rfl
  | 2, h => rfl
  | 3, h => rfl
  | 4, h => rfl
  | 5, h => rfl
  | 6, h => rfl
  | 7, h => rfl
  | 8, h => rfl
  | 9, h => rfl
  | _ + 10, h => absurd h (by simp [q_kd])
theorem q_kdR8 : ∀ k, (q_kd 8)[k]? = some true → (∃ n, tyX8 k = .object n) ∨ ∃ t, tyX8 k = .array t := fun k h => match k, h with
  | 0, h => by cases h
  | 1, h => by cases h
  | 2, h => by cases h
  | 3, h => by cases h
  | 4, h => by cases h
  | 5, h => by cases h
  | 6, h => by cases h
  | 7, h => by cases h
  | 8, h => by cases h
  | 9, h => by cases h
  | _ + 10, h => absurd h (by simp [q_kd])
theorem q_kdI9 : ∀ k, (q_kd 9)[k]? = some false → tyX9 k = .int := fun k h => match k, h with
  | 0, h => by cases h
  | 1, h => rfl
  | 2, h => by cases h
  | 3, h => rfl
  | 4, h => rfl
  | 5, h => rfl
  | 6, h => rfl
  | 7, h => rfl
  | _ + 8, h => absurd h (by simp [q_kd])
theorem q_kdR9 : ∀ k, (q_kd 9)[k]? = some true → (∃ n, tyX9 k = .object n) ∨ ∃ t, tyX9 k = .array t := fun k h => match k, h with
  | 0, h => Or.inr ⟨_, rfl⟩
  | 1, h => by cases h
  | 2, h => Or.inl ⟨_, rfl⟩
  | 3, h => by cases h
  | 4, h => by cases h
  | 5, h => by cases h
  | 6, h => by cases h
  | 7, h => by cases h
  | _ + 8, h => absurd h (by simp [q_kd])
theorem q_kdI10 : ∀ k, (q_kd 10)[k]? = some false → tyX10 k = .int := fun k h => match k, h with
  | 0, h => by cases h
  | 1, h => rfl
  | 2, h => by cases h
  | 3, h => by cases h
  | 4, h => by cases h
  | 5, h => rfl
  | 6, h => rfl
  | _ + 7, h => absurd h (by simp [q_kd])
theorem q_kdR10 : ∀ k, (q_kd 10)[k]? = some true → (∃ n, tyX10 k = .object n) ∨ ∃ t, tyX10 k = .array t := fun k h => match k, h with
  | 0, h => Or.inr ⟨_, rfl⟩
  | 1, h => by cases h
  | 2, h => Or.inl ⟨_, rfl⟩
  | 3, h => Or.inl ⟨_, rfl⟩
  | 4, h => Or.inr ⟨_, rfl⟩
  | 5, h => by cases h
  | 6, h => by cases h
  | _ + 7, h => absurd h (by simp [q_kd])
theorem q_kdI11 : ∀ k, (q_kd 11)[k]? = some false → tyX11 k = .int := fun k h => match k, h with
  | 0, h => rfl
  | 1, h => by cases h
  | 2, h => by cases h
  | 3, h => by cases h
  | 4, h => by cases h
  | 5, h => by cases h
  | 6, h => by cases h
  | 7, h => by cases h
  | 8, h => by cases h
  | 9, h => by cases h
  | 10, h => rfl
  | 11, h => by cases h
  | 12, h => rfl
  | 13, h => rfl
  | 14, h => rfl
  | 15, h => rfl
  | 16, h => rfl
  | 17, h => rfl
  | 18, h => rfl
  | 19, h => rfl
  | 20, h => by cases h
  | 21, h => by cases h
  | 22, h => rfl
  | _ + 23, h => absurd h (by simp [q_kd])
theorem q_kdR11 : ∀ k, (q_kd 11)[k]? = some true → (∃ n, tyX11 k = .object n) ∨ ∃ t, tyX11 k = .array t := fun k h => match k, h with
  | 0, h => by cases h
  | 1, h => Or.inr ⟨_, rfl⟩
  | 2, h => Or.inr ⟨_, rfl⟩
  | 3, h => Or.inr ⟨_, rfl⟩
  | 4, h => Or.inr ⟨_, rfl⟩
  | 5, h => Or.inr ⟨_, rfl⟩
  | 6, h => Or.inr ⟨_, rfl⟩
  | 7, h => Or.inr ⟨_, rfl⟩
  | 8, h => Or.inr ⟨_, rfl⟩
  | 9, h => Or.inr ⟨_, rfl⟩
  | 10, h => by cases h
  | 11, h => Or.inr ⟨_, rfl⟩
  | 12, h => by cases h
  | 13, h => by cases h
  | 14, h => by cases h
  | 15, h => by cases h
  | 16, h => by cases h
  | 17, h => by cases h
  | 18, h => by cases h
  | 19, h => by cases h
  | 20, h => Or.inr ⟨_, rfl⟩
  | 21, h => Or.inr ⟨_, rfl⟩
  | 22, h => by cases h
  | _ + 23, h => absurd h (by simp [q_kd])
theorem ck0 : q_CK 0 RX0 TX0 5 := ⟨rfl, q_ckw (fun k hk => match k, hk with
  | 0, _ => (q_uw 225 rfl rfl)
  | 1, _ => (q_uw 227 rfl rfl)
  | 2, _ => (q_uw 229 rfl rfl)
  | 3, _ => (q_uw 231 rfl rfl)
  | 4, _ => (q_uw 233 rfl rfl)
  | _ + 5, hk => absurd hk (by omega)), rfl, nmX0, tyX0, tyX0_ok, q_kdI0, q_kdR0⟩
theorem ck1 : q_CK 1 RX1 TX1 7 := ⟨rfl, q_ckw (fun k hk => match k, hk with
  | 0, _ => (q_uw 384 rfl rfl)
  | 1, _ => (q_uw 386 rfl rfl)
  | 2, _ => (q_uw 388 rfl rfl)
  | 3, _ => (q_uw 390 rfl rfl)
  | 4, _ => (q_uw 392 rfl rfl)
  | 5, _ => (q_uw 394 rfl rfl)
  | 6, _ => (q_uw 396 rfl rfl)
  | _ + 7, hk => absurd hk (by omega)), rfl, nmX1, tyX1, tyX1_ok, q_kdI1, q_kdR1⟩
theorem ck2 : q_CK 2 RX2 TX2 2 := ⟨rfl, q_ckw (fun k hk => match k, hk with
  | 0, _ => (q_uw 158 rfl rfl)
  | 1, _ => (q_uw 160 rfl rfl)
  | _ + 2, hk => absurd hk (by omega)), rfl, nmX2, tyX2, tyX2_ok, q_kdI2, q_kdR2⟩
theorem ck3 : q_CK 3 RX3 TX3 3 := ⟨rfl, q_ckw (fun k hk => match k, hk with
  | 0, _ => (q_uw 185 rfl rfl)
  | 1, _ => (q_uw 187 rfl rfl)
  | 2, _ => (q_uw 189 rfl rfl)
  | _ + 3, hk => absurd hk (by omega)), rfl, nmX3, tyX3, tyX3_ok, q_kdI3, q_kdR3⟩
theorem ck4 : q_CK 4 RX4 TX4 12 := ⟨rfl, q_ckw (fun k hk => match k, hk with
  | 0, _ => (q_uw 429 rfl rfl)
  | 1, _ => (q_uw 431 rfl rfl)
  | 2, _ => (q_uw 433 rfl rfl)
  | 3, _ => (q_uw 435 rfl rfl)
  | 4, _ => (q_uw 437 rfl rfl)
  | 5, _ => (q_uw 439 rfl rfl)
  | 6, _ => (q_uw 441 rfl rfl)
  | 7, _ => (q_uw 443 rfl rfl)
  | 8, _ => (q_uw 445 rfl rfl)
  | 9, _ => (q_uw 447 rfl rfl)
  | 10, _ => (q_uw 449 rfl rfl)
  | 11, _ => (q_uw 451 rfl rfl)
  | _ + 12, hk => absurd hk (by omega)), rfl, nmX4, tyX4, tyX4_ok, q_kdI4, q_kdR4⟩
theorem ck5 : q_CK 5 RX5 TX5 2 := ⟨rfl, q_ckw (fun k hk => match k, hk with
  | 0, _ => (q_uw 175 rfl rfl)
  | 1, _ => (q_uw 177 rfl rfl)
  | _ + 2, hk => absurd hk (by omega)), rfl, nmX5, tyX5, tyX5_ok, q_kdI5, q_kdR5⟩
theorem ck6 : q_CK 6 RX6 TX6 9 := ⟨rfl, q_ckw (fun k hk => match k, hk with
  | 0, _ => (q_uw 338 rfl rfl)
  | 1, _ => (q_uw 340 rfl rfl)
  | 2, _ => (q_uw 342 rfl rfl)
  | 3, _ => (q_uw 344 rfl rfl)
  | 4, _ => (q_uw 346 rfl rfl)
  | 5, _ => (q_uw 348 rfl rfl)
  | 6, _ => (q_uw 350 rfl rfl)
  | 7, _ => (q_uw 352 rfl rfl)
  | 8, _ => (q_uw 354 rfl rfl)
  | _ + 9, hk => absurd hk (by omega)), rfl, nmX6, tyX6, tyX6_ok, q_kdI6, q_kdR6⟩
theorem ck7 : q_CK 7 RX7 TX7 2 := ⟨rfl, q_ckw (fun k hk => match k, hk with
  | 0, _ => (q_uw 240 rfl rfl)
  | 1, _ => (q_uw 242 rfl rfl)
  | _ + 2, hk => absurd hk (by omega)), rfl, nmX7, tyX7, tyX7_ok, q_kdI7, q_kdR7⟩
theorem ck8 : q_CK 8 RX8 TX8 10 := ⟨rfl, q_ckw (fun k hk => match k, hk with
  | 0, _ => (q_uw 282 rfl rfl)
  | 1, _ => (q_uw 284 rfl rfl)
  | 2, _ => (q_uw 286 rfl rfl)
  | 3, _ => (q_uw 288 rfl rfl)
  | 4, _ => (q_uw 290 rfl rfl)
  | 5, _ => (q_uw 292 rfl rfl)
  | 6, _ => (q_uw 294 rfl rfl)
  | 7, _ => (q_uw 296 rfl rfl)
  | 8, _ => (q_uw 298 rfl rfl)
  | 9, _ => (q_uw 300 rfl rfl)
  | _ + 10, hk => absurd hk (by omega)), rfl, nmX8, tyX8, tyX8_ok, q_kdI8, q_kdR8⟩
theorem ck9 : q_CK 9 RX9 TX9 8 := ⟨rfl, q_ckw (fun k hk => match k, hk with
  | 0, _ => (q_uw 530 rfl rfl)
  | 1, _ => (q_uw 532 rfl rfl)
  | 2, _ => (q_uw 534 rfl rfl)
  | 3, _ => (q_uw 536 rfl rfl)
  | 4, _ => (q_uw 538 rfl rfl)
  | 5, _ => (q_uw 540 rfl rfl)
  | 6, _ => (q_uw 542 rfl rfl)
  | 7, _ => (q_uw 544 rfl rfl)
  | _ + 8, hk => absurd hk (by omega)), rfl, nmX9, tyX9, tyX9_ok, q_kdI9, q_kdR9⟩
theorem ck10 : q_CK 10 RX10 TX10 7 := ⟨rfl, q_ckw (fun k hk => match k, hk with
  | 0, _ => (q_uw 477 rfl rfl)
  | 1, _ => (q_uw 479 rfl rfl)
  | 2, _ => (q_uw 481 rfl rfl)
  | 3, _ => (q_uw 483 rfl rfl)
  | 4, _ => (q_uw 485 rfl rfl)
  | 5, _ => (q_uw 487 rfl rfl)
  | 6, _ => (q_uw 489 rfl rfl)
  | _ + 7, hk => absurd hk (by omega)), rfl, nmX10, tyX10, tyX10_ok, q_kdI10, q_kdR10⟩
theorem ck11 : q_CK 11 RX11 TX11 23 := ⟨rfl, q_ckw (fun k hk => match k, hk with
  | 0, _ => (q_uw 1234 rfl rfl)
  | 1, _ => (q_uw 1236 rfl rfl)
  | 2, _ => (q_uw 1238 rfl rfl)
  | 3, _ => (q_uw 1240 rfl rfl)
  | 4, _ => (q_uw 1242 rfl rfl)
  | 5, _ => (q_uw 1244 rfl rfl)
  | 6, _ => (q_uw 1246 rfl rfl)
  | 7, _ => (q_uw 1248 rfl rfl)
  | 8, _ => (q_uw 1250 rfl rfl)
  | 9, _ => (q_uw 1252 rfl rfl)
  | 10, _ => (q_uw 1254 rfl rfl)
  | 11, _ => (q_uw 1256 rfl rfl)
  | 12, _ => (q_uw 1258 rfl rfl)
  | 13, _ => (q_uw 1260 rfl rfl)
  | 14, _ => (q_uw 1262 rfl rfl)
  | 15, _ => (q_uw 1264 rfl rfl)
  | 16, _ => (q_uw 1266 rfl rfl)
  | 17, _ => (q_uw 1268 rfl rfl)
  | 18, _ => (q_uw 1270 rfl rfl)
  | 19, _ => (q_uw 1272 rfl rfl)
  | 20, _ => (q_uw 1274 rfl rfl)
  | 21, _ => (q_uw 1276 rfl rfl)
  | 22, _ => (q_uw 1278 rfl rfl)
  | _ + 23, hk => absurd hk (by omega)), rfl, nmX11, tyX11, tyX11_ok, q_kdI11, q_kdR11⟩
def M_J0_charAt_5068e : q_M := (yJ0_charAt_5068e, cJ0_charAt_5068e, 2, (some .char), [], { frames := 3, cells := 0, slots := 0, locals := 64 })
theorem mo_J0_charAt_5068e : q_MO M_J0_charAt_5068e 1 := ⟨(q_uw 593 rfl rfl), (q_uw 92 rfl rfl), by decide +kernel, by decide +kernel, by decide +kernel, by decide +kernel⟩
def M_J0_checkIndex_df160 : q_M := (yJ0_checkIndex_df160, cJ0_checkIndex_df160, 2, none, [], { frames := 1, cells := 0, slots := 0, locals := 22 })
theorem mo_J0_checkIndex_df160 : q_MO M_J0_checkIndex_df160 2 := ⟨(q_uw 603 rfl rfl), (q_uw 92 rfl rfl), by decide +kernel, by decide +kernel, by decide +kernel, by decide +kernel⟩
def M_J0_coder_7d493 : q_M := (yJ0_coder_7d493, cJ0_coder_7d493, 1, (some .byte), [], { frames := 0, cells := 0, slots := 0, locals := 0 })
theorem mo_J0_coder_7d493 : q_MO M_J0_coder_7d493 0 := ⟨(q_uw 587 rfl rfl), (q_uw 92 rfl rfl), by decide +kernel, by decide +kernel, by decide +kernel, by decide +kernel⟩
def M_J0_isLatin1_aae02 : q_M := (yJ0_isLatin1_aae02, cJ0_isLatin1_aae02, 1, (some .boolean), [], { frames := 0, cells := 0, slots := 0, locals := 0 })
theorem mo_J0_isLatin1_aae02 : q_MO M_J0_isLatin1_aae02 0 := ⟨(q_uw 597 rfl rfl), (q_uw 92 rfl rfl), by decide +kernel, by decide +kernel, by decide +kernel, by decide +kernel⟩
def M_J0_length_8abf5 : q_M := (yJ0_length_8abf5, cJ0_length_8abf5, 1, (some .int), [], { frames := 1, cells := 0, slots := 0, locals := 20 })
theorem mo_J0_length_8abf5 : q_MO M_J0_length_8abf5 0 := ⟨(q_uw 583 rfl rfl), (q_uw 92 rfl rfl), by decide +kernel, by decide +kernel, by decide +kernel, by decide +kernel⟩
def M_J1_charAt_3b067 : q_M := (yJ1_charAt_3b067, cJ1_charAt_3b067, 2, (some .char), [], { frames := 2, cells := 0, slots := 0, locals := 43 })
theorem mo_J1_charAt_3b067 : q_MO M_J1_charAt_3b067 2 := ⟨(q_uw 600 rfl rfl), (q_uw 93 rfl rfl), by decide +kernel, by decide +kernel, by decide +kernel, by decide +kernel⟩
def M_J3_checkIndex_8e157 : q_M := (yJ3_checkIndex_8e157, cJ3_checkIndex_8e157, 3, (some .int), [], { frames := 0, cells := 0, slots := 0, locals := 0 })
theorem mo_J3_checkIndex_8e157 : q_MO M_J3_checkIndex_8e157 3 := ⟨(q_uw 608 rfl rfl), (q_uw 94 rfl rfl), by decide +kernel, by decide +kernel, by decide +kernel, by decide +kernel⟩
def M_J7_fill_53178 : q_M := (yJ7_fill_53178, cJ7_fill_53178, 4, none, [], { frames := 0, cells := 0, slots := 0, locals := 0 })
theorem mo_J7_fill_53178 : q_MO M_J7_fill_53178 2 := ⟨(q_uw 469 rfl rfl), (q_uw 88 rfl rfl), by decide +kernel, by decide +kernel, by decide +kernel, by decide +kernel⟩
def M_L_bale : q_M := (yL_bale, cL_bale, 5, (some .int), [(0, 10, 13, 13), (0, 10, 17, 19)], { frames := 7, cells := 2, slots := 12, locals := 123 })
theorem mo_L_bale : q_MO M_L_bale 4 := ⟨(q_uw 1017 rfl rfl), (q_uw 77 rfl rfl), by decide +kernel, by decide +kernel, by decide +kernel, by decide +kernel⟩
def M_L_bestBuyer : q_M := (yL_bestBuyer, cL_bestBuyer, 4, (some .int), [(0, 9, 12, 13)], { frames := 7, cells := 1, slots := 6, locals := 127 })
theorem mo_L_bestBuyer : q_MO M_L_bestBuyer 3 := ⟨(q_uw 1163 rfl rfl), (q_uw 77 rfl rfl), by decide +kernel, by decide +kernel, by decide +kernel, by decide +kernel⟩
def M_L_bestStaff : q_M := (yL_bestStaff, cL_bestStaff, 5, (some .int), [(0, 10, 13, 13), (0, 10, 17, 19)], { frames := 9, cells := 279, slots := 1217, locals := 240 })
theorem mo_L_bestStaff : q_MO M_L_bestStaff 4 := ⟨(q_uw 1184 rfl rfl), (q_uw 77 rfl rfl), by decide +kernel, by decide +kernel, by decide +kernel, by decide +kernel⟩
def M_L_buyer : q_M := (yL_buyer, cL_buyer, 5, (some .int), [(0, 10, 13, 13), (0, 10, 17, 19)], { frames := 7, cells := 2, slots := 12, locals := 123 })
theorem mo_L_buyer : q_MO M_L_buyer 4 := ⟨(q_uw 1030 rfl rfl), (q_uw 77 rfl rfl), by decide +kernel, by decide +kernel, by decide +kernel, by decide +kernel⟩
def M_L_clean : q_M := (yL_clean, cL_clean, 4, (some .int), [(0, 9, 12, 13)], { frames := 7, cells := 278, slots := 1211, locals := 210 })
theorem mo_L_clean : q_MO M_L_clean 3 := ⟨(q_uw 1155 rfl rfl), (q_uw 77 rfl rfl), by decide +kernel, by decide +kernel, by decide +kernel, by decide +kernel⟩
def M_L_law : q_M := (yL_law, cL_law, 10, (some .boolean), [], { frames := 14, cells := 735865, slots := 6888508, locals := 510 })
def M_L_load : q_M := (yL_load, cL_load, 5, (some .int), [(0, 10, 13, 13), (0, 10, 17, 19), (0, 10, 21, 37)], { frames := 7, cells := 280, slots := 1223, locals := 210 })
theorem mo_L_load : q_MO M_L_load 4 := ⟨(q_uw 1050 rfl rfl), (q_uw 77 rfl rfl), by decide +kernel, by decide +kernel, by decide +kernel, by decide +kernel⟩
def M_L_mass : q_M := (yL_mass, cL_mass, 5, (some .int), [(0, 10, 13, 19), (0, 10, 17, 13)], { frames := 7, cells := 2, slots := 12, locals := 123 })
theorem mo_L_mass : q_MO M_L_mass 4 := ⟨(q_uw 999 rfl rfl), (q_uw 77 rfl rfl), by decide +kernel, by decide +kernel, by decide +kernel, by decide +kernel⟩
def M_L_outlook : q_M := (yL_outlook, cL_outlook, 5, (some .int), [(0, 10, 13, 19)], { frames := 8, cells := 278, slots := 1211, locals := 210 })
theorem mo_L_outlook : q_MO M_L_outlook 4 := ⟨(q_uw 1171 rfl rfl), (q_uw 77 rfl rfl), by decide +kernel, by decide +kernel, by decide +kernel, by decide +kernel⟩
def M_L_purity : q_M := (yL_purity, cL_purity, 4, (some .int), [(0, 8, 11, 13)], { frames := 7, cells := 1, slots := 6, locals := 123 })
theorem mo_L_purity : q_MO M_L_purity 3 := ⟨(q_uw 1043 rfl rfl), (q_uw 77 rfl rfl), by decide +kernel, by decide +kernel, by decide +kernel, by decide +kernel⟩
def M_L_run : q_M := (yL_run, cL_run, 4, (some .int), [(0, 9, 12, 19), (0, 9, 15, 37)], { frames := 7, cells := 279, slots := 1217, locals := 209 })
theorem mo_L_run : q_MO M_L_run 3 := ⟨(q_uw 1102 rfl rfl), (q_uw 77 rfl rfl), by decide +kernel, by decide +kernel, by decide +kernel, by decide +kernel⟩
def M_L_sell : q_M := (yL_sell, cL_sell, 5, (some .int), [(0, 10, 13, 13), (0, 10, 17, 19), (0, 10, 21, 37)], { frames := 7, cells := 280, slots := 1223, locals := 211 })
theorem mo_L_sell : q_MO M_L_sell 4 := ⟨(q_uw 1111 rfl rfl), (q_uw 77 rfl rfl), by decide +kernel, by decide +kernel, by decide +kernel, by decide +kernel⟩
def M_L_set : q_M := (yL_set, cL_set, 5, (some .int), [(0, 10, 13, 13), (0, 10, 17, 19)], { frames := 7, cells := 279, slots := 1217, locals := 210 })
theorem mo_L_set : q_MO M_L_set 4 := ⟨(q_uw 1083 rfl rfl), (q_uw 77 rfl rfl), by decide +kernel, by decide +kernel, by decide +kernel, by decide +kernel⟩
def M_L_setting : q_M := (yL_setting, cL_setting, 4, (some .int), [(0, 9, 12, 13)], { frames := 7, cells := 1, slots := 6, locals := 121 })
theorem mo_L_setting : q_MO M_L_setting 3 := ⟨(q_uw 896 rfl rfl), (q_uw 77 rfl rfl), by decide +kernel, by decide +kernel, by decide +kernel, by decide +kernel⟩
def M_L_staff : q_M := (yL_staff, cL_staff, 5, (some .int), [(0, 10, 13, 13), (0, 10, 17, 19)], { frames := 7, cells := 279, slots := 1217, locals := 211 })
theorem mo_L_staff : q_MO M_L_staff 4 := ⟨(q_uw 1093 rfl rfl), (q_uw 77 rfl rfl), by decide +kernel, by decide +kernel, by decide +kernel, by decide +kernel⟩
def M_L_station : q_M := (yL_station, cL_station, 5, (some .int), [(0, 10, 13, 13), (0, 10, 17, 19)], { frames := 7, cells := 2, slots := 12, locals := 123 })
theorem mo_L_station : q_MO M_L_station 4 := ⟨(q_uw 971 rfl rfl), (q_uw 77 rfl rfl), by decide +kernel, by decide +kernel, by decide +kernel, by decide +kernel⟩
def M_X0_copyFrom : q_M := (yX0_copyFrom, cX0_copyFrom, 2, none, [], { frames := 2, cells := 0, slots := 0, locals := 101 })
theorem mo_X0_copyFrom : q_MO M_X0_copyFrom 1 := ⟨(q_uw 790 rfl rfl), (q_uw 84 rfl rfl), by decide +kernel, by decide +kernel, by decide +kernel, by decide +kernel⟩
def M_X0_init : q_M := (yX0_init, cX0_init, 1, none, [], { frames := 2, cells := 2, slots := 8, locals := 60 })
theorem mo_X0_init : q_MO M_X0_init 0 := ⟨(q_uw 203 rfl rfl), (q_uw 84 rfl rfl), by decide +kernel, by decide +kernel, by decide +kernel, by decide +kernel⟩
def M_X0_judge : q_M := (yX0_judge, cX0_judge, 3, none, [], { frames := 1, cells := 0, slots := 0, locals := 21 })
theorem mo_X0_judge : q_MO M_X0_judge 2 := ⟨(q_uw 891 rfl rfl), (q_uw 84 rfl rfl), by decide +kernel, by decide +kernel, by decide +kernel, by decide +kernel⟩
def M_X10_append : q_M := (yX10_append, cX10_append, 6, (some .int), [], { frames := 1, cells := 0, slots := 0, locals := 22 })
theorem mo_X10_append : q_MO M_X10_append 5 := ⟨(q_uw 495 rfl rfl), (q_uw 78 rfl rfl), by decide +kernel, by decide +kernel, by decide +kernel, by decide +kernel⟩
def M_X10_appendBytes : q_M := (yX10_appendBytes, cX10_appendBytes, 3, none, [], { frames := 0, cells := 0, slots := 0, locals := 0 })
theorem mo_X10_appendBytes : q_MO M_X10_appendBytes 1 := ⟨(q_uw 499 rfl rfl), (q_uw 78 rfl rfl), by decide +kernel, by decide +kernel, by decide +kernel, by decide +kernel⟩
def M_X10_balance : q_M := (yX10_balance, cX10_balance, 2, (some .long), [], { frames := 1, cells := 0, slots := 0, locals := 22 })
theorem mo_X10_balance : q_MO M_X10_balance 1 := ⟨(q_uw 722 rfl rfl), (q_uw 78 rfl rfl), by decide +kernel, by decide +kernel, by decide +kernel, by decide +kernel⟩
def M_X10_bale : q_M := (yX10_bale, cX10_bale, 4, (some .int), [], { frames := 6, cells := 2, slots := 12, locals := 100 })
theorem mo_X10_bale : q_MO M_X10_bale 2 := ⟨(q_uw 1021 rfl rfl), (q_uw 78 rfl rfl), by decide +kernel, by decide +kernel, by decide +kernel, by decide +kernel⟩
def M_X10_bestBuyer : q_M := (yX10_bestBuyer, cX10_bestBuyer, 8, (some .int), [], { frames := 6, cells := 1, slots := 6, locals := 100 })
theorem mo_X10_bestBuyer : q_MO M_X10_bestBuyer 1 := ⟨(q_uw 1167 rfl rfl), (q_uw 78 rfl rfl), by decide +kernel, by decide +kernel, by decide +kernel, by decide +kernel⟩
def M_X10_bestStaff : q_M := (yX10_bestStaff, cX10_bestStaff, 8, (some .int), [], { frames := 8, cells := 279, slots := 1217, locals := 213 })
theorem mo_X10_bestStaff : q_MO M_X10_bestStaff 2 := ⟨(q_uw 1188 rfl rfl), (q_uw 78 rfl rfl), by decide +kernel, by decide +kernel, by decide +kernel, by decide +kernel⟩
def M_X10_bufferLength : q_M := (yX10_bufferLength, cX10_bufferLength, 1, (some .int), [], { frames := 0, cells := 0, slots := 0, locals := 0 })
theorem mo_X10_bufferLength : q_MO M_X10_bufferLength 0 := ⟨(q_uw 507 rfl rfl), (q_uw 78 rfl rfl), by decide +kernel, by decide +kernel, by decide +kernel, by decide +kernel⟩
def M_X10_buyer : q_M := (yX10_buyer, cX10_buyer, 4, (some .int), [], { frames := 6, cells := 2, slots := 12, locals := 100 })
theorem mo_X10_buyer : q_MO M_X10_buyer 2 := ⟨(q_uw 1034 rfl rfl), (q_uw 78 rfl rfl), by decide +kernel, by decide +kernel, by decide +kernel, by decide +kernel⟩
def M_X10_clean : q_M := (yX10_clean, cX10_clean, 4, (some .int), [], { frames := 6, cells := 278, slots := 1211, locals := 187 })
theorem mo_X10_clean : q_MO M_X10_clean 1 := ⟨(q_uw 1159 rfl rfl), (q_uw 78 rfl rfl), by decide +kernel, by decide +kernel, by decide +kernel, by decide +kernel⟩
def M_X10_copyOfLine : q_M := (yX10_copyOfLine, cX10_copyOfLine, 2, (some (.object "RecyclingLine$Line")), [], { frames := 6, cells := 277, slots := 1205, locals := 166 })
theorem mo_X10_copyOfLine : q_MO M_X10_copyOfLine 0 := ⟨(q_uw 755 rfl rfl), (q_uw 78 rfl rfl), by decide +kernel, by decide +kernel, by decide +kernel, by decide +kernel⟩
def M_X10_copyOfLine0 : q_M := (yX10_copyOfLine, cX10_copyOfLine, 2, (some (.object "RecyclingLine$Line")), [], { frames := 6, cells := 0, slots := 0, locals := 166 })
theorem mo_X10_copyOfLine0 : q_MO M_X10_copyOfLine0 0 := ⟨(q_uw 755 rfl rfl), (q_uw 78 rfl rfl), by decide +kernel, by decide +kernel, by decide +kernel, by decide +kernel⟩
def M_X10_emptied : q_M := (yX10_emptied, cX10_emptied, 3, (some .int), [], { frames := 7, cells := 277, slots := 1205, locals := 187 })
theorem mo_X10_emptied : q_MO M_X10_emptied 0 := ⟨(q_uw 751 rfl rfl), (q_uw 78 rfl rfl), by decide +kernel, by decide +kernel, by decide +kernel, by decide +kernel⟩
def M_X10_find : q_M := (yX10_find, cX10_find, 2, (some .int), [], { frames := 2, cells := 0, slots := 0, locals := 44 })
theorem mo_X10_find : q_MO M_X10_find 0 := ⟨(q_uw 704 rfl rfl), (q_uw 78 rfl rfl), by decide +kernel, by decide +kernel, by decide +kernel, by decide +kernel⟩
def M_X10_init : q_M := (yX10_init, cX10_init, 1, none, [], { frames := 5, cells := 279, slots := 1911, locals := 122 })
theorem mo_X10_init : q_MO M_X10_init 0 := ⟨(q_uw 107 rfl rfl), (q_uw 78 rfl rfl), by decide +kernel, by decide +kernel, by decide +kernel, by decide +kernel⟩
def M_X10_line : q_M := (yX10_line, cX10_line, 2, (some .int), [], { frames := 2, cells := 0, slots := 0, locals := 42 })
theorem mo_X10_line : q_MO M_X10_line 1 := ⟨(q_uw 710 rfl rfl), (q_uw 78 rfl rfl), by decide +kernel, by decide +kernel, by decide +kernel, by decide +kernel⟩
def M_X10_load : q_M := (yX10_load, cX10_load, 4, (some .int), [], { frames := 6, cells := 280, slots := 1223, locals := 187 })
theorem mo_X10_load : q_MO M_X10_load 2 := ⟨(q_uw 1055 rfl rfl), (q_uw 78 rfl rfl), by decide +kernel, by decide +kernel, by decide +kernel, by decide +kernel⟩
def M_X10_loss : q_M := (yX10_loss, cX10_loss, 3, (some .float), [], { frames := 0, cells := 0, slots := 0, locals := 0 })
theorem mo_X10_loss : q_MO M_X10_loss 0 := ⟨(q_uw 743 rfl rfl), (q_uw 78 rfl rfl), by decide +kernel, by decide +kernel, by decide +kernel, by decide +kernel⟩
def M_X10_mass : q_M := (yX10_mass, cX10_mass, 4, (some .int), [], { frames := 6, cells := 2, slots := 12, locals := 100 })
theorem mo_X10_mass : q_MO M_X10_mass 2 := ⟨(q_uw 1003 rfl rfl), (q_uw 78 rfl rfl), by decide +kernel, by decide +kernel, by decide +kernel, by decide +kernel⟩
def M_X10_outlook : q_M := (yX10_outlook, cX10_outlook, 4, (some .int), [], { frames := 7, cells := 278, slots := 1211, locals := 187 })
theorem mo_X10_outlook : q_MO M_X10_outlook 2 := ⟨(q_uw 1175 rfl rfl), (q_uw 78 rfl rfl), by decide +kernel, by decide +kernel, by decide +kernel, by decide +kernel⟩
def M_X10_pickedWith : q_M := (yX10_pickedWith, cX10_pickedWith, 7, (some .int), [], { frames := 7, cells := 277, slots := 1205, locals := 187 })
theorem mo_X10_pickedWith : q_MO M_X10_pickedWith 3 := ⟨(q_uw 1192 rfl rfl), (q_uw 78 rfl rfl), by decide +kernel, by decide +kernel, by decide +kernel, by decide +kernel⟩
def M_X10_pickedWith0 : q_M := (yX10_pickedWith, cX10_pickedWith, 7, (some .int), [], { frames := 7, cells := 0, slots := 0, locals := 187 })
theorem mo_X10_pickedWith0 : q_MO M_X10_pickedWith0 3 := ⟨(q_uw 1192 rfl rfl), (q_uw 78 rfl rfl), by decide +kernel, by decide +kernel, by decide +kernel, by decide +kernel⟩
def M_X10_purity : q_M := (yX10_purity, cX10_purity, 4, (some .double), [], { frames := 6, cells := 1, slots := 6, locals := 100 })
theorem mo_X10_purity : q_MO M_X10_purity 1 := ⟨(q_uw 1047 rfl rfl), (q_uw 78 rfl rfl), by decide +kernel, by decide +kernel, by decide +kernel, by decide +kernel⟩
def M_X10_read : q_M := (yX10_read, cX10_read, 4, (some .int), [], { frames := 10, cells := 279, slots := 1223, locals := 210 })
theorem mo_X10_read : q_MO M_X10_read 0 := ⟨(q_uw 511 rfl rfl), (q_uw 78 rfl rfl), by decide +kernel, by decide +kernel, by decide +kernel, by decide +kernel⟩
def M_X10_remember : q_M := (yX10_remember, cX10_remember, 2, none, [], { frames := 5, cells := 277, slots := 1205, locals := 166 })
theorem mo_X10_remember : q_MO M_X10_remember 0 := ⟨(q_uw 1077 rfl rfl), (q_uw 78 rfl rfl), by decide +kernel, by decide +kernel, by decide +kernel, by decide +kernel⟩
def M_X10_run : q_M := (yX10_run, cX10_run, 3, (some .int), [], { frames := 6, cells := 279, slots := 1217, locals := 187 })
theorem mo_X10_run : q_MO M_X10_run 1 := ⟨(q_uw 1106 rfl rfl), (q_uw 78 rfl rfl), by decide +kernel, by decide +kernel, by decide +kernel, by decide +kernel⟩
def M_X10_sell : q_M := (yX10_sell, cX10_sell, 5, (some .int), [], { frames := 6, cells := 280, slots := 1223, locals := 187 })
theorem mo_X10_sell : q_MO M_X10_sell 2 := ⟨(q_uw 1115 rfl rfl), (q_uw 78 rfl rfl), by decide +kernel, by decide +kernel, by decide +kernel, by decide +kernel⟩
def M_X10_set : q_M := (yX10_set, cX10_set, 4, (some .int), [], { frames := 6, cells := 279, slots := 1217, locals := 187 })
theorem mo_X10_set : q_MO M_X10_set 2 := ⟨(q_uw 1087 rfl rfl), (q_uw 78 rfl rfl), by decide +kernel, by decide +kernel, by decide +kernel, by decide +kernel⟩
def M_X10_setting : q_M := (yX10_setting, cX10_setting, 2, (some .int), [], { frames := 6, cells := 1, slots := 6, locals := 100 })
theorem mo_X10_setting : q_MO M_X10_setting 1 := ⟨(q_uw 901 rfl rfl), (q_uw 78 rfl rfl), by decide +kernel, by decide +kernel, by decide +kernel, by decide +kernel⟩
def M_X10_spareLine : q_M := (yX10_spareLine, cX10_spareLine, 1, (some (.object "RecyclingLine$Line")), [], { frames := 5, cells := 277, slots := 1205, locals := 122 })
theorem mo_X10_spareLine : q_MO M_X10_spareLine 0 := ⟨(q_uw 515 rfl rfl), (q_uw 78 rfl rfl), by decide +kernel, by decide +kernel, by decide +kernel, by decide +kernel⟩
def M_X10_spareLine0 : q_M := (yX10_spareLine, cX10_spareLine, 1, (some (.object "RecyclingLine$Line")), [], { frames := 5, cells := 0, slots := 0, locals := 122 })
theorem mo_X10_spareLine0 : q_MO M_X10_spareLine0 0 := ⟨(q_uw 515 rfl rfl), (q_uw 78 rfl rfl), by decide +kernel, by decide +kernel, by decide +kernel, by decide +kernel⟩
def M_X10_staff : q_M := (yX10_staff, cX10_staff, 5, (some .int), [], { frames := 6, cells := 279, slots := 1217, locals := 187 })
theorem mo_X10_staff : q_MO M_X10_staff 2 := ⟨(q_uw 1097 rfl rfl), (q_uw 78 rfl rfl), by decide +kernel, by decide +kernel, by decide +kernel, by decide +kernel⟩
def M_X10_station : q_M := (yX10_station, cX10_station, 4, (some .int), [], { frames := 6, cells := 2, slots := 12, locals := 100 })
theorem mo_X10_station : q_MO M_X10_station 2 := ⟨(q_uw 976 rfl rfl), (q_uw 78 rfl rfl), by decide +kernel, by decide +kernel, by decide +kernel, by decide +kernel⟩
def M_X10_truncate : q_M := (yX10_truncate, cX10_truncate, 2, (some .boolean), [], { frames := 0, cells := 0, slots := 0, locals := 0 })
theorem mo_X10_truncate : q_MO M_X10_truncate 1 := ⟨(q_uw 503 rfl rfl), (q_uw 78 rfl rfl), by decide +kernel, by decide +kernel, by decide +kernel, by decide +kernel⟩
def M_X10_undo : q_M := (yX10_undo, cX10_undo, 2, (some .int), [], { frames := 0, cells := 0, slots := 0, locals := 0 })
theorem mo_X10_undo : q_MO M_X10_undo 0 := ⟨(q_uw 747 rfl rfl), (q_uw 78 rfl rfl), by decide +kernel, by decide +kernel, by decide +kernel, by decide +kernel⟩
def M_X11_adds : q_M := (yX11_adds, cX11_adds, 3, none, [], { frames := 0, cells := 0, slots := 0, locals := 0 })
theorem mo_X11_adds : q_MO M_X11_adds 1 := ⟨(q_uw 1293 rfl rfl), (q_uw 89 rfl rfl), by decide +kernel, by decide +kernel, by decide +kernel, by decide +kernel⟩
def M_X11_append : q_M := (yX11_append, cX11_append, 6, (some .int), [], { frames := 1, cells := 0, slots := 0, locals := 22 })
theorem mo_X11_append : q_MO M_X11_append 5 := ⟨(q_uw 1289 rfl rfl), (q_uw 89 rfl rfl), by decide +kernel, by decide +kernel, by decide +kernel, by decide +kernel⟩
def M_X11_bad : q_M := (yX11_bad, cX11_bad, 2, (some .boolean), [], { frames := 0, cells := 0, slots := 0, locals := 0 })
theorem mo_X11_bad : q_MO M_X11_bad 1 := ⟨(q_uw 1337 rfl rfl), (q_uw 89 rfl rfl), by decide +kernel, by decide +kernel, by decide +kernel, by decide +kernel⟩
def M_X11_balance : q_M := (yX11_balance, cX11_balance, 5, (some .long), [], { frames := 2, cells := 0, slots := 0, locals := 44 })
theorem mo_X11_balance : q_MO M_X11_balance 1 := ⟨(q_uw 1478 rfl rfl), (q_uw 89 rfl rfl), by decide +kernel, by decide +kernel, by decide +kernel, by decide +kernel⟩
def M_X11_bale : q_M := (yX11_bale, cX11_bale, 4, (some .int), [], { frames := 2, cells := 0, slots := 0, locals := 46 })
theorem mo_X11_bale : q_MO M_X11_bale 2 := ⟨(q_uw 1458 rfl rfl), (q_uw 89 rfl rfl), by decide +kernel, by decide +kernel, by decide +kernel, by decide +kernel⟩
def M_X11_becomes : q_M := (yX11_becomes, cX11_becomes, 2, none, [], { frames := 0, cells := 0, slots := 0, locals := 0 })
theorem mo_X11_becomes : q_MO M_X11_becomes 0 := ⟨(q_uw 1210 rfl rfl), (q_uw 89 rfl rfl), by decide +kernel, by decide +kernel, by decide +kernel, by decide +kernel⟩
def M_X11_bestBuyer : q_M := (yX11_bestBuyer, cX11_bestBuyer, 4, (some .int), [], { frames := 3, cells := 0, slots := 0, locals := 68 })
theorem mo_X11_bestBuyer : q_MO M_X11_bestBuyer 1 := ⟨(q_uw 1603 rfl rfl), (q_uw 89 rfl rfl), by decide +kernel, by decide +kernel, by decide +kernel, by decide +kernel⟩
def M_X11_bestStaff : q_M := (yX11_bestStaff, cX11_bestStaff, 9, (some .int), [], { frames := 5, cells := 0, slots := 0, locals := 118 })
theorem mo_X11_bestStaff : q_MO M_X11_bestStaff 2 := ⟨(q_uw 1620 rfl rfl), (q_uw 89 rfl rfl), by decide +kernel, by decide +kernel, by decide +kernel, by decide +kernel⟩
def M_X11_bufferLength : q_M := (yX11_bufferLength, cX11_bufferLength, 1, (some .int), [], { frames := 0, cells := 0, slots := 0, locals := 0 })
theorem mo_X11_bufferLength : q_MO M_X11_bufferLength 0 := ⟨(q_uw 1304 rfl rfl), (q_uw 89 rfl rfl), by decide +kernel, by decide +kernel, by decide +kernel, by decide +kernel⟩
def M_X11_buyer : q_M := (yX11_buyer, cX11_buyer, 4, (some .int), [], { frames := 2, cells := 0, slots := 0, locals := 46 })
theorem mo_X11_buyer : q_MO M_X11_buyer 2 := ⟨(q_uw 1469 rfl rfl), (q_uw 89 rfl rfl), by decide +kernel, by decide +kernel, by decide +kernel, by decide +kernel⟩
def M_X11_buyerWith : q_M := (yX11_buyerWith, cX11_buyerWith, 5, (some .int), [], { frames := 0, cells := 0, slots := 0, locals := 0 })
theorem mo_X11_buyerWith : q_MO M_X11_buyerWith 3 := ⟨(q_uw 1387 rfl rfl), (q_uw 89 rfl rfl), by decide +kernel, by decide +kernel, by decide +kernel, by decide +kernel⟩
def M_X11_byteAt : q_M := (yX11_byteAt, cX11_byteAt, 2, (some .int), [], { frames := 0, cells := 0, slots := 0, locals := 0 })
theorem mo_X11_byteAt : q_MO M_X11_byteAt 1 := ⟨(q_uw 1320 rfl rfl), (q_uw 89 rfl rfl), by decide +kernel, by decide +kernel, by decide +kernel, by decide +kernel⟩
def M_X11_capacity : q_M := (yX11_capacity, cX11_capacity, 2, (some .int), [], { frames := 1, cells := 0, slots := 0, locals := 21 })
theorem mo_X11_capacity : q_MO M_X11_capacity 1 := ⟨(q_uw 1437 rfl rfl), (q_uw 89 rfl rfl), by decide +kernel, by decide +kernel, by decide +kernel, by decide +kernel⟩
def M_X11_clean : q_M := (yX11_clean, cX11_clean, 5, (some .int), [], { frames := 2, cells := 0, slots := 0, locals := 46 })
theorem mo_X11_clean : q_MO M_X11_clean 1 := ⟨(q_uw 1599 rfl rfl), (q_uw 89 rfl rfl), by decide +kernel, by decide +kernel, by decide +kernel, by decide +kernel⟩
def M_X11_comesBack : q_M := (yX11_comesBack, cX11_comesBack, 2, none, [], { frames := 0, cells := 0, slots := 0, locals := 0 })
theorem mo_X11_comesBack : q_MO M_X11_comesBack 0 := ⟨(q_uw 1616 rfl rfl), (q_uw 89 rfl rfl), by decide +kernel, by decide +kernel, by decide +kernel, by decide +kernel⟩
def M_X11_emptied : q_M := (yX11_emptied, cX11_emptied, 3, (some .int), [], { frames := 5, cells := 0, slots := 0, locals := 118 })
theorem mo_X11_emptied : q_MO M_X11_emptied 0 := ⟨(q_uw 1625 rfl rfl), (q_uw 89 rfl rfl), by decide +kernel, by decide +kernel, by decide +kernel, by decide +kernel⟩
def M_X11_ends : q_M := (yX11_ends, cX11_ends, 1, (some .boolean), [], { frames := 2, cells := 0, slots := 0, locals := 42 })
theorem mo_X11_ends : q_MO M_X11_ends 0 := ⟨(q_uw 1345 rfl rfl), (q_uw 89 rfl rfl), by decide +kernel, by decide +kernel, by decide +kernel, by decide +kernel⟩
def M_X11_fails : q_M := (yX11_fails, cX11_fails, 4, (some .boolean), [], { frames := 0, cells := 0, slots := 0, locals := 0 })
theorem mo_X11_fails : q_MO M_X11_fails 3 := ⟨(q_uw 1420 rfl rfl), (q_uw 89 rfl rfl), by decide +kernel, by decide +kernel, by decide +kernel, by decide +kernel⟩
def M_X11_find : q_M := (yX11_find, cX11_find, 4, (some .int), [], { frames := 1, cells := 0, slots := 0, locals := 25 })
theorem mo_X11_find : q_MO M_X11_find 0 := ⟨(q_uw 1395 rfl rfl), (q_uw 89 rfl rfl), by decide +kernel, by decide +kernel, by decide +kernel, by decide +kernel⟩
def M_X11_go : q_M := (yX11_go, cX11_go, 2, none, [], { frames := 1, cells := 0, slots := 0, locals := 21 })
theorem mo_X11_go : q_MO M_X11_go 0 := ⟨(q_uw 1316 rfl rfl), (q_uw 89 rfl rfl), by decide +kernel, by decide +kernel, by decide +kernel, by decide +kernel⟩
def M_X11_goes : q_M := (yX11_goes, cX11_goes, 4, none, [], { frames := 1, cells := 0, slots := 0, locals := 21 })
theorem mo_X11_goes : q_MO M_X11_goes 3 := ⟨(q_uw 1562 rfl rfl), (q_uw 89 rfl rfl), by decide +kernel, by decide +kernel, by decide +kernel, by decide +kernel⟩
def M_X11_goesAside : q_M := (yX11_goesAside, cX11_goesAside, 2, none, [], { frames := 0, cells := 0, slots := 0, locals := 0 })
theorem mo_X11_goesAside : q_MO M_X11_goesAside 0 := ⟨(q_uw 1612 rfl rfl), (q_uw 89 rfl rfl), by decide +kernel, by decide +kernel, by decide +kernel, by decide +kernel⟩
def M_X11_gradeOf : q_M := (yX11_gradeOf, cX11_gradeOf, 2, (some .int), [], { frames := 0, cells := 0, slots := 0, locals := 0 })
theorem mo_X11_gradeOf : q_MO M_X11_gradeOf 1 := ⟨(q_uw 1571 rfl rfl), (q_uw 89 rfl rfl), by decide +kernel, by decide +kernel, by decide +kernel, by decide +kernel⟩
def M_X11_hasParcel : q_M := (yX11_hasParcel, cX11_hasParcel, 2, (some .boolean), [], { frames := 1, cells := 0, slots := 0, locals := 20 })
theorem mo_X11_hasParcel : q_MO M_X11_hasParcel 1 := ⟨(q_uw 1445 rfl rfl), (q_uw 89 rfl rfl), by decide +kernel, by decide +kernel, by decide +kernel, by decide +kernel⟩
def M_X11_impurity : q_M := (yX11_impurity, cX11_impurity, 2, (some .int), [], { frames := 1, cells := 0, slots := 0, locals := 21 })
theorem mo_X11_impurity : q_MO M_X11_impurity 1 := ⟨(q_uw 1591 rfl rfl), (q_uw 89 rfl rfl), by decide +kernel, by decide +kernel, by decide +kernel, by decide +kernel⟩
def M_X11_init : q_M := (yX11_init, cX11_init, 1, none, [], { frames := 1, cells := 12, slots := 7925, locals := 40 })
theorem mo_X11_init : q_MO M_X11_init 0 := ⟨(q_uw 1201 rfl rfl), (q_uw 89 rfl rfl), by decide +kernel, by decide +kernel, by decide +kernel, by decide +kernel⟩
def M_X11_isBale : q_M := (yX11_isBale, cX11_isBale, 2, (some .boolean), [], { frames := 1, cells := 0, slots := 0, locals := 25 })
theorem mo_X11_isBale : q_MO M_X11_isBale 1 := ⟨(q_uw 1462 rfl rfl), (q_uw 89 rfl rfl), by decide +kernel, by decide +kernel, by decide +kernel, by decide +kernel⟩
def M_X11_isBuyer : q_M := (yX11_isBuyer, cX11_isBuyer, 2, (some .boolean), [], { frames := 1, cells := 0, slots := 0, locals := 25 })
theorem mo_X11_isBuyer : q_MO M_X11_isBuyer 1 := ⟨(q_uw 1473 rfl rfl), (q_uw 89 rfl rfl), by decide +kernel, by decide +kernel, by decide +kernel, by decide +kernel⟩
def M_X11_isDigit : q_M := (yX11_isDigit, cX11_isDigit, 1, (some .boolean), [], { frames := 0, cells := 0, slots := 0, locals := 0 })
theorem mo_X11_isDigit : q_MO M_X11_isDigit 1 := ⟨(q_uw 1326 rfl rfl), (q_uw 89 rfl rfl), by decide +kernel, by decide +kernel, by decide +kernel, by decide +kernel⟩
def M_X11_isEmpty : q_M := (yX11_isEmpty, cX11_isEmpty, 1, (some .boolean), [], { frames := 2, cells := 0, slots := 0, locals := 42 })
theorem mo_X11_isEmpty : q_MO M_X11_isEmpty 0 := ⟨(q_uw 1629 rfl rfl), (q_uw 89 rfl rfl), by decide +kernel, by decide +kernel, by decide +kernel, by decide +kernel⟩
def M_X11_isIn : q_M := (yX11_isIn, cX11_isIn, 6, (some .boolean), [], { frames := 0, cells := 0, slots := 0, locals := 0 })
theorem mo_X11_isIn : q_MO M_X11_isIn 3 := ⟨(q_uw 1300 rfl rfl), (q_uw 89 rfl rfl), by decide +kernel, by decide +kernel, by decide +kernel, by decide +kernel⟩
def M_X11_isMaterial : q_M := (yX11_isMaterial, cX11_isMaterial, 2, (some .boolean), [], { frames := 1, cells := 0, slots := 0, locals := 25 })
theorem mo_X11_isMaterial : q_MO M_X11_isMaterial 1 := ⟨(q_uw 1454 rfl rfl), (q_uw 89 rfl rfl), by decide +kernel, by decide +kernel, by decide +kernel, by decide +kernel⟩
def M_X11_isName : q_M := (yX11_isName, cX11_isName, 1, (some .boolean), [], { frames := 5, cells := 0, slots := 0, locals := 107 })
theorem mo_X11_isName : q_MO M_X11_isName 0 := ⟨(q_uw 1378 rfl rfl), (q_uw 89 rfl rfl), by decide +kernel, by decide +kernel, by decide +kernel, by decide +kernel⟩
def M_X11_isSmall : q_M := (yX11_isSmall, cX11_isSmall, 1, (some .boolean), [], { frames := 0, cells := 0, slots := 0, locals := 0 })
theorem mo_X11_isSmall : q_MO M_X11_isSmall 1 := ⟨(q_uw 1323 rfl rfl), (q_uw 89 rfl rfl), by decide +kernel, by decide +kernel, by decide +kernel, by decide +kernel⟩
def M_X11_isStation : q_M := (yX11_isStation, cX11_isStation, 2, (some .boolean), [], { frames := 1, cells := 0, slots := 0, locals := 25 })
theorem mo_X11_isStation : q_MO M_X11_isStation 1 := ⟨(q_uw 1428 rfl rfl), (q_uw 89 rfl rfl), by decide +kernel, by decide +kernel, by decide +kernel, by decide +kernel⟩
def M_X11_isTarget : q_M := (yX11_isTarget, cX11_isTarget, 3, (some .boolean), [], { frames := 1, cells := 0, slots := 0, locals := 21 })
theorem mo_X11_isTarget : q_MO M_X11_isTarget 1 := ⟨(q_uw 1526 rfl rfl), (q_uw 89 rfl rfl), by decide +kernel, by decide +kernel, by decide +kernel, by decide +kernel⟩
def M_X11_isWord : q_M := (yX11_isWord, cX11_isWord, 3, (some .boolean), [], { frames := 4, cells := 0, slots := 0, locals := 85 })
theorem mo_X11_isWord : q_MO M_X11_isWord 1 := ⟨(q_uw 1331 rfl rfl), (q_uw 89 rfl rfl), by decide +kernel, by decide +kernel, by decide +kernel, by decide +kernel⟩
def M_X11_joins : q_M := (yX11_joins, cX11_joins, 4, none, [], { frames := 0, cells := 0, slots := 0, locals := 0 })
theorem mo_X11_joins : q_MO M_X11_joins 2 := ⟨(q_uw 1534 rfl rfl), (q_uw 89 rfl rfl), by decide +kernel, by decide +kernel, by decide +kernel, by decide +kernel⟩
def M_X11_lays : q_M := (yX11_lays, cX11_lays, 2, none, [], { frames := 0, cells := 0, slots := 0, locals := 0 })
theorem mo_X11_lays : q_MO M_X11_lays 0 := ⟨(q_uw 1206 rfl rfl), (q_uw 89 rfl rfl), by decide +kernel, by decide +kernel, by decide +kernel, by decide +kernel⟩
def M_X11_lays_ : q_M := (yX11_lays_, cX11_lays_, 3, none, [], { frames := 0, cells := 0, slots := 0, locals := 0 })
theorem mo_X11_lays_ : q_MO M_X11_lays_ 1 := ⟨(q_uw 1553 rfl rfl), (q_uw 89 rfl rfl), by decide +kernel, by decide +kernel, by decide +kernel, by decide +kernel⟩
def M_X11_leaves : q_M := (yX11_leaves, cX11_leaves, 4, none, [], { frames := 2, cells := 0, slots := 0, locals := 44 })
theorem mo_X11_leaves : q_MO M_X11_leaves 0 := ⟨(q_uw 1522 rfl rfl), (q_uw 89 rfl rfl), by decide +kernel, by decide +kernel, by decide +kernel, by decide +kernel⟩
def M_X11_letters : q_M := (yX11_letters, cX11_letters, 6, (some .long), [], { frames := 0, cells := 0, slots := 0, locals := 0 })
theorem mo_X11_letters : q_MO M_X11_letters 2 := ⟨(q_uw 1382 rfl rfl), (q_uw 89 rfl rfl), by decide +kernel, by decide +kernel, by decide +kernel, by decide +kernel⟩
def M_X11_line : q_M := (yX11_line, cX11_line, 2, (some .int), [], { frames := 2, cells := 0, slots := 0, locals := 42 })
theorem mo_X11_line : q_MO M_X11_line 1 := ⟨(q_uw 1400 rfl rfl), (q_uw 89 rfl rfl), by decide +kernel, by decide +kernel, by decide +kernel, by decide +kernel⟩
def M_X11_load : q_M := (yX11_load, cX11_load, 7, (some .int), [], { frames := 2, cells := 0, slots := 0, locals := 46 })
theorem mo_X11_load : q_MO M_X11_load 2 := ⟨(q_uw 1491 rfl rfl), (q_uw 89 rfl rfl), by decide +kernel, by decide +kernel, by decide +kernel, by decide +kernel⟩
def M_X11_loss : q_M := (yX11_loss, cX11_loss, 2, (some .float), [], { frames := 2, cells := 0, slots := 0, locals := 44 })
theorem mo_X11_loss : q_MO M_X11_loss 0 := ⟨(q_uw 1487 rfl rfl), (q_uw 89 rfl rfl), by decide +kernel, by decide +kernel, by decide +kernel, by decide +kernel⟩
def M_X11_mass : q_M := (yX11_mass, cX11_mass, 4, (some .int), [], { frames := 2, cells := 0, slots := 0, locals := 46 })
theorem mo_X11_mass : q_MO M_X11_mass 2 := ⟨(q_uw 1449 rfl rfl), (q_uw 89 rfl rfl), by decide +kernel, by decide +kernel, by decide +kernel, by decide +kernel⟩
def M_X11_materials : q_M := (yX11_materials, cX11_materials, 1, (some .int), [], { frames := 0, cells := 0, slots := 0, locals := 0 })
theorem mo_X11_materials : q_MO M_X11_materials 0 := ⟨(q_uw 1404 rfl rfl), (q_uw 89 rfl rfl), by decide +kernel, by decide +kernel, by decide +kernel, by decide +kernel⟩
def M_X11_mostOf : q_M := (yX11_mostOf, cX11_mostOf, 5, (some .int), [], { frames := 1, cells := 0, slots := 0, locals := 20 })
theorem mo_X11_mostOf : q_MO M_X11_mostOf 2 := ⟨(q_uw 1549 rfl rfl), (q_uw 89 rfl rfl), by decide +kernel, by decide +kernel, by decide +kernel, by decide +kernel⟩
def M_X11_moves : q_M := (yX11_moves, cX11_moves, 3, none, [], { frames := 3, cells := 0, slots := 0, locals := 70 })
theorem mo_X11_moves : q_MO M_X11_moves 0 := ⟨(q_uw 1538 rfl rfl), (q_uw 89 rfl rfl), by decide +kernel, by decide +kernel, by decide +kernel, by decide +kernel⟩
def M_X11_ofBuyer : q_M := (yX11_ofBuyer, cX11_ofBuyer, 3, (some .int), [], { frames := 0, cells := 0, slots := 0, locals := 0 })
theorem mo_X11_ofBuyer : q_MO M_X11_ofBuyer 2 := ⟨(q_uw 1583 rfl rfl), (q_uw 89 rfl rfl), by decide +kernel, by decide +kernel, by decide +kernel, by decide +kernel⟩
def M_X11_onBelt : q_M := (yX11_onBelt, cX11_onBelt, 3, (some .int), [], { frames := 1, cells := 0, slots := 0, locals := 20 })
theorem mo_X11_onBelt : q_MO M_X11_onBelt 0 := ⟨(q_uw 1408 rfl rfl), (q_uw 89 rfl rfl), by decide +kernel, by decide +kernel, by decide +kernel, by decide +kernel⟩
def M_X11_outlook : q_M := (yX11_outlook, cX11_outlook, 5, (some .int), [], { frames := 5, cells := 0, slots := 0, locals := 118 })
theorem mo_X11_outlook : q_MO M_X11_outlook 2 := ⟨(q_uw 1607 rfl rfl), (q_uw 89 rfl rfl), by decide +kernel, by decide +kernel, by decide +kernel, by decide +kernel⟩
def M_X11_parcelAt : q_M := (yX11_parcelAt, cX11_parcelAt, 1, (some .int), [], { frames := 0, cells := 0, slots := 0, locals := 0 })
theorem mo_X11_parcelAt : q_MO M_X11_parcelAt 1 := ⟨(q_uw 1366 rfl rfl), (q_uw 89 rfl rfl), by decide +kernel, by decide +kernel, by decide +kernel, by decide +kernel⟩
def M_X11_pays : q_M := (yX11_pays, cX11_pays, 7, (some .int), [], { frames := 2, cells := 0, slots := 0, locals := 42 })
theorem mo_X11_pays : q_MO M_X11_pays 2 := ⟨(q_uw 1595 rfl rfl), (q_uw 89 rfl rfl), by decide +kernel, by decide +kernel, by decide +kernel, by decide +kernel⟩
def M_X11_picks : q_M := (yX11_picks, cX11_picks, 5, none, [], { frames := 2, cells := 0, slots := 0, locals := 44 })
theorem mo_X11_picks : q_MO M_X11_picks 1 := ⟨(q_uw 1557 rfl rfl), (q_uw 89 rfl rfl), by decide +kernel, by decide +kernel, by decide +kernel, by decide +kernel⟩
def M_X11_placeAt : q_M := (yX11_placeAt, cX11_placeAt, 2, (some .int), [], { frames := 0, cells := 0, slots := 0, locals := 0 })
theorem mo_X11_placeAt : q_MO M_X11_placeAt 2 := ⟨(q_uw 1353 rfl rfl), (q_uw 89 rfl rfl), by decide +kernel, by decide +kernel, by decide +kernel, by decide +kernel⟩
def M_X11_presses : q_M := (yX11_presses, cX11_presses, 6, none, [], { frames := 3, cells := 0, slots := 0, locals := 70 })
theorem mo_X11_presses : q_MO M_X11_presses 1 := ⟨(q_uw 1567 rfl rfl), (q_uw 89 rfl rfl), by decide +kernel, by decide +kernel, by decide +kernel, by decide +kernel⟩
def M_X11_purity : q_M := (yX11_purity, cX11_purity, 2, (some .double), [], { frames := 2, cells := 0, slots := 0, locals := 46 })
theorem mo_X11_purity : q_MO M_X11_purity 1 := ⟨(q_uw 1483 rfl rfl), (q_uw 89 rfl rfl), by decide +kernel, by decide +kernel, by decide +kernel, by decide +kernel⟩
def M_X11_read : q_M := (yX11_read, cX11_read, 1, (some .int), [], { frames := 8, cells := 0, slots := 0, locals := 172 })
theorem mo_X11_read : q_MO M_X11_read 0 := ⟨(q_uw 1308 rfl rfl), (q_uw 89 rfl rfl), by decide +kernel, by decide +kernel, by decide +kernel, by decide +kernel⟩
def M_X11_reads : q_M := (yX11_reads, cX11_reads, 5, (some .boolean), [], { frames := 2, cells := 0, slots := 0, locals := 42 })
theorem mo_X11_reads : q_MO M_X11_reads 4 := ⟨(q_uw 1341 rfl rfl), (q_uw 89 rfl rfl), by decide +kernel, by decide +kernel, by decide +kernel, by decide +kernel⟩
def M_X11_readsAll : q_M := (yX11_readsAll, cX11_readsAll, 2, (some .boolean), [], { frames := 7, cells := 0, slots := 0, locals := 151 })
theorem mo_X11_readsAll : q_MO M_X11_readsAll 0 := ⟨(q_uw 1312 rfl rfl), (q_uw 89 rfl rfl), by decide +kernel, by decide +kernel, by decide +kernel, by decide +kernel⟩
def M_X11_readsBuyer : q_M := (yX11_readsBuyer, cX11_readsBuyer, 5, (some .boolean), [], { frames := 6, cells := 0, slots := 0, locals := 127 })
theorem mo_X11_readsBuyer : q_MO M_X11_readsBuyer 0 := ⟨(q_uw 1374 rfl rfl), (q_uw 89 rfl rfl), by decide +kernel, by decide +kernel, by decide +kernel, by decide +kernel⟩
def M_X11_readsLoad : q_M := (yX11_readsLoad, cX11_readsLoad, 4, (some .boolean), [], { frames := 3, cells := 0, slots := 0, locals := 66 })
theorem mo_X11_readsLoad : q_MO M_X11_readsLoad 0 := ⟨(q_uw 1363 rfl rfl), (q_uw 89 rfl rfl), by decide +kernel, by decide +kernel, by decide +kernel, by decide +kernel⟩
def M_X11_readsSetting : q_M := (yX11_readsSetting, cX11_readsSetting, 2, (some .boolean), [], { frames := 3, cells := 0, slots := 0, locals := 66 })
theorem mo_X11_readsSetting : q_MO M_X11_readsSetting 0 := ⟨(q_uw 1358 rfl rfl), (q_uw 89 rfl rfl), by decide +kernel, by decide +kernel, by decide +kernel, by decide +kernel⟩
def M_X11_readsStation : q_M := (yX11_readsStation, cX11_readsStation, 3, (some .boolean), [], { frames := 3, cells := 0, slots := 0, locals := 66 })
theorem mo_X11_readsStation : q_MO M_X11_readsStation 0 := ⟨(q_uw 1350 rfl rfl), (q_uw 89 rfl rfl), by decide +kernel, by decide +kernel, by decide +kernel, by decide +kernel⟩
def M_X11_remembers : q_M := (yX11_remembers, cX11_remembers, 2, none, [], { frames := 0, cells := 0, slots := 0, locals := 0 })
theorem mo_X11_remembers : q_MO M_X11_remembers 0 := ⟨(q_uw 1496 rfl rfl), (q_uw 89 rfl rfl), by decide +kernel, by decide +kernel, by decide +kernel, by decide +kernel⟩
def M_X11_run : q_M := (yX11_run, cX11_run, 4, (some .int), [], { frames := 5, cells := 0, slots := 0, locals := 118 })
theorem mo_X11_run : q_MO M_X11_run 1 := ⟨(q_uw 1513 rfl rfl), (q_uw 89 rfl rfl), by decide +kernel, by decide +kernel, by decide +kernel, by decide +kernel⟩
def M_X11_sell : q_M := (yX11_sell, cX11_sell, 8, (some .int), [], { frames := 3, cells := 0, slots := 0, locals := 68 })
theorem mo_X11_sell : q_MO M_X11_sell 2 := ⟨(q_uw 1575 rfl rfl), (q_uw 89 rfl rfl), by decide +kernel, by decide +kernel, by decide +kernel, by decide +kernel⟩
def M_X11_sendsBack : q_M := (yX11_sendsBack, cX11_sendsBack, 3, (some .boolean), [], { frames := 2, cells := 0, slots := 0, locals := 42 })
theorem mo_X11_sendsBack : q_MO M_X11_sendsBack 2 := ⟨(q_uw 1587 rfl rfl), (q_uw 89 rfl rfl), by decide +kernel, by decide +kernel, by decide +kernel, by decide +kernel⟩
def M_X11_set : q_M := (yX11_set, cX11_set, 5, (some .int), [], { frames := 1, cells := 0, slots := 0, locals := 25 })
theorem mo_X11_set : q_MO M_X11_set 2 := ⟨(q_uw 1500 rfl rfl), (q_uw 89 rfl rfl), by decide +kernel, by decide +kernel, by decide +kernel, by decide +kernel⟩
def M_X11_setting : q_M := (yX11_setting, cX11_setting, 2, (some .int), [], { frames := 1, cells := 0, slots := 0, locals := 25 })
theorem mo_X11_setting : q_MO M_X11_setting 1 := ⟨(q_uw 1415 rfl rfl), (q_uw 89 rfl rfl), by decide +kernel, by decide +kernel, by decide +kernel, by decide +kernel⟩
def M_X11_slotAt : q_M := (yX11_slotAt, cX11_slotAt, 1, (some .int), [], { frames := 0, cells := 0, slots := 0, locals := 0 })
theorem mo_X11_slotAt : q_MO M_X11_slotAt 1 := ⟨(q_uw 1411 rfl rfl), (q_uw 89 rfl rfl), by decide +kernel, by decide +kernel, by decide +kernel, by decide +kernel⟩
def M_X11_staff : q_M := (yX11_staff, cX11_staff, 4, (some .int), [], { frames := 2, cells := 0, slots := 0, locals := 46 })
theorem mo_X11_staff : q_MO M_X11_staff 2 := ⟨(q_uw 1504 rfl rfl), (q_uw 89 rfl rfl), by decide +kernel, by decide +kernel, by decide +kernel, by decide +kernel⟩
def M_X11_staffs : q_M := (yX11_staffs, cX11_staffs, 4, (some .int), [], { frames := 1, cells := 0, slots := 0, locals := 21 })
theorem mo_X11_staffs : q_MO M_X11_staffs 2 := ⟨(q_uw 1509 rfl rfl), (q_uw 89 rfl rfl), by decide +kernel, by decide +kernel, by decide +kernel, by decide +kernel⟩
def M_X11_station : q_M := (yX11_station, cX11_station, 4, (some .int), [], { frames := 2, cells := 0, slots := 0, locals := 46 })
theorem mo_X11_station : q_MO M_X11_station 2 := ⟨(q_uw 1424 rfl rfl), (q_uw 89 rfl rfl), by decide +kernel, by decide +kernel, by decide +kernel, by decide +kernel⟩
def M_X11_stations : q_M := (yX11_stations, cX11_stations, 1, (some .int), [], { frames := 0, cells := 0, slots := 0, locals := 0 })
theorem mo_X11_stations : q_MO M_X11_stations 0 := ⟨(q_uw 1391 rfl rfl), (q_uw 89 rfl rfl), by decide +kernel, by decide +kernel, by decide +kernel, by decide +kernel⟩
def M_X11_storedAt : q_M := (yX11_storedAt, cX11_storedAt, 2, (some .int), [], { frames := 0, cells := 0, slots := 0, locals := 0 })
theorem mo_X11_storedAt : q_MO M_X11_storedAt 2 := ⟨(q_uw 1465 rfl rfl), (q_uw 89 rfl rfl), by decide +kernel, by decide +kernel, by decide +kernel, by decide +kernel⟩
def M_X11_takes : q_M := (yX11_takes, cX11_takes, 7, none, [], { frames := 2, cells := 0, slots := 0, locals := 44 })
theorem mo_X11_takes : q_MO M_X11_takes 2 := ⟨(q_uw 1542 rfl rfl), (q_uw 89 rfl rfl), by decide +kernel, by decide +kernel, by decide +kernel, by decide +kernel⟩
def M_X11_takesBale : q_M := (yX11_takesBale, cX11_takesBale, 3, (some .boolean), [], { frames := 1, cells := 0, slots := 0, locals := 22 })
theorem mo_X11_takesBale : q_MO M_X11_takesBale 2 := ⟨(q_uw 1579 rfl rfl), (q_uw 89 rfl rfl), by decide +kernel, by decide +kernel, by decide +kernel, by decide +kernel⟩
def M_X11_targetOf : q_M := (yX11_targetOf, cX11_targetOf, 2, (some .int), [], { frames := 0, cells := 0, slots := 0, locals := 0 })
theorem mo_X11_targetOf : q_MO M_X11_targetOf 1 := ⟨(q_uw 1433 rfl rfl), (q_uw 89 rfl rfl), by decide +kernel, by decide +kernel, by decide +kernel, by decide +kernel⟩
def M_X11_thrown : q_M := (yX11_thrown, cX11_thrown, 1, (some .int), [], { frames := 0, cells := 0, slots := 0, locals := 0 })
theorem mo_X11_thrown : q_MO M_X11_thrown 0 := ⟨(q_uw 1196 rfl rfl), (q_uw 89 rfl rfl), by decide +kernel, by decide +kernel, by decide +kernel, by decide +kernel⟩
def M_X11_ticks : q_M := (yX11_ticks, cX11_ticks, 4, none, [], { frames := 4, cells := 0, slots := 0, locals := 95 })
theorem mo_X11_ticks : q_MO M_X11_ticks 1 := ⟨(q_uw 1518 rfl rfl), (q_uw 89 rfl rfl), by decide +kernel, by decide +kernel, by decide +kernel, by decide +kernel⟩
def M_X11_total : q_M := (yX11_total, cX11_total, 2, (some .int), [], { frames := 1, cells := 0, slots := 0, locals := 23 })
theorem mo_X11_total : q_MO M_X11_total 1 := ⟨(q_uw 1441 rfl rfl), (q_uw 89 rfl rfl), by decide +kernel, by decide +kernel, by decide +kernel, by decide +kernel⟩
def M_X11_totalOf : q_M := (yX11_totalOf, cX11_totalOf, 4, (some .int), [], { frames := 0, cells := 0, slots := 0, locals := 0 })
theorem mo_X11_totalOf : q_MO M_X11_totalOf 2 := ⟨(q_uw 1369 rfl rfl), (q_uw 89 rfl rfl), by decide +kernel, by decide +kernel, by decide +kernel, by decide +kernel⟩
def M_X11_truncate : q_M := (yX11_truncate, cX11_truncate, 2, (some .boolean), [], { frames := 1, cells := 0, slots := 0, locals := 25 })
theorem mo_X11_truncate : q_MO M_X11_truncate 1 := ⟨(q_uw 1297 rfl rfl), (q_uw 89 rfl rfl), by decide +kernel, by decide +kernel, by decide +kernel, by decide +kernel⟩
def M_X11_undo : q_M := (yX11_undo, cX11_undo, 2, (some .int), [], { frames := 0, cells := 0, slots := 0, locals := 0 })
theorem mo_X11_undo : q_MO M_X11_undo 0 := ⟨(q_uw 1285 rfl rfl), (q_uw 89 rfl rfl), by decide +kernel, by decide +kernel, by decide +kernel, by decide +kernel⟩
def M_X11_waits : q_M := (yX11_waits, cX11_waits, 5, none, [], { frames := 1, cells := 0, slots := 0, locals := 20 })
theorem mo_X11_waits : q_MO M_X11_waits 2 := ⟨(q_uw 1530 rfl rfl), (q_uw 89 rfl rfl), by decide +kernel, by decide +kernel, by decide +kernel, by decide +kernel⟩
def M_X1_claimsFor : q_M := (yX1_claimsFor, cX1_claimsFor, 2, (some .boolean), [], { frames := 0, cells := 0, slots := 0, locals := 0 })
theorem mo_X1_claimsFor : q_MO M_X1_claimsFor 1 := ⟨(q_uw 1150 rfl rfl), (q_uw 87 rfl rfl), by decide +kernel, by decide +kernel, by decide +kernel, by decide +kernel⟩
def M_X1_copyFrom : q_M := (yX1_copyFrom, cX1_copyFrom, 2, none, [], { frames := 0, cells := 0, slots := 0, locals := 0 })
theorem mo_X1_copyFrom : q_MO M_X1_copyFrom 1 := ⟨(q_uw 777 rfl rfl), (q_uw 87 rfl rfl), by decide +kernel, by decide +kernel, by decide +kernel, by decide +kernel⟩
def M_X1_init : q_M := (yX1_init, cX1_init, 1, none, [], { frames := 1, cells := 0, slots := 0, locals := 40 })
theorem mo_X1_init : q_MO M_X1_init 0 := ⟨(q_uw 360 rfl rfl), (q_uw 87 rfl rfl), by decide +kernel, by decide +kernel, by decide +kernel, by decide +kernel⟩
def M_X1_payFor : q_M := (yX1_payFor, cX1_payFor, 5, (some .int), [], { frames := 1, cells := 0, slots := 0, locals := 40 })
theorem mo_X1_payFor : q_MO M_X1_payFor 2 := ⟨(q_uw 1142 rfl rfl), (q_uw 87 rfl rfl), by decide +kernel, by decide +kernel, by decide +kernel, by decide +kernel⟩
def M_X1_sendsBack : q_M := (yX1_sendsBack, cX1_sendsBack, 2, (some .boolean), [], { frames := 0, cells := 0, slots := 0, locals := 0 })
theorem mo_X1_sendsBack : q_MO M_X1_sendsBack 1 := ⟨(q_uw 1125 rfl rfl), (q_uw 87 rfl rfl), by decide +kernel, by decide +kernel, by decide +kernel, by decide +kernel⟩
def M_X1_takes : q_M := (yX1_takes, cX1_takes, 2, (some .boolean), [], { frames := 0, cells := 0, slots := 0, locals := 0 })
theorem mo_X1_takes : q_MO M_X1_takes 1 := ⟨(q_uw 1120 rfl rfl), (q_uw 87 rfl rfl), by decide +kernel, by decide +kernel, by decide +kernel, by decide +kernel⟩
def M_X1_worthOf : q_M := (yX1_worthOf, cX1_worthOf, 2, (some .int), [], { frames := 0, cells := 0, slots := 0, locals := 0 })
theorem mo_X1_worthOf : q_MO M_X1_worthOf 1 := ⟨(q_uw 1146 rfl rfl), (q_uw 87 rfl rfl), by decide +kernel, by decide +kernel, by decide +kernel, by decide +kernel⟩
def M_X2_clear : q_M := (yX2_clear, cX2_clear, 1, none, [], { frames := 1, cells := 0, slots := 0, locals := 23 })
theorem mo_X2_clear : q_MO M_X2_clear 0 := ⟨(q_uw 466 rfl rfl), (q_uw 82 rfl rfl), by decide +kernel, by decide +kernel, by decide +kernel, by decide +kernel⟩
def M_X2_copyFrom : q_M := (yX2_copyFrom, cX2_copyFrom, 2, none, [], { frames := 1, cells := 0, slots := 0, locals := 80 })
theorem mo_X2_copyFrom : q_MO M_X2_copyFrom 1 := ⟨(q_uw 771 rfl rfl), (q_uw 82 rfl rfl), by decide +kernel, by decide +kernel, by decide +kernel, by decide +kernel⟩
def M_X2_init : q_M := (yX2_init, cX2_init, 1, none, [], { frames := 1, cells := 1, slots := 6, locals := 40 })
theorem mo_X2_init : q_MO M_X2_init 0 := ⟨(q_uw 147 rfl rfl), (q_uw 82 rfl rfl), by decide +kernel, by decide +kernel, by decide +kernel, by decide +kernel⟩
def M_X2_mostBut : q_M := (yX2_mostBut, cX2_mostBut, 5, (some .int), [], { frames := 0, cells := 0, slots := 0, locals := 0 })
theorem mo_X2_mostBut : q_MO M_X2_mostBut 1 := ⟨(q_uw 853 rfl rfl), (q_uw 82 rfl rfl), by decide +kernel, by decide +kernel, by decide +kernel, by decide +kernel⟩
def M_X2_move : q_M := (yX2_move, cX2_move, 4, none, [], { frames := 0, cells := 0, slots := 0, locals := 0 })
theorem mo_X2_move : q_MO M_X2_move 3 := ⟨(q_uw 849 rfl rfl), (q_uw 82 rfl rfl), by decide +kernel, by decide +kernel, by decide +kernel, by decide +kernel⟩
def M_X2_movePortion : q_M := (yX2_movePortion, cX2_movePortion, 7, none, [], { frames := 2, cells := 0, slots := 0, locals := 43 })
theorem mo_X2_movePortion : q_MO M_X2_movePortion 2 := ⟨(q_uw 843 rfl rfl), (q_uw 82 rfl rfl), by decide +kernel, by decide +kernel, by decide +kernel, by decide +kernel⟩
def M_X2_of : q_M := (yX2_of, cX2_of, 2, (some .int), [], { frames := 0, cells := 0, slots := 0, locals := 0 })
theorem mo_X2_of : q_MO M_X2_of 1 := ⟨(q_uw 822 rfl rfl), (q_uw 82 rfl rfl), by decide +kernel, by decide +kernel, by decide +kernel, by decide +kernel⟩
def M_X2_put : q_M := (yX2_put, cX2_put, 3, none, [], { frames := 0, cells := 0, slots := 0, locals := 0 })
theorem mo_X2_put : q_MO M_X2_put 2 := ⟨(q_uw 676 rfl rfl), (q_uw 82 rfl rfl), by decide +kernel, by decide +kernel, by decide +kernel, by decide +kernel⟩
def M_X2_putAll : q_M := (yX2_putAll, cX2_putAll, 3, none, [], { frames := 0, cells := 0, slots := 0, locals := 0 })
theorem mo_X2_putAll : q_MO M_X2_putAll 1 := ⟨(q_uw 827 rfl rfl), (q_uw 82 rfl rfl), by decide +kernel, by decide +kernel, by decide +kernel, by decide +kernel⟩
def M_X3_addLast : q_M := (yX3_addLast, cX3_addLast, 3, (some (.object "RecyclingLine$Parcel")), [], { frames := 2, cells := 0, slots := 0, locals := 43 })
theorem mo_X3_addLast : q_MO M_X3_addLast 1 := ⟨(q_uw 667 rfl rfl), (q_uw 80 rfl rfl), by decide +kernel, by decide +kernel, by decide +kernel, by decide +kernel⟩
def M_X3_copyFrom : q_M := (yX3_copyFrom, cX3_copyFrom, 3, none, [], { frames := 3, cells := 0, slots := 0, locals := 122 })
theorem mo_X3_copyFrom : q_MO M_X3_copyFrom 1 := ⟨(q_uw 781 rfl rfl), (q_uw 80 rfl rfl), by decide +kernel, by decide +kernel, by decide +kernel, by decide +kernel⟩
def M_X3_dropFirst : q_M := (yX3_dropFirst, cX3_dropFirst, 1, none, [], { frames := 0, cells := 0, slots := 0, locals := 0 })
theorem mo_X3_dropFirst : q_MO M_X3_dropFirst 0 := ⟨(q_uw 857 rfl rfl), (q_uw 80 rfl rfl), by decide +kernel, by decide +kernel, by decide +kernel, by decide +kernel⟩
def M_X3_dropLast : q_M := (yX3_dropLast, cX3_dropLast, 1, none, [], { frames := 0, cells := 0, slots := 0, locals := 0 })
theorem mo_X3_dropLast : q_MO M_X3_dropLast 0 := ⟨(q_uw 680 rfl rfl), (q_uw 80 rfl rfl), by decide +kernel, by decide +kernel, by decide +kernel, by decide +kernel⟩
def M_X3_init : q_M := (yX3_init, cX3_init, 2, none, [], { frames := 3, cells := 91, slots := 330, locals := 80 })
theorem mo_X3_init : q_MO M_X3_init 0 := ⟨(q_uw 134 rfl rfl), (q_uw 80 rfl rfl), by decide +kernel, by decide +kernel, by decide +kernel, by decide +kernel⟩
def M_X3_isFull : q_M := (yX3_isFull, cX3_isFull, 1, (some .boolean), [], { frames := 0, cells := 0, slots := 0, locals := 0 })
theorem mo_X3_isFull : q_MO M_X3_isFull 0 := ⟨(q_uw 671 rfl rfl), (q_uw 80 rfl rfl), by decide +kernel, by decide +kernel, by decide +kernel, by decide +kernel⟩
def M_X3_parcelAt : q_M := (yX3_parcelAt, cX3_parcelAt, 2, (some (.object "RecyclingLine$Parcel")), [], { frames := 0, cells := 0, slots := 0, locals := 0 })
theorem mo_X3_parcelAt : q_MO M_X3_parcelAt 1 := ⟨(q_uw 839 rfl rfl), (q_uw 80 rfl rfl), by decide +kernel, by decide +kernel, by decide +kernel, by decide +kernel⟩
def M_X3_totalMass : q_M := (yX3_totalMass, cX3_totalMass, 3, (some .int), [], { frames := 0, cells := 0, slots := 0, locals := 0 })
theorem mo_X3_totalMass : q_MO M_X3_totalMass 0 := ⟨(q_uw 726 rfl rfl), (q_uw 80 rfl rfl), by decide +kernel, by decide +kernel, by decide +kernel, by decide +kernel⟩
def M_X4_addStation : q_M := (yX4_addStation, cX4_addStation, 6, none, [], { frames := 2, cells := 0, slots := 0, locals := 43 })
theorem mo_X4_addStation : q_MO M_X4_addStation 4 := ⟨(q_uw 458 rfl rfl), (q_uw 79 rfl rfl), by decide +kernel, by decide +kernel, by decide +kernel, by decide +kernel⟩
def M_X4_buyerAt : q_M := (yX4_buyerAt, cX4_buyerAt, 2, (some (.object "RecyclingLine$Buyer")), [], { frames := 0, cells := 0, slots := 0, locals := 0 })
theorem mo_X4_buyerAt : q_MO M_X4_buyerAt 1 := ⟨(q_uw 1038 rfl rfl), (q_uw 79 rfl rfl), by decide +kernel, by decide +kernel, by decide +kernel, by decide +kernel⟩
def M_X4_buyerNamed : q_M := (yX4_buyerNamed, cX4_buyerNamed, 3, (some .int), [], { frames := 0, cells := 0, slots := 0, locals := 0 })
theorem mo_X4_buyerNamed : q_MO M_X4_buyerNamed 1 := ⟨(q_uw 700 rfl rfl), (q_uw 79 rfl rfl), by decide +kernel, by decide +kernel, by decide +kernel, by decide +kernel⟩
def M_X4_copyFrom : q_M := (yX4_copyFrom, cX4_copyFrom, 3, none, [], { frames := 4, cells := 0, slots := 0, locals := 144 })
theorem mo_X4_copyFrom : q_MO M_X4_copyFrom 1 := ⟨(q_uw 759 rfl rfl), (q_uw 79 rfl rfl), by decide +kernel, by decide +kernel, by decide +kernel, by decide +kernel⟩
def M_X4_feedBelt : q_M := (yX4_feedBelt, cX4_feedBelt, 3, none, [], { frames := 3, cells := 0, slots := 0, locals := 69 })
theorem mo_X4_feedBelt : q_MO M_X4_feedBelt 0 := ⟨(q_uw 835 rfl rfl), (q_uw 79 rfl rfl), by decide +kernel, by decide +kernel, by decide +kernel, by decide +kernel⟩
def M_X4_goesRound : q_M := (yX4_goesRound, cX4_goesRound, 4, (some .boolean), [], { frames := 1, cells := 0, slots := 0, locals := 22 })
theorem mo_X4_goesRound : q_MO M_X4_goesRound 1 := ⟨(q_uw 813 rfl rfl), (q_uw 79 rfl rfl), by decide +kernel, by decide +kernel, by decide +kernel, by decide +kernel⟩
def M_X4_greatestTiredness : q_M := (yX4_greatestTiredness, cX4_greatestTiredness, 3, (some .int), [], { frames := 1, cells := 0, slots := 0, locals := 40 })
theorem mo_X4_greatestTiredness : q_MO M_X4_greatestTiredness 0 := ⟨(q_uw 1180 rfl rfl), (q_uw 79 rfl rfl), by decide +kernel, by decide +kernel, by decide +kernel, by decide +kernel⟩
def M_X4_handOver : q_M := (yX4_handOver, cX4_handOver, 4, (some .int), [], { frames := 2, cells := 0, slots := 0, locals := 64 })
theorem mo_X4_handOver : q_MO M_X4_handOver 2 := ⟨(q_uw 1138 rfl rfl), (q_uw 79 rfl rfl), by decide +kernel, by decide +kernel, by decide +kernel, by decide +kernel⟩
def M_X4_hasMaterial : q_M := (yX4_hasMaterial, cX4_hasMaterial, 2, (some .boolean), [], { frames := 0, cells := 0, slots := 0, locals := 0 })
theorem mo_X4_hasMaterial : q_MO M_X4_hasMaterial 1 := ⟨(q_uw 1008 rfl rfl), (q_uw 79 rfl rfl), by decide +kernel, by decide +kernel, by decide +kernel, by decide +kernel⟩
def M_X4_heapAt : q_M := (yX4_heapAt, cX4_heapAt, 4, (some (.object "RecyclingLine$Heap")), [], { frames := 1, cells := 0, slots := 0, locals := 21 })
theorem mo_X4_heapAt : q_MO M_X4_heapAt 1 := ⟨(q_uw 1013 rfl rfl), (q_uw 79 rfl rfl), by decide +kernel, by decide +kernel, by decide +kernel, by decide +kernel⟩
def M_X4_init : q_M := (yX4_init, cX4_init, 2, none, [], { frames := 4, cells := 276, slots := 1193, locals := 101 })
theorem mo_X4_init : q_MO M_X4_init 0 := ⟨(q_uw 115 rfl rfl), (q_uw 79 rfl rfl), by decide +kernel, by decide +kernel, by decide +kernel, by decide +kernel⟩
def M_X4_isEmptied : q_M := (yX4_isEmptied, cX4_isEmptied, 1, (some .boolean), [], { frames := 2, cells := 0, slots := 0, locals := 42 })
theorem mo_X4_isEmptied : q_MO M_X4_isEmptied 0 := ⟨(q_uw 796 rfl rfl), (q_uw 79 rfl rfl), by decide +kernel, by decide +kernel, by decide +kernel, by decide +kernel⟩
def M_X4_isTarget : q_M := (yX4_isTarget, cX4_isTarget, 3, (some .boolean), [], { frames := 0, cells := 0, slots := 0, locals := 0 })
theorem mo_X4_isTarget : q_MO M_X4_isTarget 1 := ⟨(q_uw 818 rfl rfl), (q_uw 79 rfl rfl), by decide +kernel, by decide +kernel, by decide +kernel, by decide +kernel⟩
def M_X4_leaveBelt : q_M := (yX4_leaveBelt, cX4_leaveBelt, 4, none, [], { frames := 3, cells := 0, slots := 0, locals := 65 })
theorem mo_X4_leaveBelt : q_MO M_X4_leaveBelt 0 := ⟨(q_uw 805 rfl rfl), (q_uw 79 rfl rfl), by decide +kernel, by decide +kernel, by decide +kernel, by decide +kernel⟩
def M_X4_makeTicks : q_M := (yX4_makeTicks, cX4_makeTicks, 4, none, [], { frames := 5, cells := 0, slots := 0, locals := 113 })
theorem mo_X4_makeTicks : q_MO M_X4_makeTicks 1 := ⟨(q_uw 801 rfl rfl), (q_uw 79 rfl rfl), by decide +kernel, by decide +kernel, by decide +kernel, by decide +kernel⟩
def M_X4_massInBunkers : q_M := (yX4_massInBunkers, cX4_massInBunkers, 3, (some .int), [], { frames := 0, cells := 0, slots := 0, locals := 0 })
theorem mo_X4_massInBunkers : q_MO M_X4_massInBunkers 0 := ⟨(q_uw 734 rfl rfl), (q_uw 79 rfl rfl), by decide +kernel, by decide +kernel, by decide +kernel, by decide +kernel⟩
def M_X4_massOnBelt : q_M := (yX4_massOnBelt, cX4_massOnBelt, 3, (some .int), [], { frames := 0, cells := 0, slots := 0, locals := 0 })
theorem mo_X4_massOnBelt : q_MO M_X4_massOnBelt 0 := ⟨(q_uw 730 rfl rfl), (q_uw 79 rfl rfl), by decide +kernel, by decide +kernel, by decide +kernel, by decide +kernel⟩
def M_X4_moveBelt : q_M := (yX4_moveBelt, cX4_moveBelt, 3, none, [], { frames := 0, cells := 0, slots := 0, locals := 0 })
theorem mo_X4_moveBelt : q_MO M_X4_moveBelt 0 := ⟨(q_uw 831 rfl rfl), (q_uw 79 rfl rfl), by decide +kernel, by decide +kernel, by decide +kernel, by decide +kernel⟩
def M_X4_parcelsOnBelt : q_M := (yX4_parcelsOnBelt, cX4_parcelsOnBelt, 3, (some .int), [], { frames := 1, cells := 0, slots := 0, locals := 20 })
theorem mo_X4_parcelsOnBelt : q_MO M_X4_parcelsOnBelt 0 := ⟨(q_uw 714 rfl rfl), (q_uw 79 rfl rfl), by decide +kernel, by decide +kernel, by decide +kernel, by decide +kernel⟩
def M_X4_pressBale : q_M := (yX4_pressBale, cX4_pressBale, 3, none, [], { frames := 3, cells := 0, slots := 0, locals := 69 })
theorem mo_X4_pressBale : q_MO M_X4_pressBale 1 := ⟨(q_uw 882 rfl rfl), (q_uw 79 rfl rfl), by decide +kernel, by decide +kernel, by decide +kernel, by decide +kernel⟩
def M_X4_pressBales : q_M := (yX4_pressBales, cX4_pressBales, 3, none, [], { frames := 4, cells := 0, slots := 0, locals := 91 })
theorem mo_X4_pressBales : q_MO M_X4_pressBales 1 := ⟨(q_uw 878 rfl rfl), (q_uw 79 rfl rfl), by decide +kernel, by decide +kernel, by decide +kernel, by decide +kernel⟩
def M_X4_reset : q_M := (yX4_reset, cX4_reset, 1, none, [], { frames := 2, cells := 1, slots := 10, locals := 80 })
theorem mo_X4_reset : q_MO M_X4_reset 0 := ⟨(q_uw 554 rfl rfl), (q_uw 79 rfl rfl), by decide +kernel, by decide +kernel, by decide +kernel, by decide +kernel⟩
def M_X4_stationAt : q_M := (yX4_stationAt, cX4_stationAt, 2, (some (.object "RecyclingLine$Station")), [], { frames := 0, cells := 0, slots := 0, locals := 0 })
theorem mo_X4_stationAt : q_MO M_X4_stationAt 1 := ⟨(q_uw 809 rfl rfl), (q_uw 79 rfl rfl), by decide +kernel, by decide +kernel, by decide +kernel, by decide +kernel⟩
def M_X4_takeBack : q_M := (yX4_takeBack, cX4_takeBack, 3, none, [], { frames := 3, cells := 0, slots := 0, locals := 65 })
theorem mo_X4_takeBack : q_MO M_X4_takeBack 1 := ⟨(q_uw 1134 rfl rfl), (q_uw 79 rfl rfl), by decide +kernel, by decide +kernel, by decide +kernel, by decide +kernel⟩
def M_X5_copyFrom : q_M := (yX5_copyFrom, cX5_copyFrom, 2, none, [], { frames := 2, cells := 0, slots := 0, locals := 101 })
theorem mo_X5_copyFrom : q_MO M_X5_copyFrom 1 := ⟨(q_uw 767 rfl rfl), (q_uw 81 rfl rfl), by decide +kernel, by decide +kernel, by decide +kernel, by decide +kernel⟩
def M_X5_init : q_M := (yX5_init, cX5_init, 1, none, [], { frames := 2, cells := 2, slots := 8, locals := 60 })
theorem mo_X5_init : q_MO M_X5_init 0 := ⟨(q_uw 141 rfl rfl), (q_uw 81 rfl rfl), by decide +kernel, by decide +kernel, by decide +kernel, by decide +kernel⟩
def M_X6_capacity : q_M := (yX6_capacity, cX6_capacity, 1, (some .int), [], { frames := 0, cells := 0, slots := 0, locals := 0 })
theorem mo_X6_capacity : q_MO M_X6_capacity 0 := ⟨(q_uw 866 rfl rfl), (q_uw 86 rfl rfl), by decide +kernel, by decide +kernel, by decide +kernel, by decide +kernel⟩
def M_X6_copyFrom : q_M := (yX6_copyFrom, cX6_copyFrom, 2, none, [], { frames := 3, cells := 0, slots := 0, locals := 122 })
theorem mo_X6_copyFrom : q_MO M_X6_copyFrom 1 := ⟨(q_uw 763 rfl rfl), (q_uw 86 rfl rfl), by decide +kernel, by decide +kernel, by decide +kernel, by decide +kernel⟩
def M_X6_init : q_M := (yX6_init, cX6_init, 1, none, [], { frames := 3, cells := 5, slots := 18, locals := 80 })
theorem mo_X6_init : q_MO M_X6_init 0 := ⟨(q_uw 306 rfl rfl), (q_uw 86 rfl rfl), by decide +kernel, by decide +kernel, by decide +kernel, by decide +kernel⟩
def M_X6_isSlotEmpty : q_M := (yX6_isSlotEmpty, cX6_isSlotEmpty, 1, (some .boolean), [], { frames := 0, cells := 0, slots := 0, locals := 0 })
theorem mo_X6_isSlotEmpty : q_MO M_X6_isSlotEmpty 0 := ⟨(q_uw 718 rfl rfl), (q_uw 86 rfl rfl), by decide +kernel, by decide +kernel, by decide +kernel, by decide +kernel⟩
def M_X6_pick : q_M := (yX6_pick, cX6_pick, 6, none, [], { frames := 1, cells := 0, slots := 0, locals := 40 })
theorem mo_X6_pick : q_MO M_X6_pick 1 := ⟨(q_uw 861 rfl rfl), (q_uw 86 rfl rfl), by decide +kernel, by decide +kernel, by decide +kernel, by decide +kernel⟩
def M_X6_relieve : q_M := (yX6_relieve, cX6_relieve, 2, none, [], { frames := 0, cells := 0, slots := 0, locals := 0 })
theorem mo_X6_relieve : q_MO M_X6_relieve 1 := ⟨(q_uw 462 rfl rfl), (q_uw 86 rfl rfl), by decide +kernel, by decide +kernel, by decide +kernel, by decide +kernel⟩
def M_X7_addLast : q_M := (yX7_addLast, cX7_addLast, 2, (some (.object "RecyclingLine$Bale")), [], { frames := 2, cells := 0, slots := 0, locals := 43 })
theorem mo_X7_addLast : q_MO M_X7_addLast 0 := ⟨(q_uw 886 rfl rfl), (q_uw 83 rfl rfl), by decide +kernel, by decide +kernel, by decide +kernel, by decide +kernel⟩
def M_X7_baleAt : q_M := (yX7_baleAt, cX7_baleAt, 2, (some (.object "RecyclingLine$Bale")), [], { frames := 0, cells := 0, slots := 0, locals := 0 })
theorem mo_X7_baleAt : q_MO M_X7_baleAt 1 := ⟨(q_uw 1025 rfl rfl), (q_uw 83 rfl rfl), by decide +kernel, by decide +kernel, by decide +kernel, by decide +kernel⟩
def M_X7_copyFrom : q_M := (yX7_copyFrom, cX7_copyFrom, 3, none, [], { frames := 3, cells := 0, slots := 0, locals := 122 })
theorem mo_X7_copyFrom : q_MO M_X7_copyFrom 1 := ⟨(q_uw 786 rfl rfl), (q_uw 83 rfl rfl), by decide +kernel, by decide +kernel, by decide +kernel, by decide +kernel⟩
def M_X7_dropBale : q_M := (yX7_dropBale, cX7_dropBale, 4, none, [], { frames := 1, cells := 0, slots := 0, locals := 21 })
theorem mo_X7_dropBale : q_MO M_X7_dropBale 1 := ⟨(q_uw 1129 rfl rfl), (q_uw 83 rfl rfl), by decide +kernel, by decide +kernel, by decide +kernel, by decide +kernel⟩
def M_X7_init : q_M := (yX7_init, cX7_init, 2, none, [], { frames := 3, cells := 121, slots := 560, locals := 80 })
theorem mo_X7_init : q_MO M_X7_init 0 := ⟨(q_uw 196 rfl rfl), (q_uw 83 rfl rfl), by decide +kernel, by decide +kernel, by decide +kernel, by decide +kernel⟩
def M_X7_totalMass : q_M := (yX7_totalMass, cX7_totalMass, 3, (some .int), [], { frames := 0, cells := 0, slots := 0, locals := 0 })
theorem mo_X7_totalMass : q_MO M_X7_totalMass 0 := ⟨(q_uw 738 rfl rfl), (q_uw 83 rfl rfl), by decide +kernel, by decide +kernel, by decide +kernel, by decide +kernel⟩
def M_X8_copyFrom : q_M := (yX8_copyFrom, cX8_copyFrom, 2, none, [], { frames := 0, cells := 0, slots := 0, locals := 0 })
theorem mo_X8_copyFrom : q_MO M_X8_copyFrom 1 := ⟨(q_uw 561 rfl rfl), (q_uw 85 rfl rfl), by decide +kernel, by decide +kernel, by decide +kernel, by decide +kernel⟩
def M_X8_init : q_M := (yX8_init, cX8_init, 1, none, [], { frames := 1, cells := 0, slots := 0, locals := 40 })
theorem mo_X8_init : q_MO M_X8_init 0 := ⟨(q_uw 251 rfl rfl), (q_uw 85 rfl rfl), by decide +kernel, by decide +kernel, by decide +kernel, by decide +kernel⟩
def M_X9_fail : q_M := (yX9_fail, cX9_fail, 2, none, [], { frames := 0, cells := 0, slots := 0, locals := 0 })
theorem mo_X9_fail : q_MO M_X9_fail 1 := ⟨(q_uw 635 rfl rfl), (q_uw 90 rfl rfl), by decide +kernel, by decide +kernel, by decide +kernel, by decide +kernel⟩
def M_X9_init : q_M := (yX9_init, cX9_init, 4, none, [], { frames := 1, cells := 0, slots := 0, locals := 40 })
theorem mo_X9_init : q_MO M_X9_init 3 := ⟨(q_uw 520 rfl rfl), (q_uw 90 rfl rfl), by decide +kernel, by decide +kernel, by decide +kernel, by decide +kernel⟩
def M_X9_isBlank : q_M := (yX9_isBlank, cX9_isBlank, 1, (some .boolean), [], { frames := 0, cells := 0, slots := 0, locals := 0 })
theorem mo_X9_isBlank : q_MO M_X9_isBlank 1 := ⟨(q_uw 568 rfl rfl), (q_uw 90 rfl rfl), by decide +kernel, by decide +kernel, by decide +kernel, by decide +kernel⟩
def M_X9_isDigit : q_M := (yX9_isDigit, cX9_isDigit, 1, (some .boolean), [], { frames := 0, cells := 0, slots := 0, locals := 0 })
theorem mo_X9_isDigit : q_MO M_X9_isDigit 1 := ⟨(q_uw 574 rfl rfl), (q_uw 90 rfl rfl), by decide +kernel, by decide +kernel, by decide +kernel, by decide +kernel⟩
def M_X9_isKeyword : q_M := (yX9_isKeyword, cX9_isKeyword, 1, (some .boolean), [], { frames := 5, cells := 0, slots := 0, locals := 107 })
theorem mo_X9_isKeyword : q_MO M_X9_isKeyword 0 := ⟨(q_uw 693 rfl rfl), (q_uw 90 rfl rfl), by decide +kernel, by decide +kernel, by decide +kernel, by decide +kernel⟩
def M_X9_isLetter : q_M := (yX9_isLetter, cX9_isLetter, 1, (some .boolean), [], { frames := 0, cells := 0, slots := 0, locals := 0 })
theorem mo_X9_isLetter : q_MO M_X9_isLetter 1 := ⟨(q_uw 571 rfl rfl), (q_uw 90 rfl rfl), by decide +kernel, by decide +kernel, by decide +kernel, by decide +kernel⟩
def M_X9_isWord : q_M := (yX9_isWord, cX9_isWord, 3, (some .boolean), [], { frames := 4, cells := 0, slots := 0, locals := 85 })
theorem mo_X9_isWord : q_MO M_X9_isWord 1 := ⟨(q_uw 579 rfl rfl), (q_uw 90 rfl rfl), by decide +kernel, by decide +kernel, by decide +kernel, by decide +kernel⟩
def M_X9_nameCode : q_M := (yX9_nameCode, cX9_nameCode, 5, (some .int), [], { frames := 1, cells := 0, slots := 0, locals := 20 })
theorem mo_X9_nameCode : q_MO M_X9_nameCode 3 := ⟨(q_uw 696 rfl rfl), (q_uw 90 rfl rfl), by decide +kernel, by decide +kernel, by decide +kernel, by decide +kernel⟩
def M_X9_nextToken : q_M := (yX9_nextToken, cX9_nextToken, 1, none, [], { frames := 1, cells := 0, slots := 0, locals := 20 })
theorem mo_X9_nextToken : q_MO M_X9_nextToken 0 := ⟨(q_uw 565 rfl rfl), (q_uw 90 rfl rfl), by decide +kernel, by decide +kernel, by decide +kernel, by decide +kernel⟩
def M_X9_readBuyer : q_M := (yX9_readBuyer, cX9_readBuyer, 2, none, [], { frames := 7, cells := 0, slots := 0, locals := 148 })
theorem mo_X9_readBuyer : q_MO M_X9_readBuyer 0 := ⟨(q_uw 685 rfl rfl), (q_uw 90 rfl rfl), by decide +kernel, by decide +kernel, by decide +kernel, by decide +kernel⟩
def M_X9_readLoad : q_M := (yX9_readLoad, cX9_readLoad, 3, none, [], { frames := 3, cells := 0, slots := 0, locals := 65 })
theorem mo_X9_readLoad : q_MO M_X9_readLoad 0 := ⟨(q_uw 663 rfl rfl), (q_uw 90 rfl rfl), by decide +kernel, by decide +kernel, by decide +kernel, by decide +kernel⟩
def M_X9_readName : q_M := (yX9_readName, cX9_readName, 2, (some .int), [], { frames := 6, cells := 0, slots := 0, locals := 127 })
theorem mo_X9_readName : q_MO M_X9_readName 0 := ⟨(q_uw 689 rfl rfl), (q_uw 90 rfl rfl), by decide +kernel, by decide +kernel, by decide +kernel, by decide +kernel⟩
def M_X9_readNumber : q_M := (yX9_readNumber, cX9_readNumber, 4, (some .int), [], { frames := 2, cells := 0, slots := 0, locals := 40 })
theorem mo_X9_readNumber : q_MO M_X9_readNumber 2 := ⟨(q_uw 631 rfl rfl), (q_uw 90 rfl rfl), by decide +kernel, by decide +kernel, by decide +kernel, by decide +kernel⟩
def M_X9_readSemicolon : q_M := (yX9_readSemicolon, cX9_readSemicolon, 1, none, [], { frames := 2, cells := 0, slots := 0, locals := 40 })
theorem mo_X9_readSemicolon : q_MO M_X9_readSemicolon 0 := ⟨(q_uw 639 rfl rfl), (q_uw 90 rfl rfl), by decide +kernel, by decide +kernel, by decide +kernel, by decide +kernel⟩
def M_X9_readSetting : q_M := (yX9_readSetting, cX9_readSetting, 2, none, [], { frames := 3, cells := 0, slots := 0, locals := 63 })
theorem mo_X9_readSetting : q_MO M_X9_readSetting 0 := ⟨(q_uw 654 rfl rfl), (q_uw 90 rfl rfl), by decide +kernel, by decide +kernel, by decide +kernel, by decide +kernel⟩
def M_X9_readStatement : q_M := (yX9_readStatement, cX9_readStatement, 1, none, [], { frames := 8, cells := 0, slots := 0, locals := 169 })
theorem mo_X9_readStatement : q_MO M_X9_readStatement 0 := ⟨(q_uw 643 rfl rfl), (q_uw 90 rfl rfl), by decide +kernel, by decide +kernel, by decide +kernel, by decide +kernel⟩
def M_X9_readStation : q_M := (yX9_readStation, cX9_readStation, 5, none, [], { frames := 3, cells := 0, slots := 0, locals := 68 })
theorem mo_X9_readStation : q_MO M_X9_readStation 0 := ⟨(q_uw 648 rfl rfl), (q_uw 90 rfl rfl), by decide +kernel, by decide +kernel, by decide +kernel, by decide +kernel⟩
def M_X9_readText : q_M := (yX9_readText, cX9_readText, 2, (some .int), [], { frames := 9, cells := 1, slots := 10, locals := 189 })
theorem mo_X9_readText : q_MO M_X9_readText 0 := ⟨(q_uw 550 rfl rfl), (q_uw 90 rfl rfl), by decide +kernel, by decide +kernel, by decide +kernel, by decide +kernel⟩
theorem ac_byte : Cond.arrayClass .byte ∈ q_UW := (q_uw 163 rfl rfl)
theorem ac_double : Cond.arrayClass .double ∈ q_UW := (q_uw 1630 rfl rfl)
theorem ac_int : Cond.arrayClass .int ∈ q_UW := (q_uw 164 rfl rfl)
theorem ac_long : Cond.arrayClass .long ∈ q_UW := (q_uw 1281 rfl rfl)
theorem c2_X10_269 : Cond.constantLong RX10 269 (-1) ∈ q_UW := (q_uw 739 rfl rfl)
theorem c2_X11_127 : Cond.constantLong RX11 127 (27) ∈ q_UW := (q_uw 1383 rfl rfl)
theorem c2_X11_129 : Cond.constantLong RX11 129 (96) ∈ q_UW := (q_uw 1384 rfl rfl)
theorem c2_X11_185 : Cond.constantLong RX11 185 (6) ∈ q_UW := (q_uw 1396 rfl rfl)
theorem c2_X11_258 : Cond.constantLong RX11 258 (7) ∈ q_UW := (q_uw 1416 rfl rfl)
theorem c2_X11_267 : Cond.constantLong RX11 267 (10) ∈ q_UW := (q_uw 1429 rfl rfl)
theorem c2_X11_272 : Cond.constantLong RX11 272 (46) ∈ q_UW := (q_uw 1450 rfl rfl)
theorem c2_X11_283 : Cond.constantLong RX11 283 (5) ∈ q_UW := (q_uw 1474 rfl rfl)
theorem c2_X11_285 : Cond.constantLong RX11 285 (-1) ∈ q_UW := (q_uw 1479 rfl rfl)
theorem c2_X11_287 : Cond.constantLong RX11 287 (999) ∈ q_UW := (q_uw 1492 rfl rfl)
theorem c2_X11_292 : Cond.constantLong RX11 292 (9) ∈ q_UW := (q_uw 1505 rfl rfl)
theorem c2_X11_297 : Cond.constantLong RX11 297 (200) ∈ q_UW := (q_uw 1514 rfl rfl)
theorem c2_X11_318 : Cond.constantLong RX11 318 (4) ∈ q_UW := (q_uw 1608 rfl rfl)
theorem c2_X11_326 : Cond.constantLong RX11 326 (100) ∈ q_UW := (q_uw 1621 rfl rfl)
theorem cn_X4_13 : Cond.methodLink RX4 13 ⟨"[I", "clone", "()Ljava/lang/Object;"⟩ ∈ q_UW ∧ Cond.sameMethod "[I" "java/lang/Object" "clone" "()Ljava/lang/Object;" ∈ q_UW ∧ Cond.native ⟨"java/lang/Object", "clone", "()Ljava/lang/Object;"⟩ ∈ q_UW ∧ Cond.instanceMethod ⟨"java/lang/Object", "clone", "()Ljava/lang/Object;"⟩ ∈ q_UW ∧ Cond.selects "[I" ⟨"[I", "clone", "()Ljava/lang/Object;"⟩ ⟨"java/lang/Object", "clone", "()Ljava/lang/Object;"⟩ ∈ q_UW ∧ Cond.castable "[I" "java/lang/Cloneable" ∈ q_NW := ⟨(q_uw 119 rfl rfl), (q_uw 120 rfl rfl), (q_uw 121 rfl rfl), (q_uw 122 rfl rfl), (q_uw 123 rfl rfl), (q_nwi 124 rfl rfl)⟩
theorem cp_X2_25 : Cond.methodLink RX2 25 arraycopyName ∈ q_UW ∧ Cond.native arraycopyName ∈ q_UW ∧ Cond.static arraycopyName ∈ q_UW ∧ Cond.initialized "java/lang/System" ∈ q_UW := ⟨(q_uw 772 rfl rfl), (q_uw 557 rfl rfl), (q_uw 556 rfl rfl), (q_uw 91 rfl rfl)⟩
theorem cp_X4_256 : Cond.methodLink RX4 256 arraycopyName ∈ q_UW ∧ Cond.native arraycopyName ∈ q_UW ∧ Cond.static arraycopyName ∈ q_UW ∧ Cond.initialized "java/lang/System" ∈ q_UW := ⟨(q_uw 555 rfl rfl), (q_uw 557 rfl rfl), (q_uw 556 rfl rfl), (q_uw 91 rfl rfl)⟩
theorem fl_X0_10 : q_FL RX0 10 0 4 true := ⟨_, _, _, ck0, by decide, rfl, Or.inl (q_uw 221 rfl rfl)⟩
theorem fl_X0_16 : q_FL RX0 16 2 1 false := ⟨_, _, _, ck2, by decide, rfl, Or.inr ⟨_, (q_nwi 150 rfl rfl)⟩⟩
theorem fl_X0_20 : q_FL RX0 20 0 1 false := ⟨_, _, _, ck0, by decide, rfl, Or.inl (q_uw 211 rfl rfl)⟩
theorem fl_X0_27 : q_FL RX0 27 0 2 false := ⟨_, _, _, ck0, by decide, rfl, Or.inl (q_uw 214 rfl rfl)⟩
theorem fl_X0_30 : q_FL RX0 30 0 3 false := ⟨_, _, _, ck0, by decide, rfl, Or.inl (q_uw 218 rfl rfl)⟩
theorem fl_X0_33 : q_FL RX0 33 0 0 false := ⟨_, _, _, ck0, by decide, rfl, Or.inl (q_uw 207 rfl rfl)⟩
theorem fl_X1_13 : q_FL RX1 13 1 1 false := ⟨_, _, _, ck1, by decide, rfl, Or.inl (q_uw 365 rfl rfl)⟩
theorem fl_X1_16 : q_FL RX1 16 0 3 false := ⟨_, _, _, ck0, by decide, rfl, Or.inr ⟨_, (q_nwi 217 rfl rfl)⟩⟩
theorem fl_X1_19 : q_FL RX1 19 1 2 false := ⟨_, _, _, ck1, by decide, rfl, Or.inl (q_uw 368 rfl rfl)⟩
theorem fl_X1_22 : q_FL RX1 22 0 2 false := ⟨_, _, _, ck0, by decide, rfl, Or.inr ⟨_, (q_nwi 215 rfl rfl)⟩⟩
theorem fl_X1_25 : q_FL RX1 25 1 5 false := ⟨_, _, _, ck1, by decide, rfl, Or.inl (q_uw 377 rfl rfl)⟩
theorem fl_X1_28 : q_FL RX1 28 1 4 false := ⟨_, _, _, ck1, by decide, rfl, Or.inl (q_uw 374 rfl rfl)⟩
theorem fl_X1_39 : q_FL RX1 39 1 3 false := ⟨_, _, _, ck1, by decide, rfl, Or.inl (q_uw 371 rfl rfl)⟩
theorem fl_X1_48 : q_FL RX1 48 1 0 false := ⟨_, _, _, ck1, by decide, rfl, Or.inl (q_uw 363 rfl rfl)⟩
theorem fl_X1_51 : q_FL RX1 51 1 6 false := ⟨_, _, _, ck1, by decide, rfl, Or.inl (q_uw 380 rfl rfl)⟩
theorem fl_X1_7 : q_FL RX1 7 0 1 false := ⟨_, _, _, ck0, by decide, rfl, Or.inr ⟨_, (q_nwi 210 rfl rfl)⟩⟩
theorem fl_X10_100 : q_FL RX10 100 8 1 false := ⟨_, _, _, ck8, by decide, rfl, Or.inr ⟨_, (q_nwi 257 rfl rfl)⟩⟩
theorem fl_X10_103 : q_FL RX10 103 8 4 false := ⟨_, _, _, ck8, by decide, rfl, Or.inr ⟨_, (q_nwi 266 rfl rfl)⟩⟩
theorem fl_X10_106 : q_FL RX10 106 8 5 false := ⟨_, _, _, ck8, by decide, rfl, Or.inr ⟨_, (q_nwi 269 rfl rfl)⟩⟩
theorem fl_X10_109 : q_FL RX10 109 8 6 false := ⟨_, _, _, ck8, by decide, rfl, Or.inr ⟨_, (q_nwi 272 rfl rfl)⟩⟩
theorem fl_X10_119 : q_FL RX10 119 4 1 true := ⟨_, _, _, ck4, by decide, rfl, Or.inr ⟨_, (q_nwi 404 rfl rfl)⟩⟩
theorem fl_X10_129 : q_FL RX10 129 6 0 false := ⟨_, _, _, ck6, by decide, rfl, Or.inr ⟨_, (q_nwi 313 rfl rfl)⟩⟩
theorem fl_X10_134 : q_FL RX10 134 6 1 false := ⟨_, _, _, ck6, by decide, rfl, Or.inr ⟨_, (q_nwi 316 rfl rfl)⟩⟩
theorem fl_X10_137 : q_FL RX10 137 6 2 false := ⟨_, _, _, ck6, by decide, rfl, Or.inr ⟨_, (q_nwi 318 rfl rfl)⟩⟩
theorem fl_X10_140 : q_FL RX10 140 6 3 false := ⟨_, _, _, ck6, by decide, rfl, Or.inr ⟨_, (q_nwi 321 rfl rfl)⟩⟩
theorem fl_X10_143 : q_FL RX10 143 6 4 false := ⟨_, _, _, ck6, by decide, rfl, Or.inr ⟨_, (q_nwi 325 rfl rfl)⟩⟩
theorem fl_X10_149 : q_FL RX10 149 6 8 true := ⟨_, _, _, ck6, by decide, rfl, Or.inr ⟨_, (q_nwi 337 rfl rfl)⟩⟩
theorem fl_X10_153 : q_FL RX10 153 2 1 false := ⟨_, _, _, ck2, by decide, rfl, Or.inr ⟨_, (q_nwi 157 rfl rfl)⟩⟩
theorem fl_X10_158 : q_FL RX10 158 6 7 false := ⟨_, _, _, ck6, by decide, rfl, Or.inr ⟨_, (q_nwi 334 rfl rfl)⟩⟩
theorem fl_X10_16 : q_FL RX10 16 10 2 false := ⟨_, _, _, ck10, by decide, rfl, Or.inl (q_uw 472 rfl rfl)⟩
theorem fl_X10_162 : q_FL RX10 162 5 0 true := ⟨_, _, _, ck5, by decide, rfl, Or.inr ⟨_, (q_nwi 170 rfl rfl)⟩⟩
theorem fl_X10_171 : q_FL RX10 171 5 1 false := ⟨_, _, _, ck5, by decide, rfl, Or.inr ⟨_, (q_nwi 173 rfl rfl)⟩⟩
theorem fl_X10_174 : q_FL RX10 174 6 5 false := ⟨_, _, _, ck6, by decide, rfl, Or.inr ⟨_, (q_nwi 327 rfl rfl)⟩⟩
theorem fl_X10_175 : q_FL RX10 175 6 6 false := ⟨_, _, _, ck6, by decide, rfl, Or.inr ⟨_, (q_nwi 330 rfl rfl)⟩⟩
theorem fl_X10_20 : q_FL RX10 20 10 4 true := ⟨_, _, _, ck10, by decide, rfl, Or.inl (q_uw 474 rfl rfl)⟩
theorem fl_X10_204 : q_FL RX10 204 0 0 false := ⟨_, _, _, ck0, by decide, rfl, Or.inr ⟨_, (q_nwi 208 rfl rfl)⟩⟩
theorem fl_X10_209 : q_FL RX10 209 0 1 false := ⟨_, _, _, ck0, by decide, rfl, Or.inr ⟨_, (q_nwi 212 rfl rfl)⟩⟩
theorem fl_X10_212 : q_FL RX10 212 0 4 true := ⟨_, _, _, ck0, by decide, rfl, Or.inr ⟨_, (q_nwi 223 rfl rfl)⟩⟩
theorem fl_X10_213 : q_FL RX10 213 0 2 false := ⟨_, _, _, ck0, by decide, rfl, Or.inr ⟨_, (q_nwi 216 rfl rfl)⟩⟩
theorem fl_X10_216 : q_FL RX10 216 0 3 false := ⟨_, _, _, ck0, by decide, rfl, Or.inr ⟨_, (q_nwi 219 rfl rfl)⟩⟩
theorem fl_X10_227 : q_FL RX10 227 1 1 false := ⟨_, _, _, ck1, by decide, rfl, Or.inr ⟨_, (q_nwi 367 rfl rfl)⟩⟩
theorem fl_X10_230 : q_FL RX10 230 1 2 false := ⟨_, _, _, ck1, by decide, rfl, Or.inr ⟨_, (q_nwi 370 rfl rfl)⟩⟩
theorem fl_X10_233 : q_FL RX10 233 1 3 false := ⟨_, _, _, ck1, by decide, rfl, Or.inr ⟨_, (q_nwi 373 rfl rfl)⟩⟩
theorem fl_X10_236 : q_FL RX10 236 1 4 false := ⟨_, _, _, ck1, by decide, rfl, Or.inr ⟨_, (q_nwi 376 rfl rfl)⟩⟩
theorem fl_X10_239 : q_FL RX10 239 1 5 false := ⟨_, _, _, ck1, by decide, rfl, Or.inr ⟨_, (q_nwi 379 rfl rfl)⟩⟩
theorem fl_X10_24 : q_FL RX10 24 4 0 false := ⟨_, _, _, ck4, by decide, rfl, Or.inr ⟨_, (q_nwi 399 rfl rfl)⟩⟩
theorem fl_X10_242 : q_FL RX10 242 1 6 false := ⟨_, _, _, ck1, by decide, rfl, Or.inr ⟨_, (q_nwi 382 rfl rfl)⟩⟩
theorem fl_X10_247 : q_FL RX10 247 8 7 false := ⟨_, _, _, ck8, by decide, rfl, Or.inr ⟨_, (q_nwi 276 rfl rfl)⟩⟩
theorem fl_X10_260 : q_FL RX10 260 8 8 false := ⟨_, _, _, ck8, by decide, rfl, Or.inr ⟨_, (q_nwi 278 rfl rfl)⟩⟩
theorem fl_X10_263 : q_FL RX10 263 4 8 true := ⟨_, _, _, ck4, by decide, rfl, Or.inr ⟨_, (q_nwi 421 rfl rfl)⟩⟩
theorem fl_X10_266 : q_FL RX10 266 8 9 false := ⟨_, _, _, ck8, by decide, rfl, Or.inr ⟨_, (q_nwi 281 rfl rfl)⟩⟩
theorem fl_X10_271 : q_FL RX10 271 4 10 true := ⟨_, _, _, ck4, by decide, rfl, Or.inr ⟨_, (q_nwi 426 rfl rfl)⟩⟩
theorem fl_X10_274 : q_FL RX10 274 4 11 true := ⟨_, _, _, ck4, by decide, rfl, Or.inr ⟨_, (q_nwi 428 rfl rfl)⟩⟩
theorem fl_X10_32 : q_FL RX10 32 10 1 false := ⟨_, _, _, ck10, by decide, rfl, Or.inl (q_uw 471 rfl rfl)⟩
theorem fl_X10_343 : q_FL RX10 343 10 6 false := ⟨_, _, _, ck10, by decide, rfl, Or.inl (q_uw 476 rfl rfl)⟩
theorem fl_X10_346 : q_FL RX10 346 4 4 true := ⟨_, _, _, ck4, by decide, rfl, Or.inr ⟨_, (q_nwi 411 rfl rfl)⟩⟩
theorem fl_X10_359 : q_FL RX10 359 8 2 false := ⟨_, _, _, ck8, by decide, rfl, Or.inr ⟨_, (q_nwi 261 rfl rfl)⟩⟩
theorem fl_X10_362 : q_FL RX10 362 8 3 false := ⟨_, _, _, ck8, by decide, rfl, Or.inr ⟨_, (q_nwi 264 rfl rfl)⟩⟩
theorem fl_X10_52 : q_FL RX10 52 10 3 false := ⟨_, _, _, ck10, by decide, rfl, Or.inl (q_uw 473 rfl rfl)⟩
theorem fl_X10_55 : q_FL RX10 55 10 5 false := ⟨_, _, _, ck10, by decide, rfl, Or.inl (q_uw 475 rfl rfl)⟩
theorem fl_X10_58 : q_FL RX10 58 4 3 false := ⟨_, _, _, ck4, by decide, rfl, Or.inr ⟨_, (q_nwi 408 rfl rfl)⟩⟩
theorem fl_X10_69 : q_FL RX10 69 4 5 false := ⟨_, _, _, ck4, by decide, rfl, Or.inr ⟨_, (q_nwi 414 rfl rfl)⟩⟩
theorem fl_X10_72 : q_FL RX10 72 4 9 true := ⟨_, _, _, ck4, by decide, rfl, Or.inr ⟨_, (q_nwi 424 rfl rfl)⟩⟩
theorem fl_X10_76 : q_FL RX10 76 8 0 false := ⟨_, _, _, ck8, by decide, rfl, Or.inr ⟨_, (q_nwi 254 rfl rfl)⟩⟩
theorem fl_X10_81 : q_FL RX10 81 4 6 true := ⟨_, _, _, ck4, by decide, rfl, Or.inr ⟨_, (q_nwi 417 rfl rfl)⟩⟩
theorem fl_X10_85 : q_FL RX10 85 3 2 false := ⟨_, _, _, ck3, by decide, rfl, Or.inr ⟨_, (q_nwi 183 rfl rfl)⟩⟩
theorem fl_X10_9 : q_FL RX10 9 10 0 true := ⟨_, _, _, ck10, by decide, rfl, Or.inl (q_uw 470 rfl rfl)⟩
theorem fl_X10_93 : q_FL RX10 93 4 7 true := ⟨_, _, _, ck4, by decide, rfl, Or.inr ⟨_, (q_nwi 419 rfl rfl)⟩⟩
theorem fl_X10_97 : q_FL RX10 97 7 1 false := ⟨_, _, _, ck7, by decide, rfl, Or.inr ⟨_, (q_nwi 238 rfl rfl)⟩⟩
theorem fl_X11_1 : q_FL RX11 1 11 0 false := ⟨_, _, _, ck11, by decide, rfl, Or.inl (q_uw 1211 rfl rfl)⟩
theorem fl_X11_121 : q_FL RX11 121 11 18 false := ⟨_, _, _, ck11, by decide, rfl, Or.inl (q_uw 1229 rfl rfl)⟩
theorem fl_X11_124 : q_FL RX11 124 11 19 false := ⟨_, _, _, ck11, by decide, rfl, Or.inl (q_uw 1230 rfl rfl)⟩
theorem fl_X11_13 : q_FL RX11 13 11 1 true := ⟨_, _, _, ck11, by decide, rfl, Or.inl (q_uw 1212 rfl rfl)⟩
theorem fl_X11_17 : q_FL RX11 17 11 2 true := ⟨_, _, _, ck11, by decide, rfl, Or.inl (q_uw 1213 rfl rfl)⟩
theorem fl_X11_20 : q_FL RX11 20 11 3 true := ⟨_, _, _, ck11, by decide, rfl, Or.inl (q_uw 1214 rfl rfl)⟩
theorem fl_X11_23 : q_FL RX11 23 11 4 true := ⟨_, _, _, ck11, by decide, rfl, Or.inl (q_uw 1215 rfl rfl)⟩
theorem fl_X11_240 : q_FL RX11 240 11 22 false := ⟨_, _, _, ck11, by decide, rfl, Or.inl (q_uw 1233 rfl rfl)⟩
theorem fl_X11_27 : q_FL RX11 27 11 5 true := ⟨_, _, _, ck11, by decide, rfl, Or.inl (q_uw 1216 rfl rfl)⟩
theorem fl_X11_30 : q_FL RX11 30 11 6 true := ⟨_, _, _, ck11, by decide, rfl, Or.inl (q_uw 1217 rfl rfl)⟩
theorem fl_X11_33 : q_FL RX11 33 11 7 true := ⟨_, _, _, ck11, by decide, rfl, Or.inl (q_uw 1218 rfl rfl)⟩
theorem fl_X11_36 : q_FL RX11 36 11 8 true := ⟨_, _, _, ck11, by decide, rfl, Or.inl (q_uw 1219 rfl rfl)⟩
theorem fl_X11_39 : q_FL RX11 39 11 9 true := ⟨_, _, _, ck11, by decide, rfl, Or.inl (q_uw 1220 rfl rfl)⟩
theorem fl_X11_42 : q_FL RX11 42 11 11 true := ⟨_, _, _, ck11, by decide, rfl, Or.inl (q_uw 1222 rfl rfl)⟩
theorem fl_X11_45 : q_FL RX11 45 11 20 true := ⟨_, _, _, ck11, by decide, rfl, Or.inl (q_uw 1231 rfl rfl)⟩
theorem fl_X11_48 : q_FL RX11 48 11 21 true := ⟨_, _, _, ck11, by decide, rfl, Or.inl (q_uw 1232 rfl rfl)⟩
theorem fl_X11_57 : q_FL RX11 57 11 10 false := ⟨_, _, _, ck11, by decide, rfl, Or.inl (q_uw 1221 rfl rfl)⟩
theorem fl_X11_64 : q_FL RX11 64 11 12 false := ⟨_, _, _, ck11, by decide, rfl, Or.inl (q_uw 1223 rfl rfl)⟩
theorem fl_X11_75 : q_FL RX11 75 11 13 false := ⟨_, _, _, ck11, by decide, rfl, Or.inl (q_uw 1224 rfl rfl)⟩
theorem fl_X11_78 : q_FL RX11 78 11 14 false := ⟨_, _, _, ck11, by decide, rfl, Or.inl (q_uw 1225 rfl rfl)⟩
theorem fl_X11_85 : q_FL RX11 85 11 15 false := ⟨_, _, _, ck11, by decide, rfl, Or.inl (q_uw 1226 rfl rfl)⟩
theorem fl_X11_88 : q_FL RX11 88 11 16 false := ⟨_, _, _, ck11, by decide, rfl, Or.inl (q_uw 1227 rfl rfl)⟩
theorem fl_X11_98 : q_FL RX11 98 11 17 false := ⟨_, _, _, ck11, by decide, rfl, Or.inl (q_uw 1228 rfl rfl)⟩
theorem fl_X2_15 : q_FL RX2 15 2 1 false := ⟨_, _, _, ck2, by decide, rfl, Or.inl (q_uw 152 rfl rfl)⟩
theorem fl_X2_9 : q_FL RX2 9 2 0 true := ⟨_, _, _, ck2, by decide, rfl, Or.inl (q_uw 149 rfl rfl)⟩
theorem fl_X3_11 : q_FL RX3 11 3 0 true := ⟨_, _, _, ck3, by decide, rfl, Or.inl (q_uw 180 rfl rfl)⟩
theorem fl_X3_18 : q_FL RX3 18 3 2 false := ⟨_, _, _, ck3, by decide, rfl, Or.inl (q_uw 182 rfl rfl)⟩
theorem fl_X3_22 : q_FL RX3 22 3 1 false := ⟨_, _, _, ck3, by decide, rfl, Or.inl (q_uw 181 rfl rfl)⟩
theorem fl_X3_29 : q_FL RX3 29 5 0 true := ⟨_, _, _, ck5, by decide, rfl, Or.inr ⟨_, (q_nwi 167 rfl rfl)⟩⟩
theorem fl_X3_41 : q_FL RX3 41 2 1 false := ⟨_, _, _, ck2, by decide, rfl, Or.inr ⟨_, (q_nwi 154 rfl rfl)⟩⟩
theorem fl_X4_101 : q_FL RX4 101 6 8 true := ⟨_, _, _, ck6, by decide, rfl, Or.inr ⟨_, (q_nwi 336 rfl rfl)⟩⟩
theorem fl_X4_108 : q_FL RX4 108 2 1 false := ⟨_, _, _, ck2, by decide, rfl, Or.inr ⟨_, (q_nwi 156 rfl rfl)⟩⟩
theorem fl_X4_111 : q_FL RX4 111 6 4 false := ⟨_, _, _, ck6, by decide, rfl, Or.inr ⟨_, (q_nwi 324 rfl rfl)⟩⟩
theorem fl_X4_120 : q_FL RX4 120 3 2 false := ⟨_, _, _, ck3, by decide, rfl, Or.inr ⟨_, (q_nwi 184 rfl rfl)⟩⟩
theorem fl_X4_127 : q_FL RX4 127 6 0 false := ⟨_, _, _, ck6, by decide, rfl, Or.inr ⟨_, (q_nwi 314 rfl rfl)⟩⟩
theorem fl_X4_140 : q_FL RX4 140 6 5 false := ⟨_, _, _, ck6, by decide, rfl, Or.inr ⟨_, (q_nwi 328 rfl rfl)⟩⟩
theorem fl_X4_165 : q_FL RX4 165 8 0 false := ⟨_, _, _, ck8, by decide, rfl, Or.inr ⟨_, (q_nwi 255 rfl rfl)⟩⟩
theorem fl_X4_172 : q_FL RX4 172 5 1 false := ⟨_, _, _, ck5, by decide, rfl, Or.inr ⟨_, (q_nwi 174 rfl rfl)⟩⟩
theorem fl_X4_18 : q_FL RX4 18 4 1 true := ⟨_, _, _, ck4, by decide, rfl, Or.inl (q_uw 402 rfl rfl)⟩
theorem fl_X4_182 : q_FL RX4 182 8 3 false := ⟨_, _, _, ck8, by decide, rfl, Or.inr ⟨_, (q_nwi 263 rfl rfl)⟩⟩
theorem fl_X4_203 : q_FL RX4 203 7 1 false := ⟨_, _, _, ck7, by decide, rfl, Or.inr ⟨_, (q_nwi 239 rfl rfl)⟩⟩
theorem fl_X4_210 : q_FL RX4 210 0 4 true := ⟨_, _, _, ck0, by decide, rfl, Or.inr ⟨_, (q_nwi 224 rfl rfl)⟩⟩
theorem fl_X4_213 : q_FL RX4 213 8 1 false := ⟨_, _, _, ck8, by decide, rfl, Or.inr ⟨_, (q_nwi 258 rfl rfl)⟩⟩
theorem fl_X4_217 : q_FL RX4 217 0 1 false := ⟨_, _, _, ck0, by decide, rfl, Or.inr ⟨_, (q_nwi 213 rfl rfl)⟩⟩
theorem fl_X4_224 : q_FL RX4 224 8 2 false := ⟨_, _, _, ck8, by decide, rfl, Or.inr ⟨_, (q_nwi 260 rfl rfl)⟩⟩
theorem fl_X4_227 : q_FL RX4 227 0 3 false := ⟨_, _, _, ck0, by decide, rfl, Or.inr ⟨_, (q_nwi 220 rfl rfl)⟩⟩
theorem fl_X4_233 : q_FL RX4 233 8 5 false := ⟨_, _, _, ck8, by decide, rfl, Or.inr ⟨_, (q_nwi 270 rfl rfl)⟩⟩
theorem fl_X4_240 : q_FL RX4 240 1 6 false := ⟨_, _, _, ck1, by decide, rfl, Or.inr ⟨_, (q_nwi 383 rfl rfl)⟩⟩
theorem fl_X4_243 : q_FL RX4 243 8 4 false := ⟨_, _, _, ck8, by decide, rfl, Or.inr ⟨_, (q_nwi 267 rfl rfl)⟩⟩
theorem fl_X4_246 : q_FL RX4 246 8 6 false := ⟨_, _, _, ck8, by decide, rfl, Or.inr ⟨_, (q_nwi 273 rfl rfl)⟩⟩
theorem fl_X4_25 : q_FL RX4 25 4 2 true := ⟨_, _, _, ck4, by decide, rfl, Or.inl (q_uw 405 rfl rfl)⟩
theorem fl_X4_253 : q_FL RX4 253 8 8 false := ⟨_, _, _, ck8, by decide, rfl, Or.inr ⟨_, (q_nwi 279 rfl rfl)⟩⟩
theorem fl_X4_31 : q_FL RX4 31 4 4 true := ⟨_, _, _, ck4, by decide, rfl, Or.inl (q_uw 409 rfl rfl)⟩
theorem fl_X4_38 : q_FL RX4 38 4 6 true := ⟨_, _, _, ck4, by decide, rfl, Or.inl (q_uw 415 rfl rfl)⟩
theorem fl_X4_45 : q_FL RX4 45 4 7 true := ⟨_, _, _, ck4, by decide, rfl, Or.inl (q_uw 418 rfl rfl)⟩
theorem fl_X4_52 : q_FL RX4 52 4 8 true := ⟨_, _, _, ck4, by decide, rfl, Or.inl (q_uw 420 rfl rfl)⟩
theorem fl_X4_59 : q_FL RX4 59 4 9 true := ⟨_, _, _, ck4, by decide, rfl, Or.inl (q_uw 422 rfl rfl)⟩
theorem fl_X4_63 : q_FL RX4 63 4 10 true := ⟨_, _, _, ck4, by decide, rfl, Or.inl (q_uw 425 rfl rfl)⟩
theorem fl_X4_66 : q_FL RX4 66 4 11 true := ⟨_, _, _, ck4, by decide, rfl, Or.inl (q_uw 427 rfl rfl)⟩
theorem fl_X4_71 : q_FL RX4 71 4 0 false := ⟨_, _, _, ck4, by decide, rfl, Or.inl (q_uw 400 rfl rfl)⟩
theorem fl_X4_75 : q_FL RX4 75 4 3 false := ⟨_, _, _, ck4, by decide, rfl, Or.inl (q_uw 406 rfl rfl)⟩
theorem fl_X4_78 : q_FL RX4 78 4 5 false := ⟨_, _, _, ck4, by decide, rfl, Or.inl (q_uw 412 rfl rfl)⟩
theorem fl_X4_81 : q_FL RX4 81 1 0 false := ⟨_, _, _, ck1, by decide, rfl, Or.inr ⟨_, (q_nwi 362 rfl rfl)⟩⟩
theorem fl_X4_88 : q_FL RX4 88 5 0 true := ⟨_, _, _, ck5, by decide, rfl, Or.inr ⟨_, (q_nwi 168 rfl rfl)⟩⟩
theorem fl_X4_97 : q_FL RX4 97 6 7 false := ⟨_, _, _, ck6, by decide, rfl, Or.inr ⟨_, (q_nwi 333 rfl rfl)⟩⟩
theorem fl_X5_10 : q_FL RX5 10 5 0 true := ⟨_, _, _, ck5, by decide, rfl, Or.inl (q_uw 165 rfl rfl)⟩
theorem fl_X5_20 : q_FL RX5 20 5 1 false := ⟨_, _, _, ck5, by decide, rfl, Or.inl (q_uw 171 rfl rfl)⟩
theorem fl_X6_12 : q_FL RX6 12 6 7 false := ⟨_, _, _, ck6, by decide, rfl, Or.inl (q_uw 332 rfl rfl)⟩
theorem fl_X6_21 : q_FL RX6 21 6 8 true := ⟨_, _, _, ck6, by decide, rfl, Or.inl (q_uw 335 rfl rfl)⟩
theorem fl_X6_25 : q_FL RX6 25 6 1 false := ⟨_, _, _, ck6, by decide, rfl, Or.inl (q_uw 315 rfl rfl)⟩
theorem fl_X6_29 : q_FL RX6 29 6 2 false := ⟨_, _, _, ck6, by decide, rfl, Or.inl (q_uw 317 rfl rfl)⟩
theorem fl_X6_32 : q_FL RX6 32 6 4 false := ⟨_, _, _, ck6, by decide, rfl, Or.inl (q_uw 323 rfl rfl)⟩
theorem fl_X6_35 : q_FL RX6 35 5 0 true := ⟨_, _, _, ck5, by decide, rfl, Or.inr ⟨_, (q_nwi 166 rfl rfl)⟩⟩
theorem fl_X6_38 : q_FL RX6 38 2 1 false := ⟨_, _, _, ck2, by decide, rfl, Or.inr ⟨_, (q_nwi 151 rfl rfl)⟩⟩
theorem fl_X6_41 : q_FL RX6 41 6 0 false := ⟨_, _, _, ck6, by decide, rfl, Or.inl (q_uw 312 rfl rfl)⟩
theorem fl_X6_68 : q_FL RX6 68 6 3 false := ⟨_, _, _, ck6, by decide, rfl, Or.inl (q_uw 320 rfl rfl)⟩
theorem fl_X6_71 : q_FL RX6 71 6 6 false := ⟨_, _, _, ck6, by decide, rfl, Or.inl (q_uw 329 rfl rfl)⟩
theorem fl_X6_74 : q_FL RX6 74 6 5 false := ⟨_, _, _, ck6, by decide, rfl, Or.inl (q_uw 326 rfl rfl)⟩
theorem fl_X7_11 : q_FL RX7 11 7 0 true := ⟨_, _, _, ck7, by decide, rfl, Or.inl (q_uw 236 rfl rfl)⟩
theorem fl_X7_18 : q_FL RX7 18 7 1 false := ⟨_, _, _, ck7, by decide, rfl, Or.inl (q_uw 237 rfl rfl)⟩
theorem fl_X7_22 : q_FL RX7 22 0 4 true := ⟨_, _, _, ck0, by decide, rfl, Or.inr ⟨_, (q_nwi 222 rfl rfl)⟩⟩
theorem fl_X7_35 : q_FL RX7 35 2 1 false := ⟨_, _, _, ck2, by decide, rfl, Or.inr ⟨_, (q_nwi 153 rfl rfl)⟩⟩
theorem fl_X8_13 : q_FL RX8 13 8 1 false := ⟨_, _, _, ck8, by decide, rfl, Or.inl (q_uw 256 rfl rfl)⟩
theorem fl_X8_16 : q_FL RX8 16 8 2 false := ⟨_, _, _, ck8, by decide, rfl, Or.inl (q_uw 259 rfl rfl)⟩
theorem fl_X8_19 : q_FL RX8 19 8 3 false := ⟨_, _, _, ck8, by decide, rfl, Or.inl (q_uw 262 rfl rfl)⟩
theorem fl_X8_22 : q_FL RX8 22 8 4 false := ⟨_, _, _, ck8, by decide, rfl, Or.inl (q_uw 265 rfl rfl)⟩
theorem fl_X8_25 : q_FL RX8 25 8 5 false := ⟨_, _, _, ck8, by decide, rfl, Or.inl (q_uw 268 rfl rfl)⟩
theorem fl_X8_28 : q_FL RX8 28 8 6 false := ⟨_, _, _, ck8, by decide, rfl, Or.inl (q_uw 271 rfl rfl)⟩
theorem fl_X8_31 : q_FL RX8 31 8 7 false := ⟨_, _, _, ck8, by decide, rfl, Or.inl (q_uw 274 rfl rfl)⟩
theorem fl_X8_34 : q_FL RX8 34 8 8 false := ⟨_, _, _, ck8, by decide, rfl, Or.inl (q_uw 277 rfl rfl)⟩
theorem fl_X8_37 : q_FL RX8 37 8 9 false := ⟨_, _, _, ck8, by decide, rfl, Or.inl (q_uw 280 rfl rfl)⟩
theorem fl_X8_7 : q_FL RX8 7 8 0 false := ⟨_, _, _, ck8, by decide, rfl, Or.inl (q_uw 253 rfl rfl)⟩
theorem fl_X9_100 : q_FL RX9 100 4 6 true := ⟨_, _, _, ck4, by decide, rfl, Or.inr ⟨_, (q_nwi 416 rfl rfl)⟩⟩
theorem fl_X9_110 : q_FL RX9 110 5 0 true := ⟨_, _, _, ck5, by decide, rfl, Or.inr ⟨_, (q_nwi 169 rfl rfl)⟩⟩
theorem fl_X9_122 : q_FL RX9 122 4 9 true := ⟨_, _, _, ck4, by decide, rfl, Or.inr ⟨_, (q_nwi 423 rfl rfl)⟩⟩
theorem fl_X9_126 : q_FL RX9 126 8 7 false := ⟨_, _, _, ck8, by decide, rfl, Or.inr ⟨_, (q_nwi 275 rfl rfl)⟩⟩
theorem fl_X9_131 : q_FL RX9 131 2 1 false := ⟨_, _, _, ck2, by decide, rfl, Or.inr ⟨_, (q_nwi 155 rfl rfl)⟩⟩
theorem fl_X9_137 : q_FL RX9 137 4 5 false := ⟨_, _, _, ck4, by decide, rfl, Or.inr ⟨_, (q_nwi 413 rfl rfl)⟩⟩
theorem fl_X9_140 : q_FL RX9 140 4 4 true := ⟨_, _, _, ck4, by decide, rfl, Or.inr ⟨_, (q_nwi 410 rfl rfl)⟩⟩
theorem fl_X9_15 : q_FL RX9 15 9 1 true := ⟨_, _, _, ck9, by decide, rfl, Or.inl (q_uw 523 rfl rfl)⟩
theorem fl_X9_175 : q_FL RX9 175 9 4 false := ⟨_, _, _, ck9, by decide, rfl, Or.inl (q_uw 526 rfl rfl)⟩
theorem fl_X9_178 : q_FL RX9 178 9 5 false := ⟨_, _, _, ck9, by decide, rfl, Or.inl (q_uw 527 rfl rfl)⟩
theorem fl_X9_189 : q_FL RX9 189 9 6 false := ⟨_, _, _, ck9, by decide, rfl, Or.inl (q_uw 528 rfl rfl)⟩
theorem fl_X9_19 : q_FL RX9 19 9 2 true := ⟨_, _, _, ck9, by decide, rfl, Or.inl (q_uw 524 rfl rfl)⟩
theorem fl_X9_45 : q_FL RX9 45 4 0 false := ⟨_, _, _, ck4, by decide, rfl, Or.inr ⟨_, (q_nwi 401 rfl rfl)⟩⟩
theorem fl_X9_54 : q_FL RX9 54 9 7 false := ⟨_, _, _, ck9, by decide, rfl, Or.inl (q_uw 529 rfl rfl)⟩
theorem fl_X9_57 : q_FL RX9 57 9 3 false := ⟨_, _, _, ck9, by decide, rfl, Or.inl (q_uw 525 rfl rfl)⟩
theorem fl_X9_63 : q_FL RX9 63 4 3 false := ⟨_, _, _, ck4, by decide, rfl, Or.inr ⟨_, (q_nwi 407 rfl rfl)⟩⟩
theorem fl_X9_9 : q_FL RX9 9 9 0 true := ⟨_, _, _, ck9, by decide, rfl, Or.inl (q_uw 522 rfl rfl)⟩
theorem fl_X9_90 : q_FL RX9 90 4 1 true := ⟨_, _, _, ck4, by decide, rfl, Or.inr ⟨_, (q_nwi 403 rfl rfl)⟩⟩
theorem fp_X0_10 : q_FP RX0 10 0 4 := ⟨_, _, _, ck0, by decide, rfl, (q_uw 221 rfl rfl), rfl⟩
theorem fp_X10_20 : q_FP RX10 20 10 4 := ⟨_, _, _, ck10, by decide, rfl, (q_uw 474 rfl rfl), rfl⟩
theorem fp_X10_9 : q_FP RX10 9 10 0 := ⟨_, _, _, ck10, by decide, rfl, (q_uw 470 rfl rfl), rfl⟩
theorem fp_X11_13 : q_FP RX11 13 11 1 := ⟨_, _, _, ck11, by decide, rfl, (q_uw 1212 rfl rfl), rfl⟩
theorem fp_X11_17 : q_FP RX11 17 11 2 := ⟨_, _, _, ck11, by decide, rfl, (q_uw 1213 rfl rfl), rfl⟩
theorem fp_X11_20 : q_FP RX11 20 11 3 := ⟨_, _, _, ck11, by decide, rfl, (q_uw 1214 rfl rfl), rfl⟩
theorem fp_X11_23 : q_FP RX11 23 11 4 := ⟨_, _, _, ck11, by decide, rfl, (q_uw 1215 rfl rfl), rfl⟩
theorem fp_X11_27 : q_FP RX11 27 11 5 := ⟨_, _, _, ck11, by decide, rfl, (q_uw 1216 rfl rfl), rfl⟩
theorem fp_X11_30 : q_FP RX11 30 11 6 := ⟨_, _, _, ck11, by decide, rfl, (q_uw 1217 rfl rfl), rfl⟩
theorem fp_X11_33 : q_FP RX11 33 11 7 := ⟨_, _, _, ck11, by decide, rfl, (q_uw 1218 rfl rfl), rfl⟩
theorem fp_X11_36 : q_FP RX11 36 11 8 := ⟨_, _, _, ck11, by decide, rfl, (q_uw 1219 rfl rfl), rfl⟩
theorem fp_X11_39 : q_FP RX11 39 11 9 := ⟨_, _, _, ck11, by decide, rfl, (q_uw 1220 rfl rfl), rfl⟩
theorem fp_X11_42 : q_FP RX11 42 11 11 := ⟨_, _, _, ck11, by decide, rfl, (q_uw 1222 rfl rfl), rfl⟩
theorem fp_X11_45 : q_FP RX11 45 11 20 := ⟨_, _, _, ck11, by decide, rfl, (q_uw 1231 rfl rfl), rfl⟩
theorem fp_X11_48 : q_FP RX11 48 11 21 := ⟨_, _, _, ck11, by decide, rfl, (q_uw 1232 rfl rfl), rfl⟩
theorem fp_X2_9 : q_FP RX2 9 2 0 := ⟨_, _, _, ck2, by decide, rfl, (q_uw 149 rfl rfl), rfl⟩
theorem fp_X3_11 : q_FP RX3 11 3 0 := ⟨_, _, _, ck3, by decide, rfl, (q_uw 180 rfl rfl), rfl⟩
theorem fp_X4_18 : q_FP RX4 18 4 1 := ⟨_, _, _, ck4, by decide, rfl, (q_uw 402 rfl rfl), rfl⟩
theorem fp_X4_25 : q_FP RX4 25 4 2 := ⟨_, _, _, ck4, by decide, rfl, (q_uw 405 rfl rfl), rfl⟩
theorem fp_X4_31 : q_FP RX4 31 4 4 := ⟨_, _, _, ck4, by decide, rfl, (q_uw 409 rfl rfl), rfl⟩
theorem fp_X4_38 : q_FP RX4 38 4 6 := ⟨_, _, _, ck4, by decide, rfl, (q_uw 415 rfl rfl), rfl⟩
theorem fp_X4_45 : q_FP RX4 45 4 7 := ⟨_, _, _, ck4, by decide, rfl, (q_uw 418 rfl rfl), rfl⟩
theorem fp_X4_52 : q_FP RX4 52 4 8 := ⟨_, _, _, ck4, by decide, rfl, (q_uw 420 rfl rfl), rfl⟩
theorem fp_X4_59 : q_FP RX4 59 4 9 := ⟨_, _, _, ck4, by decide, rfl, (q_uw 422 rfl rfl), rfl⟩
theorem fp_X4_63 : q_FP RX4 63 4 10 := ⟨_, _, _, ck4, by decide, rfl, (q_uw 425 rfl rfl), rfl⟩
theorem fp_X4_66 : q_FP RX4 66 4 11 := ⟨_, _, _, ck4, by decide, rfl, (q_uw 427 rfl rfl), rfl⟩
theorem fp_X5_10 : q_FP RX5 10 5 0 := ⟨_, _, _, ck5, by decide, rfl, (q_uw 165 rfl rfl), rfl⟩
theorem fp_X6_21 : q_FP RX6 21 6 8 := ⟨_, _, _, ck6, by decide, rfl, (q_uw 335 rfl rfl), rfl⟩
theorem fp_X7_11 : q_FP RX7 11 7 0 := ⟨_, _, _, ck7, by decide, rfl, (q_uw 236 rfl rfl), rfl⟩
theorem fp_X9_15 : q_FP RX9 15 9 1 := ⟨_, _, _, ck9, by decide, rfl, (q_uw 523 rfl rfl), rfl⟩
theorem fp_X9_19 : q_FP RX9 19 9 2 := ⟨_, _, _, ck9, by decide, rfl, (q_uw 524 rfl rfl), rfl⟩
theorem fp_X9_9 : q_FP RX9 9 9 0 := ⟨_, _, _, ck9, by decide, rfl, (q_uw 522 rfl rfl), rfl⟩
theorem fw_X0_20 : q_FL RX0 20 0 1 false := ⟨_, _, _, ck0, by decide, rfl, Or.inl (q_uw 211 rfl rfl)⟩
theorem fw_X0_27 : q_FL RX0 27 0 2 false := ⟨_, _, _, ck0, by decide, rfl, Or.inl (q_uw 214 rfl rfl)⟩
theorem fw_X0_30 : q_FL RX0 30 0 3 false := ⟨_, _, _, ck0, by decide, rfl, Or.inl (q_uw 218 rfl rfl)⟩
theorem fw_X0_33 : q_FL RX0 33 0 0 false := ⟨_, _, _, ck0, by decide, rfl, Or.inl (q_uw 207 rfl rfl)⟩
theorem fw_X1_13 : q_FL RX1 13 1 1 false := ⟨_, _, _, ck1, by decide, rfl, Or.inl (q_uw 365 rfl rfl)⟩
theorem fw_X1_19 : q_FL RX1 19 1 2 false := ⟨_, _, _, ck1, by decide, rfl, Or.inl (q_uw 368 rfl rfl)⟩
theorem fw_X1_25 : q_FL RX1 25 1 5 false := ⟨_, _, _, ck1, by decide, rfl, Or.inl (q_uw 377 rfl rfl)⟩
theorem fw_X1_28 : q_FL RX1 28 1 4 false := ⟨_, _, _, ck1, by decide, rfl, Or.inl (q_uw 374 rfl rfl)⟩
theorem fw_X1_39 : q_FL RX1 39 1 3 false := ⟨_, _, _, ck1, by decide, rfl, Or.inl (q_uw 371 rfl rfl)⟩
theorem fw_X1_48 : q_FL RX1 48 1 0 false := ⟨_, _, _, ck1, by decide, rfl, Or.inl (q_uw 363 rfl rfl)⟩
theorem fw_X1_51 : q_FL RX1 51 1 6 false := ⟨_, _, _, ck1, by decide, rfl, Or.inl (q_uw 380 rfl rfl)⟩
theorem fw_X10_16 : q_FL RX10 16 10 2 false := ⟨_, _, _, ck10, by decide, rfl, Or.inl (q_uw 472 rfl rfl)⟩
theorem fw_X10_24 : q_FL RX10 24 4 0 false := ⟨_, _, _, ck4, by decide, rfl, Or.inr ⟨_, (q_nwi 399 rfl rfl)⟩⟩
theorem fw_X10_247 : q_FL RX10 247 8 7 false := ⟨_, _, _, ck8, by decide, rfl, Or.inr ⟨_, (q_nwi 276 rfl rfl)⟩⟩
theorem fw_X10_266 : q_FL RX10 266 8 9 false := ⟨_, _, _, ck8, by decide, rfl, Or.inr ⟨_, (q_nwi 281 rfl rfl)⟩⟩
theorem fw_X10_32 : q_FL RX10 32 10 1 false := ⟨_, _, _, ck10, by decide, rfl, Or.inl (q_uw 471 rfl rfl)⟩
theorem fw_X10_343 : q_FL RX10 343 10 6 false := ⟨_, _, _, ck10, by decide, rfl, Or.inl (q_uw 476 rfl rfl)⟩
theorem fw_X10_52 : q_FL RX10 52 10 3 false := ⟨_, _, _, ck10, by decide, rfl, Or.inl (q_uw 473 rfl rfl)⟩
theorem fw_X10_55 : q_FL RX10 55 10 5 false := ⟨_, _, _, ck10, by decide, rfl, Or.inl (q_uw 475 rfl rfl)⟩
theorem fw_X11_1 : q_FL RX11 1 11 0 false := ⟨_, _, _, ck11, by decide, rfl, Or.inl (q_uw 1211 rfl rfl)⟩
theorem fw_X11_121 : q_FL RX11 121 11 18 false := ⟨_, _, _, ck11, by decide, rfl, Or.inl (q_uw 1229 rfl rfl)⟩
theorem fw_X11_124 : q_FL RX11 124 11 19 false := ⟨_, _, _, ck11, by decide, rfl, Or.inl (q_uw 1230 rfl rfl)⟩
theorem fw_X11_240 : q_FL RX11 240 11 22 false := ⟨_, _, _, ck11, by decide, rfl, Or.inl (q_uw 1233 rfl rfl)⟩
theorem fw_X11_57 : q_FL RX11 57 11 10 false := ⟨_, _, _, ck11, by decide, rfl, Or.inl (q_uw 1221 rfl rfl)⟩
theorem fw_X11_64 : q_FL RX11 64 11 12 false := ⟨_, _, _, ck11, by decide, rfl, Or.inl (q_uw 1223 rfl rfl)⟩
theorem fw_X11_75 : q_FL RX11 75 11 13 false := ⟨_, _, _, ck11, by decide, rfl, Or.inl (q_uw 1224 rfl rfl)⟩
theorem fw_X11_78 : q_FL RX11 78 11 14 false := ⟨_, _, _, ck11, by decide, rfl, Or.inl (q_uw 1225 rfl rfl)⟩
theorem fw_X11_85 : q_FL RX11 85 11 15 false := ⟨_, _, _, ck11, by decide, rfl, Or.inl (q_uw 1226 rfl rfl)⟩
theorem fw_X11_88 : q_FL RX11 88 11 16 false := ⟨_, _, _, ck11, by decide, rfl, Or.inl (q_uw 1227 rfl rfl)⟩
theorem fw_X11_98 : q_FL RX11 98 11 17 false := ⟨_, _, _, ck11, by decide, rfl, Or.inl (q_uw 1228 rfl rfl)⟩
theorem fw_X2_15 : q_FL RX2 15 2 1 false := ⟨_, _, _, ck2, by decide, rfl, Or.inl (q_uw 152 rfl rfl)⟩
theorem fw_X3_18 : q_FL RX3 18 3 2 false := ⟨_, _, _, ck3, by decide, rfl, Or.inl (q_uw 182 rfl rfl)⟩
theorem fw_X3_22 : q_FL RX3 22 3 1 false := ⟨_, _, _, ck3, by decide, rfl, Or.inl (q_uw 181 rfl rfl)⟩
theorem fw_X3_38 : q_FL RX3 38 5 1 false := ⟨_, _, _, ck5, by decide, rfl, Or.inr ⟨_, (q_nwi 172 rfl rfl)⟩⟩
theorem fw_X4_120 : q_FL RX4 120 3 2 false := ⟨_, _, _, ck3, by decide, rfl, Or.inr ⟨_, (q_nwi 184 rfl rfl)⟩⟩
theorem fw_X4_127 : q_FL RX4 127 6 0 false := ⟨_, _, _, ck6, by decide, rfl, Or.inr ⟨_, (q_nwi 314 rfl rfl)⟩⟩
theorem fw_X4_130 : q_FL RX4 130 6 2 false := ⟨_, _, _, ck6, by decide, rfl, Or.inr ⟨_, (q_nwi 319 rfl rfl)⟩⟩
theorem fw_X4_133 : q_FL RX4 133 6 3 false := ⟨_, _, _, ck6, by decide, rfl, Or.inr ⟨_, (q_nwi 322 rfl rfl)⟩⟩
theorem fw_X4_140 : q_FL RX4 140 6 5 false := ⟨_, _, _, ck6, by decide, rfl, Or.inr ⟨_, (q_nwi 328 rfl rfl)⟩⟩
theorem fw_X4_143 : q_FL RX4 143 6 6 false := ⟨_, _, _, ck6, by decide, rfl, Or.inr ⟨_, (q_nwi 331 rfl rfl)⟩⟩
theorem fw_X4_165 : q_FL RX4 165 8 0 false := ⟨_, _, _, ck8, by decide, rfl, Or.inr ⟨_, (q_nwi 255 rfl rfl)⟩⟩
theorem fw_X4_172 : q_FL RX4 172 5 1 false := ⟨_, _, _, ck5, by decide, rfl, Or.inr ⟨_, (q_nwi 174 rfl rfl)⟩⟩
theorem fw_X4_182 : q_FL RX4 182 8 3 false := ⟨_, _, _, ck8, by decide, rfl, Or.inr ⟨_, (q_nwi 263 rfl rfl)⟩⟩
theorem fw_X4_203 : q_FL RX4 203 7 1 false := ⟨_, _, _, ck7, by decide, rfl, Or.inr ⟨_, (q_nwi 239 rfl rfl)⟩⟩
theorem fw_X4_213 : q_FL RX4 213 8 1 false := ⟨_, _, _, ck8, by decide, rfl, Or.inr ⟨_, (q_nwi 258 rfl rfl)⟩⟩
theorem fw_X4_214 : q_FL RX4 214 0 0 false := ⟨_, _, _, ck0, by decide, rfl, Or.inr ⟨_, (q_nwi 209 rfl rfl)⟩⟩
theorem fw_X4_217 : q_FL RX4 217 0 1 false := ⟨_, _, _, ck0, by decide, rfl, Or.inr ⟨_, (q_nwi 213 rfl rfl)⟩⟩
theorem fw_X4_224 : q_FL RX4 224 8 2 false := ⟨_, _, _, ck8, by decide, rfl, Or.inr ⟨_, (q_nwi 260 rfl rfl)⟩⟩
theorem fw_X4_233 : q_FL RX4 233 8 5 false := ⟨_, _, _, ck8, by decide, rfl, Or.inr ⟨_, (q_nwi 270 rfl rfl)⟩⟩
theorem fw_X4_240 : q_FL RX4 240 1 6 false := ⟨_, _, _, ck1, by decide, rfl, Or.inr ⟨_, (q_nwi 383 rfl rfl)⟩⟩
theorem fw_X4_243 : q_FL RX4 243 8 4 false := ⟨_, _, _, ck8, by decide, rfl, Or.inr ⟨_, (q_nwi 267 rfl rfl)⟩⟩
theorem fw_X4_246 : q_FL RX4 246 8 6 false := ⟨_, _, _, ck8, by decide, rfl, Or.inr ⟨_, (q_nwi 273 rfl rfl)⟩⟩
theorem fw_X4_253 : q_FL RX4 253 8 8 false := ⟨_, _, _, ck8, by decide, rfl, Or.inr ⟨_, (q_nwi 279 rfl rfl)⟩⟩
theorem fw_X4_71 : q_FL RX4 71 4 0 false := ⟨_, _, _, ck4, by decide, rfl, Or.inl (q_uw 400 rfl rfl)⟩
theorem fw_X4_75 : q_FL RX4 75 4 3 false := ⟨_, _, _, ck4, by decide, rfl, Or.inl (q_uw 406 rfl rfl)⟩
theorem fw_X4_78 : q_FL RX4 78 4 5 false := ⟨_, _, _, ck4, by decide, rfl, Or.inl (q_uw 412 rfl rfl)⟩
theorem fw_X4_97 : q_FL RX4 97 6 7 false := ⟨_, _, _, ck6, by decide, rfl, Or.inr ⟨_, (q_nwi 333 rfl rfl)⟩⟩
theorem fw_X5_20 : q_FL RX5 20 5 1 false := ⟨_, _, _, ck5, by decide, rfl, Or.inl (q_uw 171 rfl rfl)⟩
theorem fw_X6_12 : q_FL RX6 12 6 7 false := ⟨_, _, _, ck6, by decide, rfl, Or.inl (q_uw 332 rfl rfl)⟩
theorem fw_X6_25 : q_FL RX6 25 6 1 false := ⟨_, _, _, ck6, by decide, rfl, Or.inl (q_uw 315 rfl rfl)⟩
theorem fw_X6_29 : q_FL RX6 29 6 2 false := ⟨_, _, _, ck6, by decide, rfl, Or.inl (q_uw 317 rfl rfl)⟩
theorem fw_X6_32 : q_FL RX6 32 6 4 false := ⟨_, _, _, ck6, by decide, rfl, Or.inl (q_uw 323 rfl rfl)⟩
theorem fw_X6_41 : q_FL RX6 41 6 0 false := ⟨_, _, _, ck6, by decide, rfl, Or.inl (q_uw 312 rfl rfl)⟩
theorem fw_X6_68 : q_FL RX6 68 6 3 false := ⟨_, _, _, ck6, by decide, rfl, Or.inl (q_uw 320 rfl rfl)⟩
theorem fw_X6_71 : q_FL RX6 71 6 6 false := ⟨_, _, _, ck6, by decide, rfl, Or.inl (q_uw 329 rfl rfl)⟩
theorem fw_X6_74 : q_FL RX6 74 6 5 false := ⟨_, _, _, ck6, by decide, rfl, Or.inl (q_uw 326 rfl rfl)⟩
theorem fw_X7_18 : q_FL RX7 18 7 1 false := ⟨_, _, _, ck7, by decide, rfl, Or.inl (q_uw 237 rfl rfl)⟩
theorem fw_X8_13 : q_FL RX8 13 8 1 false := ⟨_, _, _, ck8, by decide, rfl, Or.inl (q_uw 256 rfl rfl)⟩
theorem fw_X8_16 : q_FL RX8 16 8 2 false := ⟨_, _, _, ck8, by decide, rfl, Or.inl (q_uw 259 rfl rfl)⟩
theorem fw_X8_19 : q_FL RX8 19 8 3 false := ⟨_, _, _, ck8, by decide, rfl, Or.inl (q_uw 262 rfl rfl)⟩
theorem fw_X8_22 : q_FL RX8 22 8 4 false := ⟨_, _, _, ck8, by decide, rfl, Or.inl (q_uw 265 rfl rfl)⟩
theorem fw_X8_25 : q_FL RX8 25 8 5 false := ⟨_, _, _, ck8, by decide, rfl, Or.inl (q_uw 268 rfl rfl)⟩
theorem fw_X8_28 : q_FL RX8 28 8 6 false := ⟨_, _, _, ck8, by decide, rfl, Or.inl (q_uw 271 rfl rfl)⟩
theorem fw_X8_31 : q_FL RX8 31 8 7 false := ⟨_, _, _, ck8, by decide, rfl, Or.inl (q_uw 274 rfl rfl)⟩
theorem fw_X8_34 : q_FL RX8 34 8 8 false := ⟨_, _, _, ck8, by decide, rfl, Or.inl (q_uw 277 rfl rfl)⟩
theorem fw_X8_37 : q_FL RX8 37 8 9 false := ⟨_, _, _, ck8, by decide, rfl, Or.inl (q_uw 280 rfl rfl)⟩
theorem fw_X8_7 : q_FL RX8 7 8 0 false := ⟨_, _, _, ck8, by decide, rfl, Or.inl (q_uw 253 rfl rfl)⟩
theorem fw_X9_126 : q_FL RX9 126 8 7 false := ⟨_, _, _, ck8, by decide, rfl, Or.inr ⟨_, (q_nwi 275 rfl rfl)⟩⟩
theorem fw_X9_137 : q_FL RX9 137 4 5 false := ⟨_, _, _, ck4, by decide, rfl, Or.inr ⟨_, (q_nwi 413 rfl rfl)⟩⟩
theorem fw_X9_148 : q_FL RX9 148 1 0 false := ⟨_, _, _, ck1, by decide, rfl, Or.inr ⟨_, (q_nwi 364 rfl rfl)⟩⟩
theorem fw_X9_153 : q_FL RX9 153 1 1 false := ⟨_, _, _, ck1, by decide, rfl, Or.inr ⟨_, (q_nwi 366 rfl rfl)⟩⟩
theorem fw_X9_156 : q_FL RX9 156 1 2 false := ⟨_, _, _, ck1, by decide, rfl, Or.inr ⟨_, (q_nwi 369 rfl rfl)⟩⟩
theorem fw_X9_159 : q_FL RX9 159 1 3 false := ⟨_, _, _, ck1, by decide, rfl, Or.inr ⟨_, (q_nwi 372 rfl rfl)⟩⟩
theorem fw_X9_162 : q_FL RX9 162 1 4 false := ⟨_, _, _, ck1, by decide, rfl, Or.inr ⟨_, (q_nwi 375 rfl rfl)⟩⟩
theorem fw_X9_165 : q_FL RX9 165 1 5 false := ⟨_, _, _, ck1, by decide, rfl, Or.inr ⟨_, (q_nwi 378 rfl rfl)⟩⟩
theorem fw_X9_168 : q_FL RX9 168 1 6 false := ⟨_, _, _, ck1, by decide, rfl, Or.inr ⟨_, (q_nwi 381 rfl rfl)⟩⟩
theorem fw_X9_175 : q_FL RX9 175 9 4 false := ⟨_, _, _, ck9, by decide, rfl, Or.inl (q_uw 526 rfl rfl)⟩
theorem fw_X9_178 : q_FL RX9 178 9 5 false := ⟨_, _, _, ck9, by decide, rfl, Or.inl (q_uw 527 rfl rfl)⟩
theorem fw_X9_189 : q_FL RX9 189 9 6 false := ⟨_, _, _, ck9, by decide, rfl, Or.inl (q_uw 528 rfl rfl)⟩
theorem fw_X9_45 : q_FL RX9 45 4 0 false := ⟨_, _, _, ck4, by decide, rfl, Or.inr ⟨_, (q_nwi 401 rfl rfl)⟩⟩
theorem fw_X9_54 : q_FL RX9 54 9 7 false := ⟨_, _, _, ck9, by decide, rfl, Or.inl (q_uw 529 rfl rfl)⟩
theorem fw_X9_57 : q_FL RX9 57 9 3 false := ⟨_, _, _, ck9, by decide, rfl, Or.inl (q_uw 525 rfl rfl)⟩
theorem gs_X10_298_0 : Cond.fieldLink RX10 298 RX10 (q_sname 0) "[I" ∈ q_UW ∨ ∃ host, Cond.fieldLinkNest RX10 298 RX10 (q_sname 0) "[I" host ∈ q_NW := Or.inl (q_uw 1088 rfl rfl)
theorem gs_X10_301_1 : Cond.fieldLink RX10 301 RX10 (q_sname 1) "[I" ∈ q_UW ∨ ∃ host, Cond.fieldLinkNest RX10 301 RX10 (q_sname 1) "[I" host ∈ q_NW := Or.inl (q_uw 1089 rfl rfl)
theorem gs_X4_9_2 : Cond.fieldLink RX4 9 RX10 (q_sname 2) "[I" ∈ q_UW ∨ ∃ host, Cond.fieldLinkNest RX4 9 RX10 (q_sname 2) "[I" host ∈ q_NW := Or.inr ⟨_, (q_nwi 117 rfl rfl)⟩
theorem gs_X9_94_0 : Cond.fieldLink RX9 94 RX10 (q_sname 0) "[I" ∈ q_UW ∨ ∃ host, Cond.fieldLinkNest RX9 94 RX10 (q_sname 0) "[I" host ∈ q_NW := Or.inr ⟨_, (q_nwi 655 rfl rfl)⟩
theorem gs_X9_97_1 : Cond.fieldLink RX9 97 RX10 (q_sname 1) "[I" ∈ q_UW ∨ ∃ host, Cond.fieldLinkNest RX9 97 RX10 (q_sname 1) "[I" host ∈ q_NW := Or.inr ⟨_, (q_nwi 657 rfl rfl)⟩
theorem hn_L_bale_5_0 : q_hnd M_L_bale 5 "java/lang/IndexOutOfBoundsException" 13 := ⟨(tableOf (q_hh M_L_bale)).take 0, (tableOf (q_hh M_L_bale)).getD 0 default, (tableOf (q_hh M_L_bale)).drop 1, "java/lang/IndexOutOfBoundsException", rfl, rfl, by decide +kernel, by decide +kernel, (q_uw 897 rfl rfl), (q_nwi 904 rfl rfl), fun z hz => by cases hz⟩
theorem hn_L_bale_5_1 : q_hnd M_L_bale 5 "java/lang/IllegalArgumentException" 17 := ⟨(tableOf (q_hh M_L_bale)).take 1, (tableOf (q_hh M_L_bale)).getD 1 default, (tableOf (q_hh M_L_bale)).drop 2, "java/lang/IllegalArgumentException", rfl, rfl, by decide +kernel, by decide +kernel, (q_uw 972 rfl rfl), (q_nwi 983 rfl rfl), fun z hz => by
    rcases List.mem_cons.mp hz with hz | hz
    · subst hz; exact Or.inr ⟨by decide, _, (q_uw 897 rfl rfl), by decide⟩
    · cases hz⟩
theorem hn_L_bestBuyer_4_0 : q_hnd M_L_bestBuyer 4 "java/lang/IndexOutOfBoundsException" 12 := ⟨(tableOf (q_hh M_L_bestBuyer)).take 0, (tableOf (q_hh M_L_bestBuyer)).getD 0 default, (tableOf (q_hh M_L_bestBuyer)).drop 1, "java/lang/IndexOutOfBoundsException", rfl, rfl, by decide +kernel, by decide +kernel, (q_uw 897 rfl rfl), (q_nwi 904 rfl rfl), fun z hz => by cases hz⟩
theorem hn_L_bestStaff_5_0 : q_hnd M_L_bestStaff 5 "java/lang/IndexOutOfBoundsException" 13 := ⟨(tableOf (q_hh M_L_bestStaff)).take 0, (tableOf (q_hh M_L_bestStaff)).getD 0 default, (tableOf (q_hh M_L_bestStaff)).drop 1, "java/lang/IndexOutOfBoundsException", rfl, rfl, by decide +kernel, by decide +kernel, (q_uw 897 rfl rfl), (q_nwi 904 rfl rfl), fun z hz => by cases hz⟩
theorem hn_L_bestStaff_5_1 : q_hnd M_L_bestStaff 5 "java/lang/IllegalArgumentException" 17 := ⟨(tableOf (q_hh M_L_bestStaff)).take 1, (tableOf (q_hh M_L_bestStaff)).getD 1 default, (tableOf (q_hh M_L_bestStaff)).drop 2, "java/lang/IllegalArgumentException", rfl, rfl, by decide +kernel, by decide +kernel, (q_uw 972 rfl rfl), (q_nwi 983 rfl rfl), fun z hz => by
    rcases List.mem_cons.mp hz with hz | hz
    · subst hz; exact Or.inr ⟨by decide, _, (q_uw 897 rfl rfl), by decide⟩
    · cases hz⟩
theorem hn_L_buyer_5_0 : q_hnd M_L_buyer 5 "java/lang/IndexOutOfBoundsException" 13 := ⟨(tableOf (q_hh M_L_buyer)).take 0, (tableOf (q_hh M_L_buyer)).getD 0 default, (tableOf (q_hh M_L_buyer)).drop 1, "java/lang/IndexOutOfBoundsException", rfl, rfl, by decide +kernel, by decide +kernel, (q_uw 897 rfl rfl), (q_nwi 904 rfl rfl), fun z hz => by cases hz⟩
theorem hn_L_buyer_5_1 : q_hnd M_L_buyer 5 "java/lang/IllegalArgumentException" 17 := ⟨(tableOf (q_hh M_L_buyer)).take 1, (tableOf (q_hh M_L_buyer)).getD 1 default, (tableOf (q_hh M_L_buyer)).drop 2, "java/lang/IllegalArgumentException", rfl, rfl, by decide +kernel, by decide +kernel, (q_uw 972 rfl rfl), (q_nwi 983 rfl rfl), fun z hz => by
    rcases List.mem_cons.mp hz with hz | hz
    · subst hz; exact Or.inr ⟨by decide, _, (q_uw 897 rfl rfl), by decide⟩
    · cases hz⟩
theorem hn_L_clean_4_0 : q_hnd M_L_clean 4 "java/lang/IndexOutOfBoundsException" 12 := ⟨(tableOf (q_hh M_L_clean)).take 0, (tableOf (q_hh M_L_clean)).getD 0 default, (tableOf (q_hh M_L_clean)).drop 1, "java/lang/IndexOutOfBoundsException", rfl, rfl, by decide +kernel, by decide +kernel, (q_uw 897 rfl rfl), (q_nwi 904 rfl rfl), fun z hz => by cases hz⟩
theorem hn_L_load_5_0 : q_hnd M_L_load 5 "java/lang/IndexOutOfBoundsException" 13 := ⟨(tableOf (q_hh M_L_load)).take 0, (tableOf (q_hh M_L_load)).getD 0 default, (tableOf (q_hh M_L_load)).drop 1, "java/lang/IndexOutOfBoundsException", rfl, rfl, by decide +kernel, by decide +kernel, (q_uw 897 rfl rfl), (q_nwi 904 rfl rfl), fun z hz => by cases hz⟩
theorem hn_L_load_5_1 : q_hnd M_L_load 5 "java/lang/IllegalArgumentException" 17 := ⟨(tableOf (q_hh M_L_load)).take 1, (tableOf (q_hh M_L_load)).getD 1 default, (tableOf (q_hh M_L_load)).drop 2, "java/lang/IllegalArgumentException", rfl, rfl, by decide +kernel, by decide +kernel, (q_uw 972 rfl rfl), (q_nwi 983 rfl rfl), fun z hz => by
    rcases List.mem_cons.mp hz with hz | hz
    · subst hz; exact Or.inr ⟨by decide, _, (q_uw 897 rfl rfl), by decide⟩
    · cases hz⟩
theorem hn_L_load_5_2 : q_hnd M_L_load 5 "java/lang/IllegalStateException" 21 := ⟨(tableOf (q_hh M_L_load)).take 2, (tableOf (q_hh M_L_load)).getD 2 default, (tableOf (q_hh M_L_load)).drop 3, "java/lang/IllegalStateException", rfl, rfl, by decide +kernel, by decide +kernel, (q_uw 1051 rfl rfl), (q_nwi 1060 rfl rfl), fun z hz => by
    rcases List.mem_cons.mp hz with hz | hz
    · subst hz; exact Or.inr ⟨by decide, _, (q_uw 897 rfl rfl), by decide⟩
    rcases List.mem_cons.mp hz with hz | hz
    · subst hz; exact Or.inr ⟨by decide, _, (q_uw 972 rfl rfl), by decide⟩
    · cases hz⟩
theorem hn_L_mass_5_0 : q_hnd M_L_mass 5 "java/lang/IllegalArgumentException" 13 := ⟨(tableOf (q_hh M_L_mass)).take 0, (tableOf (q_hh M_L_mass)).getD 0 default, (tableOf (q_hh M_L_mass)).drop 1, "java/lang/IllegalArgumentException", rfl, rfl, by decide +kernel, by decide +kernel, (q_uw 972 rfl rfl), (q_nwi 983 rfl rfl), fun z hz => by cases hz⟩
theorem hn_L_mass_5_1 : q_hnd M_L_mass 5 "java/lang/IndexOutOfBoundsException" 17 := ⟨(tableOf (q_hh M_L_mass)).take 1, (tableOf (q_hh M_L_mass)).getD 1 default, (tableOf (q_hh M_L_mass)).drop 2, "java/lang/IndexOutOfBoundsException", rfl, rfl, by decide +kernel, by decide +kernel, (q_uw 897 rfl rfl), (q_nwi 904 rfl rfl), fun z hz => by
    rcases List.mem_cons.mp hz with hz | hz
    · subst hz; exact Or.inr ⟨by decide, _, (q_uw 972 rfl rfl), by decide⟩
    · cases hz⟩
theorem hn_L_outlook_5_0 : q_hnd M_L_outlook 5 "java/lang/IllegalArgumentException" 13 := ⟨(tableOf (q_hh M_L_outlook)).take 0, (tableOf (q_hh M_L_outlook)).getD 0 default, (tableOf (q_hh M_L_outlook)).drop 1, "java/lang/IllegalArgumentException", rfl, rfl, by decide +kernel, by decide +kernel, (q_uw 972 rfl rfl), (q_nwi 983 rfl rfl), fun z hz => by cases hz⟩
theorem hn_L_purity_4_0 : q_hnd M_L_purity 4 "java/lang/IndexOutOfBoundsException" 11 := ⟨(tableOf (q_hh M_L_purity)).take 0, (tableOf (q_hh M_L_purity)).getD 0 default, (tableOf (q_hh M_L_purity)).drop 1, "java/lang/IndexOutOfBoundsException", rfl, rfl, by decide +kernel, by decide +kernel, (q_uw 897 rfl rfl), (q_nwi 904 rfl rfl), fun z hz => by cases hz⟩
theorem hn_L_run_4_0 : q_hnd M_L_run 4 "java/lang/IllegalArgumentException" 12 := ⟨(tableOf (q_hh M_L_run)).take 0, (tableOf (q_hh M_L_run)).getD 0 default, (tableOf (q_hh M_L_run)).drop 1, "java/lang/IllegalArgumentException", rfl, rfl, by decide +kernel, by decide +kernel, (q_uw 972 rfl rfl), (q_nwi 983 rfl rfl), fun z hz => by cases hz⟩
theorem hn_L_run_4_1 : q_hnd M_L_run 4 "java/lang/IllegalStateException" 15 := ⟨(tableOf (q_hh M_L_run)).take 1, (tableOf (q_hh M_L_run)).getD 1 default, (tableOf (q_hh M_L_run)).drop 2, "java/lang/IllegalStateException", rfl, rfl, by decide +kernel, by decide +kernel, (q_uw 1051 rfl rfl), (q_nwi 1060 rfl rfl), fun z hz => by
    rcases List.mem_cons.mp hz with hz | hz
    · subst hz; exact Or.inr ⟨by decide, _, (q_uw 972 rfl rfl), by decide⟩
    · cases hz⟩
theorem hn_L_sell_5_0 : q_hnd M_L_sell 5 "java/lang/IndexOutOfBoundsException" 13 := ⟨(tableOf (q_hh M_L_sell)).take 0, (tableOf (q_hh M_L_sell)).getD 0 default, (tableOf (q_hh M_L_sell)).drop 1, "java/lang/IndexOutOfBoundsException", rfl, rfl, by decide +kernel, by decide +kernel, (q_uw 897 rfl rfl), (q_nwi 904 rfl rfl), fun z hz => by cases hz⟩
theorem hn_L_sell_5_1 : q_hnd M_L_sell 5 "java/lang/IllegalArgumentException" 17 := ⟨(tableOf (q_hh M_L_sell)).take 1, (tableOf (q_hh M_L_sell)).getD 1 default, (tableOf (q_hh M_L_sell)).drop 2, "java/lang/IllegalArgumentException", rfl, rfl, by decide +kernel, by decide +kernel, (q_uw 972 rfl rfl), (q_nwi 983 rfl rfl), fun z hz => by
    rcases List.mem_cons.mp hz with hz | hz
    · subst hz; exact Or.inr ⟨by decide, _, (q_uw 897 rfl rfl), by decide⟩
    · cases hz⟩
theorem hn_L_sell_5_2 : q_hnd M_L_sell 5 "java/lang/IllegalStateException" 21 := ⟨(tableOf (q_hh M_L_sell)).take 2, (tableOf (q_hh M_L_sell)).getD 2 default, (tableOf (q_hh M_L_sell)).drop 3, "java/lang/IllegalStateException", rfl, rfl, by decide +kernel, by decide +kernel, (q_uw 1051 rfl rfl), (q_nwi 1060 rfl rfl), fun z hz => by
    rcases List.mem_cons.mp hz with hz | hz
    · subst hz; exact Or.inr ⟨by decide, _, (q_uw 897 rfl rfl), by decide⟩
    rcases List.mem_cons.mp hz with hz | hz
    · subst hz; exact Or.inr ⟨by decide, _, (q_uw 972 rfl rfl), by decide⟩
    · cases hz⟩
theorem hn_L_set_5_0 : q_hnd M_L_set 5 "java/lang/IndexOutOfBoundsException" 13 := ⟨(tableOf (q_hh M_L_set)).take 0, (tableOf (q_hh M_L_set)).getD 0 default, (tableOf (q_hh M_L_set)).drop 1, "java/lang/IndexOutOfBoundsException", rfl, rfl, by decide +kernel, by decide +kernel, (q_uw 897 rfl rfl), (q_nwi 904 rfl rfl), fun z hz => by cases hz⟩
theorem hn_L_set_5_1 : q_hnd M_L_set 5 "java/lang/IllegalArgumentException" 17 := ⟨(tableOf (q_hh M_L_set)).take 1, (tableOf (q_hh M_L_set)).getD 1 default, (tableOf (q_hh M_L_set)).drop 2, "java/lang/IllegalArgumentException", rfl, rfl, by decide +kernel, by decide +kernel, (q_uw 972 rfl rfl), (q_nwi 983 rfl rfl), fun z hz => by
    rcases List.mem_cons.mp hz with hz | hz
    · subst hz; exact Or.inr ⟨by decide, _, (q_uw 897 rfl rfl), by decide⟩
    · cases hz⟩
theorem hn_L_setting_4_0 : q_hnd M_L_setting 4 "java/lang/IndexOutOfBoundsException" 12 := ⟨(tableOf (q_hh M_L_setting)).take 0, (tableOf (q_hh M_L_setting)).getD 0 default, (tableOf (q_hh M_L_setting)).drop 1, "java/lang/IndexOutOfBoundsException", rfl, rfl, by decide +kernel, by decide +kernel, (q_uw 897 rfl rfl), (q_nwi 904 rfl rfl), fun z hz => by cases hz⟩
theorem hn_L_staff_5_0 : q_hnd M_L_staff 5 "java/lang/IndexOutOfBoundsException" 13 := ⟨(tableOf (q_hh M_L_staff)).take 0, (tableOf (q_hh M_L_staff)).getD 0 default, (tableOf (q_hh M_L_staff)).drop 1, "java/lang/IndexOutOfBoundsException", rfl, rfl, by decide +kernel, by decide +kernel, (q_uw 897 rfl rfl), (q_nwi 904 rfl rfl), fun z hz => by cases hz⟩
theorem hn_L_staff_5_1 : q_hnd M_L_staff 5 "java/lang/IllegalArgumentException" 17 := ⟨(tableOf (q_hh M_L_staff)).take 1, (tableOf (q_hh M_L_staff)).getD 1 default, (tableOf (q_hh M_L_staff)).drop 2, "java/lang/IllegalArgumentException", rfl, rfl, by decide +kernel, by decide +kernel, (q_uw 972 rfl rfl), (q_nwi 983 rfl rfl), fun z hz => by
    rcases List.mem_cons.mp hz with hz | hz
    · subst hz; exact Or.inr ⟨by decide, _, (q_uw 897 rfl rfl), by decide⟩
    · cases hz⟩
theorem hn_L_station_5_0 : q_hnd M_L_station 5 "java/lang/IndexOutOfBoundsException" 13 := ⟨(tableOf (q_hh M_L_station)).take 0, (tableOf (q_hh M_L_station)).getD 0 default, (tableOf (q_hh M_L_station)).drop 1, "java/lang/IndexOutOfBoundsException", rfl, rfl, by decide +kernel, by decide +kernel, (q_uw 897 rfl rfl), (q_nwi 904 rfl rfl), fun z hz => by cases hz⟩
theorem hn_L_station_5_1 : q_hnd M_L_station 5 "java/lang/IllegalArgumentException" 17 := ⟨(tableOf (q_hh M_L_station)).take 1, (tableOf (q_hh M_L_station)).getD 1 default, (tableOf (q_hh M_L_station)).drop 2, "java/lang/IllegalArgumentException", rfl, rfl, by decide +kernel, by decide +kernel, (q_uw 972 rfl rfl), (q_nwi 983 rfl rfl), fun z hz => by
    rcases List.mem_cons.mp hz with hz | hz
    · subst hz; exact Or.inr ⟨by decide, _, (q_uw 897 rfl rfl), by decide⟩
    · cases hz⟩
theorem kl_L_64 : Cond.classLink RL 64 "RecyclingLineModel" ∈ q_UW := (q_uw 1197 rfl rfl)
theorem kl_L_8 : Cond.classLink RL 8 "RecyclingLine" ∈ q_UW := (q_uw 103 rfl rfl)
theorem kl_X0_7 : Cond.classLink RX0 7 "RecyclingLine$Heap" ∈ q_UW := (q_uw 205 rfl rfl)
theorem kl_X10_13 : Cond.classLink RX10 13 "RecyclingLine$Line" ∈ q_UW := (q_uw 111 rfl rfl)
theorem kl_X10_43 : Cond.classLink RX10 43 "RecyclingLine$TextReader" ∈ q_UW := (q_uw 516 rfl rfl)
theorem kl_X3_9 : Cond.classLink RX3 9 "RecyclingLine$Parcel" ∈ q_UW := (q_uw 136 rfl rfl)
theorem kl_X4_14 : Cond.classLink RX4 14 "[I" ∈ q_UW := (q_uw 125 rfl rfl)
theorem kl_X4_23 : Cond.classLink RX4 23 "RecyclingLine$Station" ∈ q_UW := (q_uw 126 rfl rfl)
theorem kl_X4_29 : Cond.classLink RX4 29 "RecyclingLine$Buyer" ∈ q_UW := (q_uw 128 rfl rfl)
theorem kl_X4_35 : Cond.classLink RX4 35 "RecyclingLine$Hopper" ∈ q_UW := (q_uw 130 rfl rfl)
theorem kl_X4_42 : Cond.classLink RX4 42 "RecyclingLine$Stock" ∈ q_UW := (q_uw 192 rfl rfl)
theorem kl_X4_49 : Cond.classLink RX4 49 "RecyclingLine$Heap" ∈ q_UW := (q_uw 245 rfl rfl)
theorem kl_X4_56 : Cond.classLink RX4 56 "RecyclingLine$Tally" ∈ q_UW := (q_uw 247 rfl rfl)
theorem kl_X5_7 : Cond.classLink RX5 7 "RecyclingLine$Heap" ∈ q_UW := (q_uw 143 rfl rfl)
theorem kl_X6_18 : Cond.classLink RX6 18 "RecyclingLine$Heap" ∈ q_UW := (q_uw 310 rfl rfl)
theorem kl_X6_9 : Cond.classLink RX6 9 "RecyclingLine$Parcel" ∈ q_UW := (q_uw 308 rfl rfl)
theorem kl_X7_9 : Cond.classLink RX7 9 "RecyclingLine$Bale" ∈ q_UW := (q_uw 198 rfl rfl)
theorem mI_L_63_X10_init : q_CL RL 63 M_X10_init ∨ ∃ host, Cond.methodLinkNest RL 63 M_X10_init.1 host ∈ q_NW := Or.inl (q_uw 105 rfl rfl)
theorem mI_L_66_X11_init : q_CL RL 66 M_X11_init ∨ ∃ host, Cond.methodLinkNest RL 66 M_X11_init.1 host ∈ q_NW := Or.inl (q_uw 1199 rfl rfl)
theorem mI_X0_9_X2_init : q_CL RX0 9 M_X2_init ∨ ∃ host, Cond.methodLinkNest RX0 9 M_X2_init.1 host ∈ q_NW := Or.inr ⟨_, (q_nwi 206 rfl rfl)⟩
theorem mI_X10_15_X4_init : q_CL RX10 15 M_X4_init ∨ ∃ host, Cond.methodLinkNest RX10 15 M_X4_init.1 host ∈ q_NW := Or.inl (q_uw 113 rfl rfl)
theorem mI_X10_45_X9_init : q_CL RX10 45 M_X9_init ∨ ∃ host, Cond.methodLinkNest RX10 45 M_X9_init.1 host ∈ q_NW := Or.inl (q_uw 518 rfl rfl)
theorem mI_X3_17_X5_init : q_CL RX3 17 M_X5_init ∨ ∃ host, Cond.methodLinkNest RX3 17 M_X5_init.1 host ∈ q_NW := Or.inr ⟨_, (q_nwi 139 rfl rfl)⟩
theorem mI_X4_37_X3_init : q_CL RX4 37 M_X3_init ∨ ∃ host, Cond.methodLinkNest RX4 37 M_X3_init.1 host ∈ q_NW := Or.inl (q_uw 132 rfl rfl)
theorem mI_X4_44_X7_init : q_CL RX4 44 M_X7_init ∨ ∃ host, Cond.methodLinkNest RX4 44 M_X7_init.1 host ∈ q_NW := Or.inl (q_uw 194 rfl rfl)
theorem mI_X4_51_X2_init : q_CL RX4 51 M_X2_init ∨ ∃ host, Cond.methodLinkNest RX4 51 M_X2_init.1 host ∈ q_NW := Or.inr ⟨_, (q_nwi 246 rfl rfl)⟩
theorem mI_X4_58_X8_init : q_CL RX4 58 M_X8_init ∨ ∃ host, Cond.methodLinkNest RX4 58 M_X8_init.1 host ∈ q_NW := Or.inr ⟨_, (q_nwi 249 rfl rfl)⟩
theorem mI_X4_69_X6_init : q_CL RX4 69 M_X6_init ∨ ∃ host, Cond.methodLinkNest RX4 69 M_X6_init.1 host ∈ q_NW := Or.inr ⟨_, (q_nwi 304 rfl rfl)⟩
theorem mI_X4_70_X1_init : q_CL RX4 70 M_X1_init ∨ ∃ host, Cond.methodLinkNest RX4 70 M_X1_init.1 host ∈ q_NW := Or.inr ⟨_, (q_nwi 358 rfl rfl)⟩
theorem mI_X5_9_X2_init : q_CL RX5 9 M_X2_init ∨ ∃ host, Cond.methodLinkNest RX5 9 M_X2_init.1 host ∈ q_NW := Or.inr ⟨_, (q_nwi 145 rfl rfl)⟩
theorem mI_X6_11_X5_init : q_CL RX6 11 M_X5_init ∨ ∃ host, Cond.methodLinkNest RX6 11 M_X5_init.1 host ∈ q_NW := Or.inr ⟨_, (q_nwi 309 rfl rfl)⟩
theorem mI_X6_20_X2_init : q_CL RX6 20 M_X2_init ∨ ∃ host, Cond.methodLinkNest RX6 20 M_X2_init.1 host ∈ q_NW := Or.inr ⟨_, (q_nwi 311 rfl rfl)⟩
theorem mI_X7_17_X0_init : q_CL RX7 17 M_X0_init ∨ ∃ host, Cond.methodLinkNest RX7 17 M_X0_init.1 host ∈ q_NW := Or.inr ⟨_, (q_nwi 201 rfl rfl)⟩
theorem mi_J0_charAt_5068e : q_MI M_J0_charAt_5068e := ⟨(q_uw 591 rfl rfl), (q_uw 592 rfl rfl)⟩
theorem mi_J0_coder_7d493 : q_MI M_J0_coder_7d493 := ⟨(q_uw 585 rfl rfl), (q_uw 586 rfl rfl)⟩
theorem mi_J0_isLatin1_aae02 : q_MI M_J0_isLatin1_aae02 := ⟨(q_uw 595 rfl rfl), (q_uw 596 rfl rfl)⟩
theorem mi_J0_length_8abf5 : q_MI M_J0_length_8abf5 := ⟨(q_uw 581 rfl rfl), (q_uw 582 rfl rfl)⟩
theorem mi_X0_copyFrom : q_MI M_X0_copyFrom := ⟨(q_uw 788 rfl rfl), (q_uw 789 rfl rfl)⟩
theorem mi_X0_judge : q_MI M_X0_judge := ⟨(q_uw 889 rfl rfl), (q_uw 890 rfl rfl)⟩
theorem mi_X10_append : q_MI M_X10_append := ⟨(q_uw 493 rfl rfl), (q_uw 494 rfl rfl)⟩
theorem mi_X10_appendBytes : q_MI M_X10_appendBytes := ⟨(q_uw 498 rfl rfl), (q_uw 0 rfl rfl)⟩
theorem mi_X10_balance : q_MI M_X10_balance := ⟨(q_uw 720 rfl rfl), (q_uw 721 rfl rfl)⟩
theorem mi_X10_bale : q_MI M_X10_bale := ⟨(q_uw 1019 rfl rfl), (q_uw 1020 rfl rfl)⟩
theorem mi_X10_bestBuyer : q_MI M_X10_bestBuyer := ⟨(q_uw 1165 rfl rfl), (q_uw 1166 rfl rfl)⟩
theorem mi_X10_bestStaff : q_MI M_X10_bestStaff := ⟨(q_uw 1186 rfl rfl), (q_uw 1187 rfl rfl)⟩
theorem mi_X10_bufferLength : q_MI M_X10_bufferLength := ⟨(q_uw 505 rfl rfl), (q_uw 506 rfl rfl)⟩
theorem mi_X10_buyer : q_MI M_X10_buyer := ⟨(q_uw 1032 rfl rfl), (q_uw 1033 rfl rfl)⟩
theorem mi_X10_clean : q_MI M_X10_clean := ⟨(q_uw 1157 rfl rfl), (q_uw 1158 rfl rfl)⟩
theorem mi_X10_copyOfLine : q_MI M_X10_copyOfLine := ⟨(q_uw 754 rfl rfl), (q_uw 14 rfl rfl)⟩
theorem mi_X10_copyOfLine0 : q_MI M_X10_copyOfLine0 := ⟨(q_uw 754 rfl rfl), (q_uw 14 rfl rfl)⟩
theorem mi_X10_emptied : q_MI M_X10_emptied := ⟨(q_uw 749 rfl rfl), (q_uw 750 rfl rfl)⟩
theorem mi_X10_find : q_MI M_X10_find := ⟨(q_uw 702 rfl rfl), (q_uw 703 rfl rfl)⟩
theorem mi_X10_line : q_MI M_X10_line := ⟨(q_uw 708 rfl rfl), (q_uw 709 rfl rfl)⟩
theorem mi_X10_load : q_MI M_X10_load := ⟨(q_uw 1053 rfl rfl), (q_uw 1054 rfl rfl)⟩
theorem mi_X10_loss : q_MI M_X10_loss := ⟨(q_uw 741 rfl rfl), (q_uw 742 rfl rfl)⟩
theorem mi_X10_mass : q_MI M_X10_mass := ⟨(q_uw 1001 rfl rfl), (q_uw 1002 rfl rfl)⟩
theorem mi_X10_outlook : q_MI M_X10_outlook := ⟨(q_uw 1173 rfl rfl), (q_uw 1174 rfl rfl)⟩
theorem mi_X10_pickedWith : q_MI M_X10_pickedWith := ⟨(q_uw 1191 rfl rfl), (q_uw 25 rfl rfl)⟩
theorem mi_X10_pickedWith0 : q_MI M_X10_pickedWith0 := ⟨(q_uw 1191 rfl rfl), (q_uw 25 rfl rfl)⟩
theorem mi_X10_purity : q_MI M_X10_purity := ⟨(q_uw 1045 rfl rfl), (q_uw 1046 rfl rfl)⟩
theorem mi_X10_read : q_MI M_X10_read := ⟨(q_uw 509 rfl rfl), (q_uw 510 rfl rfl)⟩
theorem mi_X10_remember : q_MI M_X10_remember := ⟨(q_uw 1076 rfl rfl), (q_uw 23 rfl rfl)⟩
theorem mi_X10_run : q_MI M_X10_run := ⟨(q_uw 1104 rfl rfl), (q_uw 1105 rfl rfl)⟩
theorem mi_X10_sell : q_MI M_X10_sell := ⟨(q_uw 1113 rfl rfl), (q_uw 1114 rfl rfl)⟩
theorem mi_X10_set : q_MI M_X10_set := ⟨(q_uw 1085 rfl rfl), (q_uw 1086 rfl rfl)⟩
theorem mi_X10_setting : q_MI M_X10_setting := ⟨(q_uw 899 rfl rfl), (q_uw 900 rfl rfl)⟩
theorem mi_X10_spareLine : q_MI M_X10_spareLine := ⟨(q_uw 514 rfl rfl), (q_uw 1 rfl rfl)⟩
theorem mi_X10_spareLine0 : q_MI M_X10_spareLine0 := ⟨(q_uw 514 rfl rfl), (q_uw 1 rfl rfl)⟩
theorem mi_X10_staff : q_MI M_X10_staff := ⟨(q_uw 1095 rfl rfl), (q_uw 1096 rfl rfl)⟩
theorem mi_X10_station : q_MI M_X10_station := ⟨(q_uw 974 rfl rfl), (q_uw 975 rfl rfl)⟩
theorem mi_X10_truncate : q_MI M_X10_truncate := ⟨(q_uw 501 rfl rfl), (q_uw 502 rfl rfl)⟩
theorem mi_X10_undo : q_MI M_X10_undo := ⟨(q_uw 745 rfl rfl), (q_uw 746 rfl rfl)⟩
theorem mi_X11_adds : q_MI M_X11_adds := ⟨(q_uw 1292 rfl rfl), (q_uw 28 rfl rfl)⟩
theorem mi_X11_append : q_MI M_X11_append := ⟨(q_uw 1287 rfl rfl), (q_uw 1288 rfl rfl)⟩
theorem mi_X11_bad : q_MI M_X11_bad := ⟨(q_uw 1336 rfl rfl), (q_uw 33 rfl rfl)⟩
theorem mi_X11_balance : q_MI M_X11_balance := ⟨(q_uw 1476 rfl rfl), (q_uw 1477 rfl rfl)⟩
theorem mi_X11_bale : q_MI M_X11_bale := ⟨(q_uw 1456 rfl rfl), (q_uw 1457 rfl rfl)⟩
theorem mi_X11_becomes : q_MI M_X11_becomes := ⟨(q_uw 1209 rfl rfl), (q_uw 27 rfl rfl)⟩
theorem mi_X11_bestBuyer : q_MI M_X11_bestBuyer := ⟨(q_uw 1601 rfl rfl), (q_uw 1602 rfl rfl)⟩
theorem mi_X11_bestStaff : q_MI M_X11_bestStaff := ⟨(q_uw 1618 rfl rfl), (q_uw 1619 rfl rfl)⟩
theorem mi_X11_bufferLength : q_MI M_X11_bufferLength := ⟨(q_uw 1302 rfl rfl), (q_uw 1303 rfl rfl)⟩
theorem mi_X11_buyer : q_MI M_X11_buyer := ⟨(q_uw 1467 rfl rfl), (q_uw 1468 rfl rfl)⟩
theorem mi_X11_byteAt : q_MI M_X11_byteAt := ⟨(q_uw 1319 rfl rfl), (q_uw 31 rfl rfl)⟩
theorem mi_X11_capacity : q_MI M_X11_capacity := ⟨(q_uw 1436 rfl rfl), (q_uw 48 rfl rfl)⟩
theorem mi_X11_clean : q_MI M_X11_clean := ⟨(q_uw 1597 rfl rfl), (q_uw 1598 rfl rfl)⟩
theorem mi_X11_comesBack : q_MI M_X11_comesBack := ⟨(q_uw 1615 rfl rfl), (q_uw 75 rfl rfl)⟩
theorem mi_X11_emptied : q_MI M_X11_emptied := ⟨(q_uw 1623 rfl rfl), (q_uw 1624 rfl rfl)⟩
theorem mi_X11_ends : q_MI M_X11_ends := ⟨(q_uw 1344 rfl rfl), (q_uw 35 rfl rfl)⟩
theorem mi_X11_fails : q_MI M_X11_fails := ⟨(q_uw 1419 rfl rfl), (q_uw 45 rfl rfl)⟩
theorem mi_X11_find : q_MI M_X11_find := ⟨(q_uw 1393 rfl rfl), (q_uw 1394 rfl rfl)⟩
theorem mi_X11_go : q_MI M_X11_go := ⟨(q_uw 1315 rfl rfl), (q_uw 30 rfl rfl)⟩
theorem mi_X11_goes : q_MI M_X11_goes := ⟨(q_uw 1561 rfl rfl), (q_uw 66 rfl rfl)⟩
theorem mi_X11_goesAside : q_MI M_X11_goesAside := ⟨(q_uw 1611 rfl rfl), (q_uw 74 rfl rfl)⟩
theorem mi_X11_gradeOf : q_MI M_X11_gradeOf := ⟨(q_uw 1570 rfl rfl), (q_uw 68 rfl rfl)⟩
theorem mi_X11_hasParcel : q_MI M_X11_hasParcel := ⟨(q_uw 1444 rfl rfl), (q_uw 50 rfl rfl)⟩
theorem mi_X11_impurity : q_MI M_X11_impurity := ⟨(q_uw 1590 rfl rfl), (q_uw 72 rfl rfl)⟩
theorem mi_X11_isBale : q_MI M_X11_isBale := ⟨(q_uw 1461 rfl rfl), (q_uw 52 rfl rfl)⟩
theorem mi_X11_isBuyer : q_MI M_X11_isBuyer := ⟨(q_uw 1472 rfl rfl), (q_uw 53 rfl rfl)⟩
theorem mi_X11_isEmpty : q_MI M_X11_isEmpty := ⟨(q_uw 1628 rfl rfl), (q_uw 76 rfl rfl)⟩
theorem mi_X11_isMaterial : q_MI M_X11_isMaterial := ⟨(q_uw 1453 rfl rfl), (q_uw 51 rfl rfl)⟩
theorem mi_X11_isName : q_MI M_X11_isName := ⟨(q_uw 1377 rfl rfl), (q_uw 40 rfl rfl)⟩
theorem mi_X11_isStation : q_MI M_X11_isStation := ⟨(q_uw 1427 rfl rfl), (q_uw 46 rfl rfl)⟩
theorem mi_X11_isTarget : q_MI M_X11_isTarget := ⟨(q_uw 1525 rfl rfl), (q_uw 58 rfl rfl)⟩
theorem mi_X11_isWord : q_MI M_X11_isWord := ⟨(q_uw 1330 rfl rfl), (q_uw 32 rfl rfl)⟩
theorem mi_X11_joins : q_MI M_X11_joins := ⟨(q_uw 1533 rfl rfl), (q_uw 60 rfl rfl)⟩
theorem mi_X11_lays : q_MI M_X11_lays := ⟨(q_uw 1205 rfl rfl), (q_uw 26 rfl rfl)⟩
theorem mi_X11_lays_ : q_MI M_X11_lays_ := ⟨(q_uw 1552 rfl rfl), (q_uw 64 rfl rfl)⟩
theorem mi_X11_leaves : q_MI M_X11_leaves := ⟨(q_uw 1521 rfl rfl), (q_uw 57 rfl rfl)⟩
theorem mi_X11_letters : q_MI M_X11_letters := ⟨(q_uw 1381 rfl rfl), (q_uw 41 rfl rfl)⟩
theorem mi_X11_line : q_MI M_X11_line := ⟨(q_uw 1398 rfl rfl), (q_uw 1399 rfl rfl)⟩
theorem mi_X11_load : q_MI M_X11_load := ⟨(q_uw 1489 rfl rfl), (q_uw 1490 rfl rfl)⟩
theorem mi_X11_loss : q_MI M_X11_loss := ⟨(q_uw 1485 rfl rfl), (q_uw 1486 rfl rfl)⟩
theorem mi_X11_mass : q_MI M_X11_mass := ⟨(q_uw 1447 rfl rfl), (q_uw 1448 rfl rfl)⟩
theorem mi_X11_materials : q_MI M_X11_materials := ⟨(q_uw 1403 rfl rfl), (q_uw 43 rfl rfl)⟩
theorem mi_X11_mostOf : q_MI M_X11_mostOf := ⟨(q_uw 1548 rfl rfl), (q_uw 63 rfl rfl)⟩
theorem mi_X11_moves : q_MI M_X11_moves := ⟨(q_uw 1537 rfl rfl), (q_uw 61 rfl rfl)⟩
theorem mi_X11_ofBuyer : q_MI M_X11_ofBuyer := ⟨(q_uw 1582 rfl rfl), (q_uw 70 rfl rfl)⟩
theorem mi_X11_onBelt : q_MI M_X11_onBelt := ⟨(q_uw 1407 rfl rfl), (q_uw 44 rfl rfl)⟩
theorem mi_X11_outlook : q_MI M_X11_outlook := ⟨(q_uw 1605 rfl rfl), (q_uw 1606 rfl rfl)⟩
theorem mi_X11_pays : q_MI M_X11_pays := ⟨(q_uw 1594 rfl rfl), (q_uw 73 rfl rfl)⟩
theorem mi_X11_picks : q_MI M_X11_picks := ⟨(q_uw 1556 rfl rfl), (q_uw 65 rfl rfl)⟩
theorem mi_X11_presses : q_MI M_X11_presses := ⟨(q_uw 1566 rfl rfl), (q_uw 67 rfl rfl)⟩
theorem mi_X11_purity : q_MI M_X11_purity := ⟨(q_uw 1481 rfl rfl), (q_uw 1482 rfl rfl)⟩
theorem mi_X11_read : q_MI M_X11_read := ⟨(q_uw 1306 rfl rfl), (q_uw 1307 rfl rfl)⟩
theorem mi_X11_reads : q_MI M_X11_reads := ⟨(q_uw 1340 rfl rfl), (q_uw 34 rfl rfl)⟩
theorem mi_X11_readsAll : q_MI M_X11_readsAll := ⟨(q_uw 1311 rfl rfl), (q_uw 29 rfl rfl)⟩
theorem mi_X11_readsBuyer : q_MI M_X11_readsBuyer := ⟨(q_uw 1373 rfl rfl), (q_uw 39 rfl rfl)⟩
theorem mi_X11_readsLoad : q_MI M_X11_readsLoad := ⟨(q_uw 1362 rfl rfl), (q_uw 38 rfl rfl)⟩
theorem mi_X11_readsSetting : q_MI M_X11_readsSetting := ⟨(q_uw 1357 rfl rfl), (q_uw 37 rfl rfl)⟩
theorem mi_X11_readsStation : q_MI M_X11_readsStation := ⟨(q_uw 1349 rfl rfl), (q_uw 36 rfl rfl)⟩
theorem mi_X11_remembers : q_MI M_X11_remembers := ⟨(q_uw 1495 rfl rfl), (q_uw 54 rfl rfl)⟩
theorem mi_X11_run : q_MI M_X11_run := ⟨(q_uw 1511 rfl rfl), (q_uw 1512 rfl rfl)⟩
theorem mi_X11_sell : q_MI M_X11_sell := ⟨(q_uw 1573 rfl rfl), (q_uw 1574 rfl rfl)⟩
theorem mi_X11_sendsBack : q_MI M_X11_sendsBack := ⟨(q_uw 1586 rfl rfl), (q_uw 71 rfl rfl)⟩
theorem mi_X11_set : q_MI M_X11_set := ⟨(q_uw 1498 rfl rfl), (q_uw 1499 rfl rfl)⟩
theorem mi_X11_setting : q_MI M_X11_setting := ⟨(q_uw 1413 rfl rfl), (q_uw 1414 rfl rfl)⟩
theorem mi_X11_staff : q_MI M_X11_staff := ⟨(q_uw 1502 rfl rfl), (q_uw 1503 rfl rfl)⟩
theorem mi_X11_staffs : q_MI M_X11_staffs := ⟨(q_uw 1508 rfl rfl), (q_uw 55 rfl rfl)⟩
theorem mi_X11_station : q_MI M_X11_station := ⟨(q_uw 1422 rfl rfl), (q_uw 1423 rfl rfl)⟩
theorem mi_X11_stations : q_MI M_X11_stations := ⟨(q_uw 1390 rfl rfl), (q_uw 42 rfl rfl)⟩
theorem mi_X11_takes : q_MI M_X11_takes := ⟨(q_uw 1541 rfl rfl), (q_uw 62 rfl rfl)⟩
theorem mi_X11_takesBale : q_MI M_X11_takesBale := ⟨(q_uw 1578 rfl rfl), (q_uw 69 rfl rfl)⟩
theorem mi_X11_targetOf : q_MI M_X11_targetOf := ⟨(q_uw 1432 rfl rfl), (q_uw 47 rfl rfl)⟩
theorem mi_X11_thrown : q_MI M_X11_thrown := ⟨(q_uw 1194 rfl rfl), (q_uw 1195 rfl rfl)⟩
theorem mi_X11_ticks : q_MI M_X11_ticks := ⟨(q_uw 1517 rfl rfl), (q_uw 56 rfl rfl)⟩
theorem mi_X11_total : q_MI M_X11_total := ⟨(q_uw 1440 rfl rfl), (q_uw 49 rfl rfl)⟩
theorem mi_X11_truncate : q_MI M_X11_truncate := ⟨(q_uw 1295 rfl rfl), (q_uw 1296 rfl rfl)⟩
theorem mi_X11_undo : q_MI M_X11_undo := ⟨(q_uw 1283 rfl rfl), (q_uw 1284 rfl rfl)⟩
theorem mi_X11_waits : q_MI M_X11_waits := ⟨(q_uw 1529 rfl rfl), (q_uw 59 rfl rfl)⟩
theorem mi_X1_claimsFor : q_MI M_X1_claimsFor := ⟨(q_uw 1148 rfl rfl), (q_uw 1149 rfl rfl)⟩
theorem mi_X1_copyFrom : q_MI M_X1_copyFrom := ⟨(q_uw 775 rfl rfl), (q_uw 776 rfl rfl)⟩
theorem mi_X1_payFor : q_MI M_X1_payFor := ⟨(q_uw 1140 rfl rfl), (q_uw 1141 rfl rfl)⟩
theorem mi_X1_sendsBack : q_MI M_X1_sendsBack := ⟨(q_uw 1123 rfl rfl), (q_uw 1124 rfl rfl)⟩
theorem mi_X1_takes : q_MI M_X1_takes := ⟨(q_uw 1118 rfl rfl), (q_uw 1119 rfl rfl)⟩
theorem mi_X1_worthOf : q_MI M_X1_worthOf := ⟨(q_uw 1145 rfl rfl), (q_uw 24 rfl rfl)⟩
theorem mi_X2_clear : q_MI M_X2_clear := ⟨(q_uw 464 rfl rfl), (q_uw 465 rfl rfl)⟩
theorem mi_X2_copyFrom : q_MI M_X2_copyFrom := ⟨(q_uw 769 rfl rfl), (q_uw 770 rfl rfl)⟩
theorem mi_X2_mostBut : q_MI M_X2_mostBut := ⟨(q_uw 851 rfl rfl), (q_uw 852 rfl rfl)⟩
theorem mi_X2_move : q_MI M_X2_move := ⟨(q_uw 847 rfl rfl), (q_uw 848 rfl rfl)⟩
theorem mi_X2_movePortion : q_MI M_X2_movePortion := ⟨(q_uw 841 rfl rfl), (q_uw 842 rfl rfl)⟩
theorem mi_X2_of : q_MI M_X2_of := ⟨(q_uw 820 rfl rfl), (q_uw 821 rfl rfl)⟩
theorem mi_X2_put : q_MI M_X2_put := ⟨(q_uw 674 rfl rfl), (q_uw 675 rfl rfl)⟩
theorem mi_X2_putAll : q_MI M_X2_putAll := ⟨(q_uw 825 rfl rfl), (q_uw 826 rfl rfl)⟩
theorem mi_X3_addLast : q_MI M_X3_addLast := ⟨(q_uw 665 rfl rfl), (q_uw 666 rfl rfl)⟩
theorem mi_X3_copyFrom : q_MI M_X3_copyFrom := ⟨(q_uw 779 rfl rfl), (q_uw 780 rfl rfl)⟩
theorem mi_X3_dropFirst : q_MI M_X3_dropFirst := ⟨(q_uw 855 rfl rfl), (q_uw 856 rfl rfl)⟩
theorem mi_X3_dropLast : q_MI M_X3_dropLast := ⟨(q_uw 678 rfl rfl), (q_uw 679 rfl rfl)⟩
theorem mi_X3_isFull : q_MI M_X3_isFull := ⟨(q_uw 669 rfl rfl), (q_uw 670 rfl rfl)⟩
theorem mi_X3_parcelAt : q_MI M_X3_parcelAt := ⟨(q_uw 837 rfl rfl), (q_uw 838 rfl rfl)⟩
theorem mi_X3_totalMass : q_MI M_X3_totalMass := ⟨(q_uw 724 rfl rfl), (q_uw 725 rfl rfl)⟩
theorem mi_X4_addStation : q_MI M_X4_addStation := ⟨(q_uw 456 rfl rfl), (q_uw 457 rfl rfl)⟩
theorem mi_X4_buyerAt : q_MI M_X4_buyerAt := ⟨(q_uw 1036 rfl rfl), (q_uw 1037 rfl rfl)⟩
theorem mi_X4_buyerNamed : q_MI M_X4_buyerNamed := ⟨(q_uw 698 rfl rfl), (q_uw 699 rfl rfl)⟩
theorem mi_X4_copyFrom : q_MI M_X4_copyFrom := ⟨(q_uw 757 rfl rfl), (q_uw 758 rfl rfl)⟩
theorem mi_X4_feedBelt : q_MI M_X4_feedBelt := ⟨(q_uw 834 rfl rfl), (q_uw 19 rfl rfl)⟩
theorem mi_X4_goesRound : q_MI M_X4_goesRound := ⟨(q_uw 812 rfl rfl), (q_uw 16 rfl rfl)⟩
theorem mi_X4_greatestTiredness : q_MI M_X4_greatestTiredness := ⟨(q_uw 1178 rfl rfl), (q_uw 1179 rfl rfl)⟩
theorem mi_X4_handOver : q_MI M_X4_handOver := ⟨(q_uw 1136 rfl rfl), (q_uw 1137 rfl rfl)⟩
theorem mi_X4_hasMaterial : q_MI M_X4_hasMaterial := ⟨(q_uw 1006 rfl rfl), (q_uw 1007 rfl rfl)⟩
theorem mi_X4_heapAt : q_MI M_X4_heapAt := ⟨(q_uw 1011 rfl rfl), (q_uw 1012 rfl rfl)⟩
theorem mi_X4_isEmptied : q_MI M_X4_isEmptied := ⟨(q_uw 794 rfl rfl), (q_uw 795 rfl rfl)⟩
theorem mi_X4_isTarget : q_MI M_X4_isTarget := ⟨(q_uw 817 rfl rfl), (q_uw 17 rfl rfl)⟩
theorem mi_X4_leaveBelt : q_MI M_X4_leaveBelt := ⟨(q_uw 804 rfl rfl), (q_uw 15 rfl rfl)⟩
theorem mi_X4_makeTicks : q_MI M_X4_makeTicks := ⟨(q_uw 799 rfl rfl), (q_uw 800 rfl rfl)⟩
theorem mi_X4_massInBunkers : q_MI M_X4_massInBunkers := ⟨(q_uw 732 rfl rfl), (q_uw 733 rfl rfl)⟩
theorem mi_X4_massOnBelt : q_MI M_X4_massOnBelt := ⟨(q_uw 728 rfl rfl), (q_uw 729 rfl rfl)⟩
theorem mi_X4_moveBelt : q_MI M_X4_moveBelt := ⟨(q_uw 830 rfl rfl), (q_uw 18 rfl rfl)⟩
theorem mi_X4_parcelsOnBelt : q_MI M_X4_parcelsOnBelt := ⟨(q_uw 712 rfl rfl), (q_uw 713 rfl rfl)⟩
theorem mi_X4_pressBale : q_MI M_X4_pressBale := ⟨(q_uw 881 rfl rfl), (q_uw 21 rfl rfl)⟩
theorem mi_X4_pressBales : q_MI M_X4_pressBales := ⟨(q_uw 877 rfl rfl), (q_uw 20 rfl rfl)⟩
theorem mi_X4_reset : q_MI M_X4_reset := ⟨(q_uw 552 rfl rfl), (q_uw 553 rfl rfl)⟩
theorem mi_X4_stationAt : q_MI M_X4_stationAt := ⟨(q_uw 807 rfl rfl), (q_uw 808 rfl rfl)⟩
theorem mi_X4_takeBack : q_MI M_X4_takeBack := ⟨(q_uw 1132 rfl rfl), (q_uw 1133 rfl rfl)⟩
theorem mi_X5_copyFrom : q_MI M_X5_copyFrom := ⟨(q_uw 765 rfl rfl), (q_uw 766 rfl rfl)⟩
theorem mi_X6_capacity : q_MI M_X6_capacity := ⟨(q_uw 864 rfl rfl), (q_uw 865 rfl rfl)⟩
theorem mi_X6_copyFrom : q_MI M_X6_copyFrom := ⟨(q_uw 761 rfl rfl), (q_uw 762 rfl rfl)⟩
theorem mi_X6_isSlotEmpty : q_MI M_X6_isSlotEmpty := ⟨(q_uw 716 rfl rfl), (q_uw 717 rfl rfl)⟩
theorem mi_X6_pick : q_MI M_X6_pick := ⟨(q_uw 859 rfl rfl), (q_uw 860 rfl rfl)⟩
theorem mi_X6_relieve : q_MI M_X6_relieve := ⟨(q_uw 460 rfl rfl), (q_uw 461 rfl rfl)⟩
theorem mi_X7_addLast : q_MI M_X7_addLast := ⟨(q_uw 884 rfl rfl), (q_uw 885 rfl rfl)⟩
theorem mi_X7_baleAt : q_MI M_X7_baleAt := ⟨(q_uw 1023 rfl rfl), (q_uw 1024 rfl rfl)⟩
theorem mi_X7_copyFrom : q_MI M_X7_copyFrom := ⟨(q_uw 784 rfl rfl), (q_uw 785 rfl rfl)⟩
theorem mi_X7_dropBale : q_MI M_X7_dropBale := ⟨(q_uw 1127 rfl rfl), (q_uw 1128 rfl rfl)⟩
theorem mi_X7_totalMass : q_MI M_X7_totalMass := ⟨(q_uw 736 rfl rfl), (q_uw 737 rfl rfl)⟩
theorem mi_X8_copyFrom : q_MI M_X8_copyFrom := ⟨(q_uw 559 rfl rfl), (q_uw 560 rfl rfl)⟩
theorem mi_X9_fail : q_MI M_X9_fail := ⟨(q_uw 634 rfl rfl), (q_uw 5 rfl rfl)⟩
theorem mi_X9_isKeyword : q_MI M_X9_isKeyword := ⟨(q_uw 692 rfl rfl), (q_uw 13 rfl rfl)⟩
theorem mi_X9_isWord : q_MI M_X9_isWord := ⟨(q_uw 578 rfl rfl), (q_uw 3 rfl rfl)⟩
theorem mi_X9_nextToken : q_MI M_X9_nextToken := ⟨(q_uw 564 rfl rfl), (q_uw 2 rfl rfl)⟩
theorem mi_X9_readBuyer : q_MI M_X9_readBuyer := ⟨(q_uw 684 rfl rfl), (q_uw 11 rfl rfl)⟩
theorem mi_X9_readLoad : q_MI M_X9_readLoad := ⟨(q_uw 662 rfl rfl), (q_uw 10 rfl rfl)⟩
theorem mi_X9_readName : q_MI M_X9_readName := ⟨(q_uw 688 rfl rfl), (q_uw 12 rfl rfl)⟩
theorem mi_X9_readNumber : q_MI M_X9_readNumber := ⟨(q_uw 630 rfl rfl), (q_uw 4 rfl rfl)⟩
theorem mi_X9_readSemicolon : q_MI M_X9_readSemicolon := ⟨(q_uw 638 rfl rfl), (q_uw 6 rfl rfl)⟩
theorem mi_X9_readSetting : q_MI M_X9_readSetting := ⟨(q_uw 653 rfl rfl), (q_uw 9 rfl rfl)⟩
theorem mi_X9_readStatement : q_MI M_X9_readStatement := ⟨(q_uw 642 rfl rfl), (q_uw 7 rfl rfl)⟩
theorem mi_X9_readStation : q_MI M_X9_readStation := ⟨(q_uw 647 rfl rfl), (q_uw 8 rfl rfl)⟩
theorem mi_X9_readText : q_MI M_X9_readText := ⟨(q_uw 548 rfl rfl), (q_uw 549 rfl rfl)⟩
theorem mi0_X0_init : Cond.instanceMethod M_X0_init.1 ∈ q_UW := (q_uw 202 rfl rfl)
theorem mi0_X10_init : Cond.instanceMethod M_X10_init.1 ∈ q_UW := (q_uw 106 rfl rfl)
theorem mi0_X11_init : Cond.instanceMethod M_X11_init.1 ∈ q_UW := (q_uw 1200 rfl rfl)
theorem mi0_X1_init : Cond.instanceMethod M_X1_init.1 ∈ q_UW := (q_uw 359 rfl rfl)
theorem mi0_X2_init : Cond.instanceMethod M_X2_init.1 ∈ q_UW := (q_uw 146 rfl rfl)
theorem mi0_X3_init : Cond.instanceMethod M_X3_init.1 ∈ q_UW := (q_uw 133 rfl rfl)
theorem mi0_X4_init : Cond.instanceMethod M_X4_init.1 ∈ q_UW := (q_uw 114 rfl rfl)
theorem mi0_X5_init : Cond.instanceMethod M_X5_init.1 ∈ q_UW := (q_uw 140 rfl rfl)
theorem mi0_X6_init : Cond.instanceMethod M_X6_init.1 ∈ q_UW := (q_uw 305 rfl rfl)
theorem mi0_X7_init : Cond.instanceMethod M_X7_init.1 ∈ q_UW := (q_uw 195 rfl rfl)
theorem mi0_X8_init : Cond.instanceMethod M_X8_init.1 ∈ q_UW := (q_uw 250 rfl rfl)
theorem mi0_X9_init : Cond.instanceMethod M_X9_init.1 ∈ q_UW := (q_uw 519 rfl rfl)
theorem ml_J0_1059_J3_checkIndex_8e157 : q_CL RJ0 1059 M_J3_checkIndex_8e157 := (q_uw 606 rfl rfl)
theorem ml_J0_335_J0_coder_7d493 : q_CL RJ0 335 M_J0_coder_7d493 := (q_uw 584 rfl rfl)
theorem ml_J0_492_J0_isLatin1_aae02 : q_CL RJ0 492 M_J0_isLatin1_aae02 := (q_uw 594 rfl rfl)
theorem ml_J0_495_J1_charAt_3b067 : q_CL RJ0 495 M_J1_charAt_3b067 := (q_uw 598 rfl rfl)
theorem ml_J1_9_J0_checkIndex_df160 : q_CL RJ1 9 M_J0_checkIndex_df160 := (q_uw 601 rfl rfl)
theorem ml_L_100_X11_thrown : q_CL RL 100 M_X11_thrown := (q_uw 1193 rfl rfl)
theorem ml_L_103_L_station : q_CL RL 103 M_L_station := (q_uw 969 rfl rfl)
theorem ml_L_106_X11_station : q_CL RL 106 M_X11_station := (q_uw 1421 rfl rfl)
theorem ml_L_107_L_mass : q_CL RL 107 M_L_mass := (q_uw 997 rfl rfl)
theorem ml_L_109_X11_mass : q_CL RL 109 M_X11_mass := (q_uw 1446 rfl rfl)
theorem ml_L_110_L_bale : q_CL RL 110 M_L_bale := (q_uw 1015 rfl rfl)
theorem ml_L_112_X11_bale : q_CL RL 112 M_X11_bale := (q_uw 1455 rfl rfl)
theorem ml_L_113_L_buyer : q_CL RL 113 M_L_buyer := (q_uw 1028 rfl rfl)
theorem ml_L_115_X11_buyer : q_CL RL 115 M_X11_buyer := (q_uw 1466 rfl rfl)
theorem ml_L_116_X10_balance : q_CL RL 116 M_X10_balance := (q_uw 719 rfl rfl)
theorem ml_L_120_X11_balance : q_CL RL 120 M_X11_balance := (q_uw 1475 rfl rfl)
theorem ml_L_121_L_purity : q_CL RL 121 M_L_purity := (q_uw 1041 rfl rfl)
theorem ml_L_124_X11_purity : q_CL RL 124 M_X11_purity := (q_uw 1480 rfl rfl)
theorem ml_L_125_X10_loss : q_CL RL 125 M_X10_loss := (q_uw 740 rfl rfl)
theorem ml_L_129_X11_loss : q_CL RL 129 M_X11_loss := (q_uw 1484 rfl rfl)
theorem ml_L_130_L_load : q_CL RL 130 M_L_load := (q_uw 1048 rfl rfl)
theorem ml_L_132_X11_load : q_CL RL 132 M_X11_load := (q_uw 1488 rfl rfl)
theorem ml_L_133_L_set : q_CL RL 133 M_L_set := (q_uw 1081 rfl rfl)
theorem ml_L_135_X11_set : q_CL RL 135 M_X11_set := (q_uw 1497 rfl rfl)
theorem ml_L_136_L_staff : q_CL RL 136 M_L_staff := (q_uw 1091 rfl rfl)
theorem ml_L_138_X11_staff : q_CL RL 138 M_X11_staff := (q_uw 1501 rfl rfl)
theorem ml_L_139_L_run : q_CL RL 139 M_L_run := (q_uw 1100 rfl rfl)
theorem ml_L_141_X11_run : q_CL RL 141 M_X11_run := (q_uw 1510 rfl rfl)
theorem ml_L_142_L_sell : q_CL RL 142 M_L_sell := (q_uw 1109 rfl rfl)
theorem ml_L_144_X11_sell : q_CL RL 144 M_X11_sell := (q_uw 1572 rfl rfl)
theorem ml_L_145_L_clean : q_CL RL 145 M_L_clean := (q_uw 1153 rfl rfl)
theorem ml_L_147_X11_clean : q_CL RL 147 M_X11_clean := (q_uw 1596 rfl rfl)
theorem ml_L_148_X10_undo : q_CL RL 148 M_X10_undo := (q_uw 744 rfl rfl)
theorem ml_L_15_X10_station : q_CL RL 15 M_X10_station := (q_uw 973 rfl rfl)
theorem ml_L_151_X11_undo : q_CL RL 151 M_X11_undo := (q_uw 1282 rfl rfl)
theorem ml_L_152_L_bestBuyer : q_CL RL 152 M_L_bestBuyer := (q_uw 1161 rfl rfl)
theorem ml_L_154_X11_bestBuyer : q_CL RL 154 M_X11_bestBuyer := (q_uw 1600 rfl rfl)
theorem ml_L_155_L_outlook : q_CL RL 155 M_L_outlook := (q_uw 1169 rfl rfl)
theorem ml_L_157_X11_outlook : q_CL RL 157 M_X11_outlook := (q_uw 1604 rfl rfl)
theorem ml_L_158_L_bestStaff : q_CL RL 158 M_L_bestStaff := (q_uw 1182 rfl rfl)
theorem ml_L_160_X11_bestStaff : q_CL RL 160 M_X11_bestStaff := (q_uw 1617 rfl rfl)
theorem ml_L_161_X10_emptied : q_CL RL 161 M_X10_emptied := (q_uw 748 rfl rfl)
theorem ml_L_164_X11_emptied : q_CL RL 164 M_X11_emptied := (q_uw 1622 rfl rfl)
theorem ml_L_21_X10_mass : q_CL RL 21 M_X10_mass := (q_uw 1000 rfl rfl)
theorem ml_L_24_X10_bale : q_CL RL 24 M_X10_bale := (q_uw 1018 rfl rfl)
theorem ml_L_27_X10_buyer : q_CL RL 27 M_X10_buyer := (q_uw 1031 rfl rfl)
theorem ml_L_30_X10_purity : q_CL RL 30 M_X10_purity := (q_uw 1044 rfl rfl)
theorem ml_L_34_X10_load : q_CL RL 34 M_X10_load := (q_uw 1052 rfl rfl)
theorem ml_L_39_X10_set : q_CL RL 39 M_X10_set := (q_uw 1084 rfl rfl)
theorem ml_L_42_X10_staff : q_CL RL 42 M_X10_staff := (q_uw 1094 rfl rfl)
theorem ml_L_45_X10_run : q_CL RL 45 M_X10_run := (q_uw 1103 rfl rfl)
theorem ml_L_48_X10_sell : q_CL RL 48 M_X10_sell := (q_uw 1112 rfl rfl)
theorem ml_L_51_X10_clean : q_CL RL 51 M_X10_clean := (q_uw 1156 rfl rfl)
theorem ml_L_54_X10_bestBuyer : q_CL RL 54 M_X10_bestBuyer := (q_uw 1164 rfl rfl)
theorem ml_L_57_X10_outlook : q_CL RL 57 M_X10_outlook := (q_uw 1172 rfl rfl)
theorem ml_L_60_X10_bestStaff : q_CL RL 60 M_X10_bestStaff := (q_uw 1185 rfl rfl)
theorem ml_L_67_X10_append : q_CL RL 67 M_X10_append := (q_uw 492 rfl rfl)
theorem ml_L_7_X10_setting : q_CL RL 7 M_X10_setting := (q_uw 898 rfl rfl)
theorem ml_L_71_X11_append : q_CL RL 71 M_X11_append := (q_uw 1286 rfl rfl)
theorem ml_L_72_X10_truncate : q_CL RL 72 M_X10_truncate := (q_uw 500 rfl rfl)
theorem ml_L_76_X11_truncate : q_CL RL 76 M_X11_truncate := (q_uw 1294 rfl rfl)
theorem ml_L_77_X10_bufferLength : q_CL RL 77 M_X10_bufferLength := (q_uw 504 rfl rfl)
theorem ml_L_81_X11_bufferLength : q_CL RL 81 M_X11_bufferLength := (q_uw 1301 rfl rfl)
theorem ml_L_82_X10_read : q_CL RL 82 M_X10_read := (q_uw 508 rfl rfl)
theorem ml_L_85_X11_read : q_CL RL 85 M_X11_read := (q_uw 1305 rfl rfl)
theorem ml_L_86_X10_find : q_CL RL 86 M_X10_find := (q_uw 701 rfl rfl)
theorem ml_L_89_X11_find : q_CL RL 89 M_X11_find := (q_uw 1392 rfl rfl)
theorem ml_L_90_X10_line : q_CL RL 90 M_X10_line := (q_uw 707 rfl rfl)
theorem ml_L_93_X11_line : q_CL RL 93 M_X11_line := (q_uw 1397 rfl rfl)
theorem ml_L_94_L_setting : q_CL RL 94 M_L_setting := (q_uw 894 rfl rfl)
theorem ml_L_99_X11_setting : q_CL RL 99 M_X11_setting := (q_uw 1412 rfl rfl)
theorem ml_X0_23_X2_of : q_CL RX0 23 M_X2_of := (q_uw 892 rfl rfl)
theorem ml_X0_36_X2_copyFrom : q_CL RX0 36 M_X2_copyFrom := (q_uw 791 rfl rfl)
theorem ml_X1_31_X1_worthOf : q_CL RX1 31 M_X1_worthOf := (q_uw 1143 rfl rfl)
theorem ml_X1_35_X1_claimsFor : q_CL RX1 35 M_X1_claimsFor := (q_uw 1147 rfl rfl)
theorem ml_X10_123_X4_stationAt : q_CL RX10 123 M_X4_stationAt := (q_uw 977 rfl rfl)
theorem ml_X10_146_X6_capacity : q_CL RX10 146 M_X6_capacity := (q_uw 979 rfl rfl)
theorem ml_X10_167_X6_isSlotEmpty : q_CL RX10 167 M_X6_isSlotEmpty := (q_uw 980 rfl rfl)
theorem ml_X10_185_X4_hasMaterial : q_CL RX10 185 M_X4_hasMaterial := (q_uw 1005 rfl rfl)
theorem ml_X10_191_X4_heapAt : q_CL RX10 191 M_X4_heapAt := (q_uw 1010 rfl rfl)
theorem ml_X10_195_X2_of : q_CL RX10 195 M_X2_of := (q_uw 1014 rfl rfl)
theorem ml_X10_198_X7_baleAt : q_CL RX10 198 M_X7_baleAt := (q_uw 1022 rfl rfl)
theorem ml_X10_221_X4_buyerAt : q_CL RX10 221 M_X4_buyerAt := (q_uw 1035 rfl rfl)
theorem ml_X10_250_X3_totalMass : q_CL RX10 250 M_X3_totalMass := (q_uw 723 rfl rfl)
theorem ml_X10_253_X4_massOnBelt : q_CL RX10 253 M_X4_massOnBelt := (q_uw 727 rfl rfl)
theorem ml_X10_256_X4_massInBunkers : q_CL RX10 256 M_X4_massInBunkers := (q_uw 731 rfl rfl)
theorem ml_X10_259_X7_totalMass : q_CL RX10 259 M_X7_totalMass := (q_uw 735 rfl rfl)
theorem ml_X10_279_X3_isFull : q_CL RX10 279 M_X3_isFull := (q_uw 1057 rfl rfl)
theorem ml_X10_28_X4_addStation : q_CL RX10 28 M_X4_addStation := (q_uw 455 rfl rfl)
theorem ml_X10_287_X10_remember : q_CL RX10 287 M_X10_remember := (q_uw 1074 rfl rfl)
theorem ml_X10_290_X3_addLast : q_CL RX10 290 M_X3_addLast := (q_uw 1079 rfl rfl)
theorem ml_X10_294_X2_put : q_CL RX10 294 M_X2_put := (q_uw 1080 rfl rfl)
theorem ml_X10_308_X6_relieve : q_CL RX10 308 M_X6_relieve := (q_uw 1099 rfl rfl)
theorem ml_X10_315_X4_makeTicks : q_CL RX10 315 M_X4_makeTicks := (q_uw 798 rfl rfl)
theorem ml_X10_320_X1_takes : q_CL RX10 320 M_X1_takes := (q_uw 1117 rfl rfl)
theorem ml_X10_326_X1_sendsBack : q_CL RX10 326 M_X1_sendsBack := (q_uw 1122 rfl rfl)
theorem ml_X10_329_X7_dropBale : q_CL RX10 329 M_X7_dropBale := (q_uw 1126 rfl rfl)
theorem ml_X10_332_X4_takeBack : q_CL RX10 332 M_X4_takeBack := (q_uw 1131 rfl rfl)
theorem ml_X10_336_X4_handOver : q_CL RX10 336 M_X4_handOver := (q_uw 1135 rfl rfl)
theorem ml_X10_340_X2_clear : q_CL RX10 340 M_X2_clear := (q_uw 1160 rfl rfl)
theorem ml_X10_35_X10_appendBytes : q_CL RX10 35 M_X10_appendBytes := (q_uw 496 rfl rfl)
theorem ml_X10_350_X1_payFor : q_CL RX10 350 M_X1_payFor := (q_uw 1168 rfl rfl)
theorem ml_X10_356_X10_copyOfLine : q_CL RX10 356 M_X10_copyOfLine := (q_uw 752 rfl rfl)
theorem ml_X10_356_X10_copyOfLine0 : q_CL RX10 356 M_X10_copyOfLine0 := (q_uw 752 rfl rfl)
theorem ml_X10_365_X4_greatestTiredness : q_CL RX10 365 M_X4_greatestTiredness := (q_uw 1177 rfl rfl)
theorem ml_X10_368_X10_pickedWith : q_CL RX10 368 M_X10_pickedWith := (q_uw 1189 rfl rfl)
theorem ml_X10_368_X10_pickedWith0 : q_CL RX10 368 M_X10_pickedWith0 := (q_uw 1189 rfl rfl)
theorem ml_X10_372_X4_isEmptied : q_CL RX10 372 M_X4_isEmptied := (q_uw 793 rfl rfl)
theorem ml_X10_375_X4_copyFrom : q_CL RX10 375 M_X4_copyFrom := (q_uw 756 rfl rfl)
theorem ml_X10_39_X10_spareLine : q_CL RX10 39 M_X10_spareLine := (q_uw 512 rfl rfl)
theorem ml_X10_39_X10_spareLine0 : q_CL RX10 39 M_X10_spareLine0 := (q_uw 512 rfl rfl)
theorem ml_X10_48_X9_readText : q_CL RX10 48 M_X9_readText := (q_uw 547 rfl rfl)
theorem ml_X10_61_X9_nameCode : q_CL RX10 61 M_X9_nameCode := (q_uw 705 rfl rfl)
theorem ml_X10_65_X4_buyerNamed : q_CL RX10 65 M_X4_buyerNamed := (q_uw 706 rfl rfl)
theorem ml_X10_90_X4_parcelsOnBelt : q_CL RX10 90 M_X4_parcelsOnBelt := (q_uw 711 rfl rfl)
theorem ml_X11_101_J0_length_8abf5 : q_CL RX11 101 M_J0_length_8abf5 := (q_uw 1332 rfl rfl)
theorem ml_X11_107_J0_charAt_5068e : q_CL RX11 107 M_J0_charAt_5068e := (q_uw 1333 rfl rfl)
theorem ml_X11_113_X11_isWord : q_CL RX11 113 M_X11_isWord := (q_uw 1328 rfl rfl)
theorem ml_X11_131_X11_bad : q_CL RX11 131 M_X11_bad := (q_uw 1334 rfl rfl)
theorem ml_X11_134_X11_go : q_CL RX11 134 M_X11_go := (q_uw 1313 rfl rfl)
theorem ml_X11_137_X11_reads : q_CL RX11 137 M_X11_reads := (q_uw 1338 rfl rfl)
theorem ml_X11_141_X11_placeAt : q_CL RX11 141 M_X11_placeAt := (q_uw 1351 rfl rfl)
theorem ml_X11_145_X11_parcelAt : q_CL RX11 145 M_X11_parcelAt := (q_uw 1364 rfl rfl)
theorem ml_X11_148_X11_isName : q_CL RX11 148 M_X11_isName := (q_uw 1375 rfl rfl)
theorem ml_X11_152_X11_letters : q_CL RX11 152 M_X11_letters := (q_uw 1379 rfl rfl)
theorem ml_X11_156_X11_buyerWith : q_CL RX11 156 M_X11_buyerWith := (q_uw 1385 rfl rfl)
theorem ml_X11_162_X11_ends : q_CL RX11 162 M_X11_ends := (q_uw 1342 rfl rfl)
theorem ml_X11_167_X11_readsStation : q_CL RX11 167 M_X11_readsStation := (q_uw 1347 rfl rfl)
theorem ml_X11_170_X11_readsSetting : q_CL RX11 170 M_X11_readsSetting := (q_uw 1355 rfl rfl)
theorem ml_X11_173_X11_readsLoad : q_CL RX11 173 M_X11_readsLoad := (q_uw 1360 rfl rfl)
theorem ml_X11_176_X11_readsBuyer : q_CL RX11 176 M_X11_readsBuyer := (q_uw 1371 rfl rfl)
theorem ml_X11_179_X11_readsAll : q_CL RX11 179 M_X11_readsAll := (q_uw 1309 rfl rfl)
theorem ml_X11_182_X11_stations : q_CL RX11 182 M_X11_stations := (q_uw 1388 rfl rfl)
theorem ml_X11_187_X11_materials : q_CL RX11 187 M_X11_materials := (q_uw 1401 rfl rfl)
theorem ml_X11_189_X11_total : q_CL RX11 189 M_X11_total := (q_uw 1438 rfl rfl)
theorem ml_X11_198_X11_mostOf : q_CL RX11 198 M_X11_mostOf := (q_uw 1546 rfl rfl)
theorem ml_X11_201_X11_targetOf : q_CL RX11 201 M_X11_targetOf := (q_uw 1430 rfl rfl)
theorem ml_X11_204_X11_slotAt : q_CL RX11 204 M_X11_slotAt := (q_uw 1409 rfl rfl)
theorem ml_X11_207_X11_isTarget : q_CL RX11 207 M_X11_isTarget := (q_uw 1523 rfl rfl)
theorem ml_X11_210_X11_waits : q_CL RX11 210 M_X11_waits := (q_uw 1527 rfl rfl)
theorem ml_X11_214_X11_joins : q_CL RX11 214 M_X11_joins := (q_uw 1531 rfl rfl)
theorem ml_X11_217_X11_takes : q_CL RX11 217 M_X11_takes := (q_uw 1539 rfl rfl)
theorem ml_X11_220_X11_lays_ : q_CL RX11 220 M_X11_lays_ := (q_uw 1550 rfl rfl)
theorem ml_X11_222_X11_capacity : q_CL RX11 222 M_X11_capacity := (q_uw 1434 rfl rfl)
theorem ml_X11_227_X11_goes : q_CL RX11 227 M_X11_goes := (q_uw 1559 rfl rfl)
theorem ml_X11_234_X11_storedAt : q_CL RX11 234 M_X11_storedAt := (q_uw 1463 rfl rfl)
theorem ml_X11_237_X11_gradeOf : q_CL RX11 237 M_X11_gradeOf := (q_uw 1568 rfl rfl)
theorem ml_X11_243_X11_leaves : q_CL RX11 243 M_X11_leaves := (q_uw 1519 rfl rfl)
theorem ml_X11_246_X11_moves : q_CL RX11 246 M_X11_moves := (q_uw 1535 rfl rfl)
theorem ml_X11_249_X11_picks : q_CL RX11 249 M_X11_picks := (q_uw 1554 rfl rfl)
theorem ml_X11_252_X11_presses : q_CL RX11 252 M_X11_presses := (q_uw 1564 rfl rfl)
theorem ml_X11_255_X11_onBelt : q_CL RX11 255 M_X11_onBelt := (q_uw 1405 rfl rfl)
theorem ml_X11_260_X11_fails : q_CL RX11 260 M_X11_fails := (q_uw 1417 rfl rfl)
theorem ml_X11_264_X11_isStation : q_CL RX11 264 M_X11_isStation := (q_uw 1425 rfl rfl)
theorem ml_X11_269_X11_hasParcel : q_CL RX11 269 M_X11_hasParcel := (q_uw 1442 rfl rfl)
theorem ml_X11_274_X11_isMaterial : q_CL RX11 274 M_X11_isMaterial := (q_uw 1451 rfl rfl)
theorem ml_X11_277_X11_isBale : q_CL RX11 277 M_X11_isBale := (q_uw 1459 rfl rfl)
theorem ml_X11_280_X11_isBuyer : q_CL RX11 280 M_X11_isBuyer := (q_uw 1470 rfl rfl)
theorem ml_X11_289_X11_remembers : q_CL RX11 289 M_X11_remembers := (q_uw 1493 rfl rfl)
theorem ml_X11_294_X11_staffs : q_CL RX11 294 M_X11_staffs := (q_uw 1506 rfl rfl)
theorem ml_X11_299_X11_ticks : q_CL RX11 299 M_X11_ticks := (q_uw 1515 rfl rfl)
theorem ml_X11_302_X11_ofBuyer : q_CL RX11 302 M_X11_ofBuyer := (q_uw 1580 rfl rfl)
theorem ml_X11_305_X11_impurity : q_CL RX11 305 M_X11_impurity := (q_uw 1588 rfl rfl)
theorem ml_X11_308_X11_takesBale : q_CL RX11 308 M_X11_takesBale := (q_uw 1576 rfl rfl)
theorem ml_X11_312_X11_sendsBack : q_CL RX11 312 M_X11_sendsBack := (q_uw 1584 rfl rfl)
theorem ml_X11_315_X11_pays : q_CL RX11 315 M_X11_pays := (q_uw 1592 rfl rfl)
theorem ml_X11_320_X11_goesAside : q_CL RX11 320 M_X11_goesAside := (q_uw 1609 rfl rfl)
theorem ml_X11_323_X11_comesBack : q_CL RX11 323 M_X11_comesBack := (q_uw 1613 rfl rfl)
theorem ml_X11_328_X11_isEmpty : q_CL RX11 328 M_X11_isEmpty := (q_uw 1626 rfl rfl)
theorem ml_X11_51_X11_lays : q_CL RX11 51 M_X11_lays := (q_uw 1203 rfl rfl)
theorem ml_X11_54_X11_becomes : q_CL RX11 54 M_X11_becomes := (q_uw 1207 rfl rfl)
theorem ml_X11_60_X11_totalOf : q_CL RX11 60 M_X11_totalOf := (q_uw 1367 rfl rfl)
theorem ml_X11_67_X11_adds : q_CL RX11 67 M_X11_adds := (q_uw 1290 rfl rfl)
theorem ml_X11_71_X11_isIn : q_CL RX11 71 M_X11_isIn := (q_uw 1298 rfl rfl)
theorem ml_X11_81_X11_byteAt : q_CL RX11 81 M_X11_byteAt := (q_uw 1317 rfl rfl)
theorem ml_X11_91_X11_isSmall : q_CL RX11 91 M_X11_isSmall := (q_uw 1321 rfl rfl)
theorem ml_X11_95_X11_isDigit : q_CL RX11 95 M_X11_isDigit := (q_uw 1324 rfl rfl)
theorem ml_X2_19_J7_fill_53178 : q_CL RX2 19 M_J7_fill_53178 := (q_uw 467 rfl rfl)
theorem ml_X2_31_X2_putAll : q_CL RX2 31 M_X2_putAll := (q_uw 844 rfl rfl)
theorem ml_X2_35_X2_clear : q_CL RX2 35 M_X2_clear := (q_uw 845 rfl rfl)
theorem ml_X2_38_X2_move : q_CL RX2 38 M_X2_move := (q_uw 846 rfl rfl)
theorem ml_X2_42_X2_mostBut : q_CL RX2 42 M_X2_mostBut := (q_uw 850 rfl rfl)
theorem ml_X3_25_X3_isFull : q_CL RX3 25 M_X3_isFull := (q_uw 668 rfl rfl)
theorem ml_X3_33_X2_clear : q_CL RX3 33 M_X2_clear := (q_uw 672 rfl rfl)
theorem ml_X3_44_X5_copyFrom : q_CL RX3 44 M_X5_copyFrom := (q_uw 782 rfl rfl)
theorem ml_X4_104_X6_isSlotEmpty : q_CL RX4 104 M_X6_isSlotEmpty := (q_uw 715 rfl rfl)
theorem ml_X4_123_X4_parcelsOnBelt : q_CL RX4 123 M_X4_parcelsOnBelt := (q_uw 797 rfl rfl)
theorem ml_X4_136_X6_relieve : q_CL RX4 136 M_X6_relieve := (q_uw 459 rfl rfl)
theorem ml_X4_146_X2_clear : q_CL RX4 146 M_X2_clear := (q_uw 463 rfl rfl)
theorem ml_X4_149_X4_leaveBelt : q_CL RX4 149 M_X4_leaveBelt := (q_uw 802 rfl rfl)
theorem ml_X4_152_X4_moveBelt : q_CL RX4 152 M_X4_moveBelt := (q_uw 828 rfl rfl)
theorem ml_X4_155_X4_feedBelt : q_CL RX4 155 M_X4_feedBelt := (q_uw 832 rfl rfl)
theorem ml_X4_158_X6_pick : q_CL RX4 158 M_X6_pick := (q_uw 858 rfl rfl)
theorem ml_X4_161_X4_pressBales : q_CL RX4 161 M_X4_pressBales := (q_uw 875 rfl rfl)
theorem ml_X4_168_X4_goesRound : q_CL RX4 168 M_X4_goesRound := (q_uw 810 rfl rfl)
theorem ml_X4_175_X3_addLast : q_CL RX4 175 M_X3_addLast := (q_uw 823 rfl rfl)
theorem ml_X4_178_X2_putAll : q_CL RX4 178 M_X2_putAll := (q_uw 824 rfl rfl)
theorem ml_X4_185_X3_isFull : q_CL RX4 185 M_X3_isFull := (q_uw 814 rfl rfl)
theorem ml_X4_188_X4_isTarget : q_CL RX4 188 M_X4_isTarget := (q_uw 815 rfl rfl)
theorem ml_X4_192_X2_of : q_CL RX4 192 M_X2_of := (q_uw 819 rfl rfl)
theorem ml_X4_196_X2_movePortion : q_CL RX4 196 M_X2_movePortion := (q_uw 840 rfl rfl)
theorem ml_X4_200_X3_dropFirst : q_CL RX4 200 M_X3_dropFirst := (q_uw 854 rfl rfl)
theorem ml_X4_204_X4_pressBale : q_CL RX4 204 M_X4_pressBale := (q_uw 879 rfl rfl)
theorem ml_X4_207_X7_addLast : q_CL RX4 207 M_X7_addLast := (q_uw 883 rfl rfl)
theorem ml_X4_220_X0_judge : q_CL RX4 220 M_X0_judge := (q_uw 888 rfl rfl)
theorem ml_X4_230_X2_put : q_CL RX4 230 M_X2_put := (q_uw 893 rfl rfl)
theorem ml_X4_236_X1_payFor : q_CL RX4 236 M_X1_payFor := (q_uw 1139 rfl rfl)
theorem ml_X4_249_X1_claimsFor : q_CL RX4 249 M_X1_claimsFor := (q_uw 1152 rfl rfl)
theorem ml_X4_262_X8_copyFrom : q_CL RX4 262 M_X8_copyFrom := (q_uw 558 rfl rfl)
theorem ml_X4_266_X6_copyFrom : q_CL RX4 266 M_X6_copyFrom := (q_uw 760 rfl rfl)
theorem ml_X4_268_X1_copyFrom : q_CL RX4 268 M_X1_copyFrom := (q_uw 774 rfl rfl)
theorem ml_X4_271_X3_copyFrom : q_CL RX4 271 M_X3_copyFrom := (q_uw 778 rfl rfl)
theorem ml_X4_274_X7_copyFrom : q_CL RX4 274 M_X7_copyFrom := (q_uw 783 rfl rfl)
theorem ml_X4_277_X2_copyFrom : q_CL RX4 277 M_X2_copyFrom := (q_uw 792 rfl rfl)
theorem ml_X4_84_X3_parcelAt : q_CL RX4 84 M_X3_parcelAt := (q_uw 836 rfl rfl)
theorem ml_X4_93_X4_stationAt : q_CL RX4 93 M_X4_stationAt := (q_uw 806 rfl rfl)
theorem ml_X5_16_X2_copyFrom : q_CL RX5 16 M_X2_copyFrom := (q_uw 768 rfl rfl)
theorem ml_X6_44_X2_of : q_CL RX6 44 M_X2_of := (q_uw 862 rfl rfl)
theorem ml_X6_48_X6_capacity : q_CL RX6 48 M_X6_capacity := (q_uw 863 rfl rfl)
theorem ml_X6_61_X2_move : q_CL RX6 61 M_X2_move := (q_uw 873 rfl rfl)
theorem ml_X6_65_X2_mostBut : q_CL RX6 65 M_X2_mostBut := (q_uw 874 rfl rfl)
theorem ml_X6_77_X5_copyFrom : q_CL RX6 77 M_X5_copyFrom := (q_uw 764 rfl rfl)
theorem ml_X6_81_X2_copyFrom : q_CL RX6 81 M_X2_copyFrom := (q_uw 773 rfl rfl)
theorem ml_X7_26_X2_clear : q_CL RX7 26 M_X2_clear := (q_uw 887 rfl rfl)
theorem ml_X7_31_X7_baleAt : q_CL RX7 31 M_X7_baleAt := (q_uw 1130 rfl rfl)
theorem ml_X7_38_X0_copyFrom : q_CL RX7 38 M_X0_copyFrom := (q_uw 787 rfl rfl)
theorem ml_X9_104_X3_addLast : q_CL RX9 104 M_X3_addLast := (q_uw 664 rfl rfl)
theorem ml_X9_116_X2_put : q_CL RX9 116 M_X2_put := (q_uw 673 rfl rfl)
theorem ml_X9_134_X3_dropLast : q_CL RX9 134 M_X3_dropLast := (q_uw 677 rfl rfl)
theorem ml_X9_144_X9_readName : q_CL RX9 144 M_X9_readName := (q_uw 686 rfl rfl)
theorem ml_X9_171_X9_isKeyword : q_CL RX9 171 M_X9_isKeyword := (q_uw 690 rfl rfl)
theorem ml_X9_181_X9_nameCode : q_CL RX9 181 M_X9_nameCode := (q_uw 694 rfl rfl)
theorem ml_X9_185_X4_buyerNamed : q_CL RX9 185 M_X4_buyerNamed := (q_uw 697 rfl rfl)
theorem ml_X9_192_J0_length_8abf5 : q_CL RX9 192 M_J0_length_8abf5 := (q_uw 580 rfl rfl)
theorem ml_X9_196_J0_charAt_5068e : q_CL RX9 196 M_J0_charAt_5068e := (q_uw 590 rfl rfl)
theorem ml_X9_200_X9_isBlank : q_CL RX9 200 M_X9_isBlank := (q_uw 566 rfl rfl)
theorem ml_X9_203_X9_isDigit : q_CL RX9 203 M_X9_isDigit := (q_uw 572 rfl rfl)
theorem ml_X9_23_X9_isLetter : q_CL RX9 23 M_X9_isLetter := (q_uw 569 rfl rfl)
theorem ml_X9_27_X4_reset : q_CL RX9 27 M_X4_reset := (q_uw 551 rfl rfl)
theorem ml_X9_32_X9_nextToken : q_CL RX9 32 M_X9_nextToken := (q_uw 562 rfl rfl)
theorem ml_X9_37_X9_isWord : q_CL RX9 37 M_X9_isWord := (q_uw 576 rfl rfl)
theorem ml_X9_41_X9_readNumber : q_CL RX9 41 M_X9_readNumber := (q_uw 628 rfl rfl)
theorem ml_X9_47_X9_readSemicolon : q_CL RX9 47 M_X9_readSemicolon := (q_uw 636 rfl rfl)
theorem ml_X9_50_X9_fail : q_CL RX9 50 M_X9_fail := (q_uw 632 rfl rfl)
theorem ml_X9_60_X9_readStatement : q_CL RX9 60 M_X9_readStatement := (q_uw 640 rfl rfl)
theorem ml_X9_68_X9_readStation : q_CL RX9 68 M_X9_readStation := (q_uw 645 rfl rfl)
theorem ml_X9_73_X9_readSetting : q_CL RX9 73 M_X9_readSetting := (q_uw 651 rfl rfl)
theorem ml_X9_78_X9_readLoad : q_CL RX9 78 M_X9_readLoad := (q_uw 660 rfl rfl)
theorem ml_X9_83_X9_readBuyer : q_CL RX9 83 M_X9_readBuyer := (q_uw 682 rfl rfl)
theorem ml_X9_86_X4_addStation : q_CL RX9 86 M_X4_addStation := (q_uw 649 rfl rfl)
theorem mm_X1_42_i : Cond.methodLink RX1 42 Lib.Math.min.name ∈ q_UW ∧ Cond.static Lib.Math.min.name ∈ q_UW ∧ Cond.initialized "java/lang/Math" ∈ q_UW ∧ Cond.code Lib.Math.min.name Lib.Math.min.code 2 (some .int) ∈ q_UW := ⟨(q_uw 1151 rfl rfl), (q_uw 868 rfl rfl), (q_uw 102 rfl rfl), (q_uw 869 rfl rfl)⟩
theorem mm_X10_379_i : Cond.methodLink RX10 379 Lib.Math.min.name ∈ q_UW ∧ Cond.static Lib.Math.min.name ∈ q_UW ∧ Cond.initialized "java/lang/Math" ∈ q_UW ∧ Cond.code Lib.Math.min.name Lib.Math.min.code 2 (some .int) ∈ q_UW := ⟨(q_uw 1078 rfl rfl), (q_uw 868 rfl rfl), (q_uw 102 rfl rfl), (q_uw 869 rfl rfl)⟩
theorem mm_X11_192_l : Cond.methodLink RX11 192 Lib.MathLoose.min_long.x ∈ q_UW ∧ Cond.static Lib.MathLoose.min_long.x ∈ q_UW ∧ Cond.initialized "java/lang/Math" ∈ q_UW ∧ Cond.code Lib.MathLoose.min_long.x Lib.MathLoose.min_long.code 4 (some .long) ∈ q_UW := ⟨(q_uw 1543 rfl rfl), (q_uw 1544 rfl rfl), (q_uw 102 rfl rfl), (q_uw 1545 rfl rfl)⟩
theorem mm_X11_225_i : Cond.methodLink RX11 225 Lib.Math.min.name ∈ q_UW ∧ Cond.static Lib.Math.min.name ∈ q_UW ∧ Cond.initialized "java/lang/Math" ∈ q_UW ∧ Cond.code Lib.Math.min.name Lib.Math.min.code 2 (some .int) ∈ q_UW := ⟨(q_uw 1558 rfl rfl), (q_uw 868 rfl rfl), (q_uw 102 rfl rfl), (q_uw 869 rfl rfl)⟩
theorem mm_X11_231_a : Cond.methodLink RX11 231 Lib.Math.max.name ∈ q_UW ∧ Cond.static Lib.Math.max.name ∈ q_UW ∧ Cond.initialized "java/lang/Math" ∈ q_UW ∧ Cond.code Lib.Math.max.name Lib.Math.max.code 2 (some .int) ∈ q_UW := ⟨(q_uw 1563 rfl rfl), (q_uw 871 rfl rfl), (q_uw 102 rfl rfl), (q_uw 872 rfl rfl)⟩
theorem mm_X4_114_a : Cond.methodLink RX4 114 Lib.Math.max.name ∈ q_UW ∧ Cond.static Lib.Math.max.name ∈ q_UW ∧ Cond.initialized "java/lang/Math" ∈ q_UW ∧ Cond.code Lib.Math.max.name Lib.Math.max.code 2 (some .int) ∈ q_UW := ⟨(q_uw 1181 rfl rfl), (q_uw 871 rfl rfl), (q_uw 102 rfl rfl), (q_uw 872 rfl rfl)⟩
theorem mm_X6_52_i : Cond.methodLink RX6 52 Lib.Math.min.name ∈ q_UW ∧ Cond.static Lib.Math.min.name ∈ q_UW ∧ Cond.initialized "java/lang/Math" ∈ q_UW ∧ Cond.code Lib.Math.min.name Lib.Math.min.code 2 (some .int) ∈ q_UW := ⟨(q_uw 867 rfl rfl), (q_uw 868 rfl rfl), (q_uw 102 rfl rfl), (q_uw 869 rfl rfl)⟩
theorem mm_X6_58_a : Cond.methodLink RX6 58 Lib.Math.max.name ∈ q_UW ∧ Cond.static Lib.Math.max.name ∈ q_UW ∧ Cond.initialized "java/lang/Math" ∈ q_UW ∧ Cond.code Lib.Math.max.name Lib.Math.max.code 2 (some .int) ∈ q_UW := ⟨(q_uw 870 rfl rfl), (q_uw 871 rfl rfl), (q_uw 102 rfl rfl), (q_uw 872 rfl rfl)⟩
theorem ms_J0_checkIndex_df160 : Cond.static M_J0_checkIndex_df160.1 ∈ q_UW := (q_uw 602 rfl rfl)
theorem ms_J1_charAt_3b067 : Cond.static M_J1_charAt_3b067.1 ∈ q_UW := (q_uw 599 rfl rfl)
theorem ms_J3_checkIndex_8e157 : Cond.static M_J3_checkIndex_8e157.1 ∈ q_UW := (q_uw 607 rfl rfl)
theorem ms_J7_fill_53178 : Cond.static M_J7_fill_53178.1 ∈ q_UW := (q_uw 468 rfl rfl)
theorem ms_L_bale : Cond.static M_L_bale.1 ∈ q_UW := (q_uw 1016 rfl rfl)
theorem ms_L_bestBuyer : Cond.static M_L_bestBuyer.1 ∈ q_UW := (q_uw 1162 rfl rfl)
theorem ms_L_bestStaff : Cond.static M_L_bestStaff.1 ∈ q_UW := (q_uw 1183 rfl rfl)
theorem ms_L_buyer : Cond.static M_L_buyer.1 ∈ q_UW := (q_uw 1029 rfl rfl)
theorem ms_L_clean : Cond.static M_L_clean.1 ∈ q_UW := (q_uw 1154 rfl rfl)
theorem ms_L_load : Cond.static M_L_load.1 ∈ q_UW := (q_uw 1049 rfl rfl)
theorem ms_L_mass : Cond.static M_L_mass.1 ∈ q_UW := (q_uw 998 rfl rfl)
theorem ms_L_outlook : Cond.static M_L_outlook.1 ∈ q_UW := (q_uw 1170 rfl rfl)
theorem ms_L_purity : Cond.static M_L_purity.1 ∈ q_UW := (q_uw 1042 rfl rfl)
theorem ms_L_run : Cond.static M_L_run.1 ∈ q_UW := (q_uw 1101 rfl rfl)
theorem ms_L_sell : Cond.static M_L_sell.1 ∈ q_UW := (q_uw 1110 rfl rfl)
theorem ms_L_set : Cond.static M_L_set.1 ∈ q_UW := (q_uw 1082 rfl rfl)
theorem ms_L_setting : Cond.static M_L_setting.1 ∈ q_UW := (q_uw 895 rfl rfl)
theorem ms_L_staff : Cond.static M_L_staff.1 ∈ q_UW := (q_uw 1092 rfl rfl)
theorem ms_L_station : Cond.static M_L_station.1 ∈ q_UW := (q_uw 970 rfl rfl)
theorem ms_X11_buyerWith : Cond.static M_X11_buyerWith.1 ∈ q_UW := (q_uw 1386 rfl rfl)
theorem ms_X11_isDigit : Cond.static M_X11_isDigit.1 ∈ q_UW := (q_uw 1325 rfl rfl)
theorem ms_X11_isIn : Cond.static M_X11_isIn.1 ∈ q_UW := (q_uw 1299 rfl rfl)
theorem ms_X11_isSmall : Cond.static M_X11_isSmall.1 ∈ q_UW := (q_uw 1322 rfl rfl)
theorem ms_X11_parcelAt : Cond.static M_X11_parcelAt.1 ∈ q_UW := (q_uw 1365 rfl rfl)
theorem ms_X11_placeAt : Cond.static M_X11_placeAt.1 ∈ q_UW := (q_uw 1352 rfl rfl)
theorem ms_X11_slotAt : Cond.static M_X11_slotAt.1 ∈ q_UW := (q_uw 1410 rfl rfl)
theorem ms_X11_storedAt : Cond.static M_X11_storedAt.1 ∈ q_UW := (q_uw 1464 rfl rfl)
theorem ms_X11_totalOf : Cond.static M_X11_totalOf.1 ∈ q_UW := (q_uw 1368 rfl rfl)
theorem ms_X9_isBlank : Cond.static M_X9_isBlank.1 ∈ q_UW := (q_uw 567 rfl rfl)
theorem ms_X9_isDigit : Cond.static M_X9_isDigit.1 ∈ q_UW := (q_uw 573 rfl rfl)
theorem ms_X9_isLetter : Cond.static M_X9_isLetter.1 ∈ q_UW := (q_uw 570 rfl rfl)
theorem ms_X9_nameCode : Cond.static M_X9_nameCode.1 ∈ q_UW := (q_uw 695 rfl rfl)
theorem nw_0 : Cond.instantiable RX0 5 ∈ q_UW ∧ Cond.initialized RX0 ∈ q_UW := ⟨(q_uw 200 rfl rfl), (q_uw 84 rfl rfl)⟩
theorem nw_1 : Cond.instantiable RX1 7 ∈ q_UW ∧ Cond.initialized RX1 ∈ q_UW := ⟨(q_uw 357 rfl rfl), (q_uw 87 rfl rfl)⟩
theorem nw_10 : Cond.instantiable RX10 7 ∈ q_UW ∧ Cond.initialized RX10 ∈ q_UW := ⟨(q_uw 104 rfl rfl), (q_uw 78 rfl rfl)⟩
theorem nw_11 : Cond.instantiable RX11 23 ∈ q_UW ∧ Cond.initialized RX11 ∈ q_UW := ⟨(q_uw 1198 rfl rfl), (q_uw 89 rfl rfl)⟩
theorem nw_2 : Cond.instantiable RX2 2 ∈ q_UW ∧ Cond.initialized RX2 ∈ q_UW := ⟨(q_uw 144 rfl rfl), (q_uw 82 rfl rfl)⟩
theorem nw_3 : Cond.instantiable RX3 3 ∈ q_UW ∧ Cond.initialized RX3 ∈ q_UW := ⟨(q_uw 131 rfl rfl), (q_uw 80 rfl rfl)⟩
theorem nw_4 : Cond.instantiable RX4 12 ∈ q_UW ∧ Cond.initialized RX4 ∈ q_UW := ⟨(q_uw 112 rfl rfl), (q_uw 79 rfl rfl)⟩
theorem nw_5 : Cond.instantiable RX5 2 ∈ q_UW ∧ Cond.initialized RX5 ∈ q_UW := ⟨(q_uw 138 rfl rfl), (q_uw 81 rfl rfl)⟩
theorem nw_6 : Cond.instantiable RX6 9 ∈ q_UW ∧ Cond.initialized RX6 ∈ q_UW := ⟨(q_uw 303 rfl rfl), (q_uw 86 rfl rfl)⟩
theorem nw_7 : Cond.instantiable RX7 2 ∈ q_UW ∧ Cond.initialized RX7 ∈ q_UW := ⟨(q_uw 193 rfl rfl), (q_uw 83 rfl rfl)⟩
theorem nw_8 : Cond.instantiable RX8 10 ∈ q_UW ∧ Cond.initialized RX8 ∈ q_UW := ⟨(q_uw 248 rfl rfl), (q_uw 85 rfl rfl)⟩
theorem nw_9 : Cond.instantiable RX9 8 ∈ q_UW ∧ Cond.initialized RX9 ∈ q_UW := ⟨(q_uw 517 rfl rfl), (q_uw 90 rfl rfl)⟩
theorem ob_X0_1 : Cond.methodLink RX0 1 Lib.objectInit ∈ q_UW ∧ Cond.instanceMethod Lib.objectInit ∈ q_UW ∧ Cond.code Lib.objectInit ⟨#[0xb1]⟩ 1 none ∈ q_UW := ⟨(q_uw 204 rfl rfl), (q_uw 109 rfl rfl), (q_uw 110 rfl rfl)⟩
theorem ob_X1_1 : Cond.methodLink RX1 1 Lib.objectInit ∈ q_UW ∧ Cond.instanceMethod Lib.objectInit ∈ q_UW ∧ Cond.code Lib.objectInit ⟨#[0xb1]⟩ 1 none ∈ q_UW := ⟨(q_uw 361 rfl rfl), (q_uw 109 rfl rfl), (q_uw 110 rfl rfl)⟩
theorem ob_X10_1 : Cond.methodLink RX10 1 Lib.objectInit ∈ q_UW ∧ Cond.instanceMethod Lib.objectInit ∈ q_UW ∧ Cond.code Lib.objectInit ⟨#[0xb1]⟩ 1 none ∈ q_UW := ⟨(q_uw 108 rfl rfl), (q_uw 109 rfl rfl), (q_uw 110 rfl rfl)⟩
theorem ob_X11_7 : Cond.methodLink RX11 7 Lib.objectInit ∈ q_UW ∧ Cond.instanceMethod Lib.objectInit ∈ q_UW ∧ Cond.code Lib.objectInit ⟨#[0xb1]⟩ 1 none ∈ q_UW := ⟨(q_uw 1202 rfl rfl), (q_uw 109 rfl rfl), (q_uw 110 rfl rfl)⟩
theorem ob_X2_3 : Cond.methodLink RX2 3 Lib.objectInit ∈ q_UW ∧ Cond.instanceMethod Lib.objectInit ∈ q_UW ∧ Cond.code Lib.objectInit ⟨#[0xb1]⟩ 1 none ∈ q_UW := ⟨(q_uw 148 rfl rfl), (q_uw 109 rfl rfl), (q_uw 110 rfl rfl)⟩
theorem ob_X3_3 : Cond.methodLink RX3 3 Lib.objectInit ∈ q_UW ∧ Cond.instanceMethod Lib.objectInit ∈ q_UW ∧ Cond.code Lib.objectInit ⟨#[0xb1]⟩ 1 none ∈ q_UW := ⟨(q_uw 135 rfl rfl), (q_uw 109 rfl rfl), (q_uw 110 rfl rfl)⟩
theorem ob_X4_3 : Cond.methodLink RX4 3 Lib.objectInit ∈ q_UW ∧ Cond.instanceMethod Lib.objectInit ∈ q_UW ∧ Cond.code Lib.objectInit ⟨#[0xb1]⟩ 1 none ∈ q_UW := ⟨(q_uw 116 rfl rfl), (q_uw 109 rfl rfl), (q_uw 110 rfl rfl)⟩
theorem ob_X5_1 : Cond.methodLink RX5 1 Lib.objectInit ∈ q_UW ∧ Cond.instanceMethod Lib.objectInit ∈ q_UW ∧ Cond.code Lib.objectInit ⟨#[0xb1]⟩ 1 none ∈ q_UW := ⟨(q_uw 142 rfl rfl), (q_uw 109 rfl rfl), (q_uw 110 rfl rfl)⟩
theorem ob_X6_3 : Cond.methodLink RX6 3 Lib.objectInit ∈ q_UW ∧ Cond.instanceMethod Lib.objectInit ∈ q_UW ∧ Cond.code Lib.objectInit ⟨#[0xb1]⟩ 1 none ∈ q_UW := ⟨(q_uw 307 rfl rfl), (q_uw 109 rfl rfl), (q_uw 110 rfl rfl)⟩
theorem ob_X7_3 : Cond.methodLink RX7 3 Lib.objectInit ∈ q_UW ∧ Cond.instanceMethod Lib.objectInit ∈ q_UW ∧ Cond.code Lib.objectInit ⟨#[0xb1]⟩ 1 none ∈ q_UW := ⟨(q_uw 197 rfl rfl), (q_uw 109 rfl rfl), (q_uw 110 rfl rfl)⟩
theorem ob_X8_1 : Cond.methodLink RX8 1 Lib.objectInit ∈ q_UW ∧ Cond.instanceMethod Lib.objectInit ∈ q_UW ∧ Cond.code Lib.objectInit ⟨#[0xb1]⟩ 1 none ∈ q_UW := ⟨(q_uw 252 rfl rfl), (q_uw 109 rfl rfl), (q_uw 110 rfl rfl)⟩
theorem ob_X9_3 : Cond.methodLink RX9 3 Lib.objectInit ∈ q_UW ∧ Cond.instanceMethod Lib.objectInit ∈ q_UW ∧ Cond.code Lib.objectInit ⟨#[0xb1]⟩ 1 none ∈ q_UW := ⟨(q_uw 521 rfl rfl), (q_uw 109 rfl rfl), (q_uw 110 rfl rfl)⟩
theorem sw_L_law_45 : decode (q_cc M_L_law) 45 = .ok (.tableswitch 1353 0 24 #[115, 188, 213, 226, 239, 252, 277, 333, 401, 469, 537, 605, 631, 708, 751, 819, 887, 955, 1011, 1079, 1135, 1148, 1204, 1272, 1340], 115) := by decide +kernel
theorem sw_X10_balance_1 : decode (q_cc M_X10_balance) 1 = .ok (.tableswitch 137 0 7 #[47, 59, 71, 80, 89, 101, 113, 125], 47) := by decide +kernel
theorem sw_X10_bale_27 : decode (q_cc M_X10_bale) 27 = .ok (.tableswitch 61 0 4 #[33, 38, 43, 51, 56], 33) := by decide +kernel
theorem sw_X10_buyer_24 : decode (q_cc M_X10_buyer) 24 = .ok (.tableswitch 70 0 5 #[40, 45, 50, 55, 60, 65], 40) := by decide +kernel
theorem sw_X10_line_1 : decode (q_cc M_X10_line) 1 = .ok (.tableswitch 168 0 10 #[59, 67, 75, 83, 94, 105, 113, 124, 135, 146, 157], 59) := by decide +kernel
theorem sw_X10_outlook_43 : decode (q_cc M_X10_outlook) 43 = .ok (.tableswitch 105 0 3 #[29, 48, 67, 86], 29) := by decide +kernel
theorem sw_X10_station_24 : decode (q_cc M_X10_station) 24 = .ok (.tableswitch 138 0 10 #[60, 65, 70, 75, 80, 85, 90, 98, 109, 128, 133], 60) := by decide +kernel
theorem sw_X11_balance_8 : decode (q_cc M_X11_balance) 8 = .ok (.tableswitch 236 0 7 #[48, 57, 93, 139, 173, 210, 219, 227], 48) := by decide +kernel
theorem sw_X11_bale_51 : decode (q_cc M_X11_bale) 51 = .ok (.tableswitch 87 0 4 #[33, 44, 55, 65, 76], 33) := by decide +kernel
theorem sw_X11_line_6 : decode (q_cc M_X11_line) 6 = .ok (.tableswitch 136 0 10 #[58, 63, 68, 75, 83, 91, 96, 104, 112, 120, 128], 58) := by decide +kernel
theorem sw_X11_station_47 : decode (q_cc M_X11_station) 47 = .ok (.tableswitch 168 0 9 #[53, 59, 70, 83, 96, 107, 113, 123, 144, 157], 53) := by decide +kernel
theorem sw_X1_worthOf_1 : decode (q_cc M_X1_worthOf) 1 = .ok (.lookupswitch 43 #[(0, 27), (1, 32)], 27) := by decide +kernel
theorem th_X10_112_116_B : Bundle.fit "java/lang/IndexOutOfBoundsException" = true ∧ Cond.classLink RX10 112 "java/lang/IndexOutOfBoundsException" ∈ q_UW ∧ Cond.initialized "java/lang/IndexOutOfBoundsException" ∈ q_UW ∧ (∀ w ∈ (vx_atS RX10 116 "java/lang/IndexOutOfBoundsException" ["java/lang/RuntimeException", "java/lang/Exception"]).filter goodWord, w ∈ q_UW) ∧ (∀ w ∈ (vx_atS RX10 116 "java/lang/IndexOutOfBoundsException" ["java/lang/RuntimeException", "java/lang/Exception"]).filter (fun w => !goodWord w), w ∈ q_NW) ∧ (∀ w ∈ Cond.classLink RX10 112 "java/lang/IndexOutOfBoundsException" :: Cond.initialized "java/lang/IndexOutOfBoundsException" :: (vx_atS RX10 116 "java/lang/IndexOutOfBoundsException" ["java/lang/RuntimeException", "java/lang/Exception"]), vx_ot w = true) := ⟨by decide +kernel, (q_uw 902 rfl rfl), (q_uw 99 rfl rfl), q_inU (by decide +kernel), q_inN (by decide +kernel), by decide +kernel⟩
theorem th_X10_178_182_A : Bundle.fit "java/lang/IllegalArgumentException" = true ∧ Cond.classLink RX10 178 "java/lang/IllegalArgumentException" ∈ q_UW ∧ Cond.initialized "java/lang/IllegalArgumentException" ∈ q_UW ∧ (∀ w ∈ (vx_atS RX10 182 "java/lang/IllegalArgumentException" ["java/lang/RuntimeException", "java/lang/Exception"]).filter goodWord, w ∈ q_UW) ∧ (∀ w ∈ (vx_atS RX10 182 "java/lang/IllegalArgumentException" ["java/lang/RuntimeException", "java/lang/Exception"]).filter (fun w => !goodWord w), w ∈ q_NW) ∧ (∀ w ∈ Cond.classLink RX10 178 "java/lang/IllegalArgumentException" :: Cond.initialized "java/lang/IllegalArgumentException" :: (vx_atS RX10 182 "java/lang/IllegalArgumentException" ["java/lang/RuntimeException", "java/lang/Exception"]), vx_ot w = true) := ⟨by decide +kernel, (q_uw 981 rfl rfl), (q_uw 100 rfl rfl), q_inU (by decide +kernel), q_inN (by decide +kernel), by decide +kernel⟩
theorem th_X10_282_286_S : Bundle.fit "java/lang/IllegalStateException" = true ∧ Cond.classLink RX10 282 "java/lang/IllegalStateException" ∈ q_UW ∧ Cond.initialized "java/lang/IllegalStateException" ∈ q_UW ∧ (∀ w ∈ (vx_atS RX10 286 "java/lang/IllegalStateException" ["java/lang/RuntimeException", "java/lang/Exception"]).filter goodWord, w ∈ q_UW) ∧ (∀ w ∈ (vx_atS RX10 286 "java/lang/IllegalStateException" ["java/lang/RuntimeException", "java/lang/Exception"]).filter (fun w => !goodWord w), w ∈ q_NW) ∧ (∀ w ∈ Cond.classLink RX10 282 "java/lang/IllegalStateException" :: Cond.initialized "java/lang/IllegalStateException" :: (vx_atS RX10 286 "java/lang/IllegalStateException" ["java/lang/RuntimeException", "java/lang/Exception"]), vx_ot w = true) := ⟨by decide +kernel, (q_uw 1058 rfl rfl), (q_uw 101 rfl rfl), q_inU (by decide +kernel), q_inN (by decide +kernel), by decide +kernel⟩
theorem jl_J0_9 : Cond.fieldLink RJ0 9 "java/lang/String" "value" "[B" ∈ q_UW := (q_uw 1632 rfl rfl)
theorem jl_J0_38 : Cond.fieldLink RJ0 38 "java/lang/String" "COMPACT_STRINGS" "Z" ∈ q_UW := (q_uw 588 rfl rfl)
theorem jl_J0_15 : Cond.fieldLink RJ0 15 "java/lang/String" "coder" "B" ∈ q_UW := (q_uw 1633 rfl rfl)
theorem jl_J0_1053 : Cond.fieldLink RJ0 1053 "jdk/internal/util/Preconditions" "SIOOBE_FORMATTER" "Ljava/util/function/BiFunction;" ∈ q_UW := (q_uw 604 rfl rfl)

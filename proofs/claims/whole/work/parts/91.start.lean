/-! THE CLAIM OUT OF ONE WALK OF THE LAW'S BODY. Your part is whole_start (and what it stands on); all else here is the same for every law, but numbers. -/
def R_law : String := "RecyclingLineLaw"
def lw_P (b : Addr) (xs : List Int32) (args : Array Value) (s : State) : Prop := args = #[.ref b] ∧ s.IntsAt b xs ∧ xs.length ≤ 3072 ∧ (Jvm.Cond.and given_1 narrow_1).before args s = true
/-- what a walk over the start with the record d0 says of its end, said of the start itself -/
theorem lw_closed {s t : State} {o : Outcome} {d0 : Drawn} {L : List Loc} {k n : Nat} (hd0 : s.drawn.sameBut d0 lw_cs) (hv : ∃ v, o = .returned v) (hW : (s.setDrawn d0).WarmedH t.vm) (hs : (s.setDrawn d0).sameButNew ({ t with vm := s.vm } : State) L k n) : State.butDraws s t lw_cs (fun t1 => Framed s o t1 L k n) := by
  have h2 : t.drawn = d0 := congrArg State.drawn hs.1
  refine ⟨⟨hv, hW, State.sameButNew.setDrawn hs s.drawn⟩, ?_, by decide⟩
  rw [h2]
  exact hd0
def lw_Q (_ : Array Value) (s : State) (o : Outcome) (t : State) : Prop := o = .returned (some (.int 1)) ∧ State.butDraws s t lw_cs (fun t1 => Framed s o t1 [] 735865 6888508)
def lw_Z (below : List Frame) (a : Array Value) (s : State) : State → Prop := fun t => ∃ o, t.status = .running ∧ Ended t below o ∧ lw_Q a s o t
/-- what holds at the law's entry: the machine, the code, the tables' words (any of lw_tbl by 'hts w (by decide +kernel)'), the script of L ints xs at the cell b, what the Statement gives of the start (any of its parts by flat_of_before) -/
def lw_At (p : Program) (s : State) (m : MethodId) (meth : Method) (c : Code) (b L : Nat) (xs : Nat → Int32) : Prop :=
  p.tables.exec = Jvm.exec ∧ c.code = code ∧ meth.sig.returnType = ret ∧ c.maxLocals = 10 ∧ s.vm.findClass R_law = some m.cls ∧ (∀ w ∈ lw_tbl, w.before #[Value.ref b] s = true) ∧ va_X b L xs s s.heap ∧ b < s.heap.size ∧ meth.locks = false ∧ (Jvm.Cond.and given_1 narrow_1).before #[Value.ref b] s = true
theorem arr_prim {ty : FieldType} {a : Array Value} {s : State} (h : (Cond.arrayClass ty).before a s = true) : ∃ cA, ArrOfT s cA ty ∧ s.vm.findClass ("[" ++ ty.toString) = some cA := by
  obtain ⟨c, k, comp, h1, h2, h3⟩ := Cond.arrayClass_spec h
  exact ⟨c, fun n z => ⟨fun k h => (by cases h), k, h2, comp, h3⟩, h1⟩
theorem arr_obj {C : String} {a : Array Value} {s : State} (h : (Cond.arrayOver (.object C)).before a s = true) : ∃ cA, ArrOfT s cA (.object C) ∧ va_RA s cA (.object C) := by
  obtain ⟨comp, c, k, h1, h2, h3, h4, h5⟩ := Cond.arrayOver_spec h
  exact ⟨c, fun n z => ⟨fun k h => (by cases h), k, h3, comp, h4⟩, k, comp, h3, h4, h1, h5⟩
set_option maxHeartbeats 2000000 in
/-- the classes and the array classes at the start -/
theorem st_known {s : State} {a : Array Value} (hts : ∀ w ∈ lw_tbl, w.before a s = true) : ∃ (D : va_G) (tA : Nat → ClassId), va_K D vwCl [(tA 50, .int), (tA 51, .byte), (tA 52, .long), (tA 53, .double), (tA 60, .object RX0), (tA 61, .object RX1), (tA 64, .object RX4), (tA 65, .object RX5), (tA 66, .object RX6)] s := by
  have hu : ∀ w ∈ q_UW, w.before a s = true := fun w hw => hts w (List.mem_filter.mp hw).1
  have h0 : ∀ k : Nat, ∃ p : ClassId × (Nat → Nat), ∀ q : vw_C, vwCl[k]? = some q → u_Kn s q.1 q.2.1 q.2.2 p.1 p.2 := by
    intro k
    have mk : ∀ (C : String) (T : u_T) (N : Nat), vwCl[k]? = some (C, T, N) → (∀ w ∈ u_ws C T N, w ∈ q_UW) → Cond.instantiable C N ∈ q_UW → ∃ p : ClassId × (Nat → Nat), ∀ q : vw_C, vwCl[k]? = some q → u_Kn s q.1 q.2.1 q.2.2 p.1 p.2 := fun C T N e h1 h2 => by
      obtain ⟨c, i, h⟩ := u_known (ws := q_UW) hu h1 (hu _ h2)
      refine ⟨(c, i), fun q hq => ?_⟩
      cases e.symm.trans hq
      exact h
    match k with
    | 0 => exact mk _ _ _ rfl ck0.2.1 nw_0.1
    | 1 => exact mk _ _ _ rfl ck1.2.1 nw_1.1
    | 2 => exact mk _ _ _ rfl ck2.2.1 nw_2.1
    | 3 => exact mk _ _ _ rfl ck3.2.1 nw_3.1
    | 4 => exact mk _ _ _ rfl ck4.2.1 nw_4.1
    | 5 => exact mk _ _ _ rfl ck5.2.1 nw_5.1
    | 6 => exact mk _ _ _ rfl ck6.2.1 nw_6.1
    | 7 => exact mk _ _ _ rfl ck7.2.1 nw_7.1
    | 8 => exact mk _ _ _ rfl ck8.2.1 nw_8.1
    | 9 => exact mk _ _ _ rfl ck9.2.1 nw_9.1
    | 10 => exact mk _ _ _ rfl ck10.2.1 nw_10.1
    | 11 => exact mk _ _ _ rfl ck11.2.1 nw_11.1
    | k + 12 => exact ⟨(0, fun _ => 0), fun q hq => by simp at hq⟩
  obtain ⟨p, hp⟩ := Classical.axiomOfChoice h0
  obtain ⟨c50, a50, b50⟩ := arr_prim (ty := .int) (hts (.arrayClass .int) (by decide +kernel))
  obtain ⟨c51, a51, b51⟩ := arr_prim (ty := .byte) (hts (.arrayClass .byte) (by decide +kernel))
  obtain ⟨c52, a52, b52⟩ := arr_prim (ty := .long) (hts (.arrayClass .long) (by decide +kernel))
  obtain ⟨c53, a53, b53⟩ := arr_prim (ty := .double) (hts (.arrayClass .double) (by decide +kernel))
  obtain ⟨c60, a60, b60⟩ := arr_obj (C := RX0) (hts (.arrayOver (.object RX0)) (by decide +kernel))
  obtain ⟨c61, a61, b61⟩ := arr_obj (C := RX1) (hts (.arrayOver (.object RX1)) (by decide +kernel))
  obtain ⟨c64, a64, b64⟩ := arr_obj (C := RX4) (hts (.arrayOver (.object RX4)) (by decide +kernel))
  obtain ⟨c65, a65, b65⟩ := arr_obj (C := RX5) (hts (.arrayOver (.object RX5)) (by decide +kernel))
  obtain ⟨c66, a66, b66⟩ := arr_obj (C := RX6) (hts (.arrayOver (.object RX6)) (by decide +kernel))
  refine ⟨(fun k => (p k).1, fun k => (p k).2), fun k => if k = 50 then c50 else if k = 51 then c51 else if k = 52 then c52 else if k = 53 then c53 else if k = 60 then c60 else if k = 61 then c61 else if k = 64 then c64 else if k = 65 then c65 else c66, fun k q hq => hp k q hq, fun k q hq => ?_⟩
  match k, hq with
  | 0, hq => cases hq; exact ⟨a50, b50⟩
  | 1, hq => cases hq; exact ⟨a51, b51⟩
  | 2, hq => cases hq; exact ⟨a52, b52⟩
  | 3, hq => cases hq; exact ⟨a53, b53⟩
  | 4, hq => cases hq; exact ⟨a60, b60⟩
  | 5, hq => cases hq; exact ⟨a61, b61⟩
  | 6, hq => cases hq; exact ⟨a64, b64⟩
  | 7, hq => cases hq; exact ⟨a65, b65⟩
  | 8, hq => cases hq; exact ⟨a66, b66⟩
  | k + 9, hq => simp at hq
theorem sbn_forget {s t : State} {L : List Loc} {k n : Nat} (h : s.sameButNew t L k n) (hL : ∀ q ∈ L, s.heap.size ≤ q.base) : s.sameButNew t [] k n :=
  ⟨h.1, h.2.1, h.2.2.1, h.2.2.2.1, h.2.2.2.2.1, fun a c hc => by
    obtain ⟨c', h1, h2, h3, h4⟩ := h.2.2.2.2.2 a c hc
    exact ⟨c', h1, h2, h3, fun i _ => h4 i fun hm => absurd (hL _ hm) (Nat.not_le.mpr (Array.getElem?_eq_some_iff.mp hc).1)⟩⟩
/-- from the entry, for every script of at most 3072 ints, the law comes to its end with true -/
theorem whole_start {p : Program} {e : Env} {s : State} {m : MethodId} {below : List Frame} {meth : Method} {c : Code} (l : Launch) (hflags : l.flags = flags0) {b L : Nat} {xs : Nat → Int32} (hL : L ≤ 3072) (C0 : lw_At p s m meth c b L xs) (hname : meth.name = "law") (htab : c.exceptionTable.toList = []) : W p l e room_1 s m #[Value.ref b] below meth c s.heap [] 0 0 (lw_Z below #[Value.ref b] s) (entryFrame m ([Value.ref b] : List Value).toArray 10) := by
  obtain ⟨hx, hb, hr, hml, hown, hts, hX, hbl, hlocks, hgv⟩ := id C0
  obtain ⟨st, aK, aV, hamb⟩ := st_amb l hflags hts hgv hX hbl
  obtain ⟨D, tA, hK⟩ := st_known hts
  obtain ⟨G, eG⟩ : ∃ G : q_G, G = (l, D, tA, s.heap.size, st, aK, aV, b, L, xs) := ⟨_, rfl⟩
  obtain ⟨A, eA⟩ : ∃ A : q_H, A = (s.heap.size, fun _ => (0, 0), fun _ _ => 0, fun _ _ => none, fun _ _ => 0, fun _ _ => 0) := ⟨_, rfl⟩
  have hA := hamb D tA (va_nm_int (hK.2 0 _ rfl).2)
  rw [← eG] at hA
  have hsz : q_bs G = s.heap.size := by rw [eG]; rfl
  have hR : q_Rep G A s s.heap := by
    refine ⟨by rw [eA]; rfl, by rw [eG]; exact hK, fun a e h => ?_, by rw [hsz]; exact Nat.le_refl _⟩
    rw [eA] at h
    simp [q_ent, q_sh] at h
  have hsl : q_sL G = L := by rw [eG]; rfl
  have hsb : q_sb G = b := by rw [eG]; rfl
  have h := v_law (G := G) (f := fun b _ => b = true) (X := q_nX) (fun _ => rfl) (by rw [hsl]; exact hL) A
  rw [hsb] at h
  rw [lg_entry_eq]
  have hF : ∀ q, q_F G q ↔ s.heap.size ≤ q := fun q => by
    unfold q_F
    rw [hsz]
  have hl : q_l G = l := by rw [eG]; rfl
  have k := h p e s m #[Value.ref b] below meth c ⟨hx, hb, hr, hml, hown, fun w hw => hts w (List.mem_filter.mp hw).1, hlocks, hname, htab, hA, by rw [hsz]; exact Nat.le_refl _⟩ s.heap [] _ hR va_S.rf (q_has.entry [.ref b] (Nat.le_of_ble_eq_true rfl))
  rw [hl] at k
  intro T hT X
  obtain ⟨t, a1, o, b1, b2, b3⟩ := k T hT X
  refine ⟨t, a1, o, b1, b2, ?_⟩
  rcases b3 with ⟨⟨v, A', e1, -, -, r, e2, e3⟩, L', ⟨-, f2, f3⟩, f4⟩ | ⟨q, -, g⟩
  · subst e3
    refine ⟨by rw [e1, e2]; rfl, ?_⟩
    exact lw_closed (d0 := s.drawn) (Drawn.sameBut.refl s.drawn lw_cs) ⟨v, e1⟩ f2 (sbn_forget f3 fun q hq => (hF _).mp (f4 q hq))
  · obtain ⟨E, ce, L', ⟨A', -, -, x⟩, -⟩ := g
    exact x.elim
set_option maxHeartbeats 4000000 in
theorem lw_walk (l : Launch) (hflags : l.flags = flags0) (b : Addr) (xs : List Int32) : MetFree l x (headSpec (Jvm.Cond.code x code maxLocals ret :: tables_1) room_1) (lw_P b xs) (fun _ _ _ _ _ => True) lw_Q := by
  refine MetFree.of_bodyS (code := code) (maxLocals := maxLocals) (ret := ret) (by decide) ?_ ?_
  · intro args s m h hn
    obtain ⟨meth, c, h1, h2, h3, h4, h5, h6, -, -⟩ := Cond.code_spec hn (atoms_spec (ws := Jvm.Cond.code x code maxLocals ret :: tables_1) h _ List.mem_cons_self)
    exact ⟨meth, c, h1, h2, h3, h4, h5, h6⟩
  · intro p e s m args below meth c s₁ B hml0 hP _
    obtain ⟨rfl, hx, hbd, hgv⟩ := hP
    obtain ⟨scr, harrAt, hlist, hof, hsmall⟩ := hx
    obtain ⟨hcb, hkn, -, -⟩ := State.arrayAt?_spec harrAt
    have hown : s.vm.findClass R_law = some m.cls := findClass_of_methodNamed B.named
    have hts0 : ∀ c ∈ (Jvm.Cond.code x code maxLocals ret :: tables_1), c.before #[Value.ref b] s = true := atoms_spec (ws := Jvm.Cond.code x code maxLocals ret :: tables_1) B.pre
    have hts : ∀ w ∈ lw_tbl, w.before #[Value.ref b] s = true := k2_hts_sels lw_privs (fun w hw => hts0 w (List.mem_cons_of_mem _ hw)) lw_privs_ok
    have hml : c.maxLocals = 10 := B.maxLocals_eq (hts0 _ List.mem_cons_self)
    have htab : c.exceptionTable.toList = [] := by
      obtain ⟨meth9, c9, h1, h2, -, -, -, -, h7, -⟩ := Cond.code_spec B.named (hts0 _ List.mem_cons_self)
      cases Option.some.inj (h1.symm.trans B.method)
      cases Option.some.inj (h2.symm.trans (Stand.of_body B).code)
      rw [Array.isEmpty_iff.mp h7]
    have X₀ : Stand p l e room_1 s m #[Value.ref b] below meth c s₁ [] 0 0 := Stand.of_body B
    have hh0 : s₁.heap = s.heap := by rw [B.state]; rfl
    have hsz : scr.slots.size = xs.length := by rw [← Array.length_toList, hlist, List.length_map]
    have hval : ∀ j : Nat, j < xs.length → scr.slots[j]? = some (.int (xs.getD j 0)) := fun j hj => by
      rw [← Array.getElem?_toList, hlist]
      simp [hj]
    have hbl : b < s.heap.size := (Array.getElem?_eq_some_iff.mp hcb).1
    have hX : va_X b xs.length (fun j => xs.getD j 0) s s.heap := ⟨scr, hcb, hof, hkn, hsz, hval⟩
    have K : W p l e room_1 s m #[Value.ref b] below meth c s₁.heap [] 0 0 (lw_Z below #[Value.ref b] s) (entryFrame m ([Value.ref b] : List Value).toArray 10) := by
      rw [hh0]
      exact whole_start l hflags hbd ⟨B.exec, B.bytes, B.returns, hml, hown, hts, hX, hbl, B.notSynchronized, hgv⟩ (name_of_methodNamed B.named B.method).1 htab
    obtain ⟨t, a1, o, b1, b2, b3⟩ := K s₁ rfl X₀
    exact ⟨t, o, a1, b1, b2, b3⟩
theorem lw_pre_spec {args : Array Value} {s : State} (h : (Jvm.Cond.and given_1 narrow_1).before args s = true) (hr : rest_1_c.before args s = true) : ∃ (b : Addr) (xs : List Int32), lw_P b xs args s := by
  have hs := flat_of_before _ h
  have hq := flat_of_before _ hr
  have hc : (Cond.count 1).before args s = true := hs _ (by decide +kernel)
  have harr : (Cond.arrayOf (.arg 0) .int).before args s = true := hs _ (by decide +kernel)
  have hle : (Cond.le (.length (.arg 0)) (.int 3072)).before args s = true := hs _ (by decide +kernel)
  have hlen : (Cond.isInt (.length (.arg 0))).before args s = true := hq _ (by decide +kernel)
  have hall : (Cond.all (.arg 0) (.isInt (.elem (.arg 0) (.index 0)))).before args s = true := hq _ (by decide +kernel)
  obtain ⟨b, xs, hb, hx⟩ := State.ints_of_pre rfl harr hlen hall
  have hsm : xs.length < 2 ^ 31 := hx.choose_spec.2.2.2
  have hev : (Term.length (.arg 0)).eval args s none [] s = some (.int xs.length.toInt32) := hx.length_eval hb
  have hv := Cond.le_ints hev (show (Term.int 3072).eval args s none [] s = some (.int 3072) from rfl)
  have hd : xs.length.toInt32 ≤ 3072 := by
    simpa [Cond.before, Cond.holds, hv] using hle
  have hN : xs.length ≤ 3072 := (Int32.ofNat_le_ofNat hsm (by decide)).mp (show Int32.ofNat xs.length ≤ Int32.ofNat 3072 from hd)
  exact ⟨b, xs, Cond.one_arg hc (show args[0]? = some (.ref b) from hb), hx, hN, h⟩
theorem lw_comes (l : Launch) (hflags : l.flags = flags0) : Comes l x (Jvm.Cond.code x code maxLocals ret :: tables_1) room_1 (fun tb e args s => Calls_1 tb e args s ∧ rest_1 tb e args s ∧ Pre_1 tb e args s)
    (fun _ _ args s o t => lw_Q args s o t) := by
  intro p e ha hc hk s m args below hf hfit hheap happ hpre
  obtain ⟨b, xs, hP⟩ := lw_pre_spec hpre.2.2 hpre.2.1
  obtain ⟨k, o, h1, h2, h3, hQ⟩ := lw_walk l hflags b xs p e ha hc hk s m args below hf ((Spec.applies_iff_loose hf).mp happ).1 hP trivial
  exact ⟨k, o, h1, h2, h3, hQ⟩
theorem lw_frame {s t : State} {o : Outcome} {args : Array Value} (h : State.butDraws s t lw_cs (fun t1 => Framed s o t1 [] 735865 6888508)) :
    State.butDraws s t [Jvm.Choice.named "NaN.bits"] (fun t1 => Framed s o t1 (fieldLocs frame_1_writes args s ++ arrayLocs frame_1_arrays args s ++ staticLocs frame_1_statics s) 735865 6888508) := h
theorem lw_limb (L : Cond) (hL : ∀ (args : Array Value) (s t : State), L.after args s (.returned (some (.int 1))) t = true) :
    ArmFor flags0 classFile x code maxLocals ret World_1 tables_1 room_1 Calls_1 rest_1 Pre_1
      (fun tb e a s o t => postC L tb e a s o t ∧ State.butDraws s t [Jvm.Choice.named "NaN.bits"] (fun t1 => Framed s o t1 (fieldLocs frame_1_writes a s ++ arrayLocs frame_1_arrays a s ++ staticLocs frame_1_statics s) 735865 6888508)) := by
  intro l hflags _ _ p e ha hc hk s m args below hf hfit hheap happ hpre
  obtain ⟨k, o, h1, h2, h3, rfl, hF⟩ := lw_comes l hflags p e ha hc hk s m args below hf hfit hheap happ hpre
  exact ⟨k, _, h1, h2, h3, hL args s _, lw_frame hF⟩
theorem i_vc : Claimed_1_1 ∧ Claimed_1_2 := ⟨lw_limb limb_1_1 (fun args s t => by simp [limb_1_1, Cond.after, Cond.holds, Cond.value]), lw_limb limb_1_2 (fun args s t => Cond.after_iff.mpr (by
  first | (rw [show limb_1_2 = Cond.eq .result (.int 1) from rfl, Cond.eq_ints (x := 1) (y := 1) rfl rfl]; simp; done) | (simp [limb_1_2, Cond.value, Term.eval]; done)))⟩

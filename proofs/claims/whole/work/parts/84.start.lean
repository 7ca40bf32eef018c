/-! THE CLAIM OUT OF ONE WALK OF THE LAW'S BODY. Your part is whole_start (and what it stands on); all else here is the same for every law, but numbers. -/
def R_law : String := "MixCoverLaw"
def lw_P (b : Addr) (xs : List Int32) (args : Array Value) (s : State) : Prop := args = #[.ref b] ∧ s.IntsAt b xs ∧ xs.length ≤ 3072 ∧ (Jvm.Cond.and given_1 narrow_1).before args s = true
def lw_Q (_ : Array Value) (s : State) (o : Outcome) (t : State) : Prop := o = .returned (some (.int 1)) ∧ Framed s o t [] 600000 7302250
def lw_Z (below : List Frame) (a : Array Value) (s : State) : State → Prop := fun t => ∃ o, t.status = .running ∧ Ended t below o ∧ lw_Q a s o t
/-- the law's own end, with 1 on the stack, nothing written that was there before, its room as the claim has it -/
theorem lw_ret {p : Program} {l : Launch} {e : Env} {s : State} {m : MethodId} {below : List Frame} {meth : Method} {c : Code} {b : Nat} (hx : p.tables.exec = Jvm.exec) (hb : c.code = code) (hr : meth.sig.returnType = ret) (hlocks : meth.locks = false) {pc : Nat} {H : Heap} {ls : Array Slot} (hdg : decode code pc = .ok (.ireturn, 1)) : W p l e room_1 s m #[Value.ref b] below meth c H [] 600000 7302250 (lw_Z below #[Value.ref b] s) (F0 m pc ls [.int 1]) := by
  intro T hT X
  obtain ⟨fs, hret, hrun, hended, hW, hframe⟩ := X.leave (v := some (.int 1)) (hlocks := hlocks) (fun h => by rw [hr] at h; cases h)
  have hmeth' : T.vm.method? m = some meth := X.method'
  refine ⟨T.setFrames fs, ?_, .returned (some (.int 1)), hrun, hended, rfl, ⟨_, rfl⟩, hW, hframe⟩
  jvm_step X.here [X.here.top, hx, hb, hdg, hmeth', hr, ret, narrow_b1]
  (try refine ⟨rfl, ?_⟩); (try refine ⟨rfl, ?_⟩)
  first | (intro acts; rw [hret _ acts rfl rfl rfl]) | rw [hret _ _ rfl rfl rfl]
  exact Steps.refl _
/-- what holds at the law's entry: the machine, the code, the tables' words (any of lw_tbl by 'hts w (by decide +kernel)'), the script of L ints xs at the cell b, what the Statement gives of the start (any of its parts by flat_of_before) -/
def lw_At (p : Program) (s : State) (m : MethodId) (meth : Method) (c : Code) (b L : Nat) (xs : Nat → Int32) : Prop :=
  p.tables.exec = Jvm.exec ∧ c.code = code ∧ meth.sig.returnType = ret ∧ c.maxLocals = 4 ∧ s.vm.findClass R_law = some m.cls ∧ (∀ w ∈ lw_tbl, w.before #[Value.ref b] s = true) ∧ va_X b L xs s s.heap ∧ b < s.heap.size ∧ meth.locks = false ∧ (Jvm.Cond.and given_1 narrow_1).before #[Value.ref b] s = true
/-! WHAT THE STATEMENT GIVES OF THE START, in the words of the memory -/
theorem tb_mem {w : Cond} (i : Nat) (h : lw_tbl[i]? = some w) : w ∈ lw_tbl := List.mem_of_getElem? h
theorem st_arr {s : State} {args : Array Value} {ty : FieldType} (hp : ∀ C, ty ≠ .object C) (h : (Cond.arrayClass ty).before args s = true) (hr : va_RA s = va_RA s) : ∃ cA, ArrOfT s cA ty ∧ s.vm.findClass ("[" ++ ty.toString) = some cA := by
  obtain ⟨cA, kA, comp, h1, h2, h3⟩ := Cond.arrayClass_spec h
  exact ⟨cA, fun n z => ⟨fun k q => (by cases q), kA, h2, comp, h3⟩, h1⟩
theorem st_sta {s : State} {args : Array Value} {C : String} (h : (Cond.arrayOver (.object C)).before args s = true) : ∃ cA, ArrOfT s cA (.object C) ∧ va_RA s cA (.object C) := by
  obtain ⟨comp, cA, kA, h1, h2, h3, h4, h5⟩ := Cond.arrayOver_spec h
  exact ⟨cA, fun n z => ⟨fun k q => (by cases q), kA, h3, comp, h4⟩, kA, comp, h3, h4, h1, h5⟩
set_option maxRecDepth 100000 in
set_option maxHeartbeats 4000000 in
theorem st_K {s : State} {args : Array Value} (hts : ∀ w ∈ lw_tbl, w.before args s = true) : ∃ (D : va_G) (cs : ClassId × ClassId × ClassId × ClassId), va_K D vwCl [(cs.1, .int), (cs.2.1, .byte), (cs.2.2.1, .boolean), (cs.2.2.2, .object "MixCover$State")] s := by
  obtain ⟨c0, i0, k0⟩ := u_known (C := (clq 0).1) (T := (clq 0).2.1) (N := (clq 0).2.2) hts (fun w h => big_in (clok_0.2.1 w h)) (hts (.instantiable RX0 6) (tb_mem 203 rfl))
  obtain ⟨c1, i1, k1⟩ := u_known (C := (clq 1).1) (T := (clq 1).2.1) (N := (clq 1).2.2) hts (fun w h => big_in (clok_1.2.1 w h)) (hts (.instantiable RX2 5) (tb_mem 309 rfl))
  obtain ⟨c2, i2, k2⟩ := u_known (C := (clq 2).1) (T := (clq 2).2.1) (N := (clq 2).2.2) hts (fun w h => big_in (clok_2.2.1 w h)) (hts (.instantiable RX3 3) (tb_mem 367 rfl))
  obtain ⟨c3, i3, k3⟩ := u_known (C := (clq 3).1) (T := (clq 3).2.1) (N := (clq 3).2.2) hts (fun w h => big_in (clok_3.2.1 w h)) (hts (.instantiable RX4 7) (tb_mem 159 rfl))
  obtain ⟨c4, i4, k4⟩ := u_known (C := (clq 4).1) (T := (clq 4).2.1) (N := (clq 4).2.2) hts (fun w h => big_in (clok_4.2.1 w h)) (hts (.instantiable RX5 7) (tb_mem 153 rfl))
  obtain ⟨c5, i5, k5⟩ := u_known (C := (clq 5).1) (T := (clq 5).2.1) (N := (clq 5).2.2) hts (fun w h => big_in (clok_5.2.1 w h)) (hts (.instantiable RX6 6) (tb_mem 342 rfl))
  obtain ⟨c6, i6, k6⟩ := u_known (C := (clq 6).1) (T := (clq 6).2.1) (N := (clq 6).2.2) hts (fun w h => big_in (clok_6.2.1 w h)) (hts (.instantiable RX7 3) (tb_mem 269 rfl))
  obtain ⟨c7, i7, k7⟩ := u_known (C := (clq 7).1) (T := (clq 7).2.1) (N := (clq 7).2.2) hts (fun w h => big_in (clok_7.2.1 w h)) (hts (.instantiable RX8 3) (tb_mem 261 rfl))
  obtain ⟨c8, i8, k8⟩ := u_known (C := (clq 8).1) (T := (clq 8).2.1) (N := (clq 8).2.2) hts (fun w h => big_in (clok_8.2.1 w h)) (hts (.instantiable RX9 4) (tb_mem 386 rfl))
  obtain ⟨c9, i9, k9⟩ := u_known (C := (clq 9).1) (T := (clq 9).2.1) (N := (clq 9).2.2) hts (fun w h => big_in (clok_9.2.1 w h)) (hts (.instantiable RX10 2) (tb_mem 136 rfl))
  obtain ⟨c10, i10, k10⟩ := u_known (C := (clq 10).1) (T := (clq 10).2.1) (N := (clq 10).2.2) hts (fun w h => big_in (clok_10.2.1 w h)) (hts (.instantiable RX11 11) (tb_mem 128 rfl))
  obtain ⟨c11, i11, k11⟩ := u_known (C := (clq 11).1) (T := (clq 11).2.1) (N := (clq 11).2.2) hts (fun w h => big_in (clok_11.2.1 w h)) (hts (.instantiable RX12 27) (tb_mem 1095 rfl))
  obtain ⟨cI, aI, bI⟩ := st_arr (ty := .int) (fun C h => by cases h) (hts (.arrayClass .int) (tb_mem 151 rfl)) rfl
  obtain ⟨cB, aB, bB⟩ := st_arr (ty := .byte) (fun C h => by cases h) (hts (.arrayClass .byte) (tb_mem 688 rfl)) rfl
  obtain ⟨cZ, aZ, bZ⟩ := st_arr (ty := .boolean) (fun C h => by cases h) (hts (.arrayClass .boolean) (tb_mem 384 rfl)) rfl
  obtain ⟨cQ, aQ, bQ⟩ := st_sta (C := "MixCover$State") (hts (.arrayOver (.object "MixCover$State")) (tb_mem 408 rfl))
  refine ⟨(fun k => match k with | 0 => c0 | 1 => c1 | 2 => c2 | 3 => c3 | 4 => c4 | 5 => c5 | 6 => c6 | 7 => c7 | 8 => c8 | 9 => c9 | 10 => c10 | _ => c11, fun k => match k with | 0 => i0 | 1 => i1 | 2 => i2 | 3 => i3 | 4 => i4 | 5 => i5 | 6 => i6 | 7 => i7 | 8 => i8 | 9 => i9 | 10 => i10 | _ => i11), (cI, cB, cZ, cQ), fun k q hq => ?_, fun k q hq => ?_⟩
  · match k, hq with
    | 0, hq => cases hq; exact k0
    | 1, hq => cases hq; exact k1
    | 2, hq => cases hq; exact k2
    | 3, hq => cases hq; exact k3
    | 4, hq => cases hq; exact k4
    | 5, hq => cases hq; exact k5
    | 6, hq => cases hq; exact k6
    | 7, hq => cases hq; exact k7
    | 8, hq => cases hq; exact k8
    | 9, hq => cases hq; exact k9
    | 10, hq => cases hq; exact k10
    | 11, hq => cases hq; exact k11
    | k + 12, hq => simp [vwCl] at hq
  · match k, hq with
    | 0, hq => cases hq; exact ⟨aI, bI⟩
    | 1, hq => cases hq; exact ⟨aB, bB⟩
    | 2, hq => cases hq; exact ⟨aZ, bZ⟩
    | 3, hq => cases hq; exact ⟨aQ, bQ⟩
    | k + 4, hq => simp at hq
abbrev tmS : Term := .static "MixCover$Field" "SIZES" "[I"
abbrev tmT : Term := .static "MixCover$Field" "TIMES_OF_FOUR" "[I"
abbrev tmW (i : Nat) : Term := .string "MixCover$PlanReader" (sIdx.getD i 0)
def giv1 : List Cond := flatC (Jvm.Cond.and given_1 narrow_1)
set_option maxRecDepth 100000 in
theorem gv_S : ∀ j, j < 5 → Cond.eq (.elem tmS (.int (Int32.ofNat j))) (.int ([2, 3, 4, 5, 7].getD j 0)) ∈ giv1 := by decide +kernel
set_option maxRecDepth 100000 in
theorem gv_T : ∀ j, j < 16 → Cond.eq (.elem tmT (.int (Int32.ofNat j))) (.int ([0, 0, 0, 0, 0, 1, 2, 3, 0, 2, 3, 1, 0, 3, 1, 2].getD j 0)) ∈ giv1 := by decide +kernel
set_option maxRecDepth 100000 in
theorem gv_W : ∀ i, i < 3 → Cond.exactly (tmW i) "java/lang/String" ∈ giv1 ∧ Cond.eq (.field (tmW i) "java/lang/String" "coder" "B") (.int 0) ∈ giv1 ∧ Cond.arrayOf (.field (tmW i) "java/lang/String" "value" "[B") .byte ∈ giv1 ∧ Cond.eq (.length (.field (tmW i) "java/lang/String" "value" "[B")) (.int (Int32.ofNat (sLen.getD i 0))) ∈ giv1 := by decide +kernel
set_option maxRecDepth 100000 in
theorem gv_B : ∀ i, i < 3 → ∀ j, j < sLen.getD i 0 → Cond.eq (.elem (.field (tmW i) "java/lang/String" "value" "[B") (.int (Int32.ofNat j))) (.int ((sByt.getD i []).getD j 0)) ∈ giv1 := by decide +kernel
set_option maxRecDepth 100000 in
theorem gv_N : ∀ i, i < 3 → ∀ j, j < 3 → i ≠ j → Cond.not (Cond.eq (tmW i) (tmW j)) ∈ giv1 ∨ Cond.not (Cond.eq (tmW j) (tmW i)) ∈ giv1 := by decide +kernel
set_option maxRecDepth 100000 in
theorem gv_X : Cond.arrayOf tmS .int ∈ giv1 ∧ Cond.eq (.length tmS) (.int (Int32.ofNat 5)) ∈ giv1 ∧ Cond.arrayOf tmT .int ∈ giv1 ∧ Cond.eq (.length tmT) (.int (Int32.ofNat 16)) ∈ giv1 ∧ Cond.eq (.static "java/lang/String" "COMPACT_STRINGS" "Z") (.int 1) ∈ giv1 ∧ Cond.isRef (.static "jdk/internal/util/Preconditions" "SIOOBE_FORMATTER" "Ljava/util/function/BiFunction;") ∈ giv1 := by decide +kernel
theorem s_len31 : ∀ i : Nat, i < 3 → sLen.getD i 0 < 2 ^ 31 := by decide
set_option maxRecDepth 100000 in
theorem st_R : ∀ i, i < 3 → Cond.stringRef "MixCover$PlanReader" (sIdx.getD i 0) (sTxt.getD i "") ∈ lw_tbl := fun i hi => match i, hi with
  | 0, _ => tb_mem 475 rfl
  | 1, _ => tb_mem 567 rfl
  | 2, _ => tb_mem 576 rfl
set_option maxRecDepth 100000 in
set_option maxHeartbeats 4000000 in
theorem st_ok {s : State} {args : Array Value} (hts : ∀ w ∈ lw_tbl, w.before args s = true) (hgv : (Jvm.Cond.and given_1 narrow_1).before args s = true) : ∃ G : mG, gb G = s.heap.size ∧ Ok G s s.heap := by
  have hs : ∀ w ∈ giv1, w.before args s = true := flat_of_before _ hgv
  have hA : ∀ a : Nat, a < s.heap.size → ¬ (fun q : Nat => s.heap.size ≤ q) a := fun a h => Nat.not_le.mpr h
  obtain ⟨D, cs, hK⟩ := st_K hts
  obtain ⟨x1, x2, x3, x4, x5, x6⟩ := gv_X
  obtain ⟨t1, e1, T1⟩ := va_Tof (tm := tmS) (f := tS) (N := 5) (A := fun q : Nat => s.heap.size ≤ q) (by decide) (hs _ x1) (va_eqt (hs _ x2)) (fun j hj => va_eqt (hs _ (gv_S j hj))) hA
  obtain ⟨t2, e2, T2⟩ := va_Tof (tm := tmT) (f := tT) (N := 16) (A := fun q : Nat => s.heap.size ≤ q) (by decide) (hs _ x3) (va_eqt (hs _ x4)) (fun j hj => va_eqt (hs _ (gv_T j hj))) hA
  obtain ⟨adK, adV, hSt, hEv⟩ := vk_Sof (N := 3) (tm := tmW) (len := sLen) (byt := sByt) (A := fun q : Nat => s.heap.size ≤ q) s_len31 (fun i hi => hs _ (gv_W i hi).1) (fun i hi => hs _ (gv_W i hi).2.1) (fun i hi => hs _ (gv_W i hi).2.2.1) (fun i hi => hs _ (gv_W i hi).2.2.2) (fun i hi j hj => hs _ (gv_B i hi j hj)) (fun i j hi hj hne => (gv_N i hi j hj hne).imp (hs _) (hs _)) hA
  refine ⟨(D, s.heap.size, cs, (t1, t2), adK, adV), rfl, Nat.le_refl _, hK, fun w hw => ?_, ⟨va_Zref (hts (.laysStatic "MixCover$Field" "SIZES" "[I") (tb_mem 891 rfl)) (hts (.initialized "MixCover$Field") (tb_mem 125 rfl)) e1 hA, T1⟩, ⟨va_Zref (hts (.laysStatic "MixCover$Field" "TIMES_OF_FOUR" "[I") (tb_mem 906 rfl)) (hts (.initialized "MixCover$Field") (tb_mem 125 rfl)) e2 hA, T2⟩, hSt, fun i hi => vk_R.of (hts _ (st_R i hi)) (hEv i hi), va_Zof (hts (.laysStatic "java/lang/String" "COMPACT_STRINGS" "Z") (tb_mem 493 rfl)) (hts (.initialized "java/lang/String") (tb_mem 119 rfl)) (va_eqi (hs _ x5)) hA, va_AO.of (hts (.arrayOver (.object "MixCover$State")) (tb_mem 408 rfl)), va_Zqof (hts (.laysStatic "jdk/internal/util/Preconditions" "SIOOBE_FORMATTER" "Ljava/util/function/BiFunction;") (tb_mem 513 rfl)) (hts (.initialized "jdk/internal/util/Preconditions") (tb_mem 121 rfl)) (hs _ x6) hA⟩
  have h := hts w (List.mem_filter.mp hw).1
  obtain ⟨a, i, x, hh, rfl⟩ := nestW_of hw
  exact va_Nw.of rfl h
/-- the law's own frame -/
abbrev mL : mMt := (yL_law, code, 4, ret, 0)
abbrev lE (p : Program) (l : Launch) (e : Env) (s : State) (m : MethodId) (b : Nat) (below : List Frame) (meth : Method) (c : Code) : mE := (p, l, e, s, m, #[Value.ref b], below, meth, c)
theorem st_C {p : Program} {e : Env} {s : State} {m : MethodId} {below : List Frame} {meth : Method} {c : Code} (l : Launch) {b L : Nat} {xs : Nat → Int32} (C0 : lw_At p s m meth c b L xs) : ∃ G : mG, gb G = s.heap.size ∧ Cx G mL (lE p l e s m b below meth c) := by
  obtain ⟨hx, hb, hr, hml, hown, hts, hX, hbl, hlocks, hgv⟩ := C0
  obtain ⟨G, hG, hok⟩ := st_ok hts hgv
  exact ⟨G, hG, hx, hb, hr, hml, hown, fun w hw => hts w (big_in hw), hlocks, hok⟩

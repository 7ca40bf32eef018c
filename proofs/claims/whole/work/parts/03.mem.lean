/-! THE MEMORY: behind the constructors the heap's shape is fixed: cell k lies at b + k. What changes is 'mM': the ints of each cell (fields by slots, arrays by places). -/
def BIG : List Cond := lw_tbl.filter goodWord
theorem big_mem {w : Cond} (i : Nat) (h : lw_tbl[i]? = some w) (hg : goodWord w = true) : w ∈ BIG := List.mem_filter.mpr ⟨List.mem_of_getElem? h, hg⟩
theorem big_good {w : Cond} (h : w ∈ BIG) : goodWord w = true := (List.mem_filter.mp h).2
theorem big_in {w : Cond} (h : w ∈ BIG) : w ∈ lw_tbl := (List.mem_filter.mp h).1
abbrev mM : Type := Nat → Nat → Int32
/-- va_G, base, classes of int[] byte[] boolean[] State[], the two static tables, string addresses -/
abbrev mG : Type := va_G × Nat × (ClassId × ClassId × ClassId × ClassId) × (Nat × Nat) × (Nat → Nat) × (Nat → Nat)
abbrev gD (G : mG) : va_G := G.1
abbrev gb (G : mG) : Nat := G.2.1
abbrev gA (G : mG) : Nat → Prop := fun q => G.2.1 ≤ q
/-- method: name, code, locals, what it returns, depth -/
abbrev mMt : Type := MethodName × ByteArray × Nat × Option FieldType × Nat
abbrev mE : Type := Program × Launch × Env × State × MethodId × Array Value × List Frame × Method × Code
/-- a body's room, cells and slots made so far, and what is to hold at its end -/
abbrev mB : Type := Room × Nat × Nat × (State → Prop)
/-- the shape: (0, class) or (1 int, 2 byte, 3 boolean, 4 State[]; length) -/
def shl : List (Nat × Nat) := [(0, 10), (0, 9), (1, 200), (0, 4), (0, 3), (1, 8), (1, 12), (1, 12), (0, 0), (1, 168), (1, 57), (1, 3), (1, 8), (1, 0)]
  ++ [(0, 7), (0, 3), (1, 8), (1, 12), (1, 12), (0, 6), (1, 64), (1, 64)]
  ++ [(0, 1), (0, 0), (1, 168), (1, 57), (1, 3), (1, 8), (1, 1200), (1, 1200), (1, 1200)]
  ++ [(0, 5), (1, 1200), (1, 1200), (1, 1200), (1, 12)]
  ++ [(0, 2), (0, 6), (1, 64), (1, 64), (1, 64), (3, 1200)]
  ++ [(0, 8), (1, 56), (1, 56), (0, 0), (1, 168), (1, 57), (1, 3), (1, 8)]
  ++ [(4, 8), (4, 2)]
  ++ (List.replicate 10 [(0, 7), (0, 3), (1, 8), (1, 12), (1, 12), (0, 6), (1, 64), (1, 64)]).flatten
  ++ [(0, 11), (2, 200), (2, 24), (1, 673), (1, 673), (1, 673), (1, 8), (1, 8), (1, 3600), (1, 3600), (3, 1200), (1, 3), (3, 1200), (1, 8), (1, 8), (1, 3), (1, 9), (1, 5384), (1, 1346), (3, 2)]
def sh (c : Nat) : Nat × Nat := shl.getD c (9, 0)
theorem shl_len : shl.length = 152 := by decide +kernel
theorem sh_lt {c k n : Nat} (h : sh c = (k, n)) (hx : k ≠ 9) : c < 152 := by
  rcases Nat.lt_or_ge c 152 with q | q
  · exact q
  · have : sh c = (9, 0) := by
      unfold sh
      rw [List.getD_eq_getElem?_getD, List.getElem?_eq_none (by rw [shl_len]; exact q)]
      rfl
    rw [this] at h
    cases h
    exact absurd rfl hx
/-- fields of a class, by its place in vwCl: (0, _) int; (1, d) the cell d behind; (2, _) a cell by number -/
def fks (ci : Nat) : List (Nat × Nat) := match ci with
  | 0 => [(0, 0), (0, 0), (1, 1), (1, 2), (1, 3), (1, 4)]
  | 1 => [(1, 1), (1, 6), (1, 7), (1, 8), (0, 0)]
  | 2 => [(1, 1), (1, 4), (1, 5)]
  | 3 => [(0, 0), (0, 0), (0, 0), (0, 0), (1, 1), (1, 2), (1, 3)]
  | 4 => [(1, 1), (1, 5), (2, 0), (0, 0), (0, 0), (0, 0), (0, 0)]
  | 5 => [(1, 1), (1, 2), (1, 3), (0, 0), (1, 4), (0, 0)]
  | 6 => [(0, 0), (1, 1), (1, 2)]
  | 7 => [(1, 1), (1, 5), (0, 0)]
  | 8 => [(1, 1), (1, 2), (1, 3), (0, 0)]
  | 9 => [(1, 1), (0, 0)]
  | 10 => [(1, 1), (1, 3), (1, 14), (1, 22), (1, 31), (1, 36), (1, 42), (1, 50), (0, 0), (0, 0), (1, 51)]
  | 11 => [(1, 1), (0, 0), (0, 0), (0, 0), (1, 2), (0, 0), (0, 0), (1, 3), (1, 4), (0, 0), (1, 5), (1, 6), (1, 7), (0, 0), (1, 8), (1, 9), (1, 10), (1, 11), (1, 12), (1, 13), (1, 14), (1, 15), (1, 16), (1, 17), (1, 18), (1, 19), (0, 0)]
  | _ => []
abbrev mF : Type := Nat → Nat → Bool
abbrev f1 : mF := fun _ _ => true
def fv (G : mG) (φ : mF) (μ : mM) (c j : Nat) (k : Nat × Nat) : Value := match k.1 with
  | 0 => .int (μ c j)
  | 1 => if φ c j then .ref (gb G + (c + k.2)) else .null
  | _ => if φ c j then .ref (gb G + (μ c j).toNatClampNeg) else .null
def flds (G : mG) (φ : mF) (μ : mM) (c ci : Nat) : List Value := (fks ci).mapIdx (fun j k => fv G φ μ c j k)
def stO (c : Nat) : Nat := if c = 50 then 52 else 116
def en (G : mG) (φ : mF) (μ : mM) (c : Nat) : va_E := match (sh c).1 with
  | 0 => .inr ((sh c).2, flds G φ μ c (sh c).2)
  | 1 => .inl (G.2.2.1.1, (sh c).2, .inl (μ c))
  | 2 => .inl (G.2.2.1.2.1, (sh c).2, .inl (μ c))
  | 3 => .inl (G.2.2.1.2.2.1, (sh c).2, .inl (μ c))
  | _ => .inl (G.2.2.1.2.2.2, (sh c).2, .inr (.inr (.inr (.inr (fun i => if φ c i then some (gb G + (stO c + 8 * i)) else none)))))
def wl (G : mG) (n : Nat) (φ : mF) (μ : mM) : va_W := (List.range n).map (fun c => (gb G + c, en G φ μ c))
theorem wl_get {G : mG} {n : Nat} {φ : mF} {μ : mM} {c : Nat} (h : c < n) : (wl G n φ μ)[c]? = some (gb G + c, en G φ μ c) := by
  simp [wl, h]
theorem wl_in {G : mG} {n : Nat} {φ : mF} {μ : mM} {k : Nat} {q : Nat × va_E} (h : (wl G n φ μ)[k]? = some q) : k < n ∧ q = (gb G + k, en G φ μ k) := by
  have hl : k < n := by
    have := (List.getElem?_eq_some_iff.mp h).1
    simpa [wl] using this
  rw [wl_get hl] at h
  exact ⟨hl, (Option.some.inj h).symm⟩
theorem wl_D (G : mG) (n : Nat) (φ : mF) (μ : mM) : va_D (gA G) (wl G n φ μ) := by
  refine ⟨fun i j p q h1 h2 h3 => ?_, fun k q h => ?_⟩
  · obtain ⟨-, rfl⟩ := wl_in h1
    obtain ⟨-, rfl⟩ := wl_in h2
    have : gb G + i = gb G + j := h3
    omega
  · obtain ⟨-, rfl⟩ := wl_in h
    exact Nat.le_add_right _ _
/-- cells that are alike in all rows but one -/
theorem wl_set {G : mG} {n : Nat} {φ φ' : mF} {μ μ' : mM} {c : Nat} {e : va_E} (he : en G φ' μ' c = e) (h : ∀ c', c' ≠ c → en G φ' μ' c' = en G φ μ c') : (wl G n φ μ).set c (gb G + c, e) = wl G n φ' μ' := by
  subst he
  apply List.ext_getElem?
  intro k
  rw [List.getElem?_set]
  by_cases hk : k < n
  · rw [wl_get hk]
    by_cases hc : c = k
    · subst hc
      rw [if_pos rfl, if_pos (by simpa [wl] using hk), wl_get hk]
    · rw [if_neg hc, wl_get hk, h k (fun z => hc z.symm)]
  · have h1 : (wl G n φ μ)[k]? = none := by simp [wl]; omega
    have h2 : (wl G n φ' μ')[k]? = none := by simp [wl]; omega
    rw [h1, h2]
    by_cases hc : c = k
    · rw [if_pos hc, if_neg (by simp [wl]; omega)]
    · rw [if_neg hc]
theorem en_row {G : mG} {φ : mF} {μ μ' : mM} {c : Nat} (h : μ' c = μ c) : en G φ μ' c = en G φ μ c := by
  have hf : ∀ ci, flds G φ μ' c ci = flds G φ μ c ci := fun ci => by
    unfold flds
    congr 1
    funext j k
    simp only [fv, h]
  simp only [en, hf, h]
/-- one int of one cell is written -/
def ms (μ : mM) (c j : Nat) (v : Int32) : mM := fun c' => if c' = c then upd (μ c) j v else μ c'
theorem ms_row (μ : mM) (c j : Nat) (v : Int32) : ms μ c j v c = upd (μ c) j v := by simp [ms]
theorem ms_ne {μ : mM} {c c' j : Nat} {v : Int32} (h : c' ≠ c) : ms μ c j v c' = μ c' := by simp [ms, h]
theorem ms_at (μ : mM) (c j : Nat) (v : Int32) (c' j' : Nat) : ms μ c j v c' j' = if c' = c ∧ j' = j then v else μ c' j' := by
  by_cases h : c' = c
  · subst h
    rw [ms_row]
    by_cases h2 : j' = j <;> simp [upd, h2]
  · rw [ms_ne h]
    simp [h]
theorem wl_put {G : mG} {n : Nat} {φ : mF} {μ : mM} {c j : Nat} {v : Int32} {e : va_E} (he : en G φ (ms μ c j v) c = e) : (wl G n φ μ).set c (gb G + c, e) = wl G n φ (ms μ c j v) :=
  wl_set he (fun c' h => en_row (ms_ne h))
/-- what the statement gives of the start, and what stays: nest words, the two static tables, the strings -/
def nestW : List Cond := lw_tbl.filter (fun w => match w with | .methodLinkNest .. => true | _ => false)
theorem nestW_of {w : Cond} (h : w ∈ nestW) : ∃ a i x hh, w = .methodLinkNest a i x hh := by
  have h2 := (List.mem_filter.mp h).2
  cases w <;> first | exact ⟨_, _, _, _, rfl⟩ | (simp at h2)
def tS : Nat → Value := fun j => .int ([2, 3, 4, 5, 7].getD j 0)
def tT : Nat → Value := fun j => .int ([0, 0, 0, 0, 0, 1, 2, 3, 0, 2, 3, 1, 0, 3, 1, 2].getD j 0)
def sLen : List Nat := [6, 8, 5]
def sByt : List (List Int32) := [[108, 101, 118, 101, 108, 115], [115, 116, 114, 101, 110, 103, 116, 104], [110, 101, 118, 101, 114]]
def sIdx : List Nat := [92, 110, 129]
def sTxt : List String := ["levels", "strength", "never"]
def Stat (G : mG) (U : State) (H : Heap) : Prop :=
  (∀ w ∈ nestW, va_Nw w U) ∧
  (va_Z "MixCover$Field" "SIZES" "[I" (.ref G.2.2.2.1.1) (gA G) U H ∧ va_T .int G.2.2.2.1.1 5 tS (gA G) U H) ∧
  (va_Z "MixCover$Field" "TIMES_OF_FOUR" "[I" (.ref G.2.2.2.1.2) (gA G) U H ∧ va_T .int G.2.2.2.1.2 16 tT (gA G) U H) ∧
  vk_S 3 sLen sByt G.2.2.2.2.1 G.2.2.2.2.2 (gA G) U H ∧
  (∀ i, i < 3 → vk_R "MixCover$PlanReader" (sIdx.getD i 0) (sTxt.getD i "") (G.2.2.2.2.1 i) U) ∧
  va_Z "java/lang/String" "COMPACT_STRINGS" "Z" (.int 1) (gA G) U H ∧
  va_AO "MixCover$State" U ∧
  va_Zq "jdk/internal/util/Preconditions" "SIOOBE_FORMATTER" "Ljava/util/function/BiFunction;" (gA G) U H
theorem Stat.next {G : mG} {s U : State} {H : Heap} {locs : List Loc} (h : Stat G s s.heap) (hW : s.WarmedH U.vm) (hS : va_S (gA G) s.heap H locs) : Stat G U H := by
  obtain ⟨h1, ⟨h2, h3⟩, ⟨h4, h5⟩, h6, h7, h8, h9, h10⟩ := h
  have hk : ∀ a : Nat, a < s.heap.size → ¬ gA G a → H[a]? = s.heap[a]? := hS.2.1
  refine ⟨fun w hw => ?_, ⟨(h2.moved hW.alike).kept hk, (h3.moved hW.alike).kept hk⟩, ⟨(h4.moved hW.alike).kept hk, (h5.moved hW.alike).kept hk⟩, (h6.moved hW.alike).kept hk, fun i hi => (h7 i hi).warm hW, (h8.moved hW.alike).kept hk, h9.moved hW.alike, h10.elim (fun z => Or.inl ((z.moved hW.alike).kept hk)) (fun ⟨t, z⟩ => Or.inr ⟨t, (z.moved hW.alike).kept hk⟩)⟩
  obtain ⟨a, i, x, hh, rfl⟩ := nestW_of hw
  exact va_Nw.warmM hW (h1 _ hw)
theorem Stat.same {G : mG} {s U : State} {H : Heap} (h : Stat G s H) (hv : s.vm = U.vm) : Stat G U H := by
  obtain ⟨h1, ⟨h2, h3⟩, ⟨h4, h5⟩, h6, h7, h8, h9, h10⟩ := h
  have ha : s.vm.Alike U.vm := by rw [hv]; exact Vm.Alike.refl _
  refine ⟨fun w hw => ?_, ⟨h2.moved ha, h3.moved ha⟩, ⟨h4.moved ha, h5.moved ha⟩, h6.moved ha, fun i hi => (h7 i hi).same hv.symm, h8.moved ha, h9.moved ha, h10.elim (fun z => Or.inl (z.moved ha)) (fun ⟨t, z⟩ => Or.inr ⟨t, z.moved ha⟩)⟩
  obtain ⟨a, i, x, hh, rfl⟩ := nestW_of hw
  exact (h1 _ hw).same rfl hv
abbrev tysG (G : mG) : List (ClassId × FieldType) := [(G.2.2.1.1, .int), (G.2.2.1.2.1, .byte), (G.2.2.1.2.2.1, .boolean), (G.2.2.1.2.2.2, .object "MixCover$State")]
/-- what holds of the state besides the world -/
def Ok (G : mG) (U : State) (H : Heap) : Prop := gb G ≤ H.size ∧ va_K (gD G) vwCl (tysG G) U ∧ Stat G U H
theorem Ok.next {G : mG} {s U : State} {H : Heap} {locs : List Loc} (h : Ok G s s.heap) (hW : s.WarmedH U.vm) (hS : va_S (gA G) s.heap H locs) : Ok G U H :=
  ⟨Nat.le_trans h.1 hS.1, va_K.moved hW.alike h.2.1, h.2.2.next hW hS⟩
theorem Ok.same {G : mG} {s U : State} {H : Heap} (h : Ok G s H) (hv : s.vm = U.vm) : Ok G U H :=
  ⟨h.1, va_K.moved (by rw [hv]; exact Vm.Alike.refl _) h.2.1, h.2.2.same hv⟩
def wsm (M : mMt) : List Cond := .code M.1 M.2.1 M.2.2.1 M.2.2.2.1 :: BIG
def rmm (d : Nat) : Room := { frames := d, cells := 0, slots := 0, locals := 48 * d }
/-- a body's fixed facts -/
def Cx (G : mG) (M : mMt) (E : mE) : Prop :=
  E.1.tables.exec = Jvm.exec ∧ E.2.2.2.2.2.2.2.2.code = M.2.1 ∧ E.2.2.2.2.2.2.2.1.sig.returnType = M.2.2.2.1 ∧ E.2.2.2.2.2.2.2.2.maxLocals = M.2.2.1 ∧ E.2.2.2.1.vm.findClass M.1.cls = some E.2.2.2.2.1.cls ∧
  (∀ w ∈ BIG, w.before E.2.2.2.2.2.1 E.2.2.2.1 = true) ∧ E.2.2.2.2.2.2.2.1.locks = false ∧ Ok G E.2.2.2.1 E.2.2.2.1.heap
def Wp (E : mE) (B : mB) (H : Heap) (locs : List Loc) (g : JFrame) : Prop := W E.1 E.2.1 E.2.2.1 B.1 E.2.2.2.1 E.2.2.2.2.1 E.2.2.2.2.2.1 E.2.2.2.2.2.2.1 E.2.2.2.2.2.2.2.1 E.2.2.2.2.2.2.2.2 H locs B.2.1 B.2.2.1 B.2.2.2 g
def Wm (G : mG) (M : mMt) (E : mE) (B : mB) (μ : mM) (pc : Nat) (lv : List (Nat × Value)) (st : List Value) : Prop :=
  ∀ (H : Heap) (locs : List Loc) (ls : Array Slot), va_P (gD G) vwCl (wl G 152 f1 μ) H → va_S (gA G) E.2.2.2.1.heap H locs → lv_has ls M.2.2.1 lv → Wp E B H locs (F0 E.2.2.2.2.1 pc ls st)
/-- a method's end: an answer and a memory -/
abbrev mP : Type := Option Value → mM → Prop
def Qm (G : mG) (P : mP) : Array Value → State → Outcome → State → Prop := fun _ st oc t => (∃ (v : Option Value) (μ' : mM), oc = .returned v ∧ P v μ' ∧ va_P (gD G) vwCl (wl G 152 f1 μ') t.heap) ∧ va_F (gA G) st t
def Ct (G : mG) (M : mMt) (av : List Value) (μ : mM) (P : mP) : Prop :=
  ∀ l, Met l M.1 (wsm M) (rmm M.2.2.2.2) (va_Pc av (fun U => Ok G U U.heap ∧ va_P (gD G) vwCl (wl G 152 f1 μ) U.heap)) (Qm G P) 0 0 (gA G)
abbrev bm (G : mG) (M : mMt) (E : mE) (P : mP) : mB := (rmm M.2.2.2.2, 0, 0, MQ E.2.2.2.2.2.2.1 (Qm G P) E.2.2.2.2.2.1 E.2.2.2.1 0 0 (gA G))
theorem Ct.of {G : mG} {M : mMt} {av : List Value} {μ : mM} {P : mP} (hy : plainName M.1.cls = true) (hn : (lg_sl av).length ≤ M.2.2.1) (k : ∀ E, Cx G M E → Wm G M E (bm G M E P) μ 0 (lv_args 0 av) []) : Ct G M av μ P := by
  intro l
  refine Met.ofW (cc := M.2.1) (maxL := M.2.2.1) (ret := M.2.2.2.1) hy rfl ?_
  intro p e s m args below meth c s₁ B hml hv
  obtain ⟨rfl, hok, hP⟩ := hv
  have hts := atoms_spec (ws := wsm M) B.pre
  have hl := lv_entry av (n := M.2.2.1) hn
  rw [lg_entry_eq]
  refine k (p, l, e, s, m, av.toArray, below, meth, c) ⟨B.exec, B.bytes, B.returns, hml, findClass_of_methodNamed B.named, fun w hw => hts w (List.mem_cons_of_mem _ hw), B.notSynchronized, hok⟩ s.heap [] _ hP va_S.rf hl
theorem Ct.mono {G : mG} {M : mMt} {av : List Value} {μ : mM} {P P' : mP} (h : Ct G M av μ P) (hp : ∀ v μ', P v μ' → P' v μ') : Ct G M av μ P' := by
  intro l p e h1 h2 h3 s m args below h4 h5 h6 h7
  obtain ⟨n, o, a1, a2, a3, ⟨⟨v, μ', b1, b2, b3⟩, b4⟩, a5⟩ := h l p e h1 h2 h3 s m args below h4 h5 h6 h7
  exact ⟨n, o, a1, a2, a3, ⟨⟨v, μ', b1, hp v μ' b2, b3⟩, b4⟩, a5⟩

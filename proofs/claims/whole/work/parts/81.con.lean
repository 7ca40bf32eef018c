/-! CONSTRUCTORS: the heap grows cell by cell, its references are set one by one -/
def Nm (G : mG) (M : mMt) (E : mE) (B : mB) (n : Nat) (φ : mF) (μ : mM) (pc : Nat) (lv : List (Nat × Value)) (st : List Value) : Prop :=
  ∀ (H : Heap) (locs : List Loc) (ls : Array Slot), H.size = gb G + n → va_P (gD G) vwCl (wl G n φ μ) H → va_S (gA G) E.2.2.2.1.heap H locs → lv_has ls M.2.2.1 lv → Wp E B H locs (F0 E.2.2.2.2.1 pc ls st)
abbrev bc (B : mB) (k N : Nat) : mB := (B.1, B.2.1 + k, B.2.2.1 + N, B.2.2.2)
/-- one reference is set; some cells are done -/
def fs (φ : mF) (a b : Nat) : mF := fun c j => φ c j || decide (c = a ∧ j = b)
def fl (φ : mF) (a k : Nat) : mF := fun c j => φ c j || decide (a ≤ c ∧ c < a + k)
theorem wl_cg {G : mG} {n : Nat} {φ φ' : mF} {μ μ' : mM} (h : ∀ c, c < n → en G φ μ c = en G φ' μ' c) : wl G n φ μ = wl G n φ' μ' := by
  unfold wl
  exact List.map_congr_left (fun c hc => by rw [h c (List.mem_range.mp hc)])
theorem wl_s (G : mG) (n : Nat) (φ : mF) (μ : mM) : wl G (n + 1) φ μ = wl G n φ μ ++ [(gb G + n, en G φ μ n)] := by
  unfold wl
  rw [List.range_succ, List.map_append]
  rfl
theorem en_ph {G : mG} {φ φ' : mF} {μ : mM} {c : Nat} (h : ∀ j, φ c j = φ' c j) : en G φ μ c = en G φ' μ c := by
  have hf : ∀ ci, flds G φ μ c ci = flds G φ' μ c ci := fun ci => by
    unfold flds
    congr 1
    funext j k
    simp only [fv, h]
  simp only [en, hf, h]
theorem en_ob {G : mG} {φ φ' : mF} {μ : mM} {c ci : Nat} (hs : sh c = (0, ci)) (h : ∀ j q, (fks ci)[j]? = some q → q.1 ≠ 0 → φ c j = φ' c j) : en G φ μ c = en G φ' μ c := by
  rw [en_obj hs, en_obj hs]
  congr 2
  apply List.ext_getElem?
  intro j
  cases hq : (fks ci)[j]? with
  | none =>
    unfold flds
    rw [List.getElem?_mapIdx, List.getElem?_mapIdx, hq]
    rfl
  | some q =>
    rw [flds_at hq, flds_at hq]
    congr 1
    by_cases z : q.1 = 0
    · obtain ⟨a, b⟩ := q
      cases z
      rfl
    · simp only [fv, h j q hq z]
theorem en_ar {G : mG} {φ φ' : mF} {μ : mM} {c k N : Nat} (hs : sh c = (k, N)) (h1 : k = 1 ∨ k = 2 ∨ k = 3) : en G φ μ c = en G φ' μ c := by
  rcases h1 with rfl | rfl | rfl
  · rw [en_int hs, en_int hs]
  · rw [en_byte hs, en_byte hs]
  · rw [en_bool hs, en_bool hs]
theorem flds_fs {G : mG} {φ : mF} {μ : mM} {c ci j : Nat} {q : Nat × Nat} (hq : (fks ci)[j]? = some q) : flds G (fs φ c j) μ c ci = (flds G φ μ c ci).set j (fv G f1 μ c j q) := by
  apply List.ext_getElem?
  intro i
  rw [List.getElem?_set]
  by_cases hi : j = i
  · subst hi
    have hl : j < (flds G φ μ c ci).length := by
      unfold flds
      rw [List.length_mapIdx]
      exact (List.getElem?_eq_some_iff.mp hq).1
    rw [if_pos rfl, if_pos hl, flds_at hq]
    simp [fv, fs]
  · rw [if_neg hi]
    unfold flds
    rw [List.getElem?_mapIdx, List.getElem?_mapIdx]
    congr 1
    funext q'
    have : fs φ c j c i = φ c i := by simp [fs, Ne.symm hi]
    simp only [fv, this]
theorem Nm.go {G : mG} {M : mMt} {E : mE} {B : mB} {n : Nat} {φ φ' : mF} {μ μ' : mM} {pc : Nat} {lv : List (Nat × Value)} {st : List Value} (h : wl G n φ μ = wl G n φ' μ') (k : Nm G M E B n φ' μ' pc lv st) : Nm G M E B n φ μ pc lv st :=
  fun H locs ls hz hP hS hl => k H locs ls hz (by rw [← h]; exact hP) hS hl
/-! rows that change the frame alone -/
theorem N_iconst {G : mG} {M : mMt} {E : mE} {B : mB} {n : Nat} {φ : mF} {μ : mM} {pc : Nat} {lv : List (Nat × Value)} {st : List Value} (C : Cx G M E) {i : Int} {v : Int32} (hd : decode M.2.1 pc = .ok (.iconst i, 1)) (hv : Int32.ofInt i = v) (k : Nm G M E B n φ μ (pc + 1) lv (.int v :: st)) : Nm G M E B n φ μ pc lv st :=
  fun H locs ls hz hP hS hl => lv_iconst C.1 C.2.1 hd hv (k H locs ls hz hP hS hl)
theorem N_bipush {G : mG} {M : mMt} {E : mE} {B : mB} {n : Nat} {φ : mF} {μ : mM} {pc : Nat} {lv : List (Nat × Value)} {st : List Value} (C : Cx G M E) {i : Int} {v : Int32} (hd : decode M.2.1 pc = .ok (.bipush i, 2)) (hv : (Int8.ofInt i).toInt32 = v) (k : Nm G M E B n φ μ (pc + 2) lv (.int v :: st)) : Nm G M E B n φ μ pc lv st :=
  fun H locs ls hz hP hS hl => lv_bipush C.1 C.2.1 hd hv (k H locs ls hz hP hS hl)
theorem N_sipush {G : mG} {M : mMt} {E : mE} {B : mB} {n : Nat} {φ : mF} {μ : mM} {pc : Nat} {lv : List (Nat × Value)} {st : List Value} (C : Cx G M E) {i : Int} {v : Int32} (hd : decode M.2.1 pc = .ok (.sipush i, 3)) (hv : (Int16.ofInt i).toInt32 = v) (k : Nm G M E B n φ μ (pc + 3) lv (.int v :: st)) : Nm G M E B n φ μ pc lv st :=
  fun H locs ls hz hP hS hl => lv_sipush C.1 C.2.1 hd hv (k H locs ls hz hP hS hl)
theorem N_dup {G : mG} {M : mMt} {E : mE} {B : mB} {n : Nat} {φ : mF} {μ : mM} {pc : Nat} {lv : List (Nat × Value)} {st : List Value} (C : Cx G M E) {v : Value} (hd : decode M.2.1 pc = .ok (.dup, 1)) (hv : v.category = 1) (k : Nm G M E B n φ μ (pc + 1) lv (v :: v :: st)) : Nm G M E B n φ μ pc lv (v :: st) :=
  fun H locs ls hz hP hS hl => lv_dup C.1 C.2.1 hd hv (k H locs ls hz hP hS hl)
theorem N_aload_n {G : mG} {M : mMt} {E : mE} {B : mB} {n : Nat} {φ : mF} {μ : mM} {pc : Nat} {lv : List (Nat × Value)} {st : List Value} (C : Cx G M E) {m : Fin 4} {i : Nat} {x : Nat} (hd : decode M.2.1 pc = .ok (.aload_n m, 1)) (hi : (m : Nat) = i) (hg : lget i lv = some (.ref x)) (k : Nm G M E B n φ μ (pc + 1) lv (.ref x :: st)) : Nm G M E B n φ μ pc lv st :=
  fun H locs ls hz hP hS hl => lv_aload_n C.1 C.2.1 hd hi (lget_has hl hg) (k H locs ls hz hP hS hl)
theorem N_astore_n {G : mG} {M : mMt} {E : mE} {B : mB} {n : Nat} {φ : mF} {μ : mM} {pc : Nat} {lv : List (Nat × Value)} {st : List Value} (C : Cx G M E) {m : Fin 4} {i : Nat} {x : Nat} (hd : decode M.2.1 pc = .ok (.astore_n m, 1)) (hi : (m : Nat) = i) (hn : i < M.2.2.1) (k : Nm G M E B n φ μ (pc + 1) (lst i (.ref x) lv) st) : Nm G M E B n φ μ pc lv (.ref x :: st) :=
  fun H locs ls hz hP hS hl => lv_astore_n C.1 C.2.1 hd hi hl hn rfl (fun ls' hl' => k H locs ls' hz hP hS (lv_has.lst hl'))
theorem N_iload_n {G : mG} {M : mMt} {E : mE} {B : mB} {n : Nat} {φ : mF} {μ : mM} {pc : Nat} {lv : List (Nat × Value)} {st : List Value} (C : Cx G M E) {m : Fin 4} {i : Nat} {x : Int32} (hd : decode M.2.1 pc = .ok (.iload_n m, 1)) (hi : (m : Nat) = i) (hg : lget i lv = some (.int x)) (k : Nm G M E B n φ μ (pc + 1) lv (.int x :: st)) : Nm G M E B n φ μ pc lv st :=
  fun H locs ls hz hP hS hl => lv_iload_n C.1 C.2.1 hd hi (lget_has hl hg) (k H locs ls hz hP hS hl)
theorem N_istore_n {G : mG} {M : mMt} {E : mE} {B : mB} {n : Nat} {φ : mF} {μ : mM} {pc : Nat} {lv : List (Nat × Value)} {st : List Value} (C : Cx G M E) {m : Fin 4} {i : Nat} {x : Int32} (hd : decode M.2.1 pc = .ok (.istore_n m, 1)) (hi : (m : Nat) = i) (hn : i < M.2.2.1) (k : Nm G M E B n φ μ (pc + 1) (lst i (.int x) lv) st) : Nm G M E B n φ μ pc lv (.int x :: st) :=
  fun H locs ls hz hP hS hl => lv_istore_n C.1 C.2.1 hd hi hl hn rfl (fun ls' hl' => k H locs ls' hz hP hS (lv_has.lst hl'))
theorem N_iinc {G : mG} {M : mMt} {E : mE} {B : mB} {n : Nat} {φ : mF} {μ : mM} {pc : Nat} {lv : List (Nat × Value)} {st : List Value} (C : Cx G M E) {i : Nat} {d : Int} {x v : Int32} (hd : decode M.2.1 pc = .ok (.iinc i d, 3)) (hg : lget i lv = some (.int x)) (hv : Int32.ofInt d = v) (hn : i < M.2.2.1) (k : Nm G M E B n φ μ (pc + 3) (lst i (.int (x + v)) lv) st) : Nm G M E B n φ μ pc lv st :=
  fun H locs ls hz hP hS hl => by
    obtain ⟨j, hj⟩ := lget_mem hg
    exact lv_iinc C.1 C.2.1 hd hl hj (by rw [hv]) hn rfl (fun ls' hl' => k H locs ls' hz hP hS (lv_has.lst hl'))
theorem N_goto {G : mG} {M : mMt} {E : mE} {B : mB} {n : Nat} {φ : mF} {μ : mM} {pc : Nat} {lv : List (Nat × Value)} {st : List Value} (C : Cx G M E) {off : Int} {tgt : Nat} (hd : decode M.2.1 pc = .ok (.goto off, 3)) (ht : (pc : Int) + off = (tgt : Int)) (k : Nm G M E B n φ μ tgt lv st) : Nm G M E B n φ μ pc lv st :=
  fun H locs ls hz hP hS hl => lv_goto C.1 C.2.1 hd ht (k H locs ls hz hP hS hl)
theorem N_icmp_ge {G : mG} {M : mMt} {E : mE} {B : mB} {n : Nat} {φ : mF} {μ : mM} {pc : Nat} {lv : List (Nat × Value)} {st : List Value} (C : Cx G M E) {x y : Int32} {off : Int} {tgt : Nat} (hd : decode M.2.1 pc = .ok (.if_icmp .ge off, 3)) (ht : (pc : Int) + off = (tgt : Int)) (kt : y ≤ x → Nm G M E B n φ μ tgt lv st) (kf : ¬ y ≤ x → Nm G M E B n φ μ (pc + 3) lv st) : Nm G M E B n φ μ pc lv (.int y :: .int x :: st) :=
  fun H locs ls hz hP hS hl => lv_icmp_ge C.1 C.2.1 hd ht (fun h => kt h H locs ls hz hP hS hl) (fun h => kf h H locs ls hz hP hS hl)
theorem N_sub {G : mG} {M : mMt} {E : mE} {B : mB} {n : Nat} {φ : mF} {μ : mM} {pc : Nat} {lv : List (Nat × Value)} {st : List Value} {lv' : List (Nat × Value)} (ks : List Nat) (h : lv_pick lv ks = lv') (k : Nm G M E B n φ μ pc lv' st) : Nm G M E B n φ μ pc lv st :=
  fun H locs ls hz hP hS hl => k H locs ls hz hP hS (lv_sub hl ks h)
set_option maxRecDepth 100000 in
theorem in_code : Cond.code objectInit ⟨#[0xb1]⟩ 1 none ∈ BIG := big_mem 134 rfl rfl
set_option maxRecDepth 100000 in
theorem in_inst : Cond.instanceMethod objectInit ∈ BIG := big_mem 133 rfl rfl
set_option maxRecDepth 100000 in
theorem ac_int : Cond.arrayClass .int ∈ BIG := big_mem 151 rfl rfl
set_option maxRecDepth 100000 in
theorem ac_bool : Cond.arrayClass .boolean ∈ BIG := big_mem 384 rfl rfl
set_option maxRecDepth 100000 in
theorem ac_byte : Cond.arrayClass .byte ∈ BIG := big_mem 688 rfl rfl
/-- Object's own constructor -/
theorem N_obj {G : mG} {M : mMt} {E : mE} {B : mB} {n : Nat} {φ : mF} {μ : mM} {pc : Nat} {lv : List (Nat × Value)} {st : List Value} (C : Cx G M E) {idx a : Nat} (hd : decode M.2.1 pc = .ok (.invokespecial idx, 3)) (hl1 : Cond.methodLink M.1.cls idx objectInit ∈ BIG) (hR : 1 ≤ B.1.frames ∧ 20 ≤ B.1.locals) (hst : (st.map fun v => v.category).sum ≤ 8) (k : Nm G M E B n φ μ (pc + 3) lv st) : Nm G M E B n φ μ pc lv (.ref a :: st) := by
  intro H locs ls hz hP hS hl
  have hB := C.2.2.2.2.2.1
  refine W.objInit (rest := st) (g := F0 E.2.2.2.2.1 pc ls (.ref a :: st)) C.1 C.2.1 C.2.2.2.2.1 (hB _ hl1) (hB _ in_inst) (hB _ in_code) rfl (hl.1.trans C.2.2.2.1.symm) rfl hd hR.1 ?_ ?_
  · have := lv_room (m := E.2.2.2.2.1) (pc := pc) (ls := ls) (rest := st) hst
    have e : (F0 E.2.2.2.2.1 pc ls (.ref a :: st)).monitorRoom = (F0 E.2.2.2.2.1 pc ls st).monitorRoom := rfl
    rw [e]
    omega
  · exact W.eq (g2 := F0 E.2.2.2.2.1 (pc + 3) ls st) rfl (k H locs ls hz hP hS hl)
/-! rows that make cells -/
theorem va_Sk {G : mG} {H0 H H1 : Heap} {locs : List Loc} (h : va_S (gA G) H0 H locs) (z : H.size ≤ H1.size) (o : ∀ q, q < H.size → H1[q]? = H[q]?) : va_S (gA G) H0 H1 locs :=
  ⟨Nat.le_trans h.1 z, fun x h1 h2 => (o x (Nat.lt_of_lt_of_le h1 h.1)).trans (h.2.1 x h1 h2), h.2.2⟩
theorem va_Pk {G : mG} {n : Nat} {φ : mF} {μ : mM} {H H1 : Heap} {e : va_E} (h : va_P (gD G) vwCl (wl G n φ μ) H) (o : ∀ q, q < H.size → H1[q]? = H[q]?) (he : en G φ μ n = e) (ha : va_at (gD G) vwCl (gb G + n, e) H1) : va_P (gD G) vwCl (wl G (n + 1) φ μ) H1 := by
  rw [wl_s]
  refine (h.kept fun k x hx => o x.1 ((h k x hx).lt)).app fun k x hx => ?_
  have hz : k < 1 := (List.getElem?_eq_some_iff.mp hx).1
  rw [show k = 0 by omega] at hx
  cases hx
  rw [he]
  exact ha
theorem N_new {G : mG} {M : mMt} {E : mE} {B : mB} {n : Nat} {φ : mF} {μ : mM} {pc : Nat} {lv : List (Nat × Value)} {st : List Value} (C : Cx G M E) {ci idx N : Nat} (hd : decode M.2.1 pc = .ok (.new idx, 3)) (hs : sh n = (0, ci)) (hc : ClOk ci) (hl1 : Cond.classLink M.1.cls idx (clq ci).1 ∈ BIG) (hi : Cond.instantiable (clq ci).1 (clq ci).2.2 ∈ BIG) (hini : Cond.initialized (clq ci).1 ∈ BIG) (hN : (clq ci).2.2 = N)
    (hv : ∀ j, j < (clq ci).2.2 → defaultValue (clTy ci j) = vp_V (flds G φ μ n ci) j) (hf : B.2.1 + 1 ≤ B.1.cells ∧ B.2.2.1 + N ≤ B.1.slots) (k : Nm G M E (bc B 1 N) (n + 1) φ μ (pc + 3) lv (.ref (gb G + n) :: st)) : Nm G M E B n φ μ pc lv st := by
  subst hN
  intro H locs ls hz hP hS hl
  have hB := C.2.2.2.2.2.1
  have hKn := C.2.2.2.2.2.2.2.2.1.1 ci _ hc.1
  refine W.newcK (h := gb G + n) (g := F0 E.2.2.2.2.1 pc ls st) C.1 C.2.1 C.2.2.2.2.1 (hB _ hl1) (hB _ hi) (hB _ hini) rfl hd hf.1 hf.2 hKn.2.1 hz fun H1 kC hkC e1 z1 o1 => ?_
  rw [← hz] at o1
  exact k H1 locs ls (by omega) (va_Pk hP o1 (en_obj hs) ⟨_, hc.1, (u_born (clTy ci) hB hc.2.1 hKn hkC e1 hc.2.2.1).to hv⟩) (va_Sk hS (by omega) o1) hl
theorem N_newI {G : mG} {M : mMt} {E : mE} {B : mB} {n : Nat} {φ : mF} {μ : mM} {pc : Nat} {lv : List (Nat × Value)} {st : List Value} (C : Cx G M E) {N : Nat} {x : Int32} (hd : decode M.2.1 pc = .ok (.newarray .int, 2)) (hs : sh n = (1, N)) (hn : ¬ x < 0) (hN : x.toNatClampNeg = N) (hb : N * 4 ≤ 536870912) (hv : ∀ j, μ n j = 0) (hf : B.2.1 + 1 ≤ B.1.cells ∧ B.2.2.1 + N ≤ B.1.slots) (k : Nm G M E (bc B 1 N) (n + 1) (fl φ n 1) μ (pc + 2) lv (.ref (gb G + n) :: st)) : Nm G M E B n φ μ pc lv (.int x :: st) := by
  intro H locs ls hz hP hS hl
  refine va_newaK (atype := .int) (h := gb G + n) (g := F0 E.2.2.2.2.1 pc ls (.int x :: st)) C.1 C.2.1 (C.2.2.2.2.2.1 _ ac_int) rfl hd rfl hn hN hb hf.1 hf.2 hz fun H1 cA e1 z1 o1 _ hNm => ?_
  have hA := (C.2.2.2.2.2.2.2.2.1.2 0 _ rfl).2
  have hcA : cA = G.2.2.1.1 := Option.some.inj (hNm.symm.trans hA)
  subst hcA
  rw [← hz] at o1
  refine k H1 locs ls (by omega) (va_Pk (φ := fl φ n 1) (e := .inl (G.2.2.1.1, N, .inl (fun _ => 0))) ?_ o1 ?_ e1) (va_Sk hS (by omega) o1) hl
  · rw [wl_cg (φ' := φ) (μ' := μ) fun c hc => en_ph fun j => by simp only [fl]; rw [decide_eq_false (by omega), Bool.or_false]]
    exact hP
  · rw [en_int hs]
    congr 3
    exact congrArg Sum.inl (funext hv)
theorem N_newB {G : mG} {M : mMt} {E : mE} {B : mB} {n : Nat} {φ : mF} {μ : mM} {pc : Nat} {lv : List (Nat × Value)} {st : List Value} (C : Cx G M E) {N : Nat} {x : Int32} (hd : decode M.2.1 pc = .ok (.newarray .byte, 2)) (hs : sh n = (2, N)) (hn : ¬ x < 0) (hN : x.toNatClampNeg = N) (hb : N * 4 ≤ 536870912) (hv : ∀ j, μ n j = 0) (hf : B.2.1 + 1 ≤ B.1.cells ∧ B.2.2.1 + N ≤ B.1.slots) (k : Nm G M E (bc B 1 N) (n + 1) (fl φ n 1) μ (pc + 2) lv (.ref (gb G + n) :: st)) : Nm G M E B n φ μ pc lv (.int x :: st) := by
  intro H locs ls hz hP hS hl
  refine va_newaK (atype := .byte) (h := gb G + n) (g := F0 E.2.2.2.2.1 pc ls (.int x :: st)) C.1 C.2.1 (C.2.2.2.2.2.1 _ ac_byte) rfl hd rfl hn hN (by have e : componentBytes (newarray.typeOf .byte) = 1 := rfl; rw [e]; omega) hf.1 hf.2 hz fun H1 cA e1 z1 o1 _ hNm => ?_
  have hA := (C.2.2.2.2.2.2.2.2.1.2 1 _ rfl).2
  have hcA : cA = G.2.2.1.2.1 := Option.some.inj (hNm.symm.trans hA)
  subst hcA
  rw [← hz] at o1
  refine k H1 locs ls (by omega) (va_Pk (φ := fl φ n 1) (e := .inl (G.2.2.1.2.1, N, .inl (fun _ => 0))) ?_ o1 ?_ e1) (va_Sk hS (by omega) o1) hl
  · rw [wl_cg (φ' := φ) (μ' := μ) fun c hc => en_ph fun j => by simp only [fl]; rw [decide_eq_false (by omega), Bool.or_false]]
    exact hP
  · rw [en_byte hs]
    congr 3
    exact congrArg Sum.inl (funext hv)
theorem N_newZ {G : mG} {M : mMt} {E : mE} {B : mB} {n : Nat} {φ : mF} {μ : mM} {pc : Nat} {lv : List (Nat × Value)} {st : List Value} (C : Cx G M E) {N : Nat} {x : Int32} (hd : decode M.2.1 pc = .ok (.newarray .boolean, 2)) (hs : sh n = (3, N)) (hn : ¬ x < 0) (hN : x.toNatClampNeg = N) (hb : N * 4 ≤ 536870912) (hv : ∀ j, μ n j = 0) (hf : B.2.1 + 1 ≤ B.1.cells ∧ B.2.2.1 + N ≤ B.1.slots) (k : Nm G M E (bc B 1 N) (n + 1) (fl φ n 1) μ (pc + 2) lv (.ref (gb G + n) :: st)) : Nm G M E B n φ μ pc lv (.int x :: st) := by
  intro H locs ls hz hP hS hl
  refine va_newaK (atype := .boolean) (h := gb G + n) (g := F0 E.2.2.2.2.1 pc ls (.int x :: st)) C.1 C.2.1 (C.2.2.2.2.2.1 _ ac_bool) rfl hd rfl hn hN (by have e : componentBytes (newarray.typeOf .boolean) = 1 := rfl; rw [e]; omega) hf.1 hf.2 hz fun H1 cA e1 z1 o1 _ hNm => ?_
  have hA := (C.2.2.2.2.2.2.2.2.1.2 2 _ rfl).2
  have hcA : cA = G.2.2.1.2.2.1 := Option.some.inj (hNm.symm.trans hA)
  subst hcA
  rw [← hz] at o1
  refine k H1 locs ls (by omega) (va_Pk (φ := fl φ n 1) (e := .inl (G.2.2.1.2.2.1, N, .inl (fun _ => 0))) ?_ o1 ?_ e1) (va_Sk hS (by omega) o1) hl
  · rw [wl_cg (φ' := φ) (μ' := μ) fun c hc => en_ph fun j => by simp only [fl]; rw [decide_eq_false (by omega), Bool.or_false]]
    exact hP
  · rw [en_bool hs]
    congr 3
    exact congrArg Sum.inl (funext hv)
/-- an array of states, empty -/
theorem N_newq {G : mG} {M : mMt} {E : mE} {B : mB} {n : Nat} {φ : mF} {μ : mM} {pc : Nat} {lv : List (Nat × Value)} {st : List Value} (C : Cx G M E) {N idx : Nat} {x : Int32} (hd : decode M.2.1 pc = .ok (.anewarray idx, 3)) (hl1 : Cond.classLink M.1.cls idx "MixCover$State" ∈ BIG) (hs : sh n = (4, N)) (hn : ¬ x < 0) (hN : x.toNatClampNeg = N) (hb : N * 4 ≤ 536870912) (hv : ∀ j, φ n j = false) (hf : B.2.1 + 1 ≤ B.1.cells ∧ B.2.2.1 + N ≤ B.1.slots) (k : Nm G M E (bc B 1 N) (n + 1) φ μ (pc + 3) lv (.ref (gb G + n) :: st)) : Nm G M E B n φ μ pc lv (.int x :: st) := by
  subst hN
  intro H locs ls hz hP hS hl
  have hAO : va_AO "MixCover$State" E.2.2.2.1 := C.2.2.2.2.2.2.2.2.2.2.2.2.2.2.2.1
  refine W.anew (g := F0 E.2.2.2.2.1 pc ls (.int x :: st)) C.1 C.2.1 C.2.2.2.2.1 (C.2.2.2.2.2.1 _ hl1) (va_AO.use hAO) rfl hd rfl hn hb hf.1 hf.2 fun cA kA comp h1 h2 h3 h4 => ?_
  obtain ⟨kA', comp', -, -, -, hA⟩ := (C.2.2.2.2.2.2.2.2.1.2 3 _ rfl).2
  have hcA : cA = G.2.2.1.2.2.2 := Option.some.inj (h1.symm.trans hA)
  subst hcA
  generalize hH1 : H.push ({ cls := G.2.2.1.2.2.2, slots := Array.replicate x.toNatClampNeg .null, vm := .none } : Cell) = H1
  have z1 : H1.size = H.size + 1 := by rw [← hH1, Array.size_push]
  have e1 : H1[gb G + n]? = some (arrV G.2.2.1.2.2.2 x.toNatClampNeg (fun _ => .null)) := by rw [← hH1, ← hz, Array.getElem?_push_size, ← arrV_new]
  have o1 : ∀ q : Nat, q < H.size → H1[q]? = H[q]? := fun q hq => by rw [← hH1, Array.getElem?_push, if_neg (Nat.ne_of_lt hq)]
  have kk := k H1 locs ls (by omega) (va_Pk (e := .inl (G.2.2.1.2.2.2, x.toNatClampNeg, .inr (.inr (.inr (.inr (fun _ => none)))))) hP o1 (by rw [en_sta hs]; simp [hv]) e1) (va_Sk hS (by omega) o1) hl
  rw [hz]
  exact kk
/-! rows that set references -/
theorem N_putf {G : mG} {M : mMt} {E : mE} {B : mB} {n : Nat} {φ : mF} {μ : mM} {pc : Nat} {lv : List (Nat × Value)} {st : List Value} (C : Cx G M E) (hin : E.2.2.2.2.2.2.2.1.name = "<init>") {c ci j idx : Nat} {q : Nat × Nat} {x : Value} (hd : decode M.2.1 pc = .ok (.putfield idx, 3)) (hs : sh c = (0, ci)) (hcn : c < n) (F : Fld M.1.cls idx ci j) (hq : (fks ci)[j]? = some q) (hx : fv G f1 μ c j q = x) (hfin : ((clq ci).2.1 j).2.2.2 = true) (hdecl : ((clq ci).2.1 j).1 = M.1.cls) (hn : narrow (clTy ci j) x = x) (hfit : fits (clTy ci j) x = true) (k : Nm G M E B n (fs φ c j) μ (pc + 3) lv st) : Nm G M E B n φ μ pc lv (x :: .ref (gb G + c) :: st) := by
  intro H locs ls hz hP hS hl
  have hB := C.2.2.2.2.2.1
  have hK := C.2.2.2.2.2.2.2.2.1
  have hc := F.1.1
  have hap := va_apart (own := M.1.cls) (C := (clq ci).1) (T := (clq ci).2.1) (N := (clq ci).2.2) hB F.1.2.1 (clTy ci) F.1.2.2.1 F.1.2.2.2.1 hK hc
  have he : (wl G n φ μ)[c]? = some (gb G + c, .inr (ci, flds G φ μ c ci)) := (wl_get hcn).trans (by rw [en_obj hs])
  have hjl : j < (flds G φ μ c ci).length := by unfold flds; rw [List.length_mapIdx]; exact (List.getElem?_eq_some_iff.mp hq).1
  obtain ⟨r, h1, cell, q1, q2, q3, q4⟩ := hP c _ he
  have hr : r = clq ci := Option.some.inj (h1.symm.trans hc)
  subst hr
  obtain ⟨hSl, hfc, kC, hkC, hkind⟩ := hK.1 ci _ hc
  obtain ⟨cf, kf, fi, f, hi, hsl⟩ := hSl j F.2.1
  have hlay := hB _ (F.1.2.1 _ (u_in_lay F.2.1))
  unfold u_lay at hlay
  rw [if_pos hfin] at hlay
  have hst := (u_facts hfc hkC (u_lays hB F.1.2.1 F.2.1) hi).1
  have hcf : E.2.2.2.2.1.cls = cf := by
    obtain ⟨_, _, c', _, _, _, -, -, hf', -, -, -, hown2, -⟩ := Cond.laysFinal_spec hlay
    have e1 : c' = cf := by have := hi.symm.trans hf'; simp at this; exact this.1.symm
    rw [hdecl] at hown2
    rw [← e1]
    exact Option.some.inj (C.2.2.2.2.1.symm.trans hown2)
  have h6 := u_fits hfc hkC hkind (Or.inr hlay) hi (F.1.2.2.1 j F.2.1) hn hfit
  refine W.putFinK C.1 C.2.1 C.2.2.2.2.1 (hB _ F.2.2) hi hst hcf hin (by rw [q2]; exact h6) q1 q3 (by rw [hsl]; exact k2_hasslot (q4 j F.2.1)) rfl rfl hd fun H1 e1 e2 e3 => ?_
  rw [hsl] at e1 ⊢
  have hP1 := hP.set (e := .inr (ci, (flds G φ μ c ci).set j x)) (wl_D G n φ μ) he ⟨_, hc, t_OB.to (V := updV (vp_V (flds G φ μ c ci)) j x) ⟨_, e1, q2, q3, t_set q4 hap F.2.1 x⟩ (fun i _ => vp_updV_set hjl x i)⟩ e3
  rw [wl_set (φ' := fs φ c j) (μ' := μ) (by rw [en_obj hs, flds_fs hq, hx]) (fun c' h => en_ph fun j' => by simp [fs, h])] at hP1
  exact k H1 _ ls (e2.trans hz) hP1 (hS.put e2 e3 (Nat.le_add_right _ _)) hl
theorem N_putv {G : mG} {M : mMt} {E : mE} {B : mB} {n : Nat} {φ : mF} {μ : mM} {pc : Nat} {lv : List (Nat × Value)} {st : List Value} (C : Cx G M E) {c ci j idx : Nat} {q : Nat × Nat} {x : Value} (hd : decode M.2.1 pc = .ok (.putfield idx, 3)) (hs : sh c = (0, ci)) (hcn : c < n) (F : Fld M.1.cls idx ci j) (hq : (fks ci)[j]? = some q) (hx : fv G f1 μ c j q = x) (hfin : ((clq ci).2.1 j).2.2.2 = false) (hn : narrow (clTy ci j) x = x) (hfit : fits (clTy ci j) x = true) (k : Nm G M E B n (fs φ c j) μ (pc + 3) lv st) : Nm G M E B n φ μ pc lv (x :: .ref (gb G + c) :: st) := by
  intro H locs ls hz hP hS hl
  have hB := C.2.2.2.2.2.1
  have hK := C.2.2.2.2.2.2.2.2.1
  have hc := F.1.1
  have hap := va_apart (own := M.1.cls) (C := (clq ci).1) (T := (clq ci).2.1) (N := (clq ci).2.2) hB F.1.2.1 (clTy ci) F.1.2.2.1 F.1.2.2.2.1 hK hc
  have he : (wl G n φ μ)[c]? = some (gb G + c, .inr (ci, flds G φ μ c ci)) := (wl_get hcn).trans (by rw [en_obj hs])
  have hjl : j < (flds G φ μ c ci).length := by unfold flds; rw [List.length_mapIdx]; exact (List.getElem?_eq_some_iff.mp hq).1
  obtain ⟨r, h1, cell, q1, q2, q3, q4⟩ := hP c _ he
  have hr : r = clq ci := Option.some.inj (h1.symm.trans hc)
  subst hr
  obtain ⟨hSl, hfc, kC, hkC, hkind⟩ := hK.1 ci _ hc
  obtain ⟨cf, kf, fi, f, hi, hsl⟩ := hSl j F.2.1
  have hlay := hB _ (F.1.2.1 _ (u_in_lay F.2.1))
  unfold u_lay at hlay
  rw [if_neg (by rw [hfin]; decide)] at hlay
  have hst := (u_facts hfc hkC (u_lays hB F.1.2.1 F.2.1) hi).1
  have h6 := u_store hfc hkC hkind hlay hi (F.1.2.2.1 j F.2.1) hn hfit
  refine W.putK C.1 C.2.1 (f := f) ⟨C.2.2.2.2.1, hB _ F.2.2, ⟨_, _, _, hi⟩, hst⟩ (by rw [q2]; exact h6) q1 q3 (by rw [hsl]; exact k2_hasslot (q4 j F.2.1)) rfl rfl hd fun H1 e1 e2 e3 => ?_
  rw [hsl] at e1 ⊢
  have hP1 := hP.set (e := .inr (ci, (flds G φ μ c ci).set j x)) (wl_D G n φ μ) he ⟨_, hc, t_OB.to (V := updV (vp_V (flds G φ μ c ci)) j x) ⟨_, e1, q2, q3, t_set q4 hap F.2.1 x⟩ (fun i _ => vp_updV_set hjl x i)⟩ e3
  rw [wl_set (φ' := fs φ c j) (μ' := μ) (by rw [en_obj hs, flds_fs hq, hx]) (fun c' h => en_ph fun j' => by simp [fs, h])] at hP1
  exact k H1 _ ls (e2.trans hz) hP1 (hS.put e2 e3 (Nat.le_add_right _ _)) hl
theorem N_get {G : mG} {M : mMt} {E : mE} {B : mB} {n : Nat} {φ : mF} {μ : mM} {pc : Nat} {lv : List (Nat × Value)} {st : List Value} (C : Cx G M E) {c ci j idx d c2 : Nat} (hd : decode M.2.1 pc = .ok (.getfield idx, 3)) (hs : sh c = (0, ci)) (hcn : c < n) (F : Fld M.1.cls idx ci j) (hq : (fks ci)[j]? = some (1, d)) (hφ : φ c j = true) (hc2 : c + d = c2) (k : Nm G M E B n φ μ (pc + 3) lv (.ref (gb G + c2) :: st)) : Nm G M E B n φ μ pc lv (.ref (gb G + c) :: st) := by
  subst hc2
  have hv : fv G φ μ c j (1, d) = .ref (gb G + (c + d)) := by simp [fv, hφ]
  exact fun H locs ls hz hP hS hl => va_get (D := gD G) (cl := vwCl) (ci := ci) (v := .ref (gb G + (c + d))) (C := (clq ci).1) (T := (clq ci).2.1) (N := (clq ci).2.2) C.1 C.2.1 C.2.2.2.2.2.1 F.1.2.1 C.2.2.2.2.1 C.2.2.2.2.2.2.2.2.1 hP c ((wl_get hcn).trans (by rw [en_obj hs])) F.1.1 j F.2.1 (C.2.2.2.2.2.1 _ F.2.2) (fun _ h9 => h9) ((flds_at hq).trans (congrArg some hv)) hd (k H locs ls hz hP hS hl)
/-- a state into an array of states -/
theorem N_ast {G : mG} {M : mMt} {E : mE} {B : mB} {n : Nat} {φ : mF} {μ : mM} {pc : Nat} {lv : List (Nat × Value)} {st : List Value} (C : Cx G M E) {c N v : Nat} {i : Int32} (hd : decode M.2.1 pc = .ok (.aastore, 1)) (hs : sh c = (4, N)) (hcn : c < n) (hsv : sh v = (0, 7)) (hvn : v < n) (hin : vp_in i N) (hv : v = stO c + 8 * i.toNatClampNeg) (k : Nm G M E B n (fs φ c i.toNatClampNeg) μ (pc + 1) lv st) : Nm G M E B n φ μ pc lv (.ref (gb G + v) :: .int i :: .ref (gb G + c) :: st) := by
  intro H locs ls hz hP hS hl
  have hK := C.2.2.2.2.2.2.2.2.1
  have ha : (wl G n φ μ)[c]? = some (gb G + c, .inl (G.2.2.1.2.2.2, N, .inr (.inr (.inr (.inr (fun i => if φ c i then some (gb G + (stO c + 8 * i)) else none)))))) := (wl_get hcn).trans (by rw [en_sta hs])
  have he : (wl G n φ μ)[v]? = some (gb G + v, .inr (7, flds G φ μ v 7)) := (wl_get hvn).trans (by rw [en_obj hsv])
  have hlt : i.toNatClampNeg < N := Nat.not_le.mp fun q => hin (Or.inr q)
  have h0 : ¬ i < 0 := fun q => hin (Or.inl q)
  obtain ⟨r', hr', cellV, g1, g2, g3, -⟩ := hP v _ he
  have hcls := (hK.1 7 _ clok_7.1).2
  obtain ⟨kA, comp, k1, k2, k3, -⟩ := (hK.2 3 _ rfl).2
  have hcomp : comp = (gD G).1 7 := Option.some.inj (k3.symm.trans hcls.1)
  subst hcomp
  obtain ⟨kC, hkC, -⟩ := hcls.2
  refine W.aast C.1 C.2.1 (hP c _ ha) (fun q h => by cases h) (fun h => by cases h) k1 k2 rfl hkC ⟨h0, by show _ < (arrV _ _ _).slots.size; rw [arrV_size]; exact hlt⟩ g1 (fun q h => by rw [g3] at h; cases h) (by rw [g2]; exact hkC) (by rw [g2]; exact va_assign hcls) rfl rfl hd fun H1 e z oq => ?_
  have hP1 := hP.set (wl_D G n φ μ) ha (e := .inl (G.2.2.1.2.2.2, N, .inr (.inr (.inr (.inr (fun q => if fs φ c i.toNatClampNeg c q then some (gb G + (stO c + 8 * q)) else none)))))) ?_ oq
  · rw [wl_set (φ' := fs φ c i.toNatClampNeg) (μ' := μ) (by rw [en_sta hs]) (fun c' h => en_ph fun j' => by simp [fs, h])] at hP1
    exact k H1 _ ls (z.trans hz) hP1 (hS.put z oq (Nat.le_add_right _ _)) hl
  · show H1[gb G + c]? = some (vp_cell _ _)
    rw [e]
    rw [vp_cell_q, vp_cell_q, arrV_store]
    congr 2
    funext q
    by_cases hq : q = i.toNatClampNeg
    · subst hq
      simp [updV, va_rf, fs, hv]
    · simp [updV, va_rf, fs, hq]
/-- a byte into an array of bytes -/
theorem N_bast {G : mG} {M : mMt} {E : mE} {B : mB} {n : Nat} {φ : mF} {μ : mM} {pc : Nat} {lv : List (Nat × Value)} {st : List Value} (C : Cx G M E) {c N : Nat} {i x : Int32} (hd : decode M.2.1 pc = .ok (.bastore, 1)) (hs : sh c = (2, N)) (hcn : c < n) (hin : vp_in i N) (k : Nm G M E B n φ (ms μ c i.toNatClampNeg (vp_nar .byte x)) (pc + 1) lv st) : Nm G M E B n φ μ pc lv (.int x :: .int i :: .ref (gb G + c) :: st) := by
  intro H locs ls hz hP hS hl
  have hK := C.2.2.2.2.2.2.2.2.1
  have ha : (wl G n φ μ)[c]? = some (gb G + c, .inl (G.2.2.1.2.1, N, .inl (μ c))) := (wl_get hcn).trans (by rw [en_byte hs])
  refine W.bast C.1 C.2.1 (hP c _ ha) ((hK.2 1 _ rfl).1 N (fun j => .int (μ c j))) (fun q => by cases q) (by show ¬ (i < 0 ∨ (arrV _ _ _).slots.size ≤ _); rw [arrV_size]; exact hin) rfl rfl hd fun H1 e z oq => ?_
  have hP1 := hP.set (wl_D G n φ μ) ha (e := .inl (G.2.2.1.2.1, N, .inl (upd (μ c) i.toNatClampNeg (vp_nar .byte x)))) ?_ oq
  · rw [wl_set (φ' := φ) (μ' := ms μ c i.toNatClampNeg (vp_nar .byte x)) (by rw [en_byte hs, ms_row]) (fun c' h => en_row (ms_ne h))] at hP1
    exact k H1 _ ls (z.trans hz) hP1 (hS.put z oq (Nat.le_add_right _ _)) hl
  · show H1[gb G + c]? = some (vp_cell _ _)
    rw [e]
    rw [vp_cell_i, vp_cell_i, arrV_store]
    congr 2
    funext q
    by_cases hq : q = i.toNatClampNeg
    · subst hq
      simp [updV, upd, vp_nar]
      try rfl
    · simp [updV, upd, hq]
/-! calls of constructors -/
def rmn (d mc ms : Nat) : Room := { frames := d, cells := mc, slots := ms, locals := 48 * d }
def Qn (G : mG) (n : Nat) (φ : mF) (μ : mM) : Array Value → State → Outcome → State → Prop := fun _ st oc t => (oc = .returned none ∧ t.heap.size = gb G + n ∧ va_P (gD G) vwCl (wl G n φ μ) t.heap) ∧ va_F (gA G) st t
def CtN (G : mG) (M : mMt) (c n : Nat) (φ : mF) (μ : mM) (n' : Nat) (φ' : mF) (μ' : mM) (mc ms : Nat) : Prop :=
  ∀ l, Met l M.1 (wsm M) (rmn M.2.2.2.2 mc ms) (va_Pc [.ref (gb G + c)] (fun U => Ok G U U.heap ∧ U.heap.size = gb G + n ∧ va_P (gD G) vwCl (wl G n φ μ) U.heap)) (Qn G n' φ' μ') mc ms (gA G)
abbrev b0 (G : mG) (M : mMt) (E : mE) (n' : Nat) (φ' : mF) (μ' : mM) (mc ms : Nat) : mB := (rmn M.2.2.2.2 mc ms, 0, 0, MQ E.2.2.2.2.2.2.1 (Qn G n' φ' μ') E.2.2.2.2.2.1 E.2.2.2.1 mc ms (gA G))
theorem CtN.of {G : mG} {M : mMt} {c n : Nat} {φ : mF} {μ : mM} {n' : Nat} {φ' : mF} {μ' : mM} {mc ms : Nat} (hy : plainName M.1.cls = true) (hi : M.1.name = "<init>") (hn : 1 ≤ M.2.2.1) (k : ∀ E, Cx G M E → E.2.2.2.2.2.2.2.1.name = "<init>" → Nm G M E (b0 G M E n' φ' μ' mc ms) n φ μ 0 [(0, .ref (gb G + c))] []) : CtN G M c n φ μ n' φ' μ' mc ms := by
  intro l
  refine Met.ofW (cc := M.2.1) (maxL := M.2.2.1) (ret := M.2.2.2.1) hy rfl ?_
  intro p e s m args below meth c0 s₁ B hml hv
  obtain ⟨rfl, hok, hz, hP⟩ := hv
  have hts := atoms_spec (ws := wsm M) B.pre
  have hl := lv_entry [.ref (gb G + c)] (n := M.2.2.1) hn
  rw [lg_entry_eq]
  refine k (p, l, e, s, m, [Value.ref (gb G + c)].toArray, below, meth, c0) ⟨B.exec, B.bytes, B.returns, hml, findClass_of_methodNamed B.named, fun w hw => hts w (List.mem_cons_of_mem _ hw), B.notSynchronized, hok⟩ ((name_of_methodNamed B.named B.method).1.trans hi) s.heap [] _ hz hP va_S.rf hl
theorem N_ret {G : mG} {M : mMt} {E : mE} {n : Nat} {φ : mF} {μ : mM} {pc : Nat} {lv : List (Nat × Value)} (C : Cx G M E) {n' : Nat} {φ' : mF} {μ' : mM} {R : Room} {c1 s1 mc ms : Nat} (hd : decode M.2.1 pc = .ok (.return_, 1)) (hr : M.2.2.2.1 = none) (h1 : c1 ≤ mc) (h2 : s1 ≤ ms) (hn : n = n') (h : wl G n φ μ = wl G n' φ' μ') : Nm G M E (R, c1, s1, MQ E.2.2.2.2.2.2.1 (Qn G n' φ' μ') E.2.2.2.2.2.1 E.2.2.2.1 mc ms (gA G)) n φ μ pc lv [] := by
  intro H locs ls hz hP hS hl
  refine W.widen h1 h2 ?_
  exact W.vret C.1 C.2.1 (C.2.2.1.trans hr) (fun t ht _ => ⟨⟨rfl, by rw [ht, hz, hn], by rw [ht, ← h]; exact hP⟩, hS.F ht⟩) hS.2.2 hd C.2.2.2.2.2.2.1
theorem N_call {G : mG} {M : mMt} {E : mE} {B : mB} {n : Nat} {φ : mF} {μ : mM} {pc : Nat} {lv : List (Nat × Value)} {st : List Value} {rest : List Value} {n' : Nat} {φ' : mF} {μ' : mM} {mc ms : Nat} {a : Array Value}
    (hr : ∀ H locs ls, H.size = gb G + n → va_P (gD G) vwCl (wl G n φ μ) H → va_S (gA G) E.2.2.2.1.heap H locs → lv_has ls M.2.2.1 lv → va_Run E.1 E.2.1 E.2.2.1 B.1 E.2.2.2.1 E.2.2.2.2.1 E.2.2.2.2.2.1 E.2.2.2.2.2.2.1 E.2.2.2.2.2.2.2.1 E.2.2.2.2.2.2.2.2 H locs B.2.1 B.2.2.1 mc ms (F0 E.2.2.2.2.1 pc ls st) rest (Qn G n' φ' μ' a) (gA G))
    (k : Nm G M E (bc B mc ms) n' φ' μ' (pc + 3) lv rest) : Nm G M E B n φ μ pc lv st := by
  intro H locs ls hz hP hS hl T hT X
  obtain ⟨v, st₀, t, T', L, h0, X', hL, e1, e2, ⟨⟨hv, hz', hw⟩, hz2, hk⟩, stp⟩ := hr H locs ls hz hP hS hl T hT X
  cases hv
  rw [h0] at hz2 hk
  have hS' : va_S (gA G) E.2.2.2.1.heap T'.heap (locs ++ L) := ⟨Nat.le_trans hS.1 (by rw [e1]; exact hz2), fun q h1 h2 => by rw [e1, hk q (Nat.lt_of_lt_of_le h1 hS.1) h2]; exact hS.2.1 q h1 h2, fun q hq => by
      rcases List.mem_append.mp hq with h | h
      · exact hS.2.2 q h
      · exact hL q h⟩
  obtain ⟨t2, a1, b1⟩ := k T'.heap (locs ++ L) ls (by rw [e1]; exact hz') (by rw [e1]; exact hw) hS' hl T' rfl X'
  exact ⟨t2, stp t2 a1, b1⟩
theorem Qn_blind {G : mG} {n : Nat} {φ : mF} {μ : mM} {av : List Value} : FrameBlind (va_Pc av (fun U => Ok G U U.heap ∧ U.heap.size = gb G + n ∧ va_P (gD G) vwCl (wl G n φ μ) U.heap)) :=
  fun a U g mk h => ⟨h.1, h.2.1.same (U := U.calling g mk a) rfl, h.2.2⟩
theorem N_iniN {G : mG} {M : mMt} {E : mE} {B : mB} {n : Nat} {φ : mF} {μ : mM} {pc : Nat} {lv : List (Nat × Value)} {st : List Value} (C : Cx G M E) {M' : mMt} {c0 idx mc ms n' : Nat} {φ' : mF} {μ' : mM} {host : String} (hd : decode M.2.1 pc = .ok (.invokespecial idx, 3)) (hret : M'.2.2.2.1 = none) (hnm : M'.1.name = "<init>") (hcal : Cal M' 0 ∧ Cond.instanceMethod M'.1 ∈ BIG) (hlk : Cond.methodLinkNest M.1.cls idx M'.1 host ∈ nestW)
    (hR : M'.2.2.2.2 + 1 ≤ B.1.frames ∧ 8 + (M'.2.2.1 + 11) + 48 * M'.2.2.2.2 ≤ B.1.locals) (hf : B.2.1 + mc ≤ B.1.cells ∧ B.2.2.1 + ms ≤ B.1.slots) (hst : (st.map fun v => v.category).sum ≤ 8)
    (hc : CtN G M' c0 n φ μ n' φ' μ' mc ms) (k : Nm G M E (bc B mc ms) n' φ' μ' (pc + 3) lv st) : Nm G M E B n φ μ pc lv (.ref (gb G + c0) :: st) := by
  refine N_call (a := (Value.ref (gb G + c0) :: []).toArray) (fun H locs ls hz hP hS hl => ?_) k
  have hB := C.2.2.2.2.2.1
  obtain ⟨y, bytes, maxL, ret, d⟩ := M'
  obtain rfl : ret = none := hret
  refine va_runIN (As := []) (rest := st) (Ts := BIG) ⟨C.1, C.2.1, C.2.2.2.1, C.2.2.2.2.1, hB⟩ (hc E.2.1)
    ⟨va_cnB 0 hB (pay_big (M := M) hB hcal.1.1.2) rfl rfl rfl (C.2.2.2.2.2.2.2.2.2.1 _ hlk) (hB _ hcal.1.1.1) hcal.1.2 hR, hnm, hB _ hcal.2⟩ ⟨Qn_blind, fun U hU hW => ⟨rfl, ?_, ?_, ?_⟩⟩ rfl rfl hl.1 rfl (lv_room hst) hd hf
  · rw [hU]; exact C.2.2.2.2.2.2.2.next hW hS
  · rw [hU]; exact hz
  · rw [hU]; exact hP
theorem N_iniL {G : mG} {M : mMt} {E : mE} {B : mB} {n : Nat} {φ : mF} {μ : mM} {pc : Nat} {lv : List (Nat × Value)} {st : List Value} (C : Cx G M E) {M' : mMt} {c0 idx mc ms n' : Nat} {φ' : mF} {μ' : mM} (hd : decode M.2.1 pc = .ok (.invokespecial idx, 3)) (hret : M'.2.2.2.1 = none) (hnm : M'.1.name = "<init>") (hcal : Cal M' 0 ∧ Cond.instanceMethod M'.1 ∈ BIG) (hlk : Cond.methodLink M.1.cls idx M'.1 ∈ BIG)
    (hR : M'.2.2.2.2 + 1 ≤ B.1.frames ∧ 8 + (M'.2.2.1 + 11) + 48 * M'.2.2.2.2 ≤ B.1.locals) (hf : B.2.1 + mc ≤ B.1.cells ∧ B.2.2.1 + ms ≤ B.1.slots) (hst : (st.map fun v => v.category).sum ≤ 8)
    (hc : CtN G M' c0 n φ μ n' φ' μ' mc ms) (k : Nm G M E (bc B mc ms) n' φ' μ' (pc + 3) lv st) : Nm G M E B n φ μ pc lv (.ref (gb G + c0) :: st) := by
  refine N_call (a := (Value.ref (gb G + c0) :: []).toArray) (fun H locs ls hz hP hS hl => ?_) k
  have hB := C.2.2.2.2.2.1
  obtain ⟨y, bytes, maxL, ret, d⟩ := M'
  obtain rfl : ret = none := hret
  refine va_runI (As := []) (rest := st) (Ts := BIG) ⟨C.1, C.2.1, C.2.2.2.1, C.2.2.2.2.1, hB⟩ (hc E.2.1)
    (cwI 0 hB (pay_big (M := M) hB hcal.1.1.2) rfl rfl rfl (hB _ hcal.1.1.1) (hB _ hlk) (hB _ hcal.2) hnm hcal.1.2 hR) ⟨Qn_blind, fun U hU hW => ⟨rfl, ?_, ?_, ?_⟩⟩ rfl rfl hl.1 rfl (lv_room hst) hd hf
  · rw [hU]; exact C.2.2.2.2.2.2.2.next hW hS
  · rw [hU]; exact hz
  · rw [hU]; exact hP
/-- done: every cell's references are set -/
theorem wl_done {G : mG} {φ φ' : mF} {μ : mM} {c n ci : Nat} (L : List Nat) (hs : sh c = (0, ci)) (h1 : ∀ c', c' < n → c' ≠ c → ∀ j, φ c' j = φ' c' j) (h2 : ∀ j ∈ L, φ c j = true ∧ φ' c j = true) (h3 : ∀ j q, (fks ci)[j]? = some q → q.1 ≠ 0 → j ∈ L) : wl G n φ μ = wl G n φ' μ := by
  refine wl_cg fun c' hc' => ?_
  by_cases z : c' = c
  · subst z
    refine en_ob hs fun j q hq hne => ?_
    obtain ⟨e1, e2⟩ := h2 j (h3 j q hq hne)
    rw [e1, e2]
  · exact en_ph (h1 c' hc' z)

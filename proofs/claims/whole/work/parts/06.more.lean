/-! arraycopy in short; the strings' rows; plain names -/
def cpy (μ : mM) (c0 c1 : Nat) (sp dp n : Int32) : mM := fun c' => if c' = c1 then va_cpy (μ c0) (μ c1) sp.toNatClampNeg dp.toNatClampNeg n.toNatClampNeg else μ c'
def cpyOk (sp dp n : Int32) (n0 n1 : Nat) : Prop := ¬ sp < 0 ∧ ¬ dp < 0 ∧ ¬ n < 0 ∧ sp.toNatClampNeg + n.toNatClampNeg ≤ n0 ∧ dp.toNatClampNeg + n.toNatClampNeg ≤ n1
theorem L_cpy {G : mG} {M : mMt} {E : mE} {B : mB} {μ : mM} {pc : Nat} {lv : List (Nat × Value)} {st : List Value} (C : Cx G M E) {c0 c1 n0 n1 idx : Nat} {sp dp n : Int32} (hd : decode M.2.1 pc = .ok (.invokestatic idx, 3)) (hs0 : sh c0 = (1, n0)) (hs1 : sh c1 = (1, n1)) (hlink : Cond.methodLink M.1.cls idx arraycopyName ∈ BIG) (hnat : Cond.native arraycopyName ∈ BIG) (hstat : Cond.static arraycopyName ∈ BIG) (hini : Cond.initialized "java/lang/System" ∈ BIG)
    (hf : 1 ≤ B.1.frames) (hlo : 40 ≤ B.1.locals) (hst : (st.map fun v => v.category).sum ≤ 8) (h : cpyOk sp dp n n0 n1) (k : Wm G M E B (cpy μ c0 c1 sp dp n) (pc + 3) lv st) : Wm G M E B μ pc lv (.int n :: .int dp :: .ref (gb G + c1) :: .int sp :: .ref (gb G + c0) :: st) :=
  L_copyi C hd hs0 hs1 hlink hnat hstat hini hf hlo hst h.1 h.2.1 h.2.2.1 h.2.2.2.1 h.2.2.2.2 k
def sch (i k : Nat) : Int32 := (sByt.getD i []).getD k 0
theorem pn_X0 : plainName RX0 = true := by decide +kernel
theorem pn_X1 : plainName RX1 = true := by decide +kernel
theorem pn_X2 : plainName RX2 = true := by decide +kernel
theorem pn_X3 : plainName RX3 = true := by decide +kernel
theorem pn_X4 : plainName RX4 = true := by decide +kernel
theorem pn_X5 : plainName RX5 = true := by decide +kernel
theorem pn_X6 : plainName RX6 = true := by decide +kernel
theorem pn_X7 : plainName RX7 = true := by decide +kernel
theorem pn_X8 : plainName RX8 = true := by decide +kernel
theorem pn_X9 : plainName RX9 = true := by decide +kernel
theorem pn_X10 : plainName RX10 = true := by decide +kernel
theorem pn_X11 : plainName RX11 = true := by decide +kernel
theorem pn_X12 : plainName RX12 = true := by decide +kernel
theorem pn_J0 : plainName RJ0 = true := by decide +kernel
theorem pn_J1 : plainName RJ1 = true := by decide +kernel
theorem pn_J3 : plainName RJ3 = true := by decide +kernel
theorem pn_J6 : plainName RJ6 = true := by decide +kernel
theorem Cx.strs {G : mG} {M : mMt} {E : mE} (C : Cx G M E) : vk_S 3 sLen sByt G.2.2.2.2.1 G.2.2.2.2.2 (gA G) E.2.2.2.1 E.2.2.2.1.heap := C.2.2.2.2.2.2.2.2.2.2.2.2.1
theorem Cx.lits {G : mG} {M : mMt} {E : mE} (C : Cx G M E) : ∀ i, i < 3 → vk_R "MixCover$PlanReader" (sIdx.getD i 0) (sTxt.getD i "") (G.2.2.2.2.1 i) E.2.2.2.1 := C.2.2.2.2.2.2.2.2.2.2.2.2.2.1
theorem Cx.comp {G : mG} {M : mMt} {E : mE} (C : Cx G M E) : va_Z "java/lang/String" "COMPACT_STRINGS" "Z" (.int 1) (gA G) E.2.2.2.1 E.2.2.2.1.heap := C.2.2.2.2.2.2.2.2.2.2.2.2.2.2.1
theorem Cx.form {G : mG} {M : mMt} {E : mE} (C : Cx G M E) : va_Zq "jdk/internal/util/Preconditions" "SIOOBE_FORMATTER" "Ljava/util/function/BiFunction;" (gA G) E.2.2.2.1 E.2.2.2.1.heap := C.2.2.2.2.2.2.2.2.2.2.2.2.2.2.2.2
theorem L_ldcS {G : mG} {M : mMt} {E : mE} {B : mB} {μ : mM} {pc : Nat} {lv : List (Nat × Value)} {st : List Value} (C : Cx G M E) {idx i : Nat} (hd : decode M.2.1 pc = .ok (.ldc idx, 2)) (ho : M.1.cls = "MixCover$PlanReader") (hi : sIdx[i]? = some idx) (k : Wm G M E B μ (pc + 2) lv (.ref (G.2.2.2.2.1 i) :: st)) : Wm G M E B μ pc lv st := by
  have h3 : i < 3 := (List.getElem?_eq_some_iff.mp hi).1
  have e : sIdx.getD i 0 = idx := by rw [List.getD_eq_getElem?_getD, hi]; rfl
  have hz := C.lits i h3
  rw [e] at hz
  exact fun H locs ls hP hS hl => va_ldcS C.1 C.2.1 (by rw [← ho]; exact C.2.2.2.2.1) hz hd (k H locs ls hP hS hl)
/-- a string's fields -/
theorem L_strV {G : mG} {M : mMt} {E : mE} {B : mB} {μ : mM} {pc : Nat} {lv : List (Nat × Value)} {st : List Value} (C : Cx G M E) {i idx : Nat} (hd : decode M.2.1 pc = .ok (.getfield idx, 3)) (hi : i < 3) (hk : Cond.fieldLink M.1.cls idx "java/lang/String" "value" "[B" ∈ BIG) (k : Wm G M E B μ (pc + 3) lv (.ref (G.2.2.2.2.2 i) :: st)) : Wm G M E B μ pc lv (.ref (G.2.2.2.2.1 i) :: st) :=
  fun H locs ls hP hS hl => vk_getf C.1 C.2.1 (C.strs.1 i hi).2.2.1 hS C.2.2.2.2.1 (C.2.2.2.2.2.1 _ hk) (fun _ h => h) hd (k H locs ls hP hS hl)
theorem L_strC {G : mG} {M : mMt} {E : mE} {B : mB} {μ : mM} {pc : Nat} {lv : List (Nat × Value)} {st : List Value} (C : Cx G M E) {i idx : Nat} (hd : decode M.2.1 pc = .ok (.getfield idx, 3)) (hi : i < 3) (hk : Cond.fieldLink M.1.cls idx "java/lang/String" "coder" "B" ∈ BIG) (k : Wm G M E B μ (pc + 3) lv (.int 0 :: st)) : Wm G M E B μ pc lv (.ref (G.2.2.2.2.1 i) :: st) :=
  fun H locs ls hP hS hl => vk_getf C.1 C.2.1 (C.strs.1 i hi).2.1 hS C.2.2.2.2.1 (C.2.2.2.2.2.1 _ hk) (fun _ h => h) hd (k H locs ls hP hS hl)
theorem L_gC {G : mG} {M : mMt} {E : mE} {B : mB} {μ : mM} {pc : Nat} {lv : List (Nat × Value)} {st : List Value} (C : Cx G M E) {idx : Nat} (hd : decode M.2.1 pc = .ok (.getstatic idx, 3)) (hc : Cond.fieldLink M.1.cls idx "java/lang/String" "COMPACT_STRINGS" "Z" ∈ BIG) (k : Wm G M E B μ (pc + 3) lv (.int 1 :: st)) : Wm G M E B μ pc lv st :=
  fun H locs ls hP hS hl => va_gets C.1 C.2.1 C.comp hS C.2.2.2.2.1 (C.2.2.2.2.2.1 _ hc) (fun _ h => h) hd (k H locs ls hP hS hl)
theorem L_gF {G : mG} {M : mMt} {E : mE} {B : mB} {μ : mM} {pc : Nat} {lv : List (Nat × Value)} {st : List Value} (C : Cx G M E) {idx : Nat} (hd : decode M.2.1 pc = .ok (.getstatic idx, 3)) (hc : Cond.fieldLink M.1.cls idx "jdk/internal/util/Preconditions" "SIOOBE_FORMATTER" "Ljava/util/function/BiFunction;" ∈ BIG) (k : ∀ v : Value, v.category = 1 → Wm G M E B μ (pc + 3) lv (v :: st)) : Wm G M E B μ pc lv st :=
  fun H locs ls hP hS hl => C.form.elim (fun z => va_gets C.1 C.2.1 z hS C.2.2.2.2.1 (C.2.2.2.2.2.1 _ hc) (fun _ h => h) hd (k _ rfl H locs ls hP hS hl)) (fun ⟨t, z⟩ => va_gets C.1 C.2.1 z hS C.2.2.2.2.1 (C.2.2.2.2.2.1 _ hc) (fun _ h => h) hd (k _ rfl H locs ls hP hS hl))
theorem L_strL {G : mG} {M : mMt} {E : mE} {B : mB} {μ : mM} {pc : Nat} {lv : List (Nat × Value)} {st : List Value} (C : Cx G M E) {i : Nat} (hd : decode M.2.1 pc = .ok (.arraylength, 1)) (hi : i < 3) (k : Wm G M E B μ (pc + 1) lv (.int (nI (sLen.getD i 0)) :: st)) : Wm G M E B μ pc lv (.ref (G.2.2.2.2.2 i) :: st) :=
  fun H locs ls hP hS hl => va_tlen C.1 C.2.1 (C.strs.1 i hi).2.2.2 hS rfl hd (k H locs ls hP hS hl)
theorem L_strB {G : mG} {M : mMt} {E : mE} {B : mB} {μ : mM} {pc : Nat} {lv : List (Nat × Value)} {st : List Value} (C : Cx G M E) {i : Nat} {x : Int32} (hd : decode M.2.1 pc = .ok (.baload, 1)) (hi : i < 3) (hin : vp_in x (sLen.getD i 0)) (k : Wm G M E B μ (pc + 1) lv (.int (sch i x.toNatClampNeg) :: st)) : Wm G M E B μ pc lv (.int x :: .ref (G.2.2.2.2.2 i) :: st) :=
  fun H locs ls hP hS hl => va_tb C.1 C.2.1 (C.strs.1 i hi).2.2.2 hS hin rfl hd (k H locs ls hP hS hl)
theorem L_i2c {G : mG} {M : mMt} {E : mE} {B : mB} {μ : mM} {pc : Nat} {lv : List (Nat × Value)} {st : List Value} (C : Cx G M E) {x : Int32} (hd : decode M.2.1 pc = .ok (.i2c, 1)) (k : Wm G M E B μ (pc + 1) lv (.int (x.toUInt32 % 65536).toInt32 :: st)) : Wm G M E B μ pc lv (.int x :: st) :=
  fun H locs ls hP hS hl => lv_i2c C.1 C.2.1 hd rfl (k H locs ls hP hS hl)
theorem L_cret {G : mG} {M : mMt} {E : mE} {Q : Int32 → mM → Prop} {μ : mM} {pc : Nat} {lv : List (Nat × Value)} (C : Cx G M E) {v : Int32} {ty : FieldType} (hd : decode M.2.1 pc = .ok (.ireturn, 1)) (hr : M.2.2.2.1 = some ty) (hv : narrow ty (.int v) = .int v) (k : Q v μ) : Wm G M E (bm G M E (pI Q)) μ pc lv [.int v] :=
  fun H locs ls hP hS hl => W.zret (v := v) C.1 C.2.1 (C.2.2.1.trans hr) hv (fun t ht _ => W_post (P := pI Q) hP hS ⟨v, rfl, k⟩ ht) hS.2.2 hd C.2.2.2.2.2.2.1
theorem L_invStr {G : mG} {M : mMt} {E : mE} {B : mB} {μ : mM} {pc : Nat} {lv : List (Nat × Value)} {st : List Value} (C : Cx G M E) {M' : mMt} {i n idx : Nat} {As : List Value} {P : mP} (hd : decode M.2.1 pc = .ok (.invokevirtual idx, 3)) (hi : i < 3) (hcal : (Cal M' n ∧ Cond.instanceMethod M'.1 ∈ BIG) ∧ Cond.selects M'.1.cls M'.1 M'.1 ∈ BIG) (hcls : M'.1.cls = "java/lang/String") (hlk : Cond.methodLink M.1.cls idx M'.1 ∈ BIG) (hn : As.length = n)
    (hR : M'.2.2.2.2 + 1 ≤ B.1.frames ∧ 8 + (M'.2.2.1 + 11) + 48 * M'.2.2.2.2 ≤ B.1.locals) (hf : B.2.1 ≤ B.1.cells ∧ B.2.2.1 ≤ B.1.slots) (hst : (st.map fun v => v.category).sum ≤ 8)
    (hc : Ct G M' (.ref (G.2.2.2.2.1 i) :: As) μ P) (k : ∀ v μ', P v μ' → Wm G M E B μ' (pc + 3) lv (v.toList ++ st)) : Wm G M E B μ pc lv (As.reverse ++ .ref (G.2.2.2.2.1 i) :: st) := by
  refine W_call (a := (Value.ref (G.2.2.2.2.1 i) :: As).toArray) C (fun H locs ls hP hS hl => ?_) k
  have hB := C.2.2.2.2.2.1
  refine va_runV (As := As) (rest := st) (Ts := BIG) ⟨C.1, C.2.1, C.2.2.2.1, C.2.2.2.2.1, hB⟩ (hc E.2.1)
    (cwV (C := M'.1.cls) n hB (fun w hw => ?_) rfl rfl rfl ⟨rfl, hcal.1.1.2⟩ hR) ⟨Qm_blind, ?_, fun U hU hW => ⟨rfl, ?_, ?_⟩⟩ rfl hn hl.1 rfl (lv_room hst) hd hf
  · simp only [wsV, List.mem_append, List.mem_cons, List.not_mem_nil, or_false] at hw
    rcases hw with (rfl | rfl | rfl | rfl) | hw
    · exact ⟨hlk, good_of_word (big_good hlk)⟩
    · exact ⟨hcal.1.2, good_of_word (big_good hcal.1.2)⟩
    · exact ⟨hcal.2, good_of_word (big_good hcal.2)⟩
    · exact ⟨hcal.1.1.1.1, good_of_word (big_good hcal.1.1.1.1)⟩
    · exact pay_big (M := M) hB hcal.1.1.1.2 w hw
  · rw [hcls]
    exact vk_recv C.strs hi hS
  · rw [hU]; exact C.2.2.2.2.2.2.2.next hW hS
  · rw [hU]; exact hP
theorem L_invStrI {G : mG} {M : mMt} {E : mE} {B : mB} {μ : mM} {pc : Nat} {lv : List (Nat × Value)} {st : List Value} (C : Cx G M E) {M' : mMt} {i n idx : Nat} (As : List Value) (hd : decode M.2.1 pc = .ok (.invokevirtual idx, 3)) (hi : i < 3) (hcal : (Cal M' n ∧ Cond.instanceMethod M'.1 ∈ BIG) ∧ Cond.selects M'.1.cls M'.1 M'.1 ∈ BIG) (hcls : M'.1.cls = "java/lang/String") (hlk : Cond.methodLink M.1.cls idx M'.1 ∈ BIG) (hn : As.length = n)
    (hR : M'.2.2.2.2 + 1 ≤ B.1.frames ∧ 8 + (M'.2.2.1 + 11) + 48 * M'.2.2.2.2 ≤ B.1.locals) (hf : B.2.1 ≤ B.1.cells ∧ B.2.2.1 ≤ B.1.slots) (hst : (st.map fun v => v.category).sum ≤ 8)
    (hc : CtI G M' (.ref (G.2.2.2.2.1 i) :: As) μ (fun r μ' => Wm G M E B μ' (pc + 3) lv (.int r :: st))) : Wm G M E B μ pc lv (As.reverse ++ .ref (G.2.2.2.2.1 i) :: st) :=
  L_invStr (As := As) C hd hi hcal hcls hlk hn hR hf hst hc (fun v μ' h => by obtain ⟨r, rfl, h⟩ := h; exact h)
theorem s_coder {G : mG} {Q : Int32 → mM → Prop} {μ : mM} {i : Nat} (hi : i < 3) (k : Q 0 μ) : CtI G mJ0_coder_7d493 [.ref (G.2.2.2.2.1 i)] μ Q := by
  refine CtI.of pn_J0 (Nat.le_of_ble_eq_true rfl) fun E C => ?_
  refine L_gC C dJ0_coder_7d493_0 fw_J0_38 ?_
  refine L_if_eq C (tgt := 13) dJ0_coder_7d493_3 rfl (fun p => absurd p (by decide)) (fun p => ?_)
  refine L_aload_n C (i := 0) dJ0_coder_7d493_6 rfl rfl ?_
  refine L_strC C dJ0_coder_7d493_7 hi fw_J0_15 ?_
  refine L_goto C (tgt := 14) dJ0_coder_7d493_10 rfl ?_
  exact L_cret C dJ0_coder_7d493_14 rfl rfl k
theorem s_latin {G : mG} {Q : Int32 → mM → Prop} {μ : mM} {i : Nat} (hi : i < 3) (k : Q 1 μ) : CtI G mJ0_isLatin1_aae02 [.ref (G.2.2.2.2.1 i)] μ Q := by
  refine CtI.of pn_J0 (Nat.le_of_ble_eq_true rfl) fun E C => ?_
  refine L_gC C dJ0_isLatin1_aae02_0 fw_J0_38 ?_
  refine L_if_eq C (tgt := 17) dJ0_isLatin1_aae02_3 rfl (fun p => absurd p (by decide)) (fun p => ?_)
  refine L_aload_n C (i := 0) dJ0_isLatin1_aae02_6 rfl rfl ?_
  refine L_strC C dJ0_isLatin1_aae02_7 hi fw_J0_15 ?_
  refine L_if_ne C (tgt := 17) dJ0_isLatin1_aae02_10 rfl (fun p => absurd rfl p) (fun p => ?_)
  refine L_iconst C (v := 1) dJ0_isLatin1_aae02_13 rfl ?_
  refine L_goto C (tgt := 18) dJ0_isLatin1_aae02_14 rfl ?_
  exact L_cret C dJ0_isLatin1_aae02_18 rfl rfl k
theorem s_length {G : mG} {Q : Int32 → mM → Prop} {μ : mM} {i : Nat} (hi : i < 3) (k : Q (nI (sLen.getD i 0)) μ) : CtI G mJ0_length_8abf5 [.ref (G.2.2.2.2.1 i)] μ Q := by
  refine CtI.of pn_J0 (Nat.le_of_ble_eq_true rfl) fun E C => ?_
  refine L_aload_n C (i := 0) dJ0_length_8abf5_0 rfl rfl ?_
  refine L_strV C dJ0_length_8abf5_1 hi fw_J0_9 ?_
  refine L_strL C dJ0_length_8abf5_4 hi ?_
  refine L_aload_n C (i := 0) dJ0_length_8abf5_5 rfl rfl ?_
  refine L_invStrI C [] dJ0_length_8abf5_6 hi cal1_J0_coder_7d493 rfl lk_J0_335 rfl ⟨Nat.le_of_ble_eq_true rfl, Nat.le_of_ble_eq_true rfl⟩ ⟨Nat.le_of_ble_eq_true rfl, Nat.le_of_ble_eq_true rfl⟩ (Nat.le_of_ble_eq_true rfl) (s_coder hi ?_)
  refine L_ishr C dJ0_length_8abf5_9 ?_
  refine L_irI C dJ0_length_8abf5_10 rfl ?_
  rw [sc_shr0 (by match i, hi with | 0, _ => decide | 1, _ => decide | 2, _ => decide)]
  exact k
theorem s_pchk {G : mG} {Q : Int32 → mM → Prop} {μ : mM} {x y : Int32} {v : Value} (hv : v.category = 1) (h1 : ¬ x < 0) (h2 : ¬ y ≤ x) (k : Q x μ) : CtI G mJ3_checkIndex_8e157 [.int x, .int y, v] μ Q := by
  refine CtI.of pn_J3 (by cases v <;> first | exact Nat.le_of_ble_eq_true rfl | (exact absurd (show (2 : Nat) = 1 from hv) (by decide))) fun E C => ?_
  refine L_iload_n C (i := 0) dJ3_checkIndex_8e157_0 rfl rfl ?_
  refine L_if_lt C (tgt := 9) dJ3_checkIndex_8e157_1 rfl (fun p => absurd p h1) (fun p => ?_)
  refine L_iload_n C (i := 0) dJ3_checkIndex_8e157_4 rfl rfl ?_
  refine L_iload_n C (i := 1) dJ3_checkIndex_8e157_5 rfl rfl ?_
  refine L_icmp_lt C (tgt := 16) dJ3_checkIndex_8e157_6 rfl (fun p => ?_) (fun p => absurd (Int32.not_le.mp h2) p)
  refine L_iload_n C (i := 0) dJ3_checkIndex_8e157_16 rfl rfl ?_
  exact L_irI C dJ3_checkIndex_8e157_17 rfl k
theorem s_schk {G : mG} {Q : mM → Prop} {μ : mM} {x y : Int32} (h1 : ¬ x < 0) (h2 : ¬ y ≤ x) (k : Q μ) : CtV G mJ0_checkIndex_df160 [.int x, .int y] μ Q := by
  refine CtV.of pn_J0 (Nat.le_of_ble_eq_true rfl) fun E C => ?_
  refine L_iload_n C (i := 0) dJ0_checkIndex_df160_0 rfl rfl ?_
  refine L_iload_n C (i := 1) dJ0_checkIndex_df160_1 rfl rfl ?_
  refine L_gF C dJ0_checkIndex_df160_2 fw_J0_1053 fun v hv => ?_
  refine L_invS3i C dJ0_checkIndex_df160_5 cal_J3_checkIndex_8e157 stc_J3_checkIndex_8e157 lk_J0_1059 ⟨Nat.le_of_ble_eq_true rfl, Nat.le_of_ble_eq_true rfl⟩ ⟨Nat.le_of_ble_eq_true rfl, Nat.le_of_ble_eq_true rfl⟩ (Nat.le_of_ble_eq_true rfl) (s_pchk hv h1 h2 ?_)
  refine L_pop C dJ0_checkIndex_df160_8 rfl ?_
  exact L_irV C dJ0_checkIndex_df160_9 rfl k
theorem sch_all : ∀ i, i < 3 → (sLen.getD i 0 < 100 ∧ ∀ k, k < sLen.getD i 0 → ((sch i k &&& 255).toUInt32 % 65536).toInt32 = sch i k ∧ narrow .char (.int (sch i k)) = .int (sch i k)) := by decide +kernel
theorem s_l1char {G : mG} {Q : Int32 → mM → Prop} {μ : mM} {i : Nat} {x : Int32} (hi : i < 3) (hx : vp_in x (sLen.getD i 0)) (k : Q (sch i x.toNatClampNeg) μ) : CtI G mJ1_charAt_3b067 [.ref (G.2.2.2.2.2 i), .int x] μ Q := by
  have hlt := vp_lt hx
  obtain ⟨ha, hb⟩ := sch_all i hi
  obtain ⟨j, hj, rfl⟩ := vp_in_of hx (by omega)
  refine CtI.of pn_J1 (Nat.le_of_ble_eq_true rfl) fun E C => ?_
  refine L_iload_n C (i := 1) dJ1_charAt_3b067_0 rfl rfl ?_
  refine L_aload_n C (i := 0) dJ1_charAt_3b067_1 rfl rfl ?_
  refine L_strL C dJ1_charAt_3b067_2 hi ?_
  refine L_invS2v C dJ1_charAt_3b067_3 cal_J0_checkIndex_df160 stc_J0_checkIndex_df160 lk_J1_9 ⟨Nat.le_of_ble_eq_true rfl, Nat.le_of_ble_eq_true rfl⟩ ⟨Nat.le_of_ble_eq_true rfl, Nat.le_of_ble_eq_true rfl⟩ (Nat.le_of_ble_eq_true rfl) (s_schk (nI_pos (by omega)) (nI_ge hj (by omega)) ?_)
  refine L_aload_n C (i := 0) dJ1_charAt_3b067_6 rfl rfl ?_
  refine L_iload_n C (i := 1) dJ1_charAt_3b067_7 rfl rfl ?_
  refine L_strB C dJ1_charAt_3b067_8 hi hx ?_
  refine L_sipush C (v := 255) dJ1_charAt_3b067_9 rfl ?_
  refine L_iand C dJ1_charAt_3b067_12 ?_
  refine L_i2c C dJ1_charAt_3b067_13 ?_
  obtain ⟨h1, h2⟩ := hb _ hlt
  rw [h1]
  exact L_cret C dJ1_charAt_3b067_14 rfl h2 k
theorem s_charAt {G : mG} {Q : Int32 → mM → Prop} {μ : mM} {i : Nat} {x : Int32} (hi : i < 3) (hx : vp_in x (sLen.getD i 0)) (k : Q (sch i x.toNatClampNeg) μ) : CtI G mJ0_charAt_5068e [.ref (G.2.2.2.2.1 i), .int x] μ Q := by
  refine CtI.of pn_J0 (Nat.le_of_ble_eq_true rfl) fun E C => ?_
  refine L_aload_n C (i := 0) dJ0_charAt_5068e_0 rfl rfl ?_
  refine L_invStrI C [] dJ0_charAt_5068e_1 hi cal1_J0_isLatin1_aae02 rfl lk_J0_492 rfl ⟨Nat.le_of_ble_eq_true rfl, Nat.le_of_ble_eq_true rfl⟩ ⟨Nat.le_of_ble_eq_true rfl, Nat.le_of_ble_eq_true rfl⟩ (Nat.le_of_ble_eq_true rfl) (s_latin hi ?_)
  refine L_if_eq C (tgt := 16) dJ0_charAt_5068e_4 rfl (fun p => absurd p (by decide)) (fun p => ?_)
  refine L_aload_n C (i := 0) dJ0_charAt_5068e_7 rfl rfl ?_
  refine L_strV C dJ0_charAt_5068e_8 hi fw_J0_9 ?_
  refine L_iload_n C (i := 1) dJ0_charAt_5068e_11 rfl rfl ?_
  refine L_invS2i C dJ0_charAt_5068e_12 cal_J1_charAt_3b067 stc_J1_charAt_3b067 lk_J0_495 ⟨Nat.le_of_ble_eq_true rfl, Nat.le_of_ble_eq_true rfl⟩ ⟨Nat.le_of_ble_eq_true rfl, Nat.le_of_ble_eq_true rfl⟩ (Nat.le_of_ble_eq_true rfl) (s_l1char hi hx ?_)
  exact L_cret C dJ0_charAt_5068e_15 rfl ((sch_all i hi).2 _ (vp_lt hx)).2 k
theorem L_strlen {G : mG} {M : mMt} {E : mE} {B : mB} {μ : mM} {pc : Nat} {lv : List (Nat × Value)} {st : List Value} (C : Cx G M E) {idx i : Nat} (hd : decode M.2.1 pc = .ok (.invokevirtual idx, 3)) (hlk : Cond.methodLink M.1.cls idx yJ0_length_8abf5 ∈ BIG) (hf : 5 ≤ B.1.frames) (hlo : 240 ≤ B.1.locals) (hc : B.2.1 ≤ B.1.cells ∧ B.2.2.1 ≤ B.1.slots) (hst : (st.map fun v => v.category).sum ≤ 8) (hi : i < 3) (k : Wm G M E B μ (pc + 3) lv (.int (nI (sLen.getD i 0)) :: st)) : Wm G M E B μ pc lv (.ref (G.2.2.2.2.1 i) :: st) :=
  L_invStrI C [] hd hi cal1_J0_length_8abf5 rfl hlk rfl ⟨Nat.le_trans (Nat.le_of_ble_eq_true rfl) hf, Nat.le_trans (Nat.le_of_ble_eq_true rfl) hlo⟩ hc hst (s_length hi k)
theorem L_strch {G : mG} {M : mMt} {E : mE} {B : mB} {μ : mM} {pc : Nat} {lv : List (Nat × Value)} {st : List Value} (C : Cx G M E) {idx i : Nat} {x : Int32} (hd : decode M.2.1 pc = .ok (.invokevirtual idx, 3)) (hlk : Cond.methodLink M.1.cls idx yJ0_charAt_5068e ∈ BIG) (hf : 5 ≤ B.1.frames) (hlo : 240 ≤ B.1.locals) (hc : B.2.1 ≤ B.1.cells ∧ B.2.2.1 ≤ B.1.slots) (hst : (st.map fun v => v.category).sum ≤ 8) (hi : i < 3) (hx : vp_in x (sLen.getD i 0)) (k : Wm G M E B μ (pc + 3) lv (.int (sch i x.toNatClampNeg) :: st)) : Wm G M E B μ pc lv (.int x :: .ref (G.2.2.2.2.1 i) :: st) :=
  L_invStrI C [.int x] hd hi cal1_J0_charAt_5068e rfl hlk rfl ⟨Nat.le_trans (Nat.le_of_ble_eq_true rfl) hf, Nat.le_trans (Nat.le_of_ble_eq_true rfl) hlo⟩ hc hst (s_charAt hi hx k)
/-- roads that come together with one value that differs -/
theorem phi (P D : Int32 → Prop) {goal : Prop} (h1 : (∀ v, D v → P v) → goal) (h2 : ∀ v, D v → P v) : goal := h1 h2
theorem phi0 (P : Prop) {goal : Prop} (h1 : P → goal) (h2 : P) : goal := h1 h2

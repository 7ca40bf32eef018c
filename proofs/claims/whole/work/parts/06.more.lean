/-! arraycopy in short; the strings' rows; plain names -/
def cpy (μ : mM) (c0 c1 : Nat) (sp dp n : Int32) : mM := fun c' => if c' = c1 then va_cpy (μ c0) (μ c1) sp.toNatClampNeg dp.toNatClampNeg n.toNatClampNeg else μ c'
def cpyOk (sp dp n : Int32) (n0 n1 : Nat) : Prop := ¬ sp < 0 ∧ ¬ dp < 0 ∧ ¬ n < 0 ∧ sp.toNatClampNeg + n.toNatClampNeg ≤ n0 ∧ dp.toNatClampNeg + n.toNatClampNeg ≤ n1
theorem L_cpy {G : mG} {M : mMt} {E : mE} {B : mB} {μ : mM} {pc : Nat} {lv : List (Nat × Value)} {st : List Value} (C : Cx G M E) {c0 c1 n0 n1 idx : Nat} {sp dp n : Int32} (hd : decode M.2.1 pc = .ok (.invokestatic idx, 3)) (hs0 : sh c0 = (1, n0)) (hs1 : sh c1 = (1, n1)) (hlink : Cond.methodLink M.1.cls idx arraycopyName ∈ BIG) (hnat : Cond.native arraycopyName ∈ BIG) (hstat : Cond.static arraycopyName ∈ BIG) (hini : Cond.initialized "java/lang/System" ∈ BIG)
    (hf : 1 ≤ B.1.frames) (hlo : 40 ≤ B.1.locals) (hst : (st.map fun v => v.category).sum ≤ 8) (h : cpyOk sp dp n n0 n1) (k : Wm G M E B (cpy μ c0 c1 sp dp n) (pc + 3) lv st) : Wm G M E B μ pc lv (.int n :: .int dp :: .ref (gb G + c1) :: .int sp :: .ref (gb G + c0) :: st) :=
  L_copyi C hd hs0 hs1 hlink hnat hstat hini hf hlo hst h.1 h.2.1 h.2.2.1 h.2.2.2.1 h.2.2.2.2 k
def sch (i k : Nat) : Int32 := (sByt.getD i []).getD k 0
theorem L_ldcS {G : mG} {M : mMt} {E : mE} {B : mB} {μ : mM} {pc : Nat} {lv : List (Nat × Value)} {st : List Value} (C : Cx G M E) {idx i : Nat} (hd : decode M.2.1 pc = .ok (.ldc idx, 2)) (ho : M.1.cls = "MixCover$PlanReader") (hi : sIdx[i]? = some idx) (k : Wm G M E B μ (pc + 2) lv (.ref (G.2.2.2.2.1 i) :: st)) : Wm G M E B μ pc lv st := by
  sorry
theorem L_strlen {G : mG} {M : mMt} {E : mE} {B : mB} {μ : mM} {pc : Nat} {lv : List (Nat × Value)} {st : List Value} (C : Cx G M E) {idx i : Nat} (hd : decode M.2.1 pc = .ok (.invokevirtual idx, 3)) (hlk : Cond.methodLink M.1.cls idx yJ0_length_8abf5 ∈ BIG) (hf : 3 ≤ B.1.frames) (hlo : 60 ≤ B.1.locals) (hc : B.2.1 ≤ B.1.cells ∧ B.2.2.1 ≤ B.1.slots) (hst : (st.map fun v => v.category).sum ≤ 8) (hi : i < 3) (k : Wm G M E B μ (pc + 3) lv (.int (nI (sLen.getD i 0)) :: st)) : Wm G M E B μ pc lv (.ref (G.2.2.2.2.1 i) :: st) := by
  sorry
theorem L_strch {G : mG} {M : mMt} {E : mE} {B : mB} {μ : mM} {pc : Nat} {lv : List (Nat × Value)} {st : List Value} (C : Cx G M E) {idx i : Nat} {x : Int32} (hd : decode M.2.1 pc = .ok (.invokevirtual idx, 3)) (hlk : Cond.methodLink M.1.cls idx yJ0_charAt_5068e ∈ BIG) (hf : 3 ≤ B.1.frames) (hlo : 60 ≤ B.1.locals) (hc : B.2.1 ≤ B.1.cells ∧ B.2.2.1 ≤ B.1.slots) (hst : (st.map fun v => v.category).sum ≤ 8) (hi : i < 3) (hx : vp_in x (sLen.getD i 0)) (k : Wm G M E B μ (pc + 3) lv (.int (sch i x.toNatClampNeg) :: st)) : Wm G M E B μ pc lv (.int x :: .ref (G.2.2.2.2.1 i) :: st) := by
  sorry
theorem pn_X0 : plainName RX0 = true := by decide +kernel
theorem pn_X1 : plainName RX1 = true := by decide +kernel
theorem pn_X2 : plainName RX2 = true := by decide +kernel
theorem pn_X3 : plainName RX3 = true := by decide +kernel
theorem pn_X4 : plainName RX4 = true := by decide +kernel
theorem pn_X5 : plainName RX5 = true := by decide +kernel
theorem pn_X6 : plainName RX6 = true := by decide +kernel
theorem pn_X7 : plainName RX7 = true := by decide +kernel
theorem pn_X8 : plainName RX8 = true := by decide +kernel
theorem pn_X9 : plainName RX9 = true := by decide +kernel
theorem pn_X10 : plainName RX10 = true := by decide +kernel
theorem pn_X11 : plainName RX11 = true := by decide +kernel
theorem pn_X12 : plainName RX12 = true := by decide +kernel

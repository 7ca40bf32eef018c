/-! THE CLASS: the plan reader's steps -/
def TxOk (T : Tx) : Prop := T.2 ≤ 200 ∧ ∀ k, T.1 k < 256
def Rd (T : Tx) (a : Nat) (h : Bool) (μ : mM) : Prop := μ 3 2 = nI 2 ∧ μ 3 3 = nI T.2 ∧ μ 3 4 = nI a ∧ μ 3 5 = -1 ∧ μ 3 6 = nI h.toNat ∧ (∀ k, k < T.2 → μ 2 k = nI (T.1 k)) ∧ a ≤ T.2
theorem Rd.of {T : Tx} {a : Nat} {h : Bool} {μ μ' : mM} (H : Rd T a h μ) (e3 : μ' 3 = μ 3) (e2 : μ' 2 = μ 2) : Rd T a h μ' := by
  unfold Rd
  rw [e3, e2]
  exact H
theorem Rd.go {T : Tx} {a b : Nat} {h : Bool} {μ : mM} (H : Rd T a h μ) (hb : b ≤ T.2) : Rd T b h (ms μ 3 4 (nI b)) := by
  obtain ⟨h1, h2, h3, h4, h5, h6, h7⟩ := H
  refine ⟨?_, ?_, ?_, ?_, ?_, ?_, hb⟩
  · rw [ms_row, upd_at, if_neg (by decide)]; exact h1
  · rw [ms_row, upd_at, if_neg (by decide)]; exact h2
  · rw [ms_row, upd_at, if_pos rfl]
  · rw [ms_row, upd_at, if_neg (by decide)]; exact h4
  · rw [ms_row, upd_at, if_neg (by decide)]; exact h5
  · rw [ms_ne (by decide)]; exact h6
theorem Rd.le {T : Tx} {a : Nat} {h : Bool} {μ : mM} (H : Rd T a h μ) (hT : TxOk T) : μ 3 3 ≤ μ 3 4 ↔ T.2 ≤ a := by
  have := hT.1
  have := H.2.2.2.2.2.2
  rw [H.2.1, H.2.2.1]
  exact nI_leI (by omega) (by omega)
theorem Rd.ch {T : Tx} {a : Nat} {h : Bool} {μ : mM} (H : Rd T a h μ) (hT : TxOk T) (ha : a < T.2) : μ 2 (μ 3 4).toNatClampNeg = nI (T.1 a) := by
  have := hT.1
  rw [H.2.2.1, nI_clamp (by omega)]
  exact H.2.2.2.2.2.1 a ha
theorem Rd.ix {T : Tx} {a : Nat} {h : Bool} {μ : mM} (H : Rd T a h μ) (hT : TxOk T) (ha : ¬ μ 3 3 ≤ μ 3 4) : vp_in (μ 3 4) 200 := by
  have := hT.1
  rw [H.le hT] at ha
  rw [H.2.2.1]
  simp (disch := omega) only [ofNat_nI, nI_add, pk_mul, nI_clamp, nI_leI, nI_ltI, nI_eq, vp_in_nI_iff, nI_subr, nI_m1r, m1_eq, m1_eq2, m1_le, m1_le2, m1_lt, m1_lt2, m1_self, cv_sub, cv_add1, cv_eq, cv_eqI, cv_eqI2, cv_m1, cv_lt0, cv_leI, cv_Ile, cv_le, cv_lt, cv_Ilt, cv_ltI, not_true, not_false_iff, true_implies, false_implies, false_or, or_false, true_and, and_true, false_and, and_false, true_or, or_true]
  omega
theorem Rd.tx {T : Tx} {a : Nat} {h : Bool} {μ : mM} (H : Rd T a h μ) : (μ 3 2).toNatClampNeg = 2 := by
  rw [H.1]
  exact nI_clamp (by omega)
theorem Rd.isC {T : Tx} {a ch : Nat} {h : Bool} {μ : mM} (H : Rd T a h μ) (hT : TxOk T) (hc : ch < 256) : ((μ 3 3 ≤ μ 3 4 ∨ (¬ μ 3 3 ≤ μ 3 4 ∧ ¬ μ 2 (μ 3 4).toNatClampNeg = nI ch)) → isC T a ch = false) ∧ (¬ μ 3 3 ≤ μ 3 4 → μ 2 (μ 3 4).toNatClampNeg = nI ch → isC T a ch = true) := by
  have hv := hT.2 a
  rw [H.le hT]
  constructor
  · intro z
    refine bnot fun y => ?_
    rw [isC_iff] at y
    rcases z with z | ⟨-, z⟩
    · omega
    · rw [H.ch hT y.1, y.2] at z
      exact z rfl
  · intro z1 z2
    rw [H.ch hT (by omega), nI_eq (by omega) (by omega)] at z2
    exact isC_iff.mpr ⟨by omega, z2⟩
theorem Rd.isD {T : Tx} {a : Nat} {h : Bool} {μ : mM} (H : Rd T a h μ) (hT : TxOk T) : ((μ 3 3 ≤ μ 3 4 ∨ (¬ μ 3 3 ≤ μ 3 4 ∧ (μ 2 (μ 3 4).toNatClampNeg < 48 ∨ (¬ μ 2 (μ 3 4).toNatClampNeg < 48 ∧ 57 < μ 2 (μ 3 4).toNatClampNeg)))) → isD T a = false) ∧ (¬ μ 3 3 ≤ μ 3 4 → ¬ μ 2 (μ 3 4).toNatClampNeg < 48 → ¬ 57 < μ 2 (μ 3 4).toNatClampNeg → isD T a = true) := by
  have hv := hT.2 a
  rw [H.le hT]
  have e1 : nI (T.1 a) < 48 ↔ T.1 a < 48 := nI_ltI (b := 48) (by omega) (by omega)
  have e2 : 57 < nI (T.1 a) ↔ 57 < T.1 a := nI_ltI (a := 57) (by omega) (by omega)
  constructor
  · intro z
    refine bnot fun y => ?_
    rw [isD_iff] at y
    rcases z with z | ⟨-, z⟩
    · omega
    · rw [H.ch hT y.1, e1, e2] at z
      omega
  · intro z1 z2 z3
    rw [H.ch hT (by omega)] at z2 z3
    rw [e1] at z2
    rw [e2] at z3
    exact isD_iff.mpr ⟨by omega, by omega, by omega⟩
theorem s_skipC {G : mG} {Q : mM → Prop} {T : Tx} {h : Bool} (hT : TxOk T) : ∀ (d a : Nat) (μ : mM), a + d = T.2 → Rd T a h μ → (∀ μ', Fr [3] μ μ' → Rd T (sb T a) h μ' → Q μ') → CtV G mX5_skipBlanks [.ref (gb G + 3)] μ Q := by
  intro d a μ hd H k
  refine e_X5_skipBlanks fun E C => ?_
  have loop : ∀ (d a : Nat) (μ : mM), a + d = T.2 → Rd T a h μ → (∀ μ', Fr [3] μ μ' → Rd T (sb T a) h μ' → Q μ') → Wm G mX5_skipBlanks E (bm G mX5_skipBlanks E (pV Q)) μ 0 [(0, .ref (gb G + 3))] [] := by
    intro d
    induction d with
    | zero =>
      intro a μ hd H k
      have e : isB T a = false := bnot fun y => by have := isB_lt a y; omega
      have e2 : sb T a = a := skx_n e
      rw [e2] at k
      refine k_X5_skipBlanks_0 C (fun _ => k μ (Fr.rf _ _) H) (fun z => ?_) (fun z => ?_) (fun z => ?_)
      all_goals
        exfalso
        rw [H.le hT] at z
        omega
    | succ d ih =>
      intro a μ hd H k
      have hlt : a < T.2 := by omega
      have hv := hT.2 a
      refine k_X5_skipBlanks_0 C (fun z => ?_) (fun _ => H.tx) (fun z => H.ix hT z) (fun _ z => ?_)
      · have e : isB T a = false := bnot fun y => by
          rw [isB_iff] at y
          rcases z with z | ⟨-, z⟩
          · rw [H.le hT] at z; omega
          · rw [H.ch hT y.1, y.2] at z
            exact z rfl
        have e2 : sb T a = a := skx_n e
        rw [e2] at k
        exact k μ (Fr.rf _ _) H
      · rw [H.ch hT hlt] at z
        have z' := (nI_eq (b := 32) (by omega) (by omega)).mp z
        have e2 : sb T a = sb T (a + 1) := skx_y (isB_iff.mpr ⟨hlt, z'⟩) hlt
        rw [e2] at k
        rw [H.2.2.1, show nI a + 1 = nI (a + 1) from nI_1 a]
        exact ih (a + 1) _ (by omega) (H.go (by omega)) (fun μ' F R => k μ' (((Fr.rf _ μ).ms (by decide)).tr F) R)
  exact loop d a μ hd H k
theorem s_skip {G : mG} {Q : mM → Prop} {μ : mM} {T : Tx} {h : Bool} {a : Nat} (hT : TxOk T) (H : Rd T a h μ) (k : ∀ μ', Fr [3] μ μ' → Rd T (sb T a) h μ' → Q μ') : CtV G mX5_skipBlanks [.ref (gb G + 3)] μ Q :=
  s_skipC hT (T.2 - a) a μ (by have := H.2.2.2.2.2.2; omega) H k
/-- a fault is told -/
def Rf (f : Nat) (μ : mM) : Prop := μ 3 5 = nI f ∧ f < 2 ^ 30
theorem Rf.ne {f : Nat} {μ : mM} (h : Rf f μ) : ¬ μ 3 5 = -1 := by
  rw [h.1]
  exact noI_m' (by have := h.2; omega)
theorem s_failN {G : mG} {Q : mM → Prop} {μ : mM} {T : Tx} {h : Bool} {a p c : Nat} (H : Rd T a h μ) (hp : p ≤ 1000) (hc : c ≤ 4) (k : ∀ μ', Fr [3] μ μ' → Rf (8 * p + c) μ' → Q μ') : CtV G mX5_fail [.ref (gb G + 3), .int (nI p), .int (nI c)] μ Q := by
  refine a_X5_fail (fun z => absurd H.2.2.2.1 z) (fun _ => k _ ((Fr.rf _ μ).ms (by decide)) ⟨?_, by omega⟩)
  rw [ms_row, upd_at, if_pos rfl, show (8 : Int32) = nI 8 from rfl, pk_mul, nI_add]
theorem s_failF {G : mG} {Q : mM → Prop} {μ : mM} {f : Nat} {x y : Int32} (H : Rf f μ) (k : Q μ) : CtV G mX5_fail [.ref (gb G + 3), .int x, .int y] μ Q := a_X5_fail (fun _ => k) (fun z => absurd z H.ne)
theorem s_takeByte {G : mG} {Q : mM → Prop} {μ : mM} {T : Tx} {h : Bool} {a ch : Nat} (hT : TxOk T) (H : Rd T a h μ) (hc : ch < 256) (k1 : isC T a ch = true → ∀ μ', Fr [3] μ μ' → Rd T (sb T (a + 1)) h μ' → Q μ') (k0 : isC T a ch = false → ∀ μ', Fr [3] μ μ' → Rf (8 * a + 1) μ' → Q μ') :
    CtV G mX5_takeByte [.ref (gb G + 3), .int (nI ch)] μ Q := by
  have h200 := hT.1
  have hle := H.2.2.2.2.2.2
  obtain ⟨c0, c1⟩ := H.isC hT hc
  refine e_X5_takeByte fun E C => k_X5_takeByte_0 C (fun _ _ => H.tx) (fun _ z => H.ix hT z) (fun _ z => ?_) (fun _ z1 z2 => ?_) (fun z => absurd H.2.2.2.1 z)
  · rw [H.2.2.1]
    exact s_failN (c := 1) H (by omega) (by omega) fun μ' F R => k_X5_takeByte_26 C (k0 (c0 z) μ' F R)
  · have e := c1 z1 z2
    have hlt := (isC_iff.mp e).1
    rw [H.2.2.1, show nI a + 1 = nI (a + 1) from nI_1 a]
    exact s_skip hT (H.go (by omega)) fun μ' F R => k_X5_takeByte_41 C (k1 e μ' (((Fr.rf _ μ).ms (by decide)).tr F) R)
theorem s_takeByteF {G : mG} {Q : mM → Prop} {μ : mM} {f : Nat} {x : Int32} (H : Rf f μ) (k : Q μ) : CtV G mX5_takeByte [.ref (gb G + 3), .int x] μ Q :=
  e_X5_takeByte fun E C => k_X5_takeByte_0 C (fun z => absurd z H.ne) (fun z => absurd z H.ne) (fun z => absurd z H.ne) (fun z => absurd z H.ne) (fun _ => k)
theorem sch_wr : ∀ w, w < 3 → ∀ i, i < wln w → sch w i = nI (wrB (8 * w + i)) ∧ wrB (8 * w + i) < 256 := by decide
theorem sLen_wl : ∀ w, w < 3 → sLen.getD w 0 = wln w ∧ wln w ≤ 8 := by decide
theorem Rd.isL {T : Tx} {a i : Nat} {h : Bool} {μ : mM} (H : Rd T a h μ) (hT : TxOk T) (hi : i ≤ 8) : (μ 3 3 ≤ μ 3 4 + nI i ↔ T.2 ≤ a + i) ∧ (a + i < T.2 → μ 2 (μ 3 4 + nI i).toNatClampNeg = nI (T.1 (a + i))) ∧ (¬ μ 3 3 ≤ μ 3 4 + nI i → vp_in (μ 3 4 + nI i) 200) := by
  have h200 := hT.1
  have hle := H.2.2.2.2.2.2
  rw [H.2.1, H.2.2.1, nI_add, nI_leI (by omega) (by omega)]
  refine ⟨Iff.rfl, fun z => ?_, fun z => ?_⟩
  · rw [nI_clamp (by omega)]; exact H.2.2.2.2.2.1 _ z
  · simp (disch := omega) only [ofNat_nI, nI_add, pk_mul, nI_clamp, nI_leI, nI_ltI, nI_eq, vp_in_nI_iff, nI_subr, nI_m1r, m1_eq, m1_eq2, m1_le, m1_le2, m1_lt, m1_lt2, m1_self, cv_sub, cv_add1, cv_eq, cv_eqI, cv_eqI2, cv_m1, cv_lt0, cv_leI, cv_Ile, cv_le, cv_lt, cv_Ilt, cv_ltI, not_true, not_false_iff, true_implies, false_implies, false_or, or_false, true_and, and_true, false_and, and_false, true_or, or_true]
    omega
theorem s_isWord {G : mG} {Q : Int32 → mM → Prop} {μ : mM} {T : Tx} {h : Bool} {a w : Nat} (hT : TxOk T) (H : Rd T a h μ) (hw : w < 3) (k : Q (nI (wdB T w a).toNat) μ) : CtI G mX5_isWord [.ref (gb G + 3), .ref (G.2.2.2.2.1 w)] μ Q := by
  have h200 := hT.1
  obtain ⟨sl1, sl2⟩ := sLen_wl w hw
  refine e_X5_isWord fun E C => k_X5_isWord_0 C hw ?_
  rw [sl1]
  have nl : ∀ x, nI x < 97 → x < 256 → x < 97 := fun x z hx => (nI_ltI (b := 97) (by omega) (by omega)).mp z
  have loop : ∀ (d i : Nat), i + d = wln w → (∀ j, j < i → a + j < T.2 ∧ T.1 (a + j) = wrB (8 * w + j)) → Wm G mX5_isWord E (bm G mX5_isWord E (pI Q)) μ 7 [(0, .ref (gb G + 3)), (1, .ref (G.2.2.2.2.1 w)), (2, .int (nI (wln w))), (3, .int (nI i))] [] := by
    intro d
    induction d with
    | zero =>
      intro i hi hall
      have hiw : i = wln w := by omega
      subst hiw
      obtain ⟨l1, l2, l3⟩ := H.isL hT (i := wln w) (by omega)
      have hv := hT.2 (a + wln w)
      have e1 : nI (T.1 (a + wln w)) < 97 ↔ T.1 (a + wln w) < 97 := nI_ltI (b := 97) (by omega) (by omega)
      have e2 : 122 < nI (T.1 (a + wln w)) ↔ 122 < T.1 (a + wln w) := nI_ltI (a := 122) (by omega) (by omega)
      have rf : nI (wln w) ≤ nI (wln w) := (nI_leI (by omega) (by omega)).mpr (Nat.le_refl _)
      refine k_X5_isWord_7 C (fun _ => H.tx) (fun _ z => l3 z) (fun _ z => ?_) (fun z => ?_) (fun z => absurd rf z) (fun z => absurd rf z) (fun z => absurd rf z) (fun z => absurd rf z)
      · have : wdB T w a = true := wdB_iff.mpr ⟨hall, bnot fun y => by
          rw [isL_iff] at y
          rcases z with z | ⟨-, z⟩
          · rw [l1] at z; omega
          · rw [l2 y.1, e1, e2] at z; omega⟩
        rw [this] at k
        exact k
      · have : wdB T w a = false := bnot fun y => by
          have y2 := (wdB_iff.mp y).2
          rcases z with ⟨-, z1, z2, z3⟩ | ⟨z, -⟩
          · rw [l1] at z1
            rw [l2 (by omega), e1] at z2
            rw [l2 (by omega), e2] at z3
            rw [isL_iff.mpr ⟨by omega, by omega, by omega⟩] at y2
            cases y2
          · exact z rf
        rw [this] at k
        exact k
    | succ d ih =>
      intro i hi hall
      have hiw : i < wln w := by omega
      obtain ⟨l1, l2, l3⟩ := H.isL hT (i := i) (by omega)
      have hv := hT.2 (a + i)
      obtain ⟨c1, c2⟩ := sch_wr w hw i hiw
      have wl := wr_let w hw i hiw
      have e1 : nI (T.1 (a + i)) < 97 ↔ T.1 (a + i) < 97 := nI_ltI (b := 97) (by omega) (by omega)
      have e2 : 122 < nI (T.1 (a + i)) ↔ 122 < T.1 (a + i) := nI_ltI (a := 122) (by omega) (by omega)
      have nr : ¬ nI (wln w) ≤ nI i := fun z => by
        have := (nI_leI (by omega) (by omega)).mp z
        omega
      have ei : (nI i).toNatClampNeg = i := nI_clamp (by omega)
      refine k_X5_isWord_7 C (fun _ => H.tx) (fun z => absurd z nr) (fun z => absurd z nr) (fun z => ?_) (fun _ z => l3 (by rcases z with z | z; exact z; exact z.1)) (fun _ _ _ _ => hw) (fun _ _ _ _ => ?_) (fun _ z1 _ _ z4 => ?_)
      · have : wdB T w a = false := bnot fun y => by
          obtain ⟨y1, y2⟩ := (wdB_iff.mp y).1 i hiw
          rcases z with ⟨z, -⟩ | ⟨-, z⟩
          · exact nr z
          · rw [l1, l2 y1, e1, e2, y2, ei, c1] at z
            rcases z with (z | ⟨-, z⟩) | ⟨-, -, -, z⟩
            · omega
            · omega
            · exact z rfl
        rw [this] at k
        exact k
      · rw [sl1]
        simp (disch := omega) only [ofNat_nI, nI_add, pk_mul, nI_clamp, nI_leI, nI_ltI, nI_eq, vp_in_nI_iff, nI_subr, nI_m1r, m1_eq, m1_eq2, m1_le, m1_le2, m1_lt, m1_lt2, m1_self, cv_sub, cv_add1, cv_eq, cv_eqI, cv_eqI2, cv_m1, cv_lt0, cv_leI, cv_Ile, cv_le, cv_lt, cv_Ilt, cv_ltI, not_true, not_false_iff, true_implies, false_implies, false_or, or_false, true_and, and_true, false_and, and_false, true_or, or_true]
        omega
      · rw [l1] at z1
        rw [l2 (by omega), ei, c1, nI_eq (by omega) (by omega)] at z4
        rw [nI_1]
        refine ih (i + 1) (by omega) (fun j hj => ?_)
        by_cases q : j = i
        · rw [q]; exact ⟨by omega, z4⟩
        · exact hall j (by omega)
  exact loop (wln w) 0 (by omega) (fun j hj => absurd hj (Nat.not_lt_zero j))
theorem s_takeWord {G : mG} {Q : mM → Prop} {μ : mM} {T : Tx} {h : Bool} {a w : Nat} (hT : TxOk T) (H : Rd T a h μ) (hw : w < 3) (k1 : wdB T w a = true → ∀ μ', Fr [3] μ μ' → Rd T (sb T (a + wln w)) h μ' → Q μ') (k0 : wdB T w a = false → ∀ μ', Fr [3] μ μ' → Rf (8 * a + 1) μ' → Q μ') :
    CtV G mX5_takeWord [.ref (gb G + 3), .ref (G.2.2.2.2.1 w)] μ Q := by
  have h200 := hT.1
  have hle := H.2.2.2.2.2.2
  obtain ⟨sl1, sl2⟩ := sLen_wl w hw
  refine e_X5_takeWord fun E C => k_X5_takeWord_0 C (fun _ => s_isWord hT H hw (k_X5_takeWord_14 C (fun _ => hw) (fun z => ?_) (fun z => ?_))) (fun z => absurd H.2.2.2.1 z)
  · have e : wdB T w a = true := by
      cases q : wdB T w a with
      | true => rfl
      | false => rw [q] at z; exact absurd rfl z
    have hl := wdB_le hw e
    rw [H.2.2.1, sl1, nI_add]
    exact s_skip hT (H.go hl) fun μ' F R => k_X5_takeWord_44 C (k1 e μ' (((Fr.rf _ μ).ms (by decide)).tr F) R)
  · have e : wdB T w a = false := (nI_b0 _).mp z
    rw [H.2.2.1]
    exact s_failN (c := 1) H (by omega) (by omega) fun μ' F R => k_X5_takeWord_26 C (k0 e μ' F R)
theorem s_takeWordF {G : mG} {Q : mM → Prop} {μ : mM} {f w : Nat} (H : Rf f μ) (k : Q μ) : CtV G mX5_takeWord [.ref (gb G + 3), .ref (G.2.2.2.2.1 w)] μ Q :=
  e_X5_takeWord fun E C => k_X5_takeWord_0 C (fun z => absurd z H.ne) (fun _ => k)
theorem nm_go {T : Tx} : ∀ (d a v : Nat), a + d = T.2 → nmv T (T.2 - a) a v = if isD T a = true then nmv T (T.2 - (a + 1)) (a + 1) (min 1000 (v * 10 + (T.1 a - 48))) else v
  | d, a, v, h => by
    cases e : T.2 - a with
    | zero =>
      have : isD T a = false := bnot fun y => by have := isD_lt a y; omega
      rw [this, if_neg Bool.false_ne_true]
      rfl
    | succ f =>
      rw [nmv, show T.2 - (a + 1) = f by omega]
theorem s_takeNumber {G : mG} {Q : Int32 → mM → Prop} {μ : mM} {T : Tx} {h : Bool} {a lo hi : Nat} (hT : TxOk T) (H : Rd T a h μ) (hlo : lo < 100) (hhi : hi < 100) (k1 : isD T a = true → lo ≤ nm T a → nm T a ≤ hi → ∀ μ', Fr [3] μ μ' → Rd T (sb T (sd T a)) h μ' → Q (nI (nm T a)) μ')
    (k2 : isD T a = true → (nm T a < lo ∨ hi < nm T a) → ∀ μ', Fr [3] μ μ' → Rf (8 * a + 2) μ' → Q 0 μ') (k0 : isD T a = false → ∀ μ', Fr [3] μ μ' → Rf (8 * a + 1) μ' → Q 0 μ') : CtI G mX5_takeNumber [.ref (gb G + 3), .int (nI lo), .int (nI hi)] μ Q := by
  have h200 := hT.1
  have hle := H.2.2.2.2.2.2
  obtain ⟨d0, d1⟩ := H.isD hT
  refine e_X5_takeNumber fun E C => k_X5_takeNumber_0 C (fun _ _ => H.tx) (fun _ z => H.ix hT z) (fun _ z => ?_) (fun _ z1 z2 z3 => ?_) (fun z => absurd H.2.2.2.1 z)
  · rw [H.2.2.1]
    exact s_failN (c := 1) H (by omega) (by omega) fun μ' F R => k_X5_takeNumber_26 C (k0 (d0 z) μ' F R)
  · have ed := d1 z1 z2 z3
    rw [H.2.2.1]
    have loop : ∀ (d b v : Nat) (μ' : mM), b + d = T.2 → Fr [3] μ μ' → Rd T b h μ' → v ≤ 1000 → sd T b = sd T a → nmv T (T.2 - b) b v = nm T a →
        Wm G mX5_takeNumber E (bm G mX5_takeNumber E (pI Q)) μ' 36 [(0, .ref (gb G + 3)), (1, .int (nI lo)), (2, .int (nI hi)), (3, .int (nI a)), (4, .int (nI v))] [] := by
      intro d
      induction d with
      | zero =>
        intro b v μ' hb F R hv es en
        have nd : isD T b = false := bnot fun y => by have := isD_lt b y; omega
        rw [nm_go 0 b v hb, nd, if_neg Bool.false_ne_true] at en
        have es' : sd T b = b := skx_n nd
        refine k_X5_takeNumber_36 C (fun _ => ?_) (fun z => ?_) (fun z => ?_) (fun z => ?_)
        · refine k_X5_takeNumber_93 C (s_skip hT R fun ν F2 R2 => k_X5_takeNumber_97 C (fun z => ?_) (fun z1 z2 => ?_))
          · refine k_X5_takeNumber_109 C (s_failN (c := 2) R2 (by omega) (by omega) fun ν2 F3 R3 => k_X5_takeNumber_115 C (k2 ed ?_ ν2 ((F.tr F2).tr F3) R3))
            rw [nI_ltI (by omega) (by omega), nI_leI (by omega) (by omega)] at z
            omega
          · rw [nI_ltI (by omega) (by omega)] at z1
            rw [nI_leI (by omega) (by omega)] at z2
            rw [← es, es'] at k1
            rw [← en] at k1
            exact k1 ed (by omega) (by omega) ν (F.tr F2) R2
        all_goals
          exfalso
          rw [R.le hT] at z
          omega
      | succ d ih =>
        intro b v μ' hb F R hv es en
        obtain ⟨e0, e1⟩ := R.isD hT
        have hv2 := hT.2 b
        refine k_X5_takeNumber_36 C (fun z => ?_) (fun _ _ => R.tx) (fun z _ => R.ix hT z) (fun y1 y2 y3 y4 => ?_)
        · have nd : isD T b = false := e0 (by
            rcases z with z | ⟨-, z⟩
            · exact Or.inl z
            · exact z)
          rw [nm_go (d + 1) b v hb, nd, if_neg Bool.false_ne_true] at en
          have es' : sd T b = b := skx_n nd
          refine k_X5_takeNumber_93 C (s_skip hT R fun ν F2 R2 => k_X5_takeNumber_97 C (fun z => ?_) (fun z1 z2 => ?_))
          · refine k_X5_takeNumber_109 C (s_failN (c := 2) R2 (by omega) (by omega) fun ν2 F3 R3 => k_X5_takeNumber_115 C (k2 ed ?_ ν2 ((F.tr F2).tr F3) R3))
            rw [nI_ltI (by omega) (by omega), nI_leI (by omega) (by omega)] at z
            omega
          · rw [nI_ltI (by omega) (by omega)] at z1
            rw [nI_leI (by omega) (by omega)] at z2
            rw [← es, es'] at k1
            rw [← en] at k1
            exact k1 ed (by omega) (by omega) ν (F.tr F2) R2
        · have yd := e1 y1 y3 y4
          have yd' := isD_iff.mp yd
          rw [nm_go (d + 1) b v hb, yd, if_pos rfl] at en
          have es' : sd T b = sd T (b + 1) := skx_y yd yd'.1
          have ev : (if ((nI v * 10) + μ' 2 (μ' 3 4).toNatClampNeg) - 48 < 1000 then ((nI v * 10) + μ' 2 (μ' 3 4).toNatClampNeg) - 48 else 1000) = nI (min 1000 (v * 10 + (T.1 b - 48))) := by
            rw [R.ch hT yd'.1, show (10 : Int32) = nI 10 from rfl, pk_mul, nI_add, show (48 : Int32) = nI 48 from rfl, nI_subr (by omega), show (1000 : Int32) = nI 1000 from rfl]
            have e3 : v * 10 + T.1 b - 48 = v * 10 + (T.1 b - 48) := by omega
            rw [e3]
            have hlt : nI (v * 10 + (T.1 b - 48)) < nI 1000 ↔ v * 10 + (T.1 b - 48) < 1000 := nI_ltI (by omega) (by omega)
            by_cases q : v * 10 + (T.1 b - 48) < 1000
            · rw [if_pos (hlt.mpr q), Nat.min_eq_right (by omega)]
            · rw [if_neg (fun z => q (hlt.mp z)), Nat.min_eq_left (by omega)]
          have ea : ms μ' 3 4 (μ' 3 4 + 1) = ms μ' 3 4 (nI (b + 1)) := by rw [R.2.2.1, nI_1]
          refine Eq.mp ?_ (ih (b + 1) (min 1000 (v * 10 + (T.1 b - 48))) (ms μ' 3 4 (nI (b + 1))) (by omega) (F.ms (by decide)) (R.go (by omega)) (Nat.min_le_left _ _) (by rw [← es']; exact es) en)
          rw [ev, ea]
    exact loop (T.2 - a) a 0 μ (by omega) (Fr.rf _ _) H (by omega) rfl rfl
theorem s_takeNumberF {G : mG} {Q : Int32 → mM → Prop} {μ : mM} {f : Nat} {x y : Int32} (H : Rf f μ) (k : Q 0 μ) : CtI G mX5_takeNumber [.ref (gb G + 3), .int x, .int y] μ Q :=
  e_X5_takeNumber fun E C => k_X5_takeNumber_0 C (fun z => absurd z H.ne) (fun z => absurd z H.ne) (fun z => absurd z H.ne) (fun z => absurd z H.ne) (fun _ => k)

/-! BASE: numbers as naturals, memory rows, sums -/
theorem ofNat_nI (n : Nat) : (@OfNat.ofNat Int32 n _) = nI (@OfNat.ofNat Nat n _) := rfl
theorem vp_in_nI_iff {n N : Nat} (h : n < 2 ^ 31) : vp_in (nI n) N ↔ n < N := by
  unfold vp_in
  rw [nI_clamp h]
  constructor
  · intro z
    exact Nat.not_le.mp fun q => z (Or.inr q)
  · intro z q
    rcases q with q | q
    · exact nI_pos h q
    · omega
theorem nI_subr {a b : Nat} (h : b ≤ a) : nI a - nI b = nI (a - b) := pk_sub h
theorem nI_m1r {a : Nat} (h : 0 < a) : nI a + -nI 1 = nI (a - 1) := by
  obtain ⟨b, rfl⟩ : ∃ b, a = b + 1 := ⟨a - 1, by omega⟩
  exact pk_m1 b
theorem m1_toInt : (-nI 1).toInt = -1 := by decide
theorem m1_eq {a : Nat} (h : a < 2 ^ 31) : (nI a = -nI 1) = False := by
  refine eq_false fun q => ?_
  have := congrArg Int32.toInt q
  rw [nI_toInt h, m1_toInt] at this
  omega
theorem m1_eq2 {a : Nat} (h : a < 2 ^ 31) : (-nI 1 = nI a) = False := by
  refine eq_false fun q => ?_
  have := congrArg Int32.toInt q
  rw [nI_toInt h, m1_toInt] at this
  omega
theorem m1_le {a : Nat} (h : a < 2 ^ 31) : (-nI 1 ≤ nI a) = True := by
  refine eq_true ?_
  rw [Int32.le_iff_toInt_le, nI_toInt h, m1_toInt]
  omega
theorem m1_le2 {a : Nat} (h : a < 2 ^ 31) : (nI a ≤ -nI 1) = False := by
  refine eq_false ?_
  rw [Int32.le_iff_toInt_le, nI_toInt h, m1_toInt]
  omega
theorem m1_lt {a : Nat} (h : a < 2 ^ 31) : (-nI 1 < nI a) = True := by
  refine eq_true ?_
  rw [Int32.lt_iff_toInt_lt, nI_toInt h, m1_toInt]
  omega
theorem m1_lt2 {a : Nat} (h : a < 2 ^ 31) : (nI a < -nI 1) = False := by
  refine eq_false ?_
  rw [Int32.lt_iff_toInt_lt, nI_toInt h, m1_toInt]
  omega
theorem m1_self : (-nI 1 = -nI 1) = True := eq_true rfl
/-- a cell's row is replaced -/
def mrw (μ : mM) (c : Nat) (f : Nat → Int32) : mM := fun c' => if c' = c then f else μ c'
theorem ms_mrw0 (μ : mM) (c j : Nat) (v : Int32) : ms μ c j v = mrw μ c (upd (μ c) j v) := rfl
theorem mrw_self (μ : mM) (c : Nat) : mrw μ c (μ c) = μ := by
  funext c'
  unfold mrw
  by_cases h : c' = c
  · rw [if_pos h, h]
  · rw [if_neg h]
theorem ms_mrw (μ : mM) (c j : Nat) (f : Nat → Int32) (v : Int32) : ms (mrw μ c f) c j v = mrw μ c (upd f j v) := by
  funext c'
  unfold ms mrw
  by_cases h : c' = c <;> simp [h]
theorem mrw_mrw (μ : mM) (c : Nat) (f g : Nat → Int32) : mrw (mrw μ c f) c g = mrw μ c g := by
  funext c'
  unfold mrw
  by_cases h : c' = c <;> simp [h]
theorem mrw_ne {μ : mM} {c c' : Nat} {f : Nat → Int32} (h : c' ≠ c) : mrw μ c f c' = μ c' := by simp [mrw, h]
theorem mrw_at (μ : mM) (c : Nat) (f : Nat → Int32) : mrw μ c f c = f := by simp [mrw]
theorem upd_at (f : Nat → Int32) (k j : Nat) (v : Int32) : upd f k v j = if j = k then v else f j := rfl
/-- sums -/
def sm (n : Nat) (f : Nat → Nat) : Nat := match n with
  | 0 => 0
  | n + 1 => sm n f + f n
theorem sm_congr {n : Nat} {f g : Nat → Nat} (h : ∀ i, i < n → f i = g i) : sm n f = sm n g := by
  induction n with
  | zero => rfl
  | succ n ih => rw [sm, sm, ih (fun i hi => h i (by omega)), h n (by omega)]
theorem sm_le {n B : Nat} {f : Nat → Nat} (h : ∀ i, i < n → f i ≤ B) : sm n f ≤ n * B := by
  induction n with
  | zero => simp [sm]
  | succ n ih =>
    have h1 := ih (fun i hi => h i (by omega))
    have h2 := h n (by omega)
    rw [sm, Nat.succ_mul]
    omega
theorem sm_add (n : Nat) (f g : Nat → Nat) : sm n (fun i => f i + g i) = sm n f + sm n g := by
  induction n with
  | zero => rfl
  | succ n ih => simp only [sm, ih]; omega
theorem sm_zero {n : Nat} {f : Nat → Nat} (h : ∀ i, i < n → f i = 0) : sm n f = 0 := by
  induction n with
  | zero => rfl
  | succ n ih => rw [sm, ih (fun i hi => h i (by omega)), h n (by omega)]
theorem sm_pos {n : Nat} {f : Nat → Nat} : 0 < sm n f ↔ ∃ i, i < n ∧ 0 < f i := by
  induction n with
  | zero => simp [sm]
  | succ n ih =>
    rw [sm]
    constructor
    · intro h
      rcases Nat.eq_zero_or_pos (f n) with q | q
      · obtain ⟨i, h1, h2⟩ := ih.mp (by omega)
        exact ⟨i, by omega, h2⟩
      · exact ⟨n, by omega, q⟩
    · rintro ⟨i, h1, h2⟩
      by_cases h3 : i = n
      · subst h3; omega
      · have := ih.mpr ⟨i, by omega, h2⟩
        omega
theorem sm_app (m n : Nat) (f : Nat → Nat) : sm (m + n) f = sm m f + sm n (fun i => f (m + i)) := by
  induction n with
  | zero => simp [sm]
  | succ n ih => rw [← Nat.add_assoc, sm, ih, sm]; omega
theorem sm_mono {n : Nat} {f g : Nat → Nat} (h : ∀ i, i < n → f i ≤ g i) : sm n f ≤ sm n g := by
  induction n with
  | zero => exact Nat.le_refl _
  | succ n ih =>
    have h1 := ih (fun i hi => h i (by omega))
    have h2 := h n (by omega)
    rw [sm, sm]; omega
/-- at most one is not 0 -/
theorem sm_one {n k : Nat} {f : Nat → Nat} (hk : k < n) (h : ∀ i, i < n → i ≠ k → f i = 0) : sm n f = f k := by
  induction n with
  | zero => omega
  | succ n ih =>
    rw [sm]
    by_cases q : k = n
    · subst q
      rw [sm_zero (fun i hi => h i (by omega) (by omega))]; omega
    · rw [ih (by omega) (fun i hi h3 => h i (by omega) h3), h n (by omega) (fun z => q z.symm)]; omega
theorem sm_part {n k : Nat} (f : Nat → Nat) (h : k ≤ n) : sm k f ≤ sm n f := by
  obtain ⟨d, rfl⟩ : ∃ d, n = k + d := ⟨n - k, by omega⟩
  rw [sm_app]; omega
def pd (n : Nat) (f : Nat → Nat) : Nat := match n with
  | 0 => 1
  | n + 1 => pd n f * f n
theorem pd_congr {n : Nat} {f g : Nat → Nat} (h : ∀ i, i < n → f i = g i) : pd n f = pd n g := by
  induction n with
  | zero => rfl
  | succ n ih => rw [pd, pd, ih (fun i hi => h i (by omega)), h n (by omega)]
theorem pd_pos {n : Nat} {f : Nat → Nat} (h : ∀ i, i < n → 0 < f i) : 0 < pd n f := by
  induction n with
  | zero => exact Nat.one_pos
  | succ n ih => exact Nat.mul_pos (ih (fun i hi => h i (by omega))) (h n (by omega))
theorem pd_le {n B : Nat} {f : Nat → Nat} (h : ∀ i, i < n → f i ≤ B) : pd n f ≤ B ^ n := by
  induction n with
  | zero => exact Nat.le_refl _
  | succ n ih => rw [pd, Nat.pow_succ]; exact Nat.mul_le_mul (ih (fun i hi => h i (by omega))) (h n (by omega))
/-! a cell's value by its code: 0 free, v + 1 level v -/
def cv (a : Nat) : Int32 := if a = 0 then -1 else nI (a - 1)
theorem cv_s (v : Nat) : cv (v + 1) = nI v := by
  unfold cv
  rw [if_neg (by omega)]
  rfl
theorem cv_sub (c : Nat) : nI c + -nI 1 = cv c := by
  cases c with
  | zero => rfl
  | succ c => rw [cv_s]; exact pk_m1 c
theorem cv_add1 (a : Nat) : cv a + nI 1 = nI a := by
  cases a with
  | zero => rfl
  | succ a => rw [cv_s]; exact nI_add a 1
theorem cv_toInt {a : Nat} (h : a < 2 ^ 31) : (cv a).toInt = (a : Int) - 1 := by
  cases a with
  | zero => rfl
  | succ a => rw [cv_s, nI_toInt (by omega)]; omega
theorem i32_eq {x y : Int32} : x = y ↔ x.toInt = y.toInt := ⟨fun h => by rw [h], fun h => Int32.toInt_inj.mp h⟩
theorem cv_eq {a b : Nat} (ha : a < 2 ^ 31) (hb : b < 2 ^ 31) : cv a = cv b ↔ a = b := by
  rw [i32_eq, cv_toInt ha, cv_toInt hb]; omega
theorem cv_eqI {a v : Nat} (ha : a < 2 ^ 31) (hb : v < 2 ^ 31) : cv a = nI v ↔ a = v + 1 := by
  rw [i32_eq, cv_toInt ha, nI_toInt hb]; omega
theorem cv_eqI2 {a v : Nat} (ha : a < 2 ^ 31) (hb : v < 2 ^ 31) : nI v = cv a ↔ a = v + 1 := by
  rw [i32_eq, cv_toInt ha, nI_toInt hb]; omega
theorem cv_m1 {a : Nat} (ha : a < 2 ^ 31) : cv a = -nI 1 ↔ a = 0 := by
  rw [i32_eq, cv_toInt ha, m1_toInt]; omega
theorem cv_lt0 {a : Nat} (ha : a < 2 ^ 31) : cv a < nI 0 ↔ a = 0 := by
  rw [Int32.lt_iff_toInt_lt, cv_toInt ha, nI_toInt (by omega)]; omega
theorem cv_leI {a v : Nat} (ha : a < 2 ^ 31) (hb : v < 2 ^ 31) : cv a ≤ nI v ↔ a ≤ v + 1 := by
  rw [Int32.le_iff_toInt_le, cv_toInt ha, nI_toInt hb]; omega
theorem cv_Ile {a v : Nat} (ha : a < 2 ^ 31) (hb : v < 2 ^ 31) : nI v ≤ cv a ↔ v + 1 ≤ a := by
  rw [Int32.le_iff_toInt_le, cv_toInt ha, nI_toInt hb]; omega
theorem cv_le {a b : Nat} (ha : a < 2 ^ 31) (hb : b < 2 ^ 31) : cv a ≤ cv b ↔ a ≤ b := by
  rw [Int32.le_iff_toInt_le, cv_toInt ha, cv_toInt hb]; omega
theorem cv_lt {a b : Nat} (ha : a < 2 ^ 31) (hb : b < 2 ^ 31) : cv a < cv b ↔ a < b := by
  rw [Int32.lt_iff_toInt_lt, cv_toInt ha, cv_toInt hb]; omega
theorem cv_Ilt {a v : Nat} (ha : a < 2 ^ 31) (hb : v < 2 ^ 31) : nI v < cv a ↔ v + 1 < a := by
  rw [Int32.lt_iff_toInt_lt, cv_toInt ha, nI_toInt hb]; omega
theorem cv_ltI {a v : Nat} (ha : a < 2 ^ 31) (hb : v < 2 ^ 31) : cv a < nI v ↔ a < v + 1 := by
  rw [Int32.lt_iff_toInt_lt, cv_toInt ha, nI_toInt hb]; omega
/-- THE MODEL'S SMALL METHODS -/
theorem s_copies {G : mG} {Q : mM → Prop} {μ : mM} {n0 c0 n2 c2 a b : Nat} (h0 : sh c0 = (1, n0)) (h2 : sh c2 = (1, n2)) (hc : c0 ≠ c2) (ha : a + 673 ≤ n0) (hb : b + 673 ≤ n2) (hn0 : n0 < 10000) (hn2 : n2 < 10000)
    (k : ∀ g : Nat → Int32, (∀ j, j < 673 → g (b + j) = μ c0 (a + j)) → (∀ j, j < b ∨ b + 673 ≤ j → g j = μ c2 j) → Q (mrw μ c2 g)) : CtV G mX12_copies [.ref (gb G + c0), .int (nI a), .ref (gb G + c2), .int (nI b)] μ Q := by
  refine e_X12_copies h0 h2 fun E C => k_X12_copies_0 C h0 h2 ?_
  have loop : ∀ (d i : Nat) (g : Nat → Int32), i + d = 673 → (∀ j, j < i → g (b + j) = μ c0 (a + j)) → (∀ j, j < b ∨ b + i ≤ j → g j = μ c2 j) →
      Wm G mX12_copies E (bm G mX12_copies E (pV Q)) (mrw μ c2 g) 3 [(0, .ref (gb G + c0)), (1, .int (nI a)), (2, .ref (gb G + c2)), (3, .int (nI b)), (4, .int (nI i))] [] := by
    intro d
    induction d with
    | zero =>
      intro i g hi h1 h3
      refine k_X12_copies_3 C h0 h2 (fun _ => k g (fun j hj => h1 j (by omega)) (fun j hj => h3 j (by omega))) ?_ ?_ ?_
      all_goals
        intro h
        exfalso
        revert h
        simp (disch := omega) only [ofNat_nI, nI_add, pk_mul, nI_clamp, nI_leI, nI_ltI, nI_eq, vp_in_nI_iff, nI_subr, nI_m1r, m1_eq, m1_eq2, m1_le, m1_le2, m1_lt, m1_lt2, m1_self, cv_sub, cv_add1, cv_eq, cv_eqI, cv_eqI2, cv_m1, cv_lt0, cv_leI, cv_Ile, cv_le, cv_lt, cv_Ilt, cv_ltI, not_true, not_false_iff, true_implies, false_implies, false_or, or_false, true_and, and_true, false_and, and_false, true_or, or_true]
        omega
    | succ d ih =>
      intro i g hi h1 h3
      refine k_X12_copies_3 C h0 h2 ?_ ?_ ?_ ?_
      · simp (disch := omega) only [ofNat_nI, nI_add, pk_mul, nI_clamp, nI_leI, nI_ltI, nI_eq, vp_in_nI_iff, nI_subr, nI_m1r, m1_eq, m1_eq2, m1_le, m1_le2, m1_lt, m1_lt2, m1_self, cv_sub, cv_add1, cv_eq, cv_eqI, cv_eqI2, cv_m1, cv_lt0, cv_leI, cv_Ile, cv_le, cv_lt, cv_Ilt, cv_ltI, not_true, not_false_iff, true_implies, false_implies, false_or, or_false, true_and, and_true, false_and, and_false, true_or, or_true]
        omega
      · simp (disch := omega) only [ofNat_nI, nI_add, pk_mul, nI_clamp, nI_leI, nI_ltI, nI_eq, vp_in_nI_iff, nI_subr, nI_m1r, m1_eq, m1_eq2, m1_le, m1_le2, m1_lt, m1_lt2, m1_self, cv_sub, cv_add1, cv_eq, cv_eqI, cv_eqI2, cv_m1, cv_lt0, cv_leI, cv_Ile, cv_le, cv_lt, cv_Ilt, cv_ltI, not_true, not_false_iff, true_implies, false_implies, false_or, or_false, true_and, and_true, false_and, and_false, true_or, or_true]
        omega
      · simp (disch := omega) only [ofNat_nI, nI_add, pk_mul, nI_clamp, nI_leI, nI_ltI, nI_eq, vp_in_nI_iff, nI_subr, nI_m1r, m1_eq, m1_eq2, m1_le, m1_le2, m1_lt, m1_lt2, m1_self, cv_sub, cv_add1, cv_eq, cv_eqI, cv_eqI2, cv_m1, cv_lt0, cv_leI, cv_Ile, cv_le, cv_lt, cv_Ilt, cv_ltI, not_true, not_false_iff, true_implies, false_implies, false_or, or_false, true_and, and_true, false_and, and_false, true_or, or_true]
        omega
      · intro _
        simp (disch := omega) only [ofNat_nI, nI_add, pk_mul, nI_clamp, nI_leI, nI_ltI, nI_eq, vp_in_nI_iff, nI_subr, nI_m1r, m1_eq, m1_eq2, m1_le, m1_le2, m1_lt, m1_lt2, m1_self, cv_sub, cv_add1, cv_eq, cv_eqI, cv_eqI2, cv_m1, cv_lt0, cv_leI, cv_Ile, cv_le, cv_lt, cv_Ilt, cv_ltI, not_true, not_false_iff, true_implies, false_implies, false_or, or_false, true_and, and_true, false_and, and_false, true_or, or_true]
        rw [ms_mrw, mrw_ne hc]
        refine ih (i + 1) _ (by omega) (fun j hj => ?_) (fun j hj => ?_)
        · rw [upd_at]
          by_cases q : j = i
          · rw [if_pos (by omega), q]
          · rw [if_neg (by omega)]
            exact h1 j (by omega)
        · rw [upd_at, if_neg (by omega)]
          exact h3 j (by omega)
  have := loop 673 0 (μ c2) (by omega) (fun j hj => by omega) (fun j hj => rfl)
  rw [mrw_self] at this
  exact this

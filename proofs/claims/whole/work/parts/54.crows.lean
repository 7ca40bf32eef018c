/-! THE CLASS: rows; states copied -/
def RowsC (q : Nat) (n : Nat) (R : Nat → Nat → Nat) (t : Nat → Nat) (μ : mM) : Prop := μ q 0 = nI n ∧ (∀ j, j < n → μ (q + 1) j = rowI (R j)) ∧ ∀ j, j < n → μ (q + 2) j = nI (t j)
theorem RowsC.of {q n : Nat} {R : Nat → Nat → Nat} {t : Nat → Nat} {μ μ' : mM} (h : RowsC q n R t μ) (e0 : μ' q = μ q) (e1 : μ' (q + 1) = μ (q + 1)) (e2 : μ' (q + 2) = μ (q + 2)) : RowsC q n R t μ' := by
  unfold RowsC
  rw [e0, e1, e2]
  exact h
theorem cpyOk_n {n : Nat} (h : n ≤ 64) : cpyOk 0 0 (nI n) 64 64 := by
  unfold cpyOk
  have z : ((0 : Int32)).toNatClampNeg = 0 := rfl
  refine ⟨by decide, by decide, nI_pos (by omega), ?_, ?_⟩
  · rw [z, nI_clamp (by omega)]; omega
  · rw [z, nI_clamp (by omega)]; omega
theorem s_rowsCopy {G : mG} {Q : mM → Prop} {μ : mM} {a b n : Nat} {R : Nat → Nat → Nat} {t : Nat → Nat} (h0 : sh a = (0, 6)) (h1 : sh b = (0, 6)) (hab : a + 3 ≤ b ∨ b + 3 ≤ a) (hn : n ≤ 64) (hr : RowsC b n R t μ) (k : ∀ μ', Fr [a, a + 1, a + 2] μ μ' → RowsC a n R t μ' → Q μ') : CtV G mX7_copyFrom [.ref (gb G + a), .ref (gb G + b)] μ Q := by
  obtain ⟨r0, r1, r2⟩ := hr
  have e0 : ms μ a 0 (μ b 0) a 0 = nI n := by rw [ms_row, upd_at, if_pos rfl, r0]
  have e1 : ∀ x, cpy (ms μ a 0 (μ b 0)) (b + 1) (a + 1) 0 0 x a 0 = nI n := fun x => by rw [cpy_ne (by omega)]; exact e0
  refine a_X7_copyFrom h0 h1 (by rw [e0]; exact cpyOk_n hn) (by rw [e1]; exact cpyOk_n hn) ?_
  rw [e1, e0]
  refine k _ ((((Fr.rf _ μ).ms (by simp)).cpy (by simp)).cpy (by simp)) ⟨?_, fun j hj => ?_, fun j hj => ?_⟩
  · rw [cpy_ne (by omega), cpy_ne (by omega)]; exact e0
  · rw [cpy_ne (by omega), cpy_at hj (by omega), ms_ne (by omega)]; exact r1 j hj
  · rw [cpy_at hj (by omega), cpy_ne (by omega), ms_ne (by omega)]; exact r2 j hj
theorem s_append {G : mG} {Q : mM → Prop} {μ : mM} {a n : Nat} {R : Nat → Nat → Nat} {t r : Nat → Nat} (h0 : sh a = (0, 6)) (hn : n < 64) (hr : RowsC a n R t μ) (k : ∀ μ', Fr [a, a + 1, a + 2] μ μ' → RowsC a (n + 1) (psh R n r) (psh t n 0) μ' → Q μ') : CtV G mX7_append [.ref (gb G + a), .int (rowI r)] μ Q := by
  obtain ⟨r0, r1, r2⟩ := hr
  have e0 : ∀ v w, ms μ (a + 1) v w a 0 = nI n := fun v w => by rw [ms_ne (by omega)]; exact r0
  refine a_X7_append h0 (fun z => ?_) (fun _ => ?_) (fun _ => ?_) (fun _ => ?_)
  · exfalso
    revert z
    rw [r0]
    simp (disch := omega) only [ofNat_nI, nI_add, pk_mul, nI_clamp, nI_leI, nI_ltI, nI_eq, vp_in_nI_iff, nI_subr, nI_m1r, m1_eq, m1_eq2, m1_le, m1_le2, m1_lt, m1_lt2, m1_self, cv_sub, cv_add1, cv_eq, cv_eqI, cv_eqI2, cv_m1, cv_lt0, cv_leI, cv_Ile, cv_le, cv_lt, cv_Ilt, cv_ltI, not_true, not_false_iff, true_implies, false_implies, false_or, or_false, true_and, and_true, false_and, and_false, true_or, or_true]
    omega
  · rw [r0]
    simp (disch := omega) only [ofNat_nI, nI_add, pk_mul, nI_clamp, nI_leI, nI_ltI, nI_eq, vp_in_nI_iff, nI_subr, nI_m1r, m1_eq, m1_eq2, m1_le, m1_le2, m1_lt, m1_lt2, m1_self, cv_sub, cv_add1, cv_eq, cv_eqI, cv_eqI2, cv_m1, cv_lt0, cv_leI, cv_Ile, cv_le, cv_lt, cv_Ilt, cv_ltI, not_true, not_false_iff, true_implies, false_implies, false_or, or_false, true_and, and_true, false_and, and_false, true_or, or_true]
    omega
  · rw [e0]
    simp (disch := omega) only [ofNat_nI, nI_add, pk_mul, nI_clamp, nI_leI, nI_ltI, nI_eq, vp_in_nI_iff, nI_subr, nI_m1r, m1_eq, m1_eq2, m1_le, m1_le2, m1_lt, m1_lt2, m1_self, cv_sub, cv_add1, cv_eq, cv_eqI, cv_eqI2, cv_m1, cv_lt0, cv_leI, cv_Ile, cv_le, cv_lt, cv_Ilt, cv_ltI, not_true, not_false_iff, true_implies, false_implies, false_or, or_false, true_and, and_true, false_and, and_false, true_or, or_true]
    omega
  · have e2 : ∀ v w v' w', ms (ms μ (a + 1) v w) (a + 2) v' w' a 0 = nI n := fun v w v' w' => by rw [ms_ne (by omega)]; exact e0 v w
    rw [e2, e0, r0, nI_clamp (by omega), show nI n + 1 = nI (n + 1) from nI_1 n]
    refine k _ ((((Fr.rf _ μ).ms (by simp)).ms (by simp)).ms (by simp)) ⟨?_, fun j hj => ?_, fun j hj => ?_⟩
    · rw [ms_row, upd_at, if_pos rfl]
    · rw [ms_ne (by omega), ms_ne (by omega), ms_row, upd_at]
      unfold psh
      by_cases q : j = n
      · rw [if_pos q, if_pos q]
      · rw [if_neg q, if_neg q]; exact r1 j (by omega)
    · rw [ms_ne (by omega), ms_row, upd_at, ms_ne (by omega)]
      unfold psh
      by_cases q : j = n
      · rw [if_pos q, if_pos q]; rfl
      · rw [if_neg q, if_neg q]; exact r2 j (by omega)
theorem s_remove {G : mG} {Q : mM → Prop} {μ : mM} {a n i : Nat} {R : Nat → Nat → Nat} {t : Nat → Nat} (h0 : sh a = (0, 6)) (hn : n ≤ 64) (hi : i < n) (hr : RowsC a n R t μ) (k : ∀ μ', Fr [a, a + 1, a + 2] μ μ' → RowsC a (n - 1) (rmv R i) (rmv t i) μ' → Q μ') : CtV G mX7_remove [.ref (gb G + a), .int (nI i)] μ Q := by
  obtain ⟨r0, r1, r2⟩ := hr
  have en : nI n - 1 = nI (n - 1) := by rw [show (1 : Int32) = nI 1 from rfl, nI_subr (by omega)]
  have e0 : ms μ a 0 (μ a 0 - 1) a 0 - nI i = nI (n - 1 - i) := by rw [ms_row, upd_at, if_pos rfl, r0, en, nI_subr (by omega)]
  have ei : nI i + 1 = nI (i + 1) := nI_1 i
  have e1 : ∀ s d x, cpy (ms μ a 0 (μ a 0 - 1)) (a + 1) (a + 1) s d x a 0 - nI i = nI (n - 1 - i) := fun s d x => by rw [cpy_ne (by omega)]; exact e0
  have hok : cpyOk (nI (i + 1)) (nI i) (nI (n - 1 - i)) 64 64 := by
    unfold cpyOk
    rw [nI_clamp (by omega), nI_clamp (by omega), nI_clamp (by omega)]
    exact ⟨nI_pos (by omega), nI_pos (by omega), nI_pos (by omega), by omega, by omega⟩
  have cin : ∀ (μ' : mM) (c j : Nat), j < n - 1 → cpy μ' c c (nI (i + 1)) (nI i) (nI (n - 1 - i)) c j = if j < i then μ' c j else μ' c (j + 1) := fun μ' c j hj => by
    unfold cpy
    rw [if_pos rfl, nI_clamp (by omega), nI_clamp (by omega), nI_clamp (by omega)]
    by_cases q : j < i
    · rw [pk_cpy_out (Or.inl q), if_pos q]
    · rw [pk_cpy_in (by omega) (by omega), if_neg q]
      congr 1
      omega
  refine a_X7_remove h0 (by rw [e0, ei]; exact hok) (by rw [e1, ei]; exact hok) ?_
  rw [e1, e0, ei]
  refine k _ ((((Fr.rf _ μ).ms (by simp)).cpy (by simp)).cpy (by simp)) ⟨?_, fun j hj => ?_, fun j hj => ?_⟩
  · rw [cpy_ne (by omega), cpy_ne (by omega), ms_row, upd_at, if_pos rfl, r0, en]
  · rw [cpy_ne (by omega), cin _ _ _ hj, ms_ne (by omega)]
    unfold rmv
    by_cases q : j < i
    · rw [if_pos q, if_pos q]; exact r1 j (by omega)
    · rw [if_neg q, if_neg q]; exact r1 (j + 1) (by omega)
  · rw [cin _ _ _ hj, cpy_ne (by omega), ms_ne (by omega)]
    unfold rmv
    by_cases q : j < i
    · rw [if_pos q, if_pos q]; exact r2 j (by omega)
    · rw [if_neg q, if_neg q]; exact r2 (j + 1) (by omega)
theorem s_firstThatHas {G : mG} {Q : Int32 → mM → Prop} {μ : mM} {a n m : Nat} {P : Pl} {R : Nat → Nat → Nat} {t : Nat → Nat} (h0 : sh a = (0, 6)) (h : PW P) (hn : n ≤ 64) (hm : m < MM P) (hr : RowsC a n R t μ) (k : Q (fstN P R m n 0) μ) : CtI G mX7_firstThatHas [.ref (gb G + a), .int (rowI (mrow P m))] μ Q := by
  obtain ⟨r0, r1, r2⟩ := hr
  refine e_X7_firstThatHas h0 fun E C => k_X7_firstThatHas_0 C h0 ?_
  have loop : ∀ (d j : Nat), j + d = n → fstN P R m d j = fstN P R m n 0 → Wm G mX7_firstThatHas E (bm G mX7_firstThatHas E (pI Q)) μ 2 [(0, .ref (gb G + a)), (1, .int (rowI (mrow P m))), (2, .int (nI j))] [] := by
    intro d
    induction d with
    | zero =>
      intro j hj e
      rw [← e] at k
      refine k_X7_firstThatHas_2 C h0 (fun _ => k) (fun z => ?_) (fun z => ?_) (fun z => ?_)
      all_goals
        exfalso
        revert z
        rw [r0]
        simp (disch := omega) only [ofNat_nI, nI_add, pk_mul, nI_clamp, nI_leI, nI_ltI, nI_eq, vp_in_nI_iff, nI_subr, nI_m1r, m1_eq, m1_eq2, m1_le, m1_le2, m1_lt, m1_lt2, m1_self, cv_sub, cv_add1, cv_eq, cv_eqI, cv_eqI2, cv_m1, cv_lt0, cv_leI, cv_Ile, cv_le, cv_lt, cv_Ilt, cv_ltI, not_true, not_false_iff, true_implies, false_implies, false_or, or_false, true_and, and_true, false_and, and_false, true_or, or_true]
        omega
    | succ d ih =>
      intro j hj e
      have er : μ (a + 1) (nI j).toNatClampNeg = rowI (R j) := by rw [nI_clamp (by omega)]; exact r1 j (by omega)
      rw [fstN] at e
      refine k_X7_firstThatHas_2 C h0 (fun z => ?_) (fun _ => ?_) (fun _ z => ?_) (fun _ z => ?_)
      · exfalso
        revert z
        rw [r0]
        simp (disch := omega) only [ofNat_nI, nI_add, pk_mul, nI_clamp, nI_leI, nI_ltI, nI_eq, vp_in_nI_iff, nI_subr, nI_m1r, m1_eq, m1_eq2, m1_le, m1_le2, m1_lt, m1_lt2, m1_self, cv_sub, cv_add1, cv_eq, cv_eqI, cv_eqI2, cv_m1, cv_lt0, cv_leI, cv_Ile, cv_le, cv_lt, cv_Ilt, cv_ltI, not_true, not_false_iff, true_implies, false_implies, false_or, or_false, true_and, and_true, false_and, and_false, true_or, or_true]
        omega
      · simp (disch := omega) only [ofNat_nI, nI_add, pk_mul, nI_clamp, nI_leI, nI_ltI, nI_eq, vp_in_nI_iff, nI_subr, nI_m1r, m1_eq, m1_eq2, m1_le, m1_le2, m1_lt, m1_lt2, m1_self, cv_sub, cv_add1, cv_eq, cv_eqI, cv_eqI2, cv_m1, cv_lt0, cv_leI, cv_Ile, cv_le, cv_lt, cv_Ilt, cv_ltI, not_true, not_false_iff, true_implies, false_implies, false_or, or_false, true_and, and_true, false_and, and_false, true_or, or_true]
        omega
      · rw [er, mrow_sub h hm] at z
        rw [if_neg z] at e
        simp (disch := omega) only [ofNat_nI, nI_add, pk_mul, nI_clamp, nI_leI, nI_ltI, nI_eq, vp_in_nI_iff, nI_subr, nI_m1r, m1_eq, m1_eq2, m1_le, m1_le2, m1_lt, m1_lt2, m1_self, cv_sub, cv_add1, cv_eq, cv_eqI, cv_eqI2, cv_m1, cv_lt0, cv_leI, cv_Ile, cv_le, cv_lt, cv_Ilt, cv_ltI, not_true, not_false_iff, true_implies, false_implies, false_or, or_false, true_and, and_true, false_and, and_false, true_or, or_true]
        exact ih (j + 1) (by omega) e
      · rw [er, mrow_sub h hm] at z
        rw [if_pos z] at e
        rw [e]
        exact k
  exact loop n 0 (by omega) rfl
theorem bits_fr {P : Pl} (h : PW P) {r : Nat → Nat} (hr : ∀ c, r c ≤ qL P c) : sm 8 (fun c => (decide (r c ≠ 0)).toNat) + frN P r = qC P := by
  have hC8 := h.ct.2.2.2
  have e1 : sm 8 (fun c => (decide (r c ≠ 0)).toNat) = sm (qC P) (fun c => (decide (r c ≠ 0)).toNat) := by
    rw [show 8 = qC P + (8 - qC P) by omega, sm_app, sm_zero (n := 8 - qC P) (fun i hi => by
      have := hr (qC P + i)
      rw [h.2.2.2.1 _ (by omega)] at this
      rw [decide_eq_false (by omega)]
      rfl), Nat.add_zero]
  rw [e1]
  unfold frN
  rw [← sm_add]
  have : ∀ n, sm n (fun c => (decide (r c ≠ 0)).toNat + (decide (r c = 0)).toNat) = n := by
    intro n
    induction n with
    | zero => rfl
    | succ n ih =>
      rw [sm, ih]
      by_cases q : r n = 0
      · rw [decide_eq_false (fun z => z q), decide_eq_true q]; rfl
      · rw [decide_eq_true q, decide_eq_false q]; rfl
  exact this _
theorem s_wholeOnes {G : mG} {Q : Int32 → mM → Prop} {μ : mM} {a n : Nat} {P : Pl} {R : Nat → Nat → Nat} {t : Nat → Nat} (h0 : sh a = (0, 6)) (h : PW P) (hn : n ≤ 64) (hr : RowsC a n R t μ) (hR : ∀ j, j < n → ∀ c, R j c ≤ qL P c) (k : Q (nI (whN P n R)) μ) : CtI G mX7_wholeOnes [.ref (gb G + a), .int (nI (qC P))] μ Q := by
  obtain ⟨r0, r1, r2⟩ := hr
  have hC8 := h.ct.2.2.2
  refine e_X7_wholeOnes h0 fun E C => k_X7_wholeOnes_0 C h0 ?_
  refine lp_up (W := fun j => Wm G mX7_wholeOnes E (bm G mX7_wholeOnes E (pI Q)) μ 4 [(0, .ref (gb G + a)), (1, .int (nI (qC P))), (2, .int (nI (whN P j R))), (3, .int (nI j))] []) n ?_ (fun j hj ih => ?_)
  · refine k_X7_wholeOnes_4 C h0 (fun _ => k) (fun z => ?_) (fun z => ?_)
    all_goals
      exfalso
      revert z
      rw [r0]
      simp (disch := omega) only [ofNat_nI, nI_add, pk_mul, nI_clamp, nI_leI, nI_ltI, nI_eq, vp_in_nI_iff, nI_subr, nI_m1r, m1_eq, m1_eq2, m1_le, m1_le2, m1_lt, m1_lt2, m1_self, cv_sub, cv_add1, cv_eq, cv_eqI, cv_eqI2, cv_m1, cv_lt0, cv_leI, cv_Ile, cv_le, cv_lt, cv_Ilt, cv_ltI, not_true, not_false_iff, true_implies, false_implies, false_or, or_false, true_and, and_true, false_and, and_false, true_or, or_true]
      omega
  · refine k_X7_wholeOnes_4 C h0 (fun z => ?_) (fun _ => ?_) (fun _ => ?_)
    · exfalso
      revert z
      rw [r0]
      simp (disch := omega) only [ofNat_nI, nI_add, pk_mul, nI_clamp, nI_leI, nI_ltI, nI_eq, vp_in_nI_iff, nI_subr, nI_m1r, m1_eq, m1_eq2, m1_le, m1_le2, m1_lt, m1_lt2, m1_self, cv_sub, cv_add1, cv_eq, cv_eqI, cv_eqI2, cv_m1, cv_lt0, cv_leI, cv_Ile, cv_le, cv_lt, cv_Ilt, cv_ltI, not_true, not_false_iff, true_implies, false_implies, false_or, or_false, true_and, and_true, false_and, and_false, true_or, or_true]
      omega
    · simp (disch := omega) only [ofNat_nI, nI_add, pk_mul, nI_clamp, nI_leI, nI_ltI, nI_eq, vp_in_nI_iff, nI_subr, nI_m1r, m1_eq, m1_eq2, m1_le, m1_le2, m1_lt, m1_lt2, m1_self, cv_sub, cv_add1, cv_eq, cv_eqI, cv_eqI2, cv_m1, cv_lt0, cv_leI, cv_Ile, cv_le, cv_lt, cv_Ilt, cv_ltI, not_true, not_false_iff, true_implies, false_implies, false_or, or_false, true_and, and_true, false_and, and_false, true_or, or_true]
      omega
    · have er : μ (a + 1) (nI j).toNatClampNeg = rowI (R j) := by rw [nI_clamp (by omega)]; exact r1 j hj
      rw [er]
      refine s_bitCount (k_X7_wholeOnes_22 C h0 fun v hv => ?_)
      have hb := bits_fr h (hR j hj)
      rw [bc_row (fun c _ => RwOk.le4 h (hR j hj) c)] at hv
      have ev : v = nI (decide (frN P (R j) = 0)).toNat := phD (A := nI (sm 8 (fun c => (decide (R j c ≠ 0)).toNat)) = nI (qC P)) (by
        rw [nI_eq (by omega) (by omega)]
        omega) hv
      rw [ev]
      simp (disch := omega) only [ofNat_nI, nI_add, pk_mul, nI_clamp, nI_leI, nI_ltI, nI_eq, vp_in_nI_iff, nI_subr, nI_m1r, m1_eq, m1_eq2, m1_le, m1_le2, m1_lt, m1_lt2, m1_self, cv_sub, cv_add1, cv_eq, cv_eqI, cv_eqI2, cv_m1, cv_lt0, cv_leI, cv_Ile, cv_le, cv_lt, cv_Ilt, cv_ltI, not_true, not_false_iff, true_implies, false_implies, false_or, or_false, true_and, and_true, false_and, and_false, true_or, or_true]
      exact ih
theorem s_freeCells {G : mG} {Q : Int32 → mM → Prop} {μ : mM} {a n : Nat} {P : Pl} {R : Nat → Nat → Nat} {t : Nat → Nat} (h0 : sh a = (0, 6)) (h : PW P) (hn : n ≤ 64) (hr : RowsC a n R t μ) (hR : ∀ j, j < n → ∀ c, R j c ≤ qL P c) (k : Q (nI (fcN P n R)) μ) : CtI G mX7_freeCells [.ref (gb G + a), .int (nI (qC P))] μ Q := by
  obtain ⟨r0, r1, r2⟩ := hr
  have hC8 := h.ct.2.2.2
  refine e_X7_freeCells h0 fun E C => k_X7_freeCells_0 C h0 ?_
  refine lp_up (W := fun j => Wm G mX7_freeCells E (bm G mX7_freeCells E (pI Q)) μ 4 [(0, .ref (gb G + a)), (1, .int (nI (qC P))), (2, .int (nI (fcN P j R))), (3, .int (nI j))] []) n ?_ (fun j hj ih => ?_)
  · refine k_X7_freeCells_4 C h0 (fun _ => k) (fun z => ?_) (fun z => ?_)
    all_goals
      exfalso
      revert z
      rw [r0]
      simp (disch := omega) only [ofNat_nI, nI_add, pk_mul, nI_clamp, nI_leI, nI_ltI, nI_eq, vp_in_nI_iff, nI_subr, nI_m1r, m1_eq, m1_eq2, m1_le, m1_le2, m1_lt, m1_lt2, m1_self, cv_sub, cv_add1, cv_eq, cv_eqI, cv_eqI2, cv_m1, cv_lt0, cv_leI, cv_Ile, cv_le, cv_lt, cv_Ilt, cv_ltI, not_true, not_false_iff, true_implies, false_implies, false_or, or_false, true_and, and_true, false_and, and_false, true_or, or_true]
      omega
  · refine k_X7_freeCells_4 C h0 (fun z => ?_) (fun _ => ?_) (fun _ => ?_)
    · exfalso
      revert z
      rw [r0]
      simp (disch := omega) only [ofNat_nI, nI_add, pk_mul, nI_clamp, nI_leI, nI_ltI, nI_eq, vp_in_nI_iff, nI_subr, nI_m1r, m1_eq, m1_eq2, m1_le, m1_le2, m1_lt, m1_lt2, m1_self, cv_sub, cv_add1, cv_eq, cv_eqI, cv_eqI2, cv_m1, cv_lt0, cv_leI, cv_Ile, cv_le, cv_lt, cv_Ilt, cv_ltI, not_true, not_false_iff, true_implies, false_implies, false_or, or_false, true_and, and_true, false_and, and_false, true_or, or_true]
      omega
    · simp (disch := omega) only [ofNat_nI, nI_add, pk_mul, nI_clamp, nI_leI, nI_ltI, nI_eq, vp_in_nI_iff, nI_subr, nI_m1r, m1_eq, m1_eq2, m1_le, m1_le2, m1_lt, m1_lt2, m1_self, cv_sub, cv_add1, cv_eq, cv_eqI, cv_eqI2, cv_m1, cv_lt0, cv_leI, cv_Ile, cv_le, cv_lt, cv_Ilt, cv_ltI, not_true, not_false_iff, true_implies, false_implies, false_or, or_false, true_and, and_true, false_and, and_false, true_or, or_true]
      omega
    · have er : μ (a + 1) (nI j).toNatClampNeg = rowI (R j) := by rw [nI_clamp (by omega)]; exact r1 j hj
      rw [er]
      refine s_bitCount (k_X7_freeCells_23 C h0 ?_)
      have hb := bits_fr h (hR j hj)
      have e : nI (qC P) - nI (sm 8 (fun c => (decide (R j c ≠ 0)).toNat)) = nI (frN P (R j)) := by
        rw [nI_subr (by omega)]
        congr 1
        omega
      rw [bc_row (fun c _ => RwOk.le4 h (hR j hj) c), e]
      simp (disch := omega) only [ofNat_nI, nI_add, pk_mul, nI_clamp, nI_leI, nI_ltI, nI_eq, vp_in_nI_iff, nI_subr, nI_m1r, m1_eq, m1_eq2, m1_le, m1_le2, m1_lt, m1_lt2, m1_self, cv_sub, cv_add1, cv_eq, cv_eqI, cv_eqI2, cv_m1, cv_lt0, cv_leI, cv_Ile, cv_le, cv_lt, cv_Ilt, cv_ltI, not_true, not_false_iff, true_implies, false_implies, false_or, or_false, true_and, and_true, false_and, and_false, true_or, or_true]
      exact ih
theorem s_toldAs {G : mG} {Q : Int32 → mM → Prop} {μ : mM} {a n how : Nat} {R : Nat → Nat → Nat} {t : Nat → Nat} (h0 : sh a = (0, 6)) (hn : n ≤ 64) (hh : how ≤ 2) (hr : RowsC a n R t μ) (ht : ∀ j, j < n → t j ≤ 2) (k : Q (nI (toN n t how)) μ) : CtI G mX7_toldAs [.ref (gb G + a), .int (nI how)] μ Q := by
  obtain ⟨r0, r1, r2⟩ := hr
  refine e_X7_toldAs h0 fun E C => k_X7_toldAs_0 C h0 ?_
  refine lp_up (W := fun j => Wm G mX7_toldAs E (bm G mX7_toldAs E (pI Q)) μ 4 [(0, .ref (gb G + a)), (1, .int (nI how)), (2, .int (nI (toN j t how))), (3, .int (nI j))] []) n ?_ (fun j hj ih => ?_)
  · refine k_X7_toldAs_4 C h0 (fun _ => k) (fun z => ?_) (fun z => ?_)
    all_goals
      exfalso
      revert z
      rw [r0]
      simp (disch := omega) only [ofNat_nI, nI_add, pk_mul, nI_clamp, nI_leI, nI_ltI, nI_eq, vp_in_nI_iff, nI_subr, nI_m1r, m1_eq, m1_eq2, m1_le, m1_le2, m1_lt, m1_lt2, m1_self, cv_sub, cv_add1, cv_eq, cv_eqI, cv_eqI2, cv_m1, cv_lt0, cv_leI, cv_Ile, cv_le, cv_lt, cv_Ilt, cv_ltI, not_true, not_false_iff, true_implies, false_implies, false_or, or_false, true_and, and_true, false_and, and_false, true_or, or_true]
      omega
  · refine k_X7_toldAs_4 C h0 (fun z => ?_) (fun _ => ?_) (fun _ v hv => ?_)
    · exfalso
      revert z
      rw [r0]
      simp (disch := omega) only [ofNat_nI, nI_add, pk_mul, nI_clamp, nI_leI, nI_ltI, nI_eq, vp_in_nI_iff, nI_subr, nI_m1r, m1_eq, m1_eq2, m1_le, m1_le2, m1_lt, m1_lt2, m1_self, cv_sub, cv_add1, cv_eq, cv_eqI, cv_eqI2, cv_m1, cv_lt0, cv_leI, cv_Ile, cv_le, cv_lt, cv_Ilt, cv_ltI, not_true, not_false_iff, true_implies, false_implies, false_or, or_false, true_and, and_true, false_and, and_false, true_or, or_true]
      omega
    · simp (disch := omega) only [ofNat_nI, nI_add, pk_mul, nI_clamp, nI_leI, nI_ltI, nI_eq, vp_in_nI_iff, nI_subr, nI_m1r, m1_eq, m1_eq2, m1_le, m1_le2, m1_lt, m1_lt2, m1_self, cv_sub, cv_add1, cv_eq, cv_eqI, cv_eqI2, cv_m1, cv_lt0, cv_leI, cv_Ile, cv_le, cv_lt, cv_Ilt, cv_ltI, not_true, not_false_iff, true_implies, false_implies, false_or, or_false, true_and, and_true, false_and, and_false, true_or, or_true]
      omega
    · have er : μ (a + 2) (nI j).toNatClampNeg = nI (t j) := by rw [nI_clamp (by omega)]; exact r2 j hj
      have := ht j hj
      rw [er] at hv
      rw [phD (nI_eq (by omega) (by omega)) hv]
      simp (disch := omega) only [ofNat_nI, nI_add, pk_mul, nI_clamp, nI_leI, nI_ltI, nI_eq, vp_in_nI_iff, nI_subr, nI_m1r, m1_eq, m1_eq2, m1_le, m1_le2, m1_lt, m1_lt2, m1_self, cv_sub, cv_add1, cv_eq, cv_eqI, cv_eqI2, cv_m1, cv_lt0, cv_leI, cv_Ile, cv_le, cv_lt, cv_Ilt, cv_ltI, not_true, not_false_iff, true_implies, false_implies, false_or, or_false, true_and, and_true, false_and, and_false, true_or, or_true]
      exact ih
/-- a state of the class -/
def StC (a : Nat) (s : Ps) (μ : mM) : Prop := PlC (a + 1) (zP s) μ ∧ RowsC (a + 5) (zn s) (zR s) (zt s) μ ∧ μ a 2 = nI (zx s)
theorem StC.of {a : Nat} {s : Ps} {μ μ' : mM} (h : StC a s μ) (e : ∀ i, i < 8 → μ' (a + i) = μ (a + i)) : StC a s μ' := by
  obtain ⟨h1, h2, h3⟩ := h
  refine ⟨h1.of (e 1 (by omega)) (e 2 (by omega)) (e 3 (by omega)) (e 4 (by omega)), h2.of (e 5 (by omega)) (e 6 (by omega)) (e 7 (by omega)), ?_⟩
  have := e 0 (by omega)
  rw [Nat.add_zero] at this
  rw [this]
  exact h3
theorem PsOk.c8 {s : Ps} (h : PsOk s) : qC (zP s) ≤ 8 ∧ qN (zP s) ≤ 12 := by
  by_cases q : zC s = 0
  · have h1 : qC (zP s) = 0 := q
    have := (h.2.2.1 q).2
    omega
  · have hW := (h.2.2.2 q).1.1
    exact ⟨hW.ct.2.2.2, hW.2.2.2.2.1⟩
abbrev sk8 (a : Nat) : List Nat := [a, a + 1, a + 2, a + 3, a + 4, a + 5, a + 6, a + 7]
theorem s_copyState {G : mG} {Q : mM → Prop} {μ : mM} {a b : Nat} {s : Ps} (h0 : sh a = (0, 7)) (h1 : sh b = (0, 7)) (h0a : sh (a + 1) = (0, 3)) (h0b : sh (a + 5) = (0, 6)) (h1a : sh (b + 1) = (0, 3)) (h1b : sh (b + 5) = (0, 6)) (hab : a + 8 ≤ b ∨ b + 8 ≤ a) (hs : PsOk s) (hp : StC b s μ) (k : ∀ μ', Fr (sk8 a) μ μ' → StC a s μ' → Q μ') : CtV G mX8_copyFrom [.ref (gb G + a), .ref (gb G + b)] μ Q := by
  obtain ⟨p1, p2, p3⟩ := hp
  refine e_X8_copyFrom h0 h1 fun E C => k_X8_copyFrom_0 C h0 h1 ?_
  refine s_copyPlan h0a h1a (by omega) hs.c8.1 hs.c8.2 p1 fun μ1 F1 q1 => k_X8_copyFrom_11 C h0 h1 ?_
  have F1' : Fr (sk8 a) μ μ1 := F1.mono (by simp)
  have n1 : ∀ c, c ∉ sk8 a → μ1 c = μ c := fun c hc => F1' c hc
  have nb : ∀ i, i < 8 → b + i ∉ sk8 a := fun i hi => by simp; omega
  refine s_rowsCopy h0b h1b (by omega) hs.2.1 (p2.of (n1 _ (nb 5 (by omega))) (n1 _ (nb 6 (by omega))) (n1 _ (nb 7 (by omega)))) fun μ2 F2 q2 => k_X8_copyFrom_22 C h0 h1 ?_
  have F2' : Fr (sk8 a) μ1 μ2 := F2.mono (by simp)
  have n2 : ∀ c, c ∉ sk8 a → μ2 c = μ1 c := fun c hc => F2' c hc
  have eb : μ2 b 2 = nI (zx s) := by
    rw [n2 b (nb 0 (by omega)), n1 b (nb 0 (by omega))]
    exact p3
  rw [eb]
  refine k _ ((F1'.tr F2').ms (by simp)) ⟨?_, ?_, ?_⟩
  · have f : ∀ i, i < 4 → ms μ2 a 2 (nI (zx s)) (a + 1 + i) = μ1 (a + 1 + i) := fun i hi => by
      rw [ms_ne (by omega)]
      exact F2 _ (by simp; omega)
    exact q1.of (f 0 (by omega)) (f 1 (by omega)) (f 2 (by omega)) (f 3 (by omega))
  · exact q2.of (ms_ne (by omega)) (ms_ne (by omega)) (ms_ne (by omega))
  · rw [ms_row, upd_at, if_pos rfl]

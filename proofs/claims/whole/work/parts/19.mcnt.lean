/-! THE MODEL: counts, the past's array, how many mixes there would be -/
theorem phD {A p : Prop} [Decidable p] {v : Int32} (h : A ↔ p) (hv : (¬ A ∧ v = 0) ∨ (A ∧ v = 1)) : v = nI (decide p).toNat := by
  by_cases q : p
  · rw [decide_eq_true q]
    rcases hv with hv | hv
    · exact absurd (h.mpr q) hv.1
    · exact hv.2
  · rw [decide_eq_false q]
    rcases hv with hv | hv
    · exact hv.2
    · exact absurd (h.mp hv.1) q
theorem phN {A p : Prop} [Decidable p] {v : Int32} (h : A ↔ ¬ p) (hv : (¬ A ∧ v = 1) ∨ (A ∧ v = 0)) : v = nI (decide p).toNat := by
  by_cases q : p
  · rw [decide_eq_true q]
    rcases hv with hv | hv
    · exact hv.2
    · exact absurd q (h.mp hv.1)
  · rw [decide_eq_false q]
    rcases hv with hv | hv
    · exact absurd (h.mpr q) hv.1
    · exact hv.2
def canN (P : Pl) : Nat := sm (MM P) (fun m => (canB P (mrow P m)).toNat)
theorem s_canMany {G : mG} {Q : Int32 → mM → Prop} {μ : mM} {P : Pl} (hM : MM P ≤ 1200) (hX : MixM μ P) (k : Q (nI (canN P)) μ) : CtI G mX12_canMany [.ref (gb G + 132)] μ Q := by
  obtain ⟨x1, x2, x3⟩ := hX
  refine e_X12_canMany fun E C => k_X12_canMany_0 C ?_
  refine lp_up (W := fun i => Wm G mX12_canMany E (bm G mX12_canMany E (pI Q)) μ 4 [(0, .ref (gb G + 132)), (1, .int (nI (sm i (fun m => (canB P (mrow P m)).toNat)))), (2, .int (nI i))] []) (MM P) ?_ (fun m hm ih => ?_)
  · refine k_X12_canMany_4 C (fun _ => k) (fun p => ?_) (fun p => ?_)
    all_goals
      exfalso
      revert p
      rw [x1]
      simp (disch := omega) only [ofNat_nI, nI_add, pk_mul, nI_clamp, nI_leI, nI_ltI, nI_eq, vp_in_nI_iff, nI_subr, nI_m1r, m1_eq, m1_eq2, m1_le, m1_le2, m1_lt, m1_lt2, m1_self, cv_sub, cv_add1, cv_eq, cv_eqI, cv_eqI2, cv_m1, cv_lt0, cv_leI, cv_Ile, cv_le, cv_lt, cv_Ilt, cv_ltI, not_true, not_false_iff, true_implies, false_implies, false_or, or_false, true_and, and_true, false_and, and_false, true_or, or_true]
      all_goals omega
  · refine k_X12_canMany_4 C (fun p => ?_) (fun _ => ?_) (fun _ v hv => ?_)
    · exfalso
      revert p
      rw [x1]
      simp (disch := omega) only [ofNat_nI, nI_add, pk_mul, nI_clamp, nI_leI, nI_ltI, nI_eq, vp_in_nI_iff, nI_subr, nI_m1r, m1_eq, m1_eq2, m1_le, m1_le2, m1_lt, m1_lt2, m1_self, cv_sub, cv_add1, cv_eq, cv_eqI, cv_eqI2, cv_m1, cv_lt0, cv_leI, cv_Ile, cv_le, cv_lt, cv_Ilt, cv_ltI, not_true, not_false_iff, true_implies, false_implies, false_or, or_false, true_and, and_true, false_and, and_false, true_or, or_true]
      omega
    · simp (disch := omega) only [ofNat_nI, nI_add, pk_mul, nI_clamp, nI_leI, nI_ltI, nI_eq, vp_in_nI_iff, nI_subr, nI_m1r, m1_eq, m1_eq2, m1_le, m1_le2, m1_lt, m1_lt2, m1_self, cv_sub, cv_add1, cv_eq, cv_eqI, cv_eqI2, cv_m1, cv_lt0, cv_leI, cv_Ile, cv_le, cv_lt, cv_Ilt, cv_ltI, not_true, not_false_iff, true_implies, false_implies, false_or, or_false, true_and, and_true, false_and, and_false, true_or, or_true]
      omega
    · revert hv
      simp (disch := omega) only [ofNat_nI, nI_add, pk_mul, nI_clamp, nI_leI, nI_ltI, nI_eq, vp_in_nI_iff, nI_subr, nI_m1r, m1_eq, m1_eq2, m1_le, m1_le2, m1_lt, m1_lt2, m1_self, cv_sub, cv_add1, cv_eq, cv_eqI, cv_eqI2, cv_m1, cv_lt0, cv_leI, cv_Ile, cv_le, cv_lt, cv_Ilt, cv_ltI, not_true, not_false_iff, true_implies, false_implies, false_or, or_false, true_and, and_true, false_and, and_false, true_or, or_true, x3 m hm]
      intro hv
      rw [phB hv]
      simp (disch := omega) only [ofNat_nI, nI_add, pk_mul, nI_clamp, nI_leI, nI_ltI, nI_eq, vp_in_nI_iff, nI_subr, nI_m1r, m1_eq, m1_eq2, m1_le, m1_le2, m1_lt, m1_lt2, m1_self, cv_sub, cv_add1, cv_eq, cv_eqI, cv_eqI2, cv_m1, cv_lt0, cv_leI, cv_Ile, cv_le, cv_lt, cv_Ilt, cv_ltI, not_true, not_false_iff, true_implies, false_implies, false_or, or_false, true_and, and_true, false_and, and_false, true_or, or_true]
      exact ih
def frN (P : Pl) (r : Nat → Nat) : Nat := sm (qC P) (fun c => (decide (r c = 0)).toNat)
theorem frN_le (P : Pl) (r : Nat → Nat) : frN P r ≤ qC P := by
  have := sm_le (n := qC P) (B := 1) (f := fun c => (decide (r c = 0)).toNat) (fun i _ => bool_lt _)
  unfold frN
  omega
theorem s_freeIn {G : mG} {Q : Int32 → mM → Prop} {μ : mM} {P : Pl} {j : Nat} {r : Nat → Nat} (hC : qC P ≤ 8) (h0 : μ 135 0 = nI (qC P)) (hj : j < 64) (hr : RowM (μ 135) j r) (k : Q (nI (frN P r)) μ) : CtI G mX12_freeIn [.ref (gb G + 132), .int (nI j)] μ Q := by
  refine e_X12_freeIn fun E C => k_X12_freeIn_0 C ?_
  refine lp_up (W := fun i => Wm G mX12_freeIn E (bm G mX12_freeIn E (pI Q)) μ 4 [(0, .ref (gb G + 132)), (1, .int (nI j)), (2, .int (nI (sm i (fun c => (decide (r c = 0)).toNat)))), (3, .int (nI i))] []) (qC P) ?_ (fun c hc ih => ?_)
  · refine k_X12_freeIn_4 C (fun _ => k) (fun p => ?_) (fun p => ?_)
    all_goals
      exfalso
      revert p
      rw [h0]
      simp (disch := omega) only [ofNat_nI, nI_add, pk_mul, nI_clamp, nI_leI, nI_ltI, nI_eq, vp_in_nI_iff, nI_subr, nI_m1r, m1_eq, m1_eq2, m1_le, m1_le2, m1_lt, m1_lt2, m1_self, cv_sub, cv_add1, cv_eq, cv_eqI, cv_eqI2, cv_m1, cv_lt0, cv_leI, cv_Ile, cv_le, cv_lt, cv_Ilt, cv_ltI, not_true, not_false_iff, true_implies, false_implies, false_or, or_false, true_and, and_true, false_and, and_false, true_or, or_true]
      all_goals omega
  · obtain ⟨r1, r2⟩ := hr c (by omega)
    refine k_X12_freeIn_4 C (fun p => ?_) (fun _ => ?_) (fun _ v hv => ?_)
    · exfalso
      revert p
      rw [h0]
      simp (disch := omega) only [ofNat_nI, nI_add, pk_mul, nI_clamp, nI_leI, nI_ltI, nI_eq, vp_in_nI_iff, nI_subr, nI_m1r, m1_eq, m1_eq2, m1_le, m1_le2, m1_lt, m1_lt2, m1_self, cv_sub, cv_add1, cv_eq, cv_eqI, cv_eqI2, cv_m1, cv_lt0, cv_leI, cv_Ile, cv_le, cv_lt, cv_Ilt, cv_ltI, not_true, not_false_iff, true_implies, false_implies, false_or, or_false, true_and, and_true, false_and, and_false, true_or, or_true]
      omega
    · simp (disch := omega) only [ofNat_nI, nI_add, pk_mul, nI_clamp, nI_leI, nI_ltI, nI_eq, vp_in_nI_iff, nI_subr, nI_m1r, m1_eq, m1_eq2, m1_le, m1_le2, m1_lt, m1_lt2, m1_self, cv_sub, cv_add1, cv_eq, cv_eqI, cv_eqI2, cv_m1, cv_lt0, cv_leI, cv_Ile, cv_le, cv_lt, cv_Ilt, cv_ltI, not_true, not_false_iff, true_implies, false_implies, false_or, or_false, true_and, and_true, false_and, and_false, true_or, or_true]
      omega
    · revert hv
      simp (disch := omega) only [ofNat_nI, nI_add, pk_mul, nI_clamp, nI_leI, nI_ltI, nI_eq, vp_in_nI_iff, nI_subr, nI_m1r, m1_eq, m1_eq2, m1_le, m1_le2, m1_lt, m1_lt2, m1_self, cv_sub, cv_add1, cv_eq, cv_eqI, cv_eqI2, cv_m1, cv_lt0, cv_leI, cv_Ile, cv_le, cv_lt, cv_Ilt, cv_ltI, not_true, not_false_iff, true_implies, false_implies, false_or, or_false, true_and, and_true, false_and, and_false, true_or, or_true, r1]
      intro hv
      rw [phD Iff.rfl hv]
      simp (disch := omega) only [ofNat_nI, nI_add, pk_mul, nI_clamp, nI_leI, nI_ltI, nI_eq, vp_in_nI_iff, nI_subr, nI_m1r, m1_eq, m1_eq2, m1_le, m1_le2, m1_lt, m1_lt2, m1_self, cv_sub, cv_add1, cv_eq, cv_eqI, cv_eqI2, cv_m1, cv_lt0, cv_leI, cv_Ile, cv_le, cv_lt, cv_Ilt, cv_ltI, not_true, not_false_iff, true_implies, false_implies, false_or, or_false, true_and, and_true, false_and, and_false, true_or, or_true]
      exact ih
/-- whole rows; free cells -/
def whN (P : Pl) (n : Nat) (R : Nat → Nat → Nat) : Nat := sm n (fun j => (decide (frN P (R j) = 0)).toNat)
def fcN (P : Pl) (n : Nat) (R : Nat → Nat → Nat) : Nat := sm n (fun j => frN P (R j))
theorem s_freeMany {G : mG} {Q : Int32 → mM → Prop} {μ : mM} {P : Pl} {n : Nat} {R : Nat → Nat → Nat} {told : Nat → Nat} {b : Nat} (hb : b ≤ 1) (hC : qC P ≤ 8) (h0 : μ 135 0 = nI (qC P)) (hr : RowsM (μ 135) n R told)
    (k : Q (nI (if b = 1 then whN P n R else fcN P n R)) μ) : CtI G mX12_freeMany [.ref (gb G + 132), .int (nI b)] μ Q := by
  obtain ⟨r3, r64, rr, -⟩ := hr
  refine e_X12_freeMany fun E C => k_X12_freeMany_0 C ?_
  have z : nI (if b = 1 then whN P 0 R else fcN P 0 R) = 0 := by split <;> rfl
  suffices hh : Wm G mX12_freeMany E (bm G mX12_freeMany E (pI Q)) μ 4 [(0, .ref (gb G + 132)), (1, .int (nI b)), (2, .int (nI (if b = 1 then whN P 0 R else fcN P 0 R))), (3, .int (nI 0))] [] by
    rw [z] at hh
    exact hh
  refine lp_up (W := fun i => Wm G mX12_freeMany E (bm G mX12_freeMany E (pI Q)) μ 4 [(0, .ref (gb G + 132)), (1, .int (nI b)), (2, .int (nI (if b = 1 then whN P i R else fcN P i R))), (3, .int (nI i))] []) n ?_ (fun j hj ih => ?_)
  · refine k_X12_freeMany_4 C (fun _ => k) (fun p => ?_) (fun p => ?_)
    all_goals
      exfalso
      revert p
      rw [r3]
      simp (disch := omega) only [ofNat_nI, nI_add, pk_mul, nI_clamp, nI_leI, nI_ltI, nI_eq, vp_in_nI_iff, nI_subr, nI_m1r, m1_eq, m1_eq2, m1_le, m1_le2, m1_lt, m1_lt2, m1_self, cv_sub, cv_add1, cv_eq, cv_eqI, cv_eqI2, cv_m1, cv_lt0, cv_leI, cv_Ile, cv_le, cv_lt, cv_Ilt, cv_ltI, not_true, not_false_iff, true_implies, false_implies, false_or, or_false, true_and, and_true, false_and, and_false, true_or, or_true]
      all_goals omega
  · have hf := frN_le P (R j)
    refine k_X12_freeMany_4 C (fun p => ?_) (fun _ p => ?_) (fun _ p => ?_)
    · exfalso
      revert p
      rw [r3]
      simp (disch := omega) only [ofNat_nI, nI_add, pk_mul, nI_clamp, nI_leI, nI_ltI, nI_eq, vp_in_nI_iff, nI_subr, nI_m1r, m1_eq, m1_eq2, m1_le, m1_le2, m1_lt, m1_lt2, m1_self, cv_sub, cv_add1, cv_eq, cv_eqI, cv_eqI2, cv_m1, cv_lt0, cv_leI, cv_Ile, cv_le, cv_lt, cv_Ilt, cv_ltI, not_true, not_false_iff, true_implies, false_implies, false_or, or_false, true_and, and_true, false_and, and_false, true_or, or_true]
      omega
    · refine s_freeIn hC h0 (by omega) (rr j hj) (k_X12_freeMany_40 C ?_)
      have hb0 : b = 0 := by
        revert p
        simp (disch := omega) only [ofNat_nI, nI_add, pk_mul, nI_clamp, nI_leI, nI_ltI, nI_eq, vp_in_nI_iff, nI_subr, nI_m1r, m1_eq, m1_eq2, m1_le, m1_le2, m1_lt, m1_lt2, m1_self, cv_sub, cv_add1, cv_eq, cv_eqI, cv_eqI2, cv_m1, cv_lt0, cv_leI, cv_Ile, cv_le, cv_lt, cv_Ilt, cv_ltI, not_true, not_false_iff, true_implies, false_implies, false_or, or_false, true_and, and_true, false_and, and_false, true_or, or_true]
        exact id
      subst hb0
      simp (disch := omega) only [ofNat_nI, nI_add, pk_mul, nI_clamp, nI_leI, nI_ltI, nI_eq, vp_in_nI_iff, nI_subr, nI_m1r, m1_eq, m1_eq2, m1_le, m1_le2, m1_lt, m1_lt2, m1_self, cv_sub, cv_add1, cv_eq, cv_eqI, cv_eqI2, cv_m1, cv_lt0, cv_leI, cv_Ile, cv_le, cv_lt, cv_Ilt, cv_ltI, not_true, not_false_iff, true_implies, false_implies, false_or, or_false, true_and, and_true, false_and, and_false, true_or, or_true]
      exact ih
    · refine s_freeIn hC h0 (by omega) (rr j hj) (k_X12_freeMany_24 C (fun v hv => ?_))
      have hb1 : b = 1 := by
        revert p
        simp (disch := omega) only [ofNat_nI, nI_add, pk_mul, nI_clamp, nI_leI, nI_ltI, nI_eq, vp_in_nI_iff, nI_subr, nI_m1r, m1_eq, m1_eq2, m1_le, m1_le2, m1_lt, m1_lt2, m1_self, cv_sub, cv_add1, cv_eq, cv_eqI, cv_eqI2, cv_m1, cv_lt0, cv_leI, cv_Ile, cv_le, cv_lt, cv_Ilt, cv_ltI, not_true, not_false_iff, true_implies, false_implies, false_or, or_false, true_and, and_true, false_and, and_false, true_or, or_true]
        omega
      subst hb1
      have hv' : v = nI (decide (frN P (R j) = 0)).toNat := phZ (by omega) hv
      rw [hv']
      refine k_X12_freeMany_40 C ?_
      simp (disch := omega) only [ofNat_nI, nI_add, pk_mul, nI_clamp, nI_leI, nI_ltI, nI_eq, vp_in_nI_iff, nI_subr, nI_m1r, m1_eq, m1_eq2, m1_le, m1_le2, m1_lt, m1_lt2, m1_self, cv_sub, cv_add1, cv_eq, cv_eqI, cv_eqI2, cv_m1, cv_lt0, cv_leI, cv_Ile, cv_le, cv_lt, cv_Ilt, cv_ltI, not_true, not_false_iff, true_implies, false_implies, false_or, or_false, true_and, and_true, false_and, and_false, true_or, or_true]
      exact ih
def toN (n : Nat) (told : Nat → Nat) (how : Nat) : Nat := sm n (fun j => (decide (told j = how)).toNat)
theorem s_results {G : mG} {Q : Int32 → mM → Prop} {μ : mM} {n how : Nat} {R : Nat → Nat → Nat} {told : Nat → Nat} (hh : how ≤ 2) (hr : RowsM (μ 135) n R told) (k : Q (nI (toN n told how)) μ) : CtI G mX12_results [.ref (gb G + 132), .int (nI how)] μ Q := by
  obtain ⟨r3, r64, -, rt⟩ := hr
  refine e_X12_results fun E C => k_X12_results_0 C ?_
  refine lp_up (W := fun i => Wm G mX12_results E (bm G mX12_results E (pI Q)) μ 4 [(0, .ref (gb G + 132)), (1, .int (nI how)), (2, .int (nI (toN i told how))), (3, .int (nI i))] []) n ?_ (fun j hj ih => ?_)
  · refine k_X12_results_4 C (fun _ => k) (fun p => ?_) (fun p => ?_)
    all_goals
      exfalso
      revert p
      rw [r3]
      simp (disch := omega) only [ofNat_nI, nI_add, pk_mul, nI_clamp, nI_leI, nI_ltI, nI_eq, vp_in_nI_iff, nI_subr, nI_m1r, m1_eq, m1_eq2, m1_le, m1_le2, m1_lt, m1_lt2, m1_self, cv_sub, cv_add1, cv_eq, cv_eqI, cv_eqI2, cv_m1, cv_lt0, cv_leI, cv_Ile, cv_le, cv_lt, cv_Ilt, cv_ltI, not_true, not_false_iff, true_implies, false_implies, false_or, or_false, true_and, and_true, false_and, and_false, true_or, or_true]
      all_goals omega
  · obtain ⟨t1, t2⟩ := rt j hj
    refine k_X12_results_4 C (fun p => ?_) (fun _ => ?_) (fun _ v hv => ?_)
    · exfalso
      revert p
      rw [r3]
      simp (disch := omega) only [ofNat_nI, nI_add, pk_mul, nI_clamp, nI_leI, nI_ltI, nI_eq, vp_in_nI_iff, nI_subr, nI_m1r, m1_eq, m1_eq2, m1_le, m1_le2, m1_lt, m1_lt2, m1_self, cv_sub, cv_add1, cv_eq, cv_eqI, cv_eqI2, cv_m1, cv_lt0, cv_leI, cv_Ile, cv_le, cv_lt, cv_Ilt, cv_ltI, not_true, not_false_iff, true_implies, false_implies, false_or, or_false, true_and, and_true, false_and, and_false, true_or, or_true]
      omega
    · simp (disch := omega) only [ofNat_nI, nI_add, pk_mul, nI_clamp, nI_leI, nI_ltI, nI_eq, vp_in_nI_iff, nI_subr, nI_m1r, m1_eq, m1_eq2, m1_le, m1_le2, m1_lt, m1_lt2, m1_self, cv_sub, cv_add1, cv_eq, cv_eqI, cv_eqI2, cv_m1, cv_lt0, cv_leI, cv_Ile, cv_le, cv_lt, cv_Ilt, cv_ltI, not_true, not_false_iff, true_implies, false_implies, false_or, or_false, true_and, and_true, false_and, and_false, true_or, or_true]
      omega
    · revert hv
      simp (disch := omega) only [ofNat_nI, nI_add, pk_mul, nI_clamp, nI_leI, nI_ltI, nI_eq, vp_in_nI_iff, nI_subr, nI_m1r, m1_eq, m1_eq2, m1_le, m1_le2, m1_lt, m1_lt2, m1_self, cv_sub, cv_add1, cv_eq, cv_eqI, cv_eqI2, cv_m1, cv_lt0, cv_leI, cv_Ile, cv_le, cv_lt, cv_Ilt, cv_ltI, not_true, not_false_iff, true_implies, false_implies, false_or, or_false, true_and, and_true, false_and, and_false, true_or, or_true, t1]
      intro hv
      rw [phD Iff.rfl hv]
      simp (disch := omega) only [ofNat_nI, nI_add, pk_mul, nI_clamp, nI_leI, nI_ltI, nI_eq, vp_in_nI_iff, nI_subr, nI_m1r, m1_eq, m1_eq2, m1_le, m1_le2, m1_lt, m1_lt2, m1_self, cv_sub, cv_add1, cv_eq, cv_eqI, cv_eqI2, cv_m1, cv_lt0, cv_leI, cv_Ile, cv_le, cv_lt, cv_Ilt, cv_ltI, not_true, not_false_iff, true_implies, false_implies, false_or, or_false, true_and, and_true, false_and, and_false, true_or, or_true]
      exact ih
/-- the past's array: at most 8 lie in it, the oldest goes first -/
theorem s_keepsAct {G : mG} {Q : mM → Prop} {μ : mM} {u : Nat} (hu : u ≤ 8) (h26 : μ 132 26 = nI u)
    (k : ∀ g f : Nat → Int32, (∀ j, j < 673 * (if u = 8 then 7 else u) → g j = μ 149 (j + if u = 8 then 673 else 0)) → (∀ j, j < 673 → g (673 * (if u = 8 then 7 else u) + j) = μ 135 j) → (∀ j, j ≠ 26 → f j = μ 132 j) → f 26 = nI ((if u = 8 then 7 else u) + 1) → Q (mrw (mrw μ 149 g) 132 f)) :
    CtV G mX12_keepsAct [.ref (gb G + 132)] μ Q := by
  refine e_X12_keepsAct fun E C => k_X12_keepsAct_0 C (fun p => ?_) (fun p => ?_)
  · have hu8 : u ≠ 8 := by
      revert p
      rw [h26]
      simp (disch := omega) only [ofNat_nI, nI_add, pk_mul, nI_clamp, nI_leI, nI_ltI, nI_eq, vp_in_nI_iff, nI_subr, nI_m1r, m1_eq, m1_eq2, m1_le, m1_le2, m1_lt, m1_lt2, m1_self, cv_sub, cv_add1, cv_eq, cv_eqI, cv_eqI2, cv_m1, cv_lt0, cv_leI, cv_Ile, cv_le, cv_lt, cv_Ilt, cv_ltI, not_true, not_false_iff, true_implies, false_implies, false_or, or_false, true_and, and_true, false_and, and_false, true_or, or_true]
      exact id
    simp only [if_neg hu8] at k
    refine k_X12_keepsAct_52 C ?_
    rw [h26]
    simp (disch := omega) only [ofNat_nI, nI_add, pk_mul, nI_clamp, nI_leI, nI_ltI, nI_eq, vp_in_nI_iff, nI_subr, nI_m1r, m1_eq, m1_eq2, m1_le, m1_le2, m1_lt, m1_lt2, m1_self, cv_sub, cv_add1, cv_eq, cv_eqI, cv_eqI2, cv_m1, cv_lt0, cv_leI, cv_Ile, cv_le, cv_lt, cv_Ilt, cv_ltI, not_true, not_false_iff, true_implies, false_implies, false_or, or_false, true_and, and_true, false_and, and_false, true_or, or_true]
    refine s_copies (a := 0) (n0 := 673) (n2 := 5384) rfl rfl (by decide) (by decide) (by omega) (by decide) (by decide) fun g g1 g2 => k_X12_keepsAct_72 C ?_
    rw [mrw_ne (by decide), h26, ms_mrw0, mrw_ne (by decide)]
    simp (disch := omega) only [ofNat_nI, nI_add, pk_mul, nI_clamp, nI_leI, nI_ltI, nI_eq, vp_in_nI_iff, nI_subr, nI_m1r, m1_eq, m1_eq2, m1_le, m1_le2, m1_lt, m1_lt2, m1_self, cv_sub, cv_add1, cv_eq, cv_eqI, cv_eqI2, cv_m1, cv_lt0, cv_leI, cv_Ile, cv_le, cv_lt, cv_Ilt, cv_ltI, not_true, not_false_iff, true_implies, false_implies, false_or, or_false, true_and, and_true, false_and, and_false, true_or, or_true]
    refine k g _ (fun j hj => g2 j (by omega)) (fun j hj => by rw [g1 j hj, Nat.zero_add]) (fun j hj => by rw [upd_at, if_neg hj]) (by rw [upd_at, if_pos rfl])
  · have hu8 : u = 8 := by
      revert p
      rw [h26]
      simp (disch := omega) only [ofNat_nI, nI_add, pk_mul, nI_clamp, nI_leI, nI_ltI, nI_eq, vp_in_nI_iff, nI_subr, nI_m1r, m1_eq, m1_eq2, m1_le, m1_le2, m1_lt, m1_lt2, m1_self, cv_sub, cv_add1, cv_eq, cv_eqI, cv_eqI2, cv_m1, cv_lt0, cv_leI, cv_Ile, cv_le, cv_lt, cv_Ilt, cv_ltI, not_true, not_false_iff, true_implies, false_implies, false_or, or_false, true_and, and_true, false_and, and_false, true_or, or_true]
      exact id
    subst hu8
    simp only [if_true] at k
    have loop : ∀ (d i : Nat) (g : Nat → Int32), 673 + i + d = 5384 → (∀ j, j < i → g j = μ 149 (j + 673)) → (∀ j, i ≤ j → g j = μ 149 j) → Wm G mX12_keepsAct E (bm G mX12_keepsAct E (pV Q)) (mrw μ 149 g) 13 [(0, .ref (gb G + 132)), (1, .int (nI (673 + i)))] [] := by
      intro d
      induction d with
      | zero =>
        intro i g hi g1 g2
        refine k_X12_keepsAct_13 C (fun _ => ?_) (fun p => ?_) (fun p => ?_) (fun p => ?_)
        · rw [mrw_ne (by decide), h26, ms_mrw0, mrw_ne (by decide)]
          refine k_X12_keepsAct_52 C ?_
          rw [mrw_at, upd_at, if_pos rfl]
          simp (disch := omega) only [ofNat_nI, nI_add, pk_mul, nI_clamp, nI_leI, nI_ltI, nI_eq, vp_in_nI_iff, nI_subr, nI_m1r, m1_eq, m1_eq2, m1_le, m1_le2, m1_lt, m1_lt2, m1_self, cv_sub, cv_add1, cv_eq, cv_eqI, cv_eqI2, cv_m1, cv_lt0, cv_leI, cv_Ile, cv_le, cv_lt, cv_Ilt, cv_ltI, not_true, not_false_iff, true_implies, false_implies, false_or, or_false, true_and, and_true, false_and, and_false, true_or, or_true]
          refine s_copies (a := 0) (n0 := 673) (n2 := 5384) rfl rfl (by decide) (by decide) (by omega) (by decide) (by decide) fun g' q1 q2 => k_X12_keepsAct_72 C ?_
          rw [mrw_ne (by decide), mrw_at, upd_at, if_pos rfl]
          simp (disch := omega) only [ofNat_nI, nI_add, pk_mul, nI_clamp, nI_leI, nI_ltI, nI_eq, vp_in_nI_iff, nI_subr, nI_m1r, m1_eq, m1_eq2, m1_le, m1_le2, m1_lt, m1_lt2, m1_self, cv_sub, cv_add1, cv_eq, cv_eqI, cv_eqI2, cv_m1, cv_lt0, cv_leI, cv_Ile, cv_le, cv_lt, cv_Ilt, cv_ltI, not_true, not_false_iff, true_implies, false_implies, false_or, or_false, true_and, and_true, false_and, and_false, true_or, or_true]
          have e : ms (mrw (mrw (mrw μ 149 g) 132 (upd (μ 132) 26 (nI 7))) 149 g') 132 26 (nI 8) = mrw (mrw μ 149 g') 132 (upd (μ 132) 26 (nI 8)) := by
            funext c
            unfold ms mrw
            by_cases c1 : c = 132
            · subst c1
              simp only [if_true]
              funext j
              unfold upd
              by_cases z : j = 26
              · simp [z]
              · simp [z]
            · by_cases c2 : c = 149
              · simp [c2]
              · simp [c1, c2]
          rw [e]
          refine k g' _ (fun j hj => ?_) (fun j hj => ?_) (fun j hj => by rw [upd_at, if_neg hj]) (by rw [upd_at, if_pos rfl])
          · rw [q2 j (by omega), mrw_ne (by decide), mrw_at]; exact g1 j (by omega)
          · have := q1 j hj
            rw [this, mrw_ne (by decide), mrw_ne (by decide), Nat.zero_add]
        all_goals
          exfalso
          revert p
          simp (disch := omega) only [ofNat_nI, nI_add, pk_mul, nI_clamp, nI_leI, nI_ltI, nI_eq, vp_in_nI_iff, nI_subr, nI_m1r, m1_eq, m1_eq2, m1_le, m1_le2, m1_lt, m1_lt2, m1_self, cv_sub, cv_add1, cv_eq, cv_eqI, cv_eqI2, cv_m1, cv_lt0, cv_leI, cv_Ile, cv_le, cv_lt, cv_Ilt, cv_ltI, not_true, not_false_iff, true_implies, false_implies, false_or, or_false, true_and, and_true, false_and, and_false, true_or, or_true]
          all_goals omega
      | succ d ih =>
        intro i g hi g1 g2
        refine k_X12_keepsAct_13 C (fun p => ?_) (fun _ => ?_) (fun _ => ?_) (fun _ => ?_)
        · exfalso
          revert p
          simp (disch := omega) only [ofNat_nI, nI_add, pk_mul, nI_clamp, nI_leI, nI_ltI, nI_eq, vp_in_nI_iff, nI_subr, nI_m1r, m1_eq, m1_eq2, m1_le, m1_le2, m1_lt, m1_lt2, m1_self, cv_sub, cv_add1, cv_eq, cv_eqI, cv_eqI2, cv_m1, cv_lt0, cv_leI, cv_Ile, cv_le, cv_lt, cv_Ilt, cv_ltI, not_true, not_false_iff, true_implies, false_implies, false_or, or_false, true_and, and_true, false_and, and_false, true_or, or_true]
          all_goals omega
        · simp (disch := omega) only [ofNat_nI, nI_add, pk_mul, nI_clamp, nI_leI, nI_ltI, nI_eq, vp_in_nI_iff, nI_subr, nI_m1r, m1_eq, m1_eq2, m1_le, m1_le2, m1_lt, m1_lt2, m1_self, cv_sub, cv_add1, cv_eq, cv_eqI, cv_eqI2, cv_m1, cv_lt0, cv_leI, cv_Ile, cv_le, cv_lt, cv_Ilt, cv_ltI, not_true, not_false_iff, true_implies, false_implies, false_or, or_false, true_and, and_true, false_and, and_false, true_or, or_true]
          omega
        · simp (disch := omega) only [ofNat_nI, nI_add, pk_mul, nI_clamp, nI_leI, nI_ltI, nI_eq, vp_in_nI_iff, nI_subr, nI_m1r, m1_eq, m1_eq2, m1_le, m1_le2, m1_lt, m1_lt2, m1_self, cv_sub, cv_add1, cv_eq, cv_eqI, cv_eqI2, cv_m1, cv_lt0, cv_leI, cv_Ile, cv_le, cv_lt, cv_Ilt, cv_ltI, not_true, not_false_iff, true_implies, false_implies, false_or, or_false, true_and, and_true, false_and, and_false, true_or, or_true]
          omega
        · rw [mrw_at, ms_mrw]
          simp (disch := omega) only [ofNat_nI, nI_add, pk_mul, nI_clamp, nI_leI, nI_ltI, nI_eq, vp_in_nI_iff, nI_subr, nI_m1r, m1_eq, m1_eq2, m1_le, m1_le2, m1_lt, m1_lt2, m1_self, cv_sub, cv_add1, cv_eq, cv_eqI, cv_eqI2, cv_m1, cv_lt0, cv_leI, cv_Ile, cv_le, cv_lt, cv_Ilt, cv_ltI, not_true, not_false_iff, true_implies, false_implies, false_or, or_false, true_and, and_true, false_and, and_false, true_or, or_true]
          rw [show 673 + i - 673 = i by omega]
          refine ih (i + 1) _ (by omega) (fun j hj => ?_) (fun j hj => ?_)
          · rw [upd_at]
            by_cases q : j = i
            · rw [if_pos q, q, g2 _ (by omega), Nat.add_comm]
            · rw [if_neg q]; exact g1 j (by omega)
          · rw [upd_at, if_neg (by omega)]; exact g2 j (by omega)
    have := loop (5384 - 673) 0 (μ 149) (by omega) (fun j hj => by omega) (fun j _ => rfl)
    rw [mrw_self] at this
    exact this

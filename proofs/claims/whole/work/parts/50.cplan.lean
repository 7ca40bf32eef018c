/-! THE CLASS: lawful rows that are near, levels left, fields, rows by digits and by polynomials -/
/-- a row's cells, else a known row's levels -/
def mgR (C : Nat) (r f : Nat → Nat) : Nat → Nat := fun c => if r c = 0 then rowF C f c else r c
theorem mg_row {P : Pl} (h : PW P) {r f : Nat → Nat} (hr : ∀ c, c < 8 → r c ≤ 4) (hf : ∀ c, c < qC P → f c < 4) : (rowI (rowF (qC P) f) &&& (colI (rowI r) ^^^ (-1))) ||| rowI r = rowI (mgR (qC P) r f) := c_ext fun c l hc hl => by
  rw [b_or, b_and, b_rowc _ hc hl, b_nc _ hc hl, b_colc _ hc hl, any_row hc (hr c hc), b_rowc r hc hl, b_rowc _ hc hl]
  unfold mgR
  by_cases q : r c = 0
  · rw [if_pos q, decide_eq_false (show ¬ (r c ≠ 0) from fun z => z q), decide_eq_false (show ¬ r c = l + 1 by omega), Bool.not_false, Bool.and_true, Bool.or_false]
  · rw [if_neg q, decide_eq_true q, Bool.not_true, Bool.and_false, Bool.false_or]
theorem s_lawfulNear {G : mG} {Q : Int32 → mM → Prop} {μ : mM} {p : Nat} {P : Pl} {r f : Nat → Nat} (h0 : sh p = (0, 3)) (h : PW P) (hp : PlC p P μ) (hr : ∀ c, r c ≤ qL P c) (hf : ∀ c, c < qC P → f c < qL P c) (k : ∀ w, LawR P (leftI P (rowI r)) w → Q w μ) :
    CtI G mX4_lawfulNear [.ref (gb G + p), .int (rowI (rowF (qC P) f)), .int (rowI r)] μ Q := by
  have hC8 := h.ct.2.2.2
  have hN := h.2.2.2.2.1
  have r4 := fun c => RwOk.le4 h hr c
  obtain ⟨p0, p1, p2, p3, p4, p5⟩ := id hp
  refine e_X4_lawfulNear h0 fun E C => k_X4_lawfulNear_0 C h0 ?_
  have er : (rowI (rowF (qC P) f) &&& (colI (rowI r) ^^^ (-1))) ||| rowI r = rowI (mgR (qC P) r f) := mg_row h (fun c _ => r4 c) (fun c hc => by have := hf c hc; have := (h.lv hc).2; omega)
  show Wm G mX4_lawfulNear E (bm G mX4_lawfulNear E (pI Q)) μ 14 [(0, .ref (gb G + p)), (2, .int (rowI r)), (3, .int ((rowI (rowF (qC P) f) &&& (colI (rowI r) ^^^ (-1))) ||| rowI r)), (4, .int 0)] []
  rw [er]
  have loop : ∀ (d i : Nat), i + d = qN P → (∀ i', i' < i → ¬ rowI (qV P i') &&& (rowI (mgR (qC P) r f) ^^^ (-1)) = 0) →
      Wm G mX4_lawfulNear E (bm G mX4_lawfulNear E (pI Q)) μ 14 [(0, .ref (gb G + p)), (2, .int (rowI r)), (3, .int (rowI (mgR (qC P) r f))), (4, .int (nI i))] [] := by
    intro d
    induction d with
    | zero =>
      intro i hi hall
      refine k_X4_lawfulNear_14 C h0 (fun _ => k _ (Or.inr ⟨fun c => if r c = 0 then f c else r c - 1, ?_, ?_, ?_⟩)) (fun z => ?_) (fun z => ?_) (fun z => ?_)
      · refine (left_fit h hr).mpr ⟨fun c hc => ?_, fun c hc hn => ?_⟩
        · show (if r c = 0 then f c else r c - 1) < _
          have := hr c
          split
          · exact hf c hc
          · omega
        · show r c = (if r c = 0 then f c else r c - 1) + 1
          rw [if_neg hn]
          omega
      · intro i' hi'
        have hn := hall i' (by omega)
        refine Classical.byContradiction fun q => hn ((nv_sub h).mpr fun c hc hv => ?_)
        have v4 := h.v4 i' c
        have e : qV P i' c = (if r c = 0 then f c else r c - 1) + 1 := Classical.byContradiction fun z => q ⟨c, hc, hv, z⟩
        rw [b_rowc _ (by omega) (by omega)]
        refine decide_eq_true ?_
        unfold mgR rowF
        rw [if_pos hc]
        by_cases w : r c = 0
        · rw [if_pos w] at e ⊢; omega
        · rw [if_neg w] at e ⊢; omega
      · refine rowI_congr fun c _ => ?_
        unfold mgR rowF
        by_cases w : r c = 0
        · by_cases z : c < qC P
          · simp only [if_pos w, if_pos z]
          · simp only [if_pos w, if_neg z]
        · have hcC : c < qC P := by
            refine Nat.lt_of_not_le fun z => w ?_
            have := hr c
            rw [h.2.2.2.1 c z] at this
            omega
          simp only [if_neg w, if_pos hcC]
          omega
      all_goals
        exfalso
        revert z
        rw [p2]
        simp (disch := omega) only [ofNat_nI, nI_add, pk_mul, nI_clamp, nI_leI, nI_ltI, nI_eq, vp_in_nI_iff, nI_subr, nI_m1r, m1_eq, m1_eq2, m1_le, m1_le2, m1_lt, m1_lt2, m1_self, cv_sub, cv_add1, cv_eq, cv_eqI, cv_eqI2, cv_m1, cv_lt0, cv_leI, cv_Ile, cv_le, cv_lt, cv_Ilt, cv_ltI, not_true, not_false_iff, true_implies, false_implies, false_or, or_false, true_and, and_true, false_and, and_false, true_or, or_true]
        omega
    | succ d ih =>
      intro i hi hall
      have hiN : i < qN P := by omega
      have en : μ (p + 2) (nI i).toNatClampNeg = rowI (qV P i) := by rw [nI_clamp (by omega)]; exact (p5 i hiN).1
      refine k_X4_lawfulNear_14 C h0 (fun z => ?_) (fun _ => ?_) (fun _ z => ?_) (fun _ z => ?_)
      · exfalso
        revert z
        rw [p2]
        simp (disch := omega) only [ofNat_nI, nI_add, pk_mul, nI_clamp, nI_leI, nI_ltI, nI_eq, vp_in_nI_iff, nI_subr, nI_m1r, m1_eq, m1_eq2, m1_le, m1_le2, m1_lt, m1_lt2, m1_self, cv_sub, cv_add1, cv_eq, cv_eqI, cv_eqI2, cv_m1, cv_lt0, cv_leI, cv_Ile, cv_le, cv_lt, cv_Ilt, cv_ltI, not_true, not_false_iff, true_implies, false_implies, false_or, or_false, true_and, and_true, false_and, and_false, true_or, or_true]
        omega
      · simp (disch := omega) only [ofNat_nI, nI_add, pk_mul, nI_clamp, nI_leI, nI_ltI, nI_eq, vp_in_nI_iff, nI_subr, nI_m1r, m1_eq, m1_eq2, m1_le, m1_le2, m1_lt, m1_lt2, m1_self, cv_sub, cv_add1, cv_eq, cv_eqI, cv_eqI2, cv_m1, cv_lt0, cv_leI, cv_Ile, cv_le, cv_lt, cv_Ilt, cv_ltI, not_true, not_false_iff, true_implies, false_implies, false_or, or_false, true_and, and_true, false_and, and_false, true_or, or_true]
        omega
      · rw [en] at z
        simp (disch := omega) only [ofNat_nI, nI_add, pk_mul, nI_clamp, nI_leI, nI_ltI, nI_eq, vp_in_nI_iff, nI_subr, nI_m1r, m1_eq, m1_eq2, m1_le, m1_le2, m1_lt, m1_lt2, m1_self, cv_sub, cv_add1, cv_eq, cv_eqI, cv_eqI2, cv_m1, cv_lt0, cv_leI, cv_Ile, cv_le, cv_lt, cv_Ilt, cv_ltI, not_true, not_false_iff, true_implies, false_implies, false_or, or_false, true_and, and_true, false_and, and_false, true_or, or_true]
        refine ih (i + 1) (by omega) (fun i' hi' => ?_)
        by_cases q : i' = i
        · rw [q]; exact z
        · exact hall i' (by omega)
      · rw [p3]
        exact s_lawTop h0 h hp (left_Lf h hr) fun w hw => k_X4_lawfulNear_47 C (k w hw)
  exact loop (qN P) 0 (by omega) (fun i' hi' => absurd hi' (Nat.not_lt_zero i'))
/-- a row with one cell more -/
theorem row_bit {r : Nat → Nat} {c v : Nat} (hc : c < 8) (hv : v < 4) (h0 : r c = 0) : rowI r ||| 1 <<< ((4 * nI c + nI v) &&& 31) = rowI (up r c (v + 1)) := c_ext fun c' l' hc' hl' => by
  have e : (4 * nI c + nI v : Int32) = nI (4 * c + v) := by rw [show (4 : Int32) = nI 4 from rfl, pk_mul, nI_add]
  rw [b_or, b_rowc _ hc' hl', e, b_bit (by omega) (by omega), b_rowc _ hc' hl', up_at]
  by_cases q : c' = c
  · subst q
    rw [if_pos rfl, h0, decide_eq_false (show ¬ 0 = l' + 1 by omega), Bool.false_or]
    by_cases z : l' = v
    · rw [decide_eq_true (by omega), decide_eq_true (by omega)]
    · rw [decide_eq_false (by omega), decide_eq_false (by omega)]
  · rw [if_neg q, decide_eq_false (show ¬ 4 * c' + l' = 4 * c + v by omega), Bool.or_false]
def lfI (P : Pl) (r : Nat → Nat) (c n : Nat) : Int32 := mkI (fun l => decide (l < n) && canB P (up r c (l + 1)))
theorem b_lf {P : Pl} {r : Nat → Nat} {c n l : Nat} (hl : l < 32) : bt (lfI P r c n) l = (decide (l < n) && canB P (up r c (l + 1))) := b_mk _ hl
theorem s_levelsLeft {G : mG} {Q : Int32 → mM → Prop} {μ : mM} {p : Nat} {P : Pl} {r : Nat → Nat} {c : Nat} (h0 : sh p = (0, 3)) (h : PW P) (hp : PlC p P μ) (hr : ∀ c, r c ≤ qL P c) (hc : c < qC P) (hrc : r c = 0) (k : Q (lfI P r c (qL P c)) μ) : CtI G mX4_levelsLeft [.ref (gb G + p), .int (rowI r), .int (nI c)] μ Q := by
  have hC8 := h.ct.2.2.2
  obtain ⟨p0, p1, p2, p3, p4, p5⟩ := id hp
  have l4 := (h.lv hc).2
  refine e_X4_levelsLeft h0 fun E C => k_X4_levelsLeft_0 C h0 ?_
  have e0 : lfI P r c 0 = 0 := b_ext fun i hi => by rw [b_lf hi, b_0]; rfl
  have eL : μ (p + 1) (nI c).toNatClampNeg = nI (qL P c) := by rw [nI_clamp (by omega)]; exact p4 c hc
  have key := lp_up (W := fun v => Wm G mX4_levelsLeft E (bm G mX4_levelsLeft E (pI Q)) μ 5 [(0, .ref (gb G + p)), (1, .int (rowI r)), (2, .int (nI c)), (3, .int (lfI P r c v)), (4, .int (nI v))] []) (qL P c) ?_ (fun v hv ih => ?_)
  · rw [e0] at key
    exact key
  · refine k_X4_levelsLeft_5 C h0 ?_ (fun _ => k) (fun z => ?_)
    · simp (disch := omega) only [ofNat_nI, nI_add, pk_mul, nI_clamp, nI_leI, nI_ltI, nI_eq, vp_in_nI_iff, nI_subr, nI_m1r, m1_eq, m1_eq2, m1_le, m1_le2, m1_lt, m1_lt2, m1_self, cv_sub, cv_add1, cv_eq, cv_eqI, cv_eqI2, cv_m1, cv_lt0, cv_leI, cv_Ile, cv_le, cv_lt, cv_Ilt, cv_ltI, not_true, not_false_iff, true_implies, false_implies, false_or, or_false, true_and, and_true, false_and, and_false, true_or, or_true]
      omega
    · exfalso
      revert z
      rw [eL]
      simp (disch := omega) only [ofNat_nI, nI_add, pk_mul, nI_clamp, nI_leI, nI_ltI, nI_eq, vp_in_nI_iff, nI_subr, nI_m1r, m1_eq, m1_eq2, m1_le, m1_le2, m1_lt, m1_lt2, m1_self, cv_sub, cv_add1, cv_eq, cv_eqI, cv_eqI2, cv_m1, cv_lt0, cv_leI, cv_Ile, cv_le, cv_lt, cv_Ilt, cv_ltI, not_true, not_false_iff, true_implies, false_implies, false_or, or_false, true_and, and_true, false_and, and_false, true_or, or_true]
      omega
  · refine k_X4_levelsLeft_5 C h0 ?_ (fun z => ?_) (fun _ => ?_)
    · simp (disch := omega) only [ofNat_nI, nI_add, pk_mul, nI_clamp, nI_leI, nI_ltI, nI_eq, vp_in_nI_iff, nI_subr, nI_m1r, m1_eq, m1_eq2, m1_le, m1_le2, m1_lt, m1_lt2, m1_self, cv_sub, cv_add1, cv_eq, cv_eqI, cv_eqI2, cv_m1, cv_lt0, cv_leI, cv_Ile, cv_le, cv_lt, cv_Ilt, cv_ltI, not_true, not_false_iff, true_implies, false_implies, false_or, or_false, true_and, and_true, false_and, and_false, true_or, or_true]
      omega
    · exfalso
      revert z
      rw [eL]
      simp (disch := omega) only [ofNat_nI, nI_add, pk_mul, nI_clamp, nI_leI, nI_ltI, nI_eq, vp_in_nI_iff, nI_subr, nI_m1r, m1_eq, m1_eq2, m1_le, m1_le2, m1_lt, m1_lt2, m1_self, cv_sub, cv_add1, cv_eq, cv_eqI, cv_eqI2, cv_m1, cv_lt0, cv_leI, cv_Ile, cv_le, cv_lt, cv_Ilt, cv_ltI, not_true, not_false_iff, true_implies, false_implies, false_or, or_false, true_and, and_true, false_and, and_false, true_or, or_true]
      omega
    · rw [row_bit (by omega) (by omega) hrc]
      refine s_allows h0 h hp (fun c' => ?_) (k_X4_levelsLeft_30 C h0 fun v1 hv1 => ?_)
      · rw [up_at]
        by_cases q : c' = c
        · rw [if_pos q, q]; omega
        · rw [if_neg q]; exact hr c'
      · have ev : v1 = lfI P r c (v + 1) := b_ext fun i hi => by
          rw [b_lf hi]
          have hb : ∀ i, i < 32 → bt (1 <<< (nI v &&& 31)) i = decide (i = v) := fun i hi => b_bit (by omega) hi
          rcases hv1 with ⟨a, b⟩ | ⟨a, b⟩
          · rw [nI_b0] at a
            rw [b, b_lf hi]
            by_cases q : i = v
            · rw [q, a, Bool.and_false, Bool.and_false]
            · by_cases z : i < v
              · rw [decide_eq_true z, decide_eq_true (show i < v + 1 by omega)]
              · rw [decide_eq_false z, decide_eq_false (show ¬ i < v + 1 by omega)]
          · rw [nI_b0] at a
            have ac : canB P (up r c (v + 1)) = true := by cases z : canB P (up r c (v + 1)) with | true => rfl | false => exact absurd z a
            rw [b, b_or, b_lf hi, hb i hi]
            by_cases q : i = v
            · rw [q, ac, decide_eq_true rfl, decide_eq_true (Nat.lt_succ_self v), Bool.or_true]; rfl
            · rw [decide_eq_false q, Bool.or_false]
              by_cases z : i < v
              · rw [decide_eq_true z, decide_eq_true (show i < v + 1 by omega)]
              · rw [decide_eq_false z, decide_eq_false (show ¬ i < v + 1 by omega)]
        rw [ev]
        simp (disch := omega) only [ofNat_nI, nI_add, pk_mul, nI_clamp, nI_leI, nI_ltI, nI_eq, vp_in_nI_iff, nI_subr, nI_m1r, m1_eq, m1_eq2, m1_le, m1_le2, m1_lt, m1_lt2, m1_self, cv_sub, cv_add1, cv_eq, cv_eqI, cv_eqI2, cv_m1, cv_lt0, cv_leI, cv_Ile, cv_le, cv_lt, cv_Ilt, cv_ltI, not_true, not_false_iff, true_implies, false_implies, false_or, or_false, true_and, and_true, false_and, and_false, true_or, or_true]
        exact ih
/-- fields -/
theorem s_sizeFor {G : mG} {Q : Int32 → mM → Prop} {μ : mM} {l : Nat} (hl : l ≤ 7) (k : Q (nI (fld l)) μ) : CtI G mX1_sizeFor [.int (nI l)] μ Q := by
  refine e_X1_sizeFor fun E C => k_X1_sizeFor_0 C ?_
  have hs : ∀ l, l ≤ 7 → ∀ i, i < 5 → ([2, 3, 4, 5, 7].getD (nI i).toNatClampNeg (0 : Int32) < nI l ↔ ([2, 3, 4, 5, 7] : List Nat).getD i 0 < l) := by decide
  have hr : ∀ l, l ≤ 7 → ∀ i, i < 5 → ¬ ([2, 3, 4, 5, 7] : List Nat).getD i 0 < l → (∀ j, j < i → ([2, 3, 4, 5, 7] : List Nat).getD j 0 < l) → [2, 3, 4, 5, 7].getD (nI i).toNatClampNeg (0 : Int32) = nI (fld l) := by decide
  have he : ∀ l, l ≤ 7 → ¬ ∀ j, j < 5 → ([2, 3, 4, 5, 7] : List Nat).getD j 0 < l := by decide
  have loop : ∀ (d i : Nat), i + d = 5 → (∀ j, j < i → ([2, 3, 4, 5, 7] : List Nat).getD j 0 < l) → Wm G mX1_sizeFor E (bm G mX1_sizeFor E (pI Q)) μ 2 [(0, .int (nI l)), (1, .int (nI i))] [] := by
    intro d
    induction d with
    | zero => intro i hi hall; exact absurd (fun j hj => hall j (by omega)) (he l hl)
    | succ d ih =>
      intro i hi hall
      refine k_X1_sizeFor_2 C (fun z => ?_) (fun _ => ?_) (fun _ z => ?_) (fun _ z => ?_)
      · exfalso
        revert z
        simp (disch := omega) only [ofNat_nI, nI_add, pk_mul, nI_clamp, nI_leI, nI_ltI, nI_eq, vp_in_nI_iff, nI_subr, nI_m1r, m1_eq, m1_eq2, m1_le, m1_le2, m1_lt, m1_lt2, m1_self, cv_sub, cv_add1, cv_eq, cv_eqI, cv_eqI2, cv_m1, cv_lt0, cv_leI, cv_Ile, cv_le, cv_lt, cv_Ilt, cv_ltI, not_true, not_false_iff, true_implies, false_implies, false_or, or_false, true_and, and_true, false_and, and_false, true_or, or_true]
        omega
      · simp (disch := omega) only [ofNat_nI, nI_add, pk_mul, nI_clamp, nI_leI, nI_ltI, nI_eq, vp_in_nI_iff, nI_subr, nI_m1r, m1_eq, m1_eq2, m1_le, m1_le2, m1_lt, m1_lt2, m1_self, cv_sub, cv_add1, cv_eq, cv_eqI, cv_eqI2, cv_m1, cv_lt0, cv_leI, cv_Ile, cv_le, cv_lt, cv_Ilt, cv_ltI, not_true, not_false_iff, true_implies, false_implies, false_or, or_false, true_and, and_true, false_and, and_false, true_or, or_true]
        omega
      · rw [hs l hl i (by omega)] at z
        simp (disch := omega) only [ofNat_nI, nI_add, pk_mul, nI_clamp, nI_leI, nI_ltI, nI_eq, vp_in_nI_iff, nI_subr, nI_m1r, m1_eq, m1_eq2, m1_le, m1_le2, m1_lt, m1_lt2, m1_self, cv_sub, cv_add1, cv_eq, cv_eqI, cv_eqI2, cv_m1, cv_lt0, cv_leI, cv_Ile, cv_le, cv_lt, cv_Ilt, cv_ltI, not_true, not_false_iff, true_implies, false_implies, false_or, or_false, true_and, and_true, false_and, and_false, true_or, or_true]
        refine ih (i + 1) (by omega) (fun j hj => ?_)
        by_cases q : j = i
        · rw [q]; exact z
        · exact hall j (by omega)
      · rw [hs l hl i (by omega)] at z
        rw [hr l hl i (by omega) z hall]
        exact k
  exact loop 5 0 (by omega) (fun j hj => absurd hj (Nat.not_lt_zero j))
theorem s_powerC {G : mG} {Q : Int32 → mM → Prop} {μ : mM} {q t : Nat} (ht : t < 2 ^ 31) (k : Q (nI (q ^ t)) μ) : CtI G mX1_power [.int (nI q), .int (nI t)] μ Q := by
  refine e_X1_power fun E C => k_X1_power_0 C ?_
  refine lp_up (W := fun i => Wm G mX1_power E (bm G mX1_power E (pI Q)) μ 4 [(0, .int (nI q)), (1, .int (nI t)), (2, .int (nI (q ^ i))), (3, .int (nI i))] []) t ?_ (fun i hi ih => ?_)
  · refine k_X1_power_4 C (fun _ => k) (fun z => ?_)
    exfalso
    revert z
    simp (disch := omega) only [ofNat_nI, nI_add, pk_mul, nI_clamp, nI_leI, nI_ltI, nI_eq, vp_in_nI_iff, nI_subr, nI_m1r, m1_eq, m1_eq2, m1_le, m1_le2, m1_lt, m1_lt2, m1_self, cv_sub, cv_add1, cv_eq, cv_eqI, cv_eqI2, cv_m1, cv_lt0, cv_leI, cv_Ile, cv_le, cv_lt, cv_Ilt, cv_ltI, not_true, not_false_iff, true_implies, false_implies, false_or, or_false, true_and, and_true, false_and, and_false, true_or, or_true]
    omega
  · refine k_X1_power_4 C (fun z => ?_) (fun _ => ?_)
    · exfalso
      revert z
      simp (disch := omega) only [ofNat_nI, nI_add, pk_mul, nI_clamp, nI_leI, nI_ltI, nI_eq, vp_in_nI_iff, nI_subr, nI_m1r, m1_eq, m1_eq2, m1_le, m1_le2, m1_lt, m1_lt2, m1_self, cv_sub, cv_add1, cv_eq, cv_eqI, cv_eqI2, cv_m1, cv_lt0, cv_leI, cv_Ile, cv_le, cv_lt, cv_Ilt, cv_ltI, not_true, not_false_iff, true_implies, false_implies, false_or, or_false, true_and, and_true, false_and, and_false, true_or, or_true]
      omega
    · rw [pk_mul, ← Nat.pow_succ]
      simp (disch := omega) only [ofNat_nI, nI_add, pk_mul, nI_clamp, nI_leI, nI_ltI, nI_eq, vp_in_nI_iff, nI_subr, nI_m1r, m1_eq, m1_eq2, m1_le, m1_le2, m1_lt, m1_lt2, m1_self, cv_sub, cv_add1, cv_eq, cv_eqI, cv_eqI2, cv_m1, cv_lt0, cv_leI, cv_Ile, cv_le, cv_lt, cv_Ilt, cv_ltI, not_true, not_false_iff, true_implies, false_implies, false_or, or_false, true_and, and_true, false_and, and_false, true_or, or_true]
      exact ih
theorem s_valueAtC {G : mG} {Q : Int32 → mM → Prop} {μ : mM} {q x T w : Nat} (hq : isQ q) (hx : x < q) (hT : T ≤ 3) (hw : w < 2 ^ 31) (k : Q (nI (hor q x (pnum q T w) T T)) μ) : CtI G mX1_valueAt [.int (nI x), .int (nI w), .int (nI T), .int (nI q)] μ Q := by
  have hq7 : q ≤ 7 ∧ 2 ≤ q := by unfold isQ at hq; omega
  have hnum : ∀ k, k < T → pnum q T w k < q := fun k _ => Nat.mod_lt _ (by omega)
  refine e_X1_valueAt fun E C => k_X1_valueAt_0 C ?_
  have tq : ∀ a, a < 4 → ∀ b, b < 4 → [0, 0, 0, 0, 0, 1, 2, 3, 0, 2, 3, 1, 0, 3, 1, 2].getD ((nI a &&& 3) * 4 + (nI b &&& 3)).toNatClampNeg (0 : Int32) = nI (tmQ 4 a b) := by decide
  have tin : ∀ a, a < 4 → ∀ b, b < 4 → (nI a &&& 3) * 4 + (nI b &&& 3) = nI (a * 4 + b) := by decide
  have e1 : w / q ^ 0 = w := by rw [Nat.pow_zero, Nat.div_one]
  have key := lp_up (W := fun i => Wm G mX1_valueAt E (bm G mX1_valueAt E (pI Q)) μ 9 [(0, .int (nI x)), (2, .int (nI T)), (3, .int (nI q)), (4, .int (nI (w / q ^ i))), (5, .int (nI (hor q x (pnum q T w) T i))), (6, .int (nI i))] []) T ?_ (fun i hi ih => ?_)
  · rw [e1] at key
    exact key
  · refine k_X1_valueAt_9 C (fun _ => k) (fun z => ?_) (fun z => ?_) (fun z => ?_) (fun z => ?_) (fun z => ?_) (fun z => ?_)
    all_goals
      exfalso
      revert z
      simp (disch := omega) only [ofNat_nI, nI_add, pk_mul, nI_clamp, nI_leI, nI_ltI, nI_eq, vp_in_nI_iff, nI_subr, nI_m1r, m1_eq, m1_eq2, m1_le, m1_le2, m1_lt, m1_lt2, m1_self, cv_sub, cv_add1, cv_eq, cv_eqI, cv_eqI2, cv_m1, cv_lt0, cv_leI, cv_Ile, cv_le, cv_lt, cv_Ilt, cv_ltI, not_true, not_false_iff, true_implies, false_implies, false_or, or_false, true_and, and_true, false_and, and_false, true_or, or_true]
      omega
  · have hh := hor_lt (x := x) hq hnum i (by omega)
    have hdl : w / q ^ i ≤ w := Nat.div_le_self _ _
    have e2 : w / q ^ (i + 1) = w / q ^ i / q := by rw [Nat.div_div_eq_div_mul, ← Nat.pow_succ]
    have e3 : pnum q T w (T - 1 - i) = w / q ^ i % q := by
      unfold pnum
      rw [show T - 1 - (T - 1 - i) = i by omega]
    rw [hor, e2, e3] at ih
    generalize hor q x (pnum q T w) T i = v at hh ih
    generalize w / q ^ i = u at hdl ih
    have q4 : nI q = 4 ↔ q = 4 := nI_eq (b := 4) (by omega) (by omega)
    have q0 : ¬ nI q = 0 := nI_ne0 (by omega) (by omega)
    refine k_X1_valueAt_9 C (fun z => ?_) (fun _ _ _ => q0) (fun _ _ z => ?_) (fun _ _ z _ => ?_) (fun _ _ z1 z2 => absurd z2 z1) (fun _ _ z1 z2 => absurd z1 z2) (fun _ _ z _ => ?_)
    · exfalso
      revert z
      rw [show (0 : Int32) = nI 0 from rfl, nI_leI (by omega) (by omega), nI_leI (by omega) (by omega)]
      omega
    · rw [q4] at z
      subst z
      rw [tin v (by omega) x (by omega)]
      simp (disch := omega) only [ofNat_nI, nI_add, pk_mul, nI_clamp, nI_leI, nI_ltI, nI_eq, vp_in_nI_iff, nI_subr, nI_m1r, m1_eq, m1_eq2, m1_le, m1_le2, m1_lt, m1_lt2, m1_self, cv_sub, cv_add1, cv_eq, cv_eqI, cv_eqI2, cv_m1, cv_lt0, cv_leI, cv_Ile, cv_le, cv_lt, cv_Ilt, cv_ltI, not_true, not_false_iff, true_implies, false_implies, false_or, or_false, true_and, and_true, false_and, and_false, true_or, or_true]
      omega
    · rw [q4] at z
      unfold tmQ plQ at ih
      rw [if_neg z, if_neg z] at ih
      have hvx : v * x ≤ 7 * 7 := Nat.mul_le_mul (by omega) (by omega)
      have l1 := Nat.mod_lt (v * x) (show 0 < q by omega)
      have l2 := Nat.mod_lt u (show 0 < q by omega)
      rw [pk_mul, pk_rem (by omega) (by omega) (by omega), pk_rem (by omega) (by omega) (by omega), pk_div (by omega) (by omega) (by omega), nI_add, pk_rem (by omega) (by omega) (by omega)]
      simp (disch := omega) only [ofNat_nI, nI_add, pk_mul, nI_clamp, nI_leI, nI_ltI, nI_eq, vp_in_nI_iff, nI_subr, nI_m1r, m1_eq, m1_eq2, m1_le, m1_le2, m1_lt, m1_lt2, m1_self, cv_sub, cv_add1, cv_eq, cv_eqI, cv_eqI2, cv_m1, cv_lt0, cv_leI, cv_Ile, cv_le, cv_lt, cv_Ilt, cv_ltI, not_true, not_false_iff, true_implies, false_implies, false_or, or_false, true_and, and_true, false_and, and_false, true_or, or_true]
      exact ih
    · rw [q4] at z
      subst z
      have l2 := Nat.mod_lt u (show 0 < 4 by omega)
      have l3 := tmQ_lt (a := v) (b := x) hq
      unfold plQ at ih
      rw [if_pos rfl] at ih
      rw [tq v (by omega) x (by omega), pk_rem (by omega) (by omega) (by omega), pk_div (by omega) (by omega) (by omega), nxor4 _ l3 _ l2]
      simp (disch := omega) only [ofNat_nI, nI_add, pk_mul, nI_clamp, nI_leI, nI_ltI, nI_eq, vp_in_nI_iff, nI_subr, nI_m1r, m1_eq, m1_eq2, m1_le, m1_le2, m1_lt, m1_lt2, m1_self, cv_sub, cv_add1, cv_eq, cv_eqI, cv_eqI2, cv_m1, cv_lt0, cv_leI, cv_Ile, cv_le, cv_lt, cv_Ilt, cv_ltI, not_true, not_false_iff, true_implies, false_implies, false_or, or_false, true_and, and_true, false_and, and_false, true_or, or_true]
      exact ih
theorem s_fieldSize {G : mG} {Q : Int32 → mM → Prop} {μ : mM} {p : Nat} {P : Pl} (h0 : sh p = (0, 3)) (h : PW P) (hp : PlC p P μ) (k : Q (nI (qF P)) μ) : CtI G mX4_fieldSize [.ref (gb G + p)] μ Q := by
  have hC8 := h.ct.2.2.2
  have hC2 := h.1
  obtain ⟨p0, p1, p2, p3, p4, p5⟩ := hp
  refine e_X4_fieldSize h0 fun E C => k_X4_fieldSize_0 C h0 ?_
  rw [p0, show nI (qC P) - 1 = nI (mxl (qC P) (qL P) 0) by
    rw [show (1 : Int32) = nI 1 from rfl, nI_subr (by omega)]
    rfl]
  have h7 := fun n (hn : n ≤ qC P) => mxl_le (C := qC P) (L := qL P) (n := n) hC8 (fun i hi => (h.lv (by omega)).2)
  refine lp_up (W := fun i => Wm G mX4_fieldSize E (bm G mX4_fieldSize E (pI Q)) μ 9 [(0, .ref (gb G + p)), (1, .int (nI (mxl (qC P) (qL P) i))), (2, .int (nI i))] []) (qC P) ?_ (fun i hi ih => ?_)
  · refine k_X4_fieldSize_9 C h0 (fun _ => s_sizeFor (h7 _ (Nat.le_refl _)) (k_X4_fieldSize_38 C k)) (fun z => ?_) (fun z => ?_)
    all_goals
      exfalso
      revert z
      rw [p0]
      simp (disch := omega) only [ofNat_nI, nI_add, pk_mul, nI_clamp, nI_leI, nI_ltI, nI_eq, vp_in_nI_iff, nI_subr, nI_m1r, m1_eq, m1_eq2, m1_le, m1_le2, m1_lt, m1_lt2, m1_self, cv_sub, cv_add1, cv_eq, cv_eqI, cv_eqI2, cv_m1, cv_lt0, cv_leI, cv_Ile, cv_le, cv_lt, cv_Ilt, cv_ltI, not_true, not_false_iff, true_implies, false_implies, false_or, or_false, true_and, and_true, false_and, and_false, true_or, or_true]
      omega
  · have l4 := (h.lv hi).2
    have h7i := h7 i (by omega)
    have eL : μ (p + 1) (nI i).toNatClampNeg = nI (qL P i) := by rw [nI_clamp (by omega)]; exact p4 i hi
    refine k_X4_fieldSize_9 C h0 (fun z => ?_) (fun _ => ?_) (fun _ => ?_)
    · exfalso
      revert z
      rw [p0]
      simp (disch := omega) only [ofNat_nI, nI_add, pk_mul, nI_clamp, nI_leI, nI_ltI, nI_eq, vp_in_nI_iff, nI_subr, nI_m1r, m1_eq, m1_eq2, m1_le, m1_le2, m1_lt, m1_lt2, m1_self, cv_sub, cv_add1, cv_eq, cv_eqI, cv_eqI2, cv_m1, cv_lt0, cv_leI, cv_Ile, cv_le, cv_lt, cv_Ilt, cv_ltI, not_true, not_false_iff, true_implies, false_implies, false_or, or_false, true_and, and_true, false_and, and_false, true_or, or_true]
      omega
    · simp (disch := omega) only [ofNat_nI, nI_add, pk_mul, nI_clamp, nI_leI, nI_ltI, nI_eq, vp_in_nI_iff, nI_subr, nI_m1r, m1_eq, m1_eq2, m1_le, m1_le2, m1_lt, m1_lt2, m1_self, cv_sub, cv_add1, cv_eq, cv_eqI, cv_eqI2, cv_m1, cv_lt0, cv_leI, cv_Ile, cv_le, cv_lt, cv_Ilt, cv_ltI, not_true, not_false_iff, true_implies, false_implies, false_or, or_false, true_and, and_true, false_and, and_false, true_or, or_true]
      omega
    · rw [eL]
      have e : (if nI (mxl (qC P) (qL P) i) < nI (qL P i) then nI (qL P i) else nI (mxl (qC P) (qL P) i)) = nI (mxl (qC P) (qL P) (i + 1)) := by
        have hlt : nI (mxl (qC P) (qL P) i) < nI (qL P i) ↔ mxl (qC P) (qL P) i < qL P i := nI_ltI (by omega) (by omega)
        by_cases q : mxl (qC P) (qL P) i < qL P i
        · rw [if_pos (hlt.mpr q), mxl, if_neg (by omega)]
        · rw [if_neg (fun z => q (hlt.mp z)), mxl, if_pos (by omega)]
      rw [e]
      simp (disch := omega) only [ofNat_nI, nI_add, pk_mul, nI_clamp, nI_leI, nI_ltI, nI_eq, vp_in_nI_iff, nI_subr, nI_m1r, m1_eq, m1_eq2, m1_le, m1_le2, m1_lt, m1_lt2, m1_self, cv_sub, cv_add1, cv_eq, cv_eqI, cv_eqI2, cv_m1, cv_lt0, cv_leI, cv_Ile, cv_le, cv_lt, cv_Ilt, cv_ltI, not_true, not_false_iff, true_implies, false_implies, false_or, or_false, true_and, and_true, false_and, and_false, true_or, or_true]
      exact ih

/-! THE CLASS: suspects told and asked -/
theorem kth_go {g : Nat → Bool} {k : Nat} : ∀ (d m f : Nat), (∃ j, j < d ∧ g (m + j) = true ∧ f + sm j (fun i => (g (m + i)).toNat) = k ∧ kth g k d m f = nI (m + j)) ∨ (kth g k d m f = -2 ∧ ¬ (f ≤ k ∧ k < f + sm d (fun i => (g (m + i)).toNat)))
  | 0, m, f => Or.inr ⟨rfl, by
    show ¬ (f ≤ k ∧ k < f + 0)
    omega⟩
  | d + 1, m, f => by
    rw [kth]
    have fr : sm (d + 1) (fun i => (g (m + i)).toNat) = (g m).toNat + sm d (fun i => (g (m + 1 + i)).toNat) := by
      rw [sm_front]
      congr 1
      exact sm_congr fun i _ => by rw [show m + (i + 1) = m + 1 + i by omega]
    have frj : ∀ j, sm (j + 1) (fun i => (g (m + i)).toNat) = (g m).toNat + sm j (fun i => (g (m + 1 + i)).toNat) := fun j => by
      rw [sm_front]
      congr 1
      exact sm_congr fun i _ => by rw [show m + (i + 1) = m + 1 + i by omega]
    cases q : g m with
    | false =>
      rw [if_neg Bool.false_ne_true]
      rw [q] at fr frj
      rcases kth_go (g := g) (k := k) d (m + 1) f with ⟨j, a, b, c, e⟩ | ⟨a, b⟩
      · refine Or.inl ⟨j + 1, by omega, by rw [show m + (j + 1) = m + 1 + j by omega]; exact b, ?_, ?_⟩
        · rw [frj, ← c]; show f + (0 + _) = _; omega
        · rw [e, show m + 1 + j = m + (j + 1) by omega]
      · refine Or.inr ⟨a, ?_⟩
        rw [fr]
        show ¬ (f ≤ k ∧ k < f + (0 + _))
        rw [Nat.zero_add]
        exact b
    | true =>
      rw [if_pos rfl]
      rw [q] at fr frj
      by_cases z : f = k
      · rw [if_pos z]
        exact Or.inl ⟨0, by omega, q, by show f + 0 = k; omega, rfl⟩
      · rw [if_neg z]
        rcases kth_go (g := g) (k := k) d (m + 1) (f + 1) with ⟨j, a, b, c, e⟩ | ⟨a, b⟩
        · refine Or.inl ⟨j + 1, by omega, by rw [show m + (j + 1) = m + 1 + j by omega]; exact b, ?_, ?_⟩
          · rw [frj, ← c]; show f + (1 + _) = _; omega
          · rw [e, show m + 1 + j = m + (j + 1) by omega]
        · refine Or.inr ⟨a, ?_⟩
          rw [fr]
          show ¬ (f ≤ k ∧ k < f + (1 + _))
          omega
theorem Su_num {P : Pl} {n : Nat} {R : Nat → Nat → Nat} {t : Nat → Nat} {μ : mM} (h : SuC P n R t μ) (k : Nat) : (k < gnN P n R t (MM P) → kth (guiB P n R t) k (MM P) 0 0 = μ 43 k) ∧ (¬ k < gnN P n R t (MM P) → kth (guiB P n R t) k (MM P) 0 0 = -2) := by
  have e0 : ∀ j, sm j (fun i => (guiB P n R t (0 + i)).toNat) = gnN P n R t j := fun j => sm_congr fun i _ => by rw [Nat.zero_add]
  rcases kth_go (g := guiB P n R t) (k := k) (MM P) 0 0 with ⟨j, a, b, c, e⟩ | ⟨a, b⟩
  · rw [Nat.zero_add] at b c e
    rw [e0] at c
    constructor
    · intro _
      rw [e, ← c]
      exact ((h.2.2 j a b).1).symm
    · intro z
      have := gn_mono (P := P) (n := n) (R := R) (t := t) (show j + 1 ≤ MM P by omega)
      rw [gn_1 b] at this
      omega
  · rw [e0] at b
    exact ⟨fun z => absurd ⟨Nat.zero_le _, by omega⟩ b, fun _ => a⟩
theorem s_lesserPart {G : mG} {Q : Int32 → mM → Prop} {μ : mM} {P : Pl} {n : Nat} {R : Nat → Nat → Nat} {t r : Nat → Nat} (hW : PW P) (hS : SuC P n R t μ) (k : Q (nI (min (guR P n R t r) (guN P n R t - guR P n R t r))) μ) : CtI G mX9_lesserPart [.ref (gb G + 42), .int (rowI r)] μ Q := by
  obtain ⟨s1, s2, s3⟩ := hS
  have hMM := hW.MM_le
  have eN : guN P n R t = gnN P n R t (MM P) := rfl
  have gR : ∀ m, sm m (fun m => (guiB P n R t m && hasM P r m).toNat) ≤ gnN P n R t m := fun m => sm_mono fun i _ => by
    cases guiB P n R t i <;> cases hasM P r i <;> decide
  refine e_X9_lesserPart fun E C => k_X9_lesserPart_0 C ?_
  refine lp_up (W := fun m => Wm G mX9_lesserPart E (bm G mX9_lesserPart E (pI Q)) μ 4 [(0, .ref (gb G + 42)), (1, .int (rowI r)), (2, .int (nI (sm m (fun m => (guiB P n R t m && hasM P r m).toNat)))), (3, .int (nI (gnN P n R t m)))] []) (MM P) ?_ (fun m hm ih => ?_)
  · have hle := gR (MM P)
    refine k_X9_lesserPart_4 C (fun _ => ?_) (fun z => ?_) (fun z => ?_)
    · have eR : sm (MM P) (fun m => (guiB P n R t m && hasM P r m).toNat) = guR P n R t r := rfl
      rw [eR] at hle ⊢
      rw [s1, ← eN, nI_subr (by rw [eN]; exact hle)]
      rw [← eN] at hle s2
      have hlt : nI (guN P n R t - guR P n R t r) < nI (guR P n R t r) ↔ guN P n R t - guR P n R t r < guR P n R t r := nI_ltI (by omega) (by omega)
      by_cases q : guN P n R t - guR P n R t r < guR P n R t r
      · rw [if_pos (hlt.mpr q)]
        rw [show min (guR P n R t r) (guN P n R t - guR P n R t r) = guN P n R t - guR P n R t r by omega] at k
        exact k
      · rw [if_neg (fun z => q (hlt.mp z))]
        rw [show min (guR P n R t r) (guN P n R t - guR P n R t r) = guR P n R t r by omega] at k
        exact k
    all_goals
      exfalso
      revert z
      rw [s1]
      simp (disch := omega) only [ofNat_nI, nI_add, pk_mul, nI_clamp, nI_leI, nI_ltI, nI_eq, vp_in_nI_iff, nI_subr, nI_m1r, m1_eq, m1_eq2, m1_le, m1_le2, m1_lt, m1_lt2, m1_self, cv_sub, cv_add1, cv_eq, cv_eqI, cv_eqI2, cv_m1, cv_lt0, cv_leI, cv_Ile, cv_le, cv_lt, cv_Ilt, cv_ltI, not_true, not_false_iff, true_implies, false_implies, false_or, or_false, true_and, and_true, false_and, and_false, true_or, or_true]
      omega
  · cases q : guiB P n R t m with
    | false =>
      rw [sm, gn_0 q, q, Bool.false_and] at ih
      exact ih
    | true =>
      rw [sm, gn_1 q, q, Bool.true_and] at ih
      have hg := gn_mono (P := P) (n := n) (R := R) (t := t) (show m + 1 ≤ MM P by omega)
      rw [gn_1 q] at hg
      have e44 : μ 44 (nI (gnN P n R t m)).toNatClampNeg = rowI (mrow P m) := by rw [nI_clamp (by omega)]; exact (s3 m hm q).2
      refine k_X9_lesserPart_4 C (fun z => ?_) (fun _ => ?_) (fun _ v hv => ?_)
      · exfalso
        revert z
        rw [s1]
        simp (disch := omega) only [ofNat_nI, nI_add, pk_mul, nI_clamp, nI_leI, nI_ltI, nI_eq, vp_in_nI_iff, nI_subr, nI_m1r, m1_eq, m1_eq2, m1_le, m1_le2, m1_lt, m1_lt2, m1_self, cv_sub, cv_add1, cv_eq, cv_eqI, cv_eqI2, cv_m1, cv_lt0, cv_leI, cv_Ile, cv_le, cv_lt, cv_Ilt, cv_ltI, not_true, not_false_iff, true_implies, false_implies, false_or, or_false, true_and, and_true, false_and, and_false, true_or, or_true]
        omega
      · simp (disch := omega) only [ofNat_nI, nI_add, pk_mul, nI_clamp, nI_leI, nI_ltI, nI_eq, vp_in_nI_iff, nI_subr, nI_m1r, m1_eq, m1_eq2, m1_le, m1_le2, m1_lt, m1_lt2, m1_self, cv_sub, cv_add1, cv_eq, cv_eqI, cv_eqI2, cv_m1, cv_lt0, cv_leI, cv_Ile, cv_le, cv_lt, cv_Ilt, cv_ltI, not_true, not_false_iff, true_implies, false_implies, false_or, or_false, true_and, and_true, false_and, and_false, true_or, or_true]
        omega
      · rw [e44, mrow_sub hW hm] at hv
        have ev : v = nI (hasM P r m).toNat := by
          rcases hv with ⟨y, e⟩ | ⟨y, e⟩
          · rw [e, bnot y]; rfl
          · rw [e, y]; rfl
        rw [ev, nI_add, nI_1]
        exact ih
theorem bst_val {can : Nat → Bool} {h : Nat → Nat} : ∀ {n b g : Nat}, bst can h n = (b, g) → b ≠ 0 → g = h (b - 1) + 1
  | 0, b, g, e, hb => by
    have e1 : (0, 0) = (b, g) := e
    cases e1
    exact absurd rfl hb
  | n + 1, b, g, e, hb => by
    rw [bst] at e
    by_cases q : can n = true ∧ (bst can h n).2 < h n + 1
    · rw [if_pos q] at e
      cases e
      rfl
    · rw [if_neg q] at e
      exact bst_val e hb
theorem s_partsBest {G : mG} {Q : Int32 → mM → Prop} {μ : mM} {c1 : Nat} {s : Ps} (h1 : sh c1 = (0, 6)) (hs : PsOk s) (hC : zC s ≠ 0) (hr : RowsC c1 (zn s) (zR s) (zt s) μ) (hS : SuC (zP s) (zn s) (zR s) (zt s) μ) (k : Q (if guN (zP s) (zn s) (zR s) (zt s) = 0 then -1 else cv (akB s (zn s)).1) μ) : CtI G mX9_rowThatPartsBest [.ref (gb G + 42), .ref (gb G + c1)] μ Q := by
  obtain ⟨⟨hW, hM, -⟩, hrow⟩ := hs.2.2.2 hC
  have hn := hs.2.1
  have eN : gnN (zP s) (zn s) (zR s) (zt s) (MM (zP s)) = guN (zP s) (zn s) (zR s) (zt s) := rfl
  have s1 := hS.1
  have s2 := hS.2.1
  rw [eN] at s1 s2
  have hz : μ 42 3 ≤ 0 ↔ guN (zP s) (zn s) (zR s) (zt s) = 0 := by
    rw [s1]
    exact (nI_leI (b := 0) (by omega) (by omega)).trans (by omega)
  refine e_X9_rowThatPartsBest h1 fun E C => k_X9_rowThatPartsBest_0 C h1 ?_
  by_cases g0 : guN (zP s) (zn s) (zR s) (zt s) = 0
  · rw [if_pos g0] at k
    exact k_X9_rowThatPartsBest_7 C h1 (fun _ => k) (fun z => absurd (hz.mpr g0) z) (fun z => absurd (hz.mpr g0) z) (fun z => absurd (hz.mpr g0) z)
  · rw [if_neg g0] at k
    have hmin : ∀ j, min (guR (zP s) (zn s) (zR s) (zt s) (zR s j)) (guN (zP s) (zn s) (zR s) (zt s) - guR (zP s) (zn s) (zR s) (zt s) (zR s j)) ≤ 56 := fun j => by omega
    have hb2 : ∀ j, (akB s j).2 ≤ 57 := fun j => bst2_le (fun v _ => hmin v)
    have hb1 : ∀ j, (akB s j).1 ≤ j := fun j => bst_le _ _ _
    have loop : ∀ (d j : Nat), j + d = zn s → Wm G mX9_rowThatPartsBest E (bm G mX9_rowThatPartsBest E (pI Q)) μ 7 [(0, .ref (gb G + 42)), (1, .ref (gb G + c1)), (2, .int (cv (akB s j).1)), (3, .int (cv (akB s j).2)), (4, .int (nI j))] [] := by
      intro d
      induction d with
      | zero =>
        intro j hj
        have hjn : j = zn s := by omega
        rw [hjn]
        refine k_X9_rowThatPartsBest_7 C h1 (fun _ => k) (fun _ z => ?_) (fun _ z => ?_) (fun _ z => ?_)
        all_goals
          exfalso
          revert z
          rw [hr.1]
          simp (disch := omega) only [ofNat_nI, nI_add, pk_mul, nI_clamp, nI_leI, nI_ltI, nI_eq, vp_in_nI_iff, nI_subr, nI_m1r, m1_eq, m1_eq2, m1_le, m1_le2, m1_lt, m1_lt2, m1_self, cv_sub, cv_add1, cv_eq, cv_eqI, cv_eqI2, cv_m1, cv_lt0, cv_leI, cv_Ile, cv_le, cv_lt, cv_Ilt, cv_ltI, not_true, not_false_iff, true_implies, false_implies, false_or, or_false, true_and, and_true, false_and, and_false, true_or, or_true]
          omega
      | succ d ih =>
        intro j hj
        have hjn : j < zn s := by omega
        have e1 : μ (c1 + 1) (nI j).toNatClampNeg = rowI (zR s j) := by rw [nI_clamp (by omega)]; exact hr.2.1 j hjn
        have e2 : μ (c1 + 2) (nI j).toNatClampNeg = nI (zt s j) := by rw [nI_clamp (by omega)]; exact hr.2.2 j hjn
        have htj := (hrow j hjn).2
        have et : μ (c1 + 2) (nI j).toNatClampNeg = 0 ↔ zt s j = 0 := by rw [e2]; exact nI_eq (b := 0) (by omega) (by omega)
        have bb : akB s (j + 1) = if decide (zt s j = 0) = true ∧ (akB s j).2 < min (guR (zP s) (zn s) (zR s) (zt s) (zR s j)) (guN (zP s) (zn s) (zR s) (zt s) - guR (zP s) (zn s) (zR s) (zt s) (zR s j)) + 1 then (j + 1, min (guR (zP s) (zn s) (zR s) (zt s) (zR s j)) (guN (zP s) (zn s) (zR s) (zt s) - guR (zP s) (zn s) (zR s) (zt s) (zR s j)) + 1) else akB s j := rfl
        refine k_X9_rowThatPartsBest_7 C h1 (fun z => ?_) (fun _ _ => ?_) (fun _ _ z => ?_) (fun _ _ z => ?_)
        · exfalso
          rcases z with z | ⟨-, z⟩
          · exact g0 (hz.mp z)
          · revert z
            rw [hr.1]
            simp (disch := omega) only [ofNat_nI, nI_add, pk_mul, nI_clamp, nI_leI, nI_ltI, nI_eq, vp_in_nI_iff, nI_subr, nI_m1r, m1_eq, m1_eq2, m1_le, m1_le2, m1_lt, m1_lt2, m1_self, cv_sub, cv_add1, cv_eq, cv_eqI, cv_eqI2, cv_m1, cv_lt0, cv_leI, cv_Ile, cv_le, cv_lt, cv_Ilt, cv_ltI, not_true, not_false_iff, true_implies, false_implies, false_or, or_false, true_and, and_true, false_and, and_false, true_or, or_true]
            omega
        · simp (disch := omega) only [ofNat_nI, nI_add, pk_mul, nI_clamp, nI_leI, nI_ltI, nI_eq, vp_in_nI_iff, nI_subr, nI_m1r, m1_eq, m1_eq2, m1_le, m1_le2, m1_lt, m1_lt2, m1_self, cv_sub, cv_add1, cv_eq, cv_eqI, cv_eqI2, cv_m1, cv_lt0, cv_leI, cv_Ile, cv_le, cv_lt, cv_Ilt, cv_ltI, not_true, not_false_iff, true_implies, false_implies, false_or, or_false, true_and, and_true, false_and, and_false, true_or, or_true]
          omega
        · rw [et] at z
          have := ih (j + 1) (by omega)
          rw [bb, if_neg (fun y => z (of_decide_eq_true y.1))] at this
          rw [nI_1]
          exact this
        · rw [et] at z
          rw [e1]
          have hbj := hb2 j
          have hmj := hmin j
          refine s_lesserPart (r := zR s j) hW hS (k_X9_rowThatPartsBest_44 C h1 (fun y => ?_) (fun y => ?_))
          · rw [cv_Ile (by omega) (by omega)] at y
            have := ih (j + 1) (by omega)
            rw [bb, if_neg (fun w => by have := w.2; omega)] at this
            rw [nI_1]
            exact this
          · rw [cv_Ile (by omega) (by omega)] at y
            have := ih (j + 1) (by omega)
            rw [bb, if_pos ⟨decide_eq_true z, by omega⟩] at this
            rw [nI_1]
            have c1 : cv (j + 1) = nI j := cv_s j
            have c2 : ∀ x, cv (x + 1) = nI x := cv_s
            simp only [c2] at this
            exact this
    exact loop (zn s) 0 (by omega)

/-! THE MODEL: the plan's part of its array, lawful rows by trial -/
def NvR (g : Nat → Int32) (a : Nat → Nat) : Prop := ∃ (m : Nat) (cl le : Nat → Nat), m ≤ 3 ∧ g 0 = nI m ∧ (∀ k, k < m → g (1 + 2 * k) = nI (cl k) ∧ g (2 + 2 * k) = nI (le k) ∧ a (cl k) = le k + 1 ∧ cl k < 8 ∧ le k < 4) ∧ ∀ c, a c ≠ 0 → ∃ k, k < m ∧ cl k = c
/-- the plan's part of the model's array -/
def NowP (g : Nat → Int32) (P : Pl) : Prop := g 0 = nI (qC P) ∧ g 1 = nI (qT P) ∧ g 2 = nI (qN P) ∧ (∀ c, c < qC P → g (5 + c) = nI (qL P c)) ∧ ∀ i, i < qN P → NvR (fun k => g (13 + 7 * i + k)) (qV P i)
/-- a never is had by what is told of the columns to c on, and ends there -/
def brk (P : Pl) (t : Nat → Nat) (c i : Nat) : Prop := qV P i c ≠ 0 ∧ ∀ j, qV P i j ≠ 0 → j ≤ c ∧ qV P i j = t j + 1
theorem s_breaks {G : mG} {Q : Int32 → mM → Prop} {μ : mM} {P : Pl} (h : PW P) (hn : NowP (μ 135) P) {c : Nat} (hc : c < qC P) (t : Nat → Nat) (ht : ∀ j, j ≤ c → μ 139 j = nI (t j) ∧ t j < 4)
    (k1 : (∃ i, i < qN P ∧ brk P t c i) → Q 1 μ) (k0 : (∀ i, i < qN P → ¬ brk P t c i) → Q 0 μ) : CtI G mX12_breaks [.ref (gb G + 132), .int (nI c)] μ Q := by
  have hC : qC P ≤ 8 := h.ct.2.2.2
  have hN : qN P ≤ 12 := h.2.2.2.2.1
  refine e_X12_breaks fun E C => k_X12_breaks_0 C ?_
  have loop : ∀ (d i : Nat), i + d = qN P → (∀ i', i' < i → ¬ brk P t c i') → Wm G mX12_breaks E (bm G mX12_breaks E (pI Q)) μ 2 [(0, .ref (gb G + 132)), (1, .int (nI c)), (2, .int (nI i))] [] := by
    intro d
    induction d with
    | zero =>
      intro i hi hb
      refine k_X12_breaks_2 C (fun _ => k0 (fun i' hi' => hb i' (by omega))) (fun p => ?_)
      exfalso
      revert p
      simp (disch := omega) only [ofNat_nI, nI_add, pk_mul, nI_clamp, nI_leI, nI_ltI, nI_eq, vp_in_nI_iff, nI_subr, nI_m1r, m1_eq, m1_eq2, m1_le, m1_le2, m1_lt, m1_lt2, m1_self, cv_sub, cv_add1, cv_eq, cv_eqI, cv_eqI2, cv_m1, cv_lt0, cv_leI, cv_Ile, cv_le, cv_lt, cv_Ilt, cv_ltI, not_true, not_false_iff, true_implies, false_implies, false_or, or_false, true_and, and_true, false_and, and_false, true_or, or_true, hn.2.2.1]
      omega
    | succ d ih =>
      intro i hi hb
      have hiN : i < qN P := by omega
      refine k_X12_breaks_2 C (fun p => ?_) (fun _ => ?_)
      · exfalso
        revert p
        simp (disch := omega) only [ofNat_nI, nI_add, pk_mul, nI_clamp, nI_leI, nI_ltI, nI_eq, vp_in_nI_iff, nI_subr, nI_m1r, m1_eq, m1_eq2, m1_le, m1_le2, m1_lt, m1_lt2, m1_self, cv_sub, cv_add1, cv_eq, cv_eqI, cv_eqI2, cv_m1, cv_lt0, cv_leI, cv_Ile, cv_le, cv_lt, cv_Ilt, cv_ltI, not_true, not_false_iff, true_implies, false_implies, false_or, or_false, true_and, and_true, false_and, and_false, true_or, or_true, hn.2.2.1]
        omega
      · obtain ⟨m, cl, le, hm3, hm, hk, hcov⟩ := hn.2.2.2.2 i hiN
        have inner : ∀ (e k la is : Nat), k + e = m → (∀ j, j < k → cl j ≤ la) → (la = 0 ∨ ∃ j, j < k ∧ cl j = la) → is ≤ 1 → (is = 1 ↔ ∀ j, j < k → cl j ≤ c ∧ t (cl j) = le j) → la < 8 →
            Wm G mX12_breaks E (bm G mX12_breaks E (pI Q)) μ 20 [(0, .ref (gb G + 132)), (1, .int (nI c)), (2, .int (nI i)), (3, .int (nI la)), (4, .int (nI is)), (5, .int (nI k))] [] := by
          intro e
          induction e with
          | zero =>
            intro k la is hke g1 g2 g3 g4 g5
            refine k_X12_breaks_20 C ?_ ?_ ?_ ?_ ?_ ?_ ?_
            · simp (disch := omega) only [ofNat_nI, nI_add, pk_mul, nI_clamp, nI_leI, nI_ltI, nI_eq, vp_in_nI_iff, nI_subr, nI_m1r, m1_eq, m1_eq2, m1_le, m1_le2, m1_lt, m1_lt2, m1_self, cv_sub, cv_add1, cv_eq, cv_eqI, cv_eqI2, cv_m1, cv_lt0, cv_leI, cv_Ile, cv_le, cv_lt, cv_Ilt, cv_ltI, not_true, not_false_iff, true_implies, false_implies, false_or, or_false, true_and, and_true, false_and, and_false, true_or, or_true]
              omega
            · simp (disch := omega) only [ofNat_nI, nI_add, pk_mul, nI_clamp, nI_leI, nI_ltI, nI_eq, vp_in_nI_iff, nI_subr, nI_m1r, m1_eq, m1_eq2, m1_le, m1_le2, m1_lt, m1_lt2, m1_self, cv_sub, cv_add1, cv_eq, cv_eqI, cv_eqI2, cv_m1, cv_lt0, cv_leI, cv_Ile, cv_le, cv_lt, cv_Ilt, cv_ltI, not_true, not_false_iff, true_implies, false_implies, false_or, or_false, true_and, and_true, false_and, and_false, true_or, or_true, hm]
              intro _ p
              refine ih (i + 1) (by omega) (fun i' hi' => ?_)
              by_cases q : i' = i
              · subst q
                rintro ⟨b1, b2⟩
                have hall : is = 1 := g4.mpr (fun j hj => by
                  obtain ⟨-, -, e1, -, -⟩ := hk j (by omega)
                  obtain ⟨b3, b4⟩ := b2 (cl j) (by rw [e1]; omega)
                  exact ⟨b3, by omega⟩)
                obtain ⟨j, hj, ej⟩ := hcov c b1
                have l1 := g1 j (by omega)
                have l2 : la ≤ c := by
                  rcases g2 with z | ⟨j', hj', z⟩
                  · omega
                  · have := (g4.mp hall j' hj').1
                    omega
                omega
              · exact hb i' (by omega)
            · simp (disch := omega) only [ofNat_nI, nI_add, pk_mul, nI_clamp, nI_leI, nI_ltI, nI_eq, vp_in_nI_iff, nI_subr, nI_m1r, m1_eq, m1_eq2, m1_le, m1_le2, m1_lt, m1_lt2, m1_self, cv_sub, cv_add1, cv_eq, cv_eqI, cv_eqI2, cv_m1, cv_lt0, cv_leI, cv_Ile, cv_le, cv_lt, cv_Ilt, cv_ltI, not_true, not_false_iff, true_implies, false_implies, false_or, or_false, true_and, and_true, false_and, and_false, true_or, or_true, hm]
              intro _ p1 p2
              refine k1 ⟨i, hiN, ?_⟩
              have hall := g4.mp (by omega)
              have hne : ∃ j, j < k ∧ cl j = c := by
                rcases g2 with z | ⟨j', hj', z⟩
                · obtain ⟨cc, hcc⟩ := h.2.2.2.2.2.2 i hiN
                  obtain ⟨j, hj, ej⟩ := hcov cc hcc
                  exact ⟨j, by omega, by have := g1 j (by omega); omega⟩
                · exact ⟨j', hj', by omega⟩
              obtain ⟨j, hj, ej⟩ := hne
              refine ⟨?_, fun jj hjj => ?_⟩
              · obtain ⟨-, -, e1, -, -⟩ := hk j (by omega)
                rw [← ej, e1]; omega
              · obtain ⟨k2, hk2, rfl⟩ := hcov jj hjj
                obtain ⟨-, -, e1, -, -⟩ := hk k2 (by omega)
                obtain ⟨a1, a2⟩ := hall k2 (by omega)
                exact ⟨a1, by omega⟩
            all_goals
              intro p
              exfalso
              revert p
              simp (disch := omega) only [ofNat_nI, nI_add, pk_mul, nI_clamp, nI_leI, nI_ltI, nI_eq, vp_in_nI_iff, nI_subr, nI_m1r, m1_eq, m1_eq2, m1_le, m1_le2, m1_lt, m1_lt2, m1_self, cv_sub, cv_add1, cv_eq, cv_eqI, cv_eqI2, cv_m1, cv_lt0, cv_leI, cv_Ile, cv_le, cv_lt, cv_Ilt, cv_ltI, not_true, not_false_iff, true_implies, false_implies, false_or, or_false, true_and, and_true, false_and, and_false, true_or, or_true, hm]
              omega
          | succ e ihe =>
            intro k la is hke g1 g2 g3 g4 g5
            obtain ⟨e1, e2, e3, e4, e5⟩ := hk k (by omega)
            refine k_X12_breaks_20 C ?_ ?_ ?_ ?_ ?_ ?_ ?_
            · simp (disch := omega) only [ofNat_nI, nI_add, pk_mul, nI_clamp, nI_leI, nI_ltI, nI_eq, vp_in_nI_iff, nI_subr, nI_m1r, m1_eq, m1_eq2, m1_le, m1_le2, m1_lt, m1_lt2, m1_self, cv_sub, cv_add1, cv_eq, cv_eqI, cv_eqI2, cv_m1, cv_lt0, cv_leI, cv_Ile, cv_le, cv_lt, cv_Ilt, cv_ltI, not_true, not_false_iff, true_implies, false_implies, false_or, or_false, true_and, and_true, false_and, and_false, true_or, or_true]
              omega
            · intro p
              exfalso
              revert p
              simp (disch := omega) only [ofNat_nI, nI_add, pk_mul, nI_clamp, nI_leI, nI_ltI, nI_eq, vp_in_nI_iff, nI_subr, nI_m1r, m1_eq, m1_eq2, m1_le, m1_le2, m1_lt, m1_lt2, m1_self, cv_sub, cv_add1, cv_eq, cv_eqI, cv_eqI2, cv_m1, cv_lt0, cv_leI, cv_Ile, cv_le, cv_lt, cv_Ilt, cv_ltI, not_true, not_false_iff, true_implies, false_implies, false_or, or_false, true_and, and_true, false_and, and_false, true_or, or_true, hm]
              omega
            · intro p
              exfalso
              revert p
              simp (disch := omega) only [ofNat_nI, nI_add, pk_mul, nI_clamp, nI_leI, nI_ltI, nI_eq, vp_in_nI_iff, nI_subr, nI_m1r, m1_eq, m1_eq2, m1_le, m1_le2, m1_lt, m1_lt2, m1_self, cv_sub, cv_add1, cv_eq, cv_eqI, cv_eqI2, cv_m1, cv_lt0, cv_leI, cv_Ile, cv_le, cv_lt, cv_Ilt, cv_ltI, not_true, not_false_iff, true_implies, false_implies, false_or, or_false, true_and, and_true, false_and, and_false, true_or, or_true, hm]
              omega
            · simp (disch := omega) only [ofNat_nI, nI_add, pk_mul, nI_clamp, nI_leI, nI_ltI, nI_eq, vp_in_nI_iff, nI_subr, nI_m1r, m1_eq, m1_eq2, m1_le, m1_le2, m1_lt, m1_lt2, m1_self, cv_sub, cv_add1, cv_eq, cv_eqI, cv_eqI2, cv_m1, cv_lt0, cv_leI, cv_Ile, cv_le, cv_lt, cv_Ilt, cv_ltI, not_true, not_false_iff, true_implies, false_implies, false_or, or_false, true_and, and_true, false_and, and_false, true_or, or_true]
              omega
            · simp (disch := omega) only [ofNat_nI, nI_add, pk_mul, nI_clamp, nI_leI, nI_ltI, nI_eq, vp_in_nI_iff, nI_subr, nI_m1r, m1_eq, m1_eq2, m1_le, m1_le2, m1_lt, m1_lt2, m1_self, cv_sub, cv_add1, cv_eq, cv_eqI, cv_eqI2, cv_m1, cv_lt0, cv_leI, cv_Ile, cv_le, cv_lt, cv_Ilt, cv_ltI, not_true, not_false_iff, true_implies, false_implies, false_or, or_false, true_and, and_true, false_and, and_false, true_or, or_true, e1]
              intros
              omega
            · simp (disch := omega) only [ofNat_nI, nI_add, pk_mul, nI_clamp, nI_leI, nI_ltI, nI_eq, vp_in_nI_iff, nI_subr, nI_m1r, m1_eq, m1_eq2, m1_le, m1_le2, m1_lt, m1_lt2, m1_self, cv_sub, cv_add1, cv_eq, cv_eqI, cv_eqI2, cv_m1, cv_lt0, cv_leI, cv_Ile, cv_le, cv_lt, cv_Ilt, cv_ltI, not_true, not_false_iff, true_implies, false_implies, false_or, or_false, true_and, and_true, false_and, and_false, true_or, or_true]
              intros
              omega
            · intro _ v1 hv1 v2 hv2
              have hv1' : v1 = nI (if cl k ≤ la then la else cl k) := by
                revert hv1
                simp (disch := omega) only [ofNat_nI, nI_add, pk_mul, nI_clamp, nI_leI, nI_ltI, nI_eq, vp_in_nI_iff, nI_subr, nI_m1r, m1_eq, m1_eq2, m1_le, m1_le2, m1_lt, m1_lt2, m1_self, cv_sub, cv_add1, cv_eq, cv_eqI, cv_eqI2, cv_m1, cv_lt0, cv_leI, cv_Ile, cv_le, cv_lt, cv_Ilt, cv_ltI, not_true, not_false_iff, true_implies, false_implies, false_or, or_false, true_and, and_true, false_and, and_false, true_or, or_true, e1]
                intro hv1
                rcases hv1 with ⟨a, b⟩ | ⟨a, b⟩
                · rw [if_pos a, b]
                · rw [if_neg a, b]
              have hv2' : v2 = nI (if is = 1 ∧ cl k ≤ c ∧ t (cl k) = le k then 1 else 0) := by
                by_cases q : cl k ≤ c
                · obtain ⟨t1, t2⟩ := ht (cl k) q
                  revert hv2
                  simp (disch := omega) only [ofNat_nI, nI_add, pk_mul, nI_clamp, nI_leI, nI_ltI, nI_eq, vp_in_nI_iff, nI_subr, nI_m1r, m1_eq, m1_eq2, m1_le, m1_le2, m1_lt, m1_lt2, m1_self, cv_sub, cv_add1, cv_eq, cv_eqI, cv_eqI2, cv_m1, cv_lt0, cv_leI, cv_Ile, cv_le, cv_lt, cv_Ilt, cv_ltI, not_true, not_false_iff, true_implies, false_implies, false_or, or_false, true_and, and_true, false_and, and_false, true_or, or_true, e1, e2, t1]
                  intro hv2
                  rcases hv2 with ⟨a, b⟩ | ⟨a, b, a2, b2⟩
                  · rw [if_neg (by omega), b]
                  · rw [if_pos (by omega), b2]
                · revert hv2
                  simp (disch := omega) only [ofNat_nI, nI_add, pk_mul, nI_clamp, nI_leI, nI_ltI, nI_eq, vp_in_nI_iff, nI_subr, nI_m1r, m1_eq, m1_eq2, m1_le, m1_le2, m1_lt, m1_lt2, m1_self, cv_sub, cv_add1, cv_eq, cv_eqI, cv_eqI2, cv_m1, cv_lt0, cv_leI, cv_Ile, cv_le, cv_lt, cv_Ilt, cv_ltI, not_true, not_false_iff, true_implies, false_implies, false_or, or_false, true_and, and_true, false_and, and_false, true_or, or_true, e1]
                  intro hv2
                  rcases hv2 with ⟨a, b⟩ | ⟨a, b, a2, b2⟩
                  · rw [if_neg (by omega), b]
                  · omega
              subst hv1' hv2'
              simp (disch := omega) only [ofNat_nI, nI_add, pk_mul, nI_clamp, nI_leI, nI_ltI, nI_eq, vp_in_nI_iff, nI_subr, nI_m1r, m1_eq, m1_eq2, m1_le, m1_le2, m1_lt, m1_lt2, m1_self, cv_sub, cv_add1, cv_eq, cv_eqI, cv_eqI2, cv_m1, cv_lt0, cv_leI, cv_Ile, cv_le, cv_lt, cv_Ilt, cv_ltI, not_true, not_false_iff, true_implies, false_implies, false_or, or_false, true_and, and_true, false_and, and_false, true_or, or_true]
              refine ihe (k + 1) _ _ (by omega) (fun j hj => ?_) ?_ ?_ ?_ ?_
              · by_cases q : j = k
                · subst q
                  split <;> omega
                · have := g1 j (by omega)
                  split <;> omega
              · split
                · rcases g2 with z | ⟨j', hj', z⟩
                  · exact Or.inl z
                  · exact Or.inr ⟨j', by omega, z⟩
                · exact Or.inr ⟨k, by omega, rfl⟩
              · split <;> omega
              · constructor
                · intro z j hj
                  have hh : is = 1 ∧ cl k ≤ c ∧ t (cl k) = le k := by
                    refine Classical.byContradiction fun nn => ?_
                    rw [if_neg nn] at z
                    omega
                  by_cases q : j = k
                  · subst q
                    exact hh.2
                  · exact g4.mp hh.1 j (by omega)
                · intro z
                  exact if_pos ⟨g4.mpr (fun j hj => z j (by omega)), z k (by omega)⟩
              · split <;> omega
        exact inner m 0 0 1 (by omega) (fun j hj => by omega) (Or.inl rfl) (by omega) ⟨fun _ j hj => by omega, fun _ => rfl⟩ (by omega)
  exact loop (qN P) 0 (by omega) (fun i' hi' => by omega)

/-! THE MODEL: sets of columns, levels of a number -/
def Fr (K : List Nat) (μ μ' : mM) : Prop := ∀ c, c ∉ K → μ' c = μ c
theorem Fr.rf (K : List Nat) (μ : mM) : Fr K μ μ := fun _ _ => rfl
theorem Fr.tr {K : List Nat} {μ μ' μ'' : mM} (h : Fr K μ μ') (h' : Fr K μ' μ'') : Fr K μ μ'' := fun c hc => (h' c hc).trans (h c hc)
theorem Fr.mono {K K' : List Nat} {μ μ' : mM} (h : Fr K μ μ') (hK : ∀ c, c ∈ K → c ∈ K') : Fr K' μ μ' := fun c hc => h c (fun q => hc (hK c q))
theorem Fr.mrw {K : List Nat} {μ μ' : mM} {c : Nat} {f : Nat → Int32} (h : Fr K μ μ') (hc : c ∈ K) : Fr K μ (mrw μ' c f) := fun c' hc' => by
  rw [mrw_ne (fun e => hc' (by rw [e]; exact hc))]; exact h c' hc'
theorem Fr.ms {K : List Nat} {μ μ' : mM} {c j : Nat} {v : Int32} (h : Fr K μ μ') (hc : c ∈ K) : Fr K μ (ms μ' c j v) := h.mrw hc
theorem s_beginsSet {G : mG} {Q : mM → Prop} {μ : mM} {t : Nat} (ht : t ≤ 3) (k : ∀ g : Nat → Int32, (∀ j, j < t → g j = nI j) → Q (mrw μ 143 g)) : CtV G mX12_beginsSet [.ref (gb G + 132), .int (nI t)] μ Q := by
  refine e_X12_beginsSet fun E C => k_X12_beginsSet_0 C ?_
  have loop : ∀ (d i : Nat) (g : Nat → Int32), i + d = t → (∀ j, j < i → g j = nI j) → Wm G mX12_beginsSet E (bm G mX12_beginsSet E (pV Q)) (mrw μ 143 g) 2 [(0, .ref (gb G + 132)), (1, .int (nI t)), (2, .int (nI i))] [] := by
    intro d
    induction d with
    | zero =>
      intro i g hi hg
      refine k_X12_beginsSet_2 C (fun _ => k g (fun j hj => hg j (by omega))) (fun p => ?_) (fun p => ?_)
      all_goals
        exfalso
        revert p
        simp (disch := omega) only [ofNat_nI, nI_add, pk_mul, nI_clamp, nI_leI, nI_ltI, nI_eq, vp_in_nI_iff, nI_subr, nI_m1r, m1_eq, m1_eq2, m1_le, m1_le2, m1_lt, m1_lt2, m1_self, cv_sub, cv_add1, cv_eq, cv_eqI, cv_eqI2, cv_m1, cv_lt0, cv_leI, cv_Ile, cv_le, cv_lt, cv_Ilt, cv_ltI, not_true, not_false_iff, true_implies, false_implies, false_or, or_false, true_and, and_true, false_and, and_false, true_or, or_true]
        omega
    | succ d ih =>
      intro i g hi hg
      refine k_X12_beginsSet_2 C (fun p => ?_) (fun _ => ?_) (fun _ => ?_)
      · exfalso
        revert p
        simp (disch := omega) only [ofNat_nI, nI_add, pk_mul, nI_clamp, nI_leI, nI_ltI, nI_eq, vp_in_nI_iff, nI_subr, nI_m1r, m1_eq, m1_eq2, m1_le, m1_le2, m1_lt, m1_lt2, m1_self, cv_sub, cv_add1, cv_eq, cv_eqI, cv_eqI2, cv_m1, cv_lt0, cv_leI, cv_Ile, cv_le, cv_lt, cv_Ilt, cv_ltI, not_true, not_false_iff, true_implies, false_implies, false_or, or_false, true_and, and_true, false_and, and_false, true_or, or_true]
        omega
      · simp (disch := omega) only [ofNat_nI, nI_add, pk_mul, nI_clamp, nI_leI, nI_ltI, nI_eq, vp_in_nI_iff, nI_subr, nI_m1r, m1_eq, m1_eq2, m1_le, m1_le2, m1_lt, m1_lt2, m1_self, cv_sub, cv_add1, cv_eq, cv_eqI, cv_eqI2, cv_m1, cv_lt0, cv_leI, cv_Ile, cv_le, cv_lt, cv_Ilt, cv_ltI, not_true, not_false_iff, true_implies, false_implies, false_or, or_false, true_and, and_true, false_and, and_false, true_or, or_true]
        omega
      · simp (disch := omega) only [ofNat_nI, nI_add, pk_mul, nI_clamp, nI_leI, nI_ltI, nI_eq, vp_in_nI_iff, nI_subr, nI_m1r, m1_eq, m1_eq2, m1_le, m1_le2, m1_lt, m1_lt2, m1_self, cv_sub, cv_add1, cv_eq, cv_eqI, cv_eqI2, cv_m1, cv_lt0, cv_leI, cv_Ile, cv_le, cv_lt, cv_Ilt, cv_ltI, not_true, not_false_iff, true_implies, false_implies, false_or, or_false, true_and, and_true, false_and, and_false, true_or, or_true]
        rw [ms_mrw]
        refine ih (i + 1) _ (by omega) (fun j hj => ?_)
        rw [upd_at]
        by_cases q : j = i
        · rw [if_pos q, q]
        · rw [if_neg q]; exact hg j (by omega)
  have := loop t 0 (μ 143) (by omega) (fun j hj => by omega)
  rw [mrw_self] at this
  exact this
theorem s_nextSet {G : mG} {Q : Int32 → mM → Prop} {μ : mM} {C t : Nat} {s : Nat → Nat} (h0 : μ 135 0 = nI C) (ht : 1 ≤ t ∧ t ≤ 3 ∧ t ≤ C ∧ C ≤ 8) (hs : ∀ j, j < t → μ 143 j = nI (s j) ∧ s j ≤ C - t + j)
    (k0 : (∀ j, j < t → s j = C - t + j) → Q 0 μ)
    (k1 : ∀ a, a < t → s a ≠ C - t + a → (∀ j, j < t → a < j → s j = C - t + j) → ∀ g : Nat → Int32, (∀ j, j < t → g j = nI (if j < a then s j else s a + 1 + (j - a))) → Q 1 (mrw μ 143 g)) : CtI G mX12_nextSet [.ref (gb G + 132), .int (nI t)] μ Q := by
  obtain ⟨t1, t3, tC, tC8⟩ := ht
  refine e_X12_nextSet fun E X => k_X12_nextSet_0 X ?_
  have loop3 : ∀ (a : Nat), a < t → s a ≠ C - t + a → (∀ j, j < t → a < j → s j = C - t + j) → ∀ (d i : Nat) (g : Nat → Int32), i + d = t → a < i → (∀ j, j < i → g j = nI (if j < a then s j else s a + 1 + (j - a))) →
      Wm G mX12_nextSet E (bm G mX12_nextSet E (pI Q)) (mrw μ 143 g) 53 [(0, .ref (gb G + 132)), (1, .int (nI t)), (3, .int (nI i))] [] := by
    intro a ha1 ha2 ha3 d
    have hsa := (hs a ha1).2
    induction d with
    | zero =>
      intro i g hi hai hg
      refine k_X12_nextSet_53 X (fun _ => k1 a ha1 ha2 ha3 g (fun j hj => hg j (by omega))) (fun p => ?_) (fun p => ?_) (fun p => ?_)
      all_goals
        exfalso
        revert p
        simp (disch := omega) only [ofNat_nI, nI_add, pk_mul, nI_clamp, nI_leI, nI_ltI, nI_eq, vp_in_nI_iff, nI_subr, nI_m1r, m1_eq, m1_eq2, m1_le, m1_le2, m1_lt, m1_lt2, m1_self, cv_sub, cv_add1, cv_eq, cv_eqI, cv_eqI2, cv_m1, cv_lt0, cv_leI, cv_Ile, cv_le, cv_lt, cv_Ilt, cv_ltI, not_true, not_false_iff, true_implies, false_implies, false_or, or_false, true_and, and_true, false_and, and_false, true_or, or_true]
        omega
    | succ d ih =>
      intro i g hi hai hg
      refine k_X12_nextSet_53 X (fun p => ?_) (fun _ => ?_) (fun _ => ?_) (fun _ => ?_)
      · exfalso
        revert p
        simp (disch := omega) only [ofNat_nI, nI_add, pk_mul, nI_clamp, nI_leI, nI_ltI, nI_eq, vp_in_nI_iff, nI_subr, nI_m1r, m1_eq, m1_eq2, m1_le, m1_le2, m1_lt, m1_lt2, m1_self, cv_sub, cv_add1, cv_eq, cv_eqI, cv_eqI2, cv_m1, cv_lt0, cv_leI, cv_Ile, cv_le, cv_lt, cv_Ilt, cv_ltI, not_true, not_false_iff, true_implies, false_implies, false_or, or_false, true_and, and_true, false_and, and_false, true_or, or_true]
        omega
      · simp (disch := omega) only [ofNat_nI, nI_add, pk_mul, nI_clamp, nI_leI, nI_ltI, nI_eq, vp_in_nI_iff, nI_subr, nI_m1r, m1_eq, m1_eq2, m1_le, m1_le2, m1_lt, m1_lt2, m1_self, cv_sub, cv_add1, cv_eq, cv_eqI, cv_eqI2, cv_m1, cv_lt0, cv_leI, cv_Ile, cv_le, cv_lt, cv_Ilt, cv_ltI, not_true, not_false_iff, true_implies, false_implies, false_or, or_false, true_and, and_true, false_and, and_false, true_or, or_true]
        omega
      · simp (disch := omega) only [ofNat_nI, nI_add, pk_mul, nI_clamp, nI_leI, nI_ltI, nI_eq, vp_in_nI_iff, nI_subr, nI_m1r, m1_eq, m1_eq2, m1_le, m1_le2, m1_lt, m1_lt2, m1_self, cv_sub, cv_add1, cv_eq, cv_eqI, cv_eqI2, cv_m1, cv_lt0, cv_leI, cv_Ile, cv_le, cv_lt, cv_Ilt, cv_ltI, not_true, not_false_iff, true_implies, false_implies, false_or, or_false, true_and, and_true, false_and, and_false, true_or, or_true]
        omega
      · have e := hg (i - 1) (by omega)
        rw [if_neg (by omega)] at e
        simp (disch := omega) only [ofNat_nI, nI_add, pk_mul, nI_clamp, nI_leI, nI_ltI, nI_eq, vp_in_nI_iff, nI_subr, nI_m1r, m1_eq, m1_eq2, m1_le, m1_le2, m1_lt, m1_lt2, m1_self, cv_sub, cv_add1, cv_eq, cv_eqI, cv_eqI2, cv_m1, cv_lt0, cv_leI, cv_Ile, cv_le, cv_lt, cv_Ilt, cv_ltI, not_true, not_false_iff, true_implies, false_implies, false_or, or_false, true_and, and_true, false_and, and_false, true_or, or_true]
        rw [mrw_at, e]
        simp (disch := omega) only [ofNat_nI, nI_add, pk_mul, nI_clamp, nI_leI, nI_ltI, nI_eq, vp_in_nI_iff, nI_subr, nI_m1r, m1_eq, m1_eq2, m1_le, m1_le2, m1_lt, m1_lt2, m1_self, cv_sub, cv_add1, cv_eq, cv_eqI, cv_eqI2, cv_m1, cv_lt0, cv_leI, cv_Ile, cv_le, cv_lt, cv_Ilt, cv_ltI, not_true, not_false_iff, true_implies, false_implies, false_or, or_false, true_and, and_true, false_and, and_false, true_or, or_true]
        rw [ms_mrw]
        refine ih (i + 1) _ (by omega) (by omega) (fun j hj => ?_)
        rw [upd_at]
        by_cases q : j = i
        · rw [if_pos q, if_neg (by omega)]
          congr 1
          omega
        · rw [if_neg q]; exact hg j (by omega)
  have at33 : ∀ kk, kk ≤ t → (∀ j, j < t → kk ≤ j → s j = C - t + j) → (kk = 0 ∨ s (kk - 1) ≠ C - t + (kk - 1)) → Wm G mX12_nextSet E (bm G mX12_nextSet E (pI Q)) μ 33 [(0, .ref (gb G + 132)), (1, .int (nI t)), (2, .int (cv kk))] [] := by
    intro kk hkk hall hne
    cases kk with
    | zero =>
      refine k_X12_nextSet_33 X (fun p => ?_) (fun p => ?_) (fun _ => k0 (fun j hj => hall j hj (by omega)))
      all_goals exact absurd p (by decide)
    | succ a =>
      have e : a + 1 - 1 = a := rfl
      rw [e] at hne
      rw [cv_s]
      refine k_X12_nextSet_33 X (fun _ => ?_) (fun _ => ?_) (fun p => absurd (nI_pos' (by omega)) p)
      · simp (disch := omega) only [ofNat_nI, nI_add, pk_mul, nI_clamp, nI_leI, nI_ltI, nI_eq, vp_in_nI_iff, nI_subr, nI_m1r, m1_eq, m1_eq2, m1_le, m1_le2, m1_lt, m1_lt2, m1_self, cv_sub, cv_add1, cv_eq, cv_eqI, cv_eqI2, cv_m1, cv_lt0, cv_leI, cv_Ile, cv_le, cv_lt, cv_Ilt, cv_ltI, not_true, not_false_iff, true_implies, false_implies, false_or, or_false, true_and, and_true, false_and, and_false, true_or, or_true]
        omega
      · obtain ⟨q1, q2⟩ := hs a (by omega)
        simp (disch := omega) only [ofNat_nI, nI_add, pk_mul, nI_clamp, nI_leI, nI_ltI, nI_eq, vp_in_nI_iff, nI_subr, nI_m1r, m1_eq, m1_eq2, m1_le, m1_le2, m1_lt, m1_lt2, m1_self, cv_sub, cv_add1, cv_eq, cv_eqI, cv_eqI2, cv_m1, cv_lt0, cv_leI, cv_Ile, cv_le, cv_lt, cv_Ilt, cv_ltI, not_true, not_false_iff, true_implies, false_implies, false_or, or_false, true_and, and_true, false_and, and_false, true_or, or_true]
        rw [q1, ms_mrw0]
        simp (disch := omega) only [ofNat_nI, nI_add, pk_mul, nI_clamp, nI_leI, nI_ltI, nI_eq, vp_in_nI_iff, nI_subr, nI_m1r, m1_eq, m1_eq2, m1_le, m1_le2, m1_lt, m1_lt2, m1_self, cv_sub, cv_add1, cv_eq, cv_eqI, cv_eqI2, cv_m1, cv_lt0, cv_leI, cv_Ile, cv_le, cv_lt, cv_Ilt, cv_ltI, not_true, not_false_iff, true_implies, false_implies, false_or, or_false, true_and, and_true, false_and, and_false, true_or, or_true]
        refine loop3 a (by omega) (by omega) (fun j h1 h2 => hall j h1 (by omega)) (t - (a + 1)) (a + 1) _ (by omega) (by omega) (fun j hj => ?_)
        rw [upd_at]
        by_cases q : j = a
        · rw [if_pos q, if_neg (by omega)]
          congr 1
          omega
        · rw [if_neg q, if_pos (by omega)]
          exact (hs j (by omega)).1
  have loop : ∀ (kk : Nat), kk ≤ t → (∀ j, j < t → kk ≤ j → s j = C - t + j) → Wm G mX12_nextSet E (bm G mX12_nextSet E (pI Q)) μ 4 [(0, .ref (gb G + 132)), (1, .int (nI t)), (2, .int (cv kk))] [] := by
    intro kk
    induction kk with
    | zero =>
      intro hkk hall
      refine k_X12_nextSet_4 X (fun _ => at33 0 hkk hall (Or.inl rfl)) (fun p => ?_) (fun p => ?_)
      all_goals exact absurd (by decide) p
    | succ a ih =>
      intro hkk hall
      obtain ⟨q1, q2⟩ := hs a (by omega)
      refine k_X12_nextSet_4 X (fun p => ?_) (fun _ => ?_) (fun _ p => ?_)
      · refine at33 (a + 1) hkk hall (Or.inr ?_)
        revert p
        rw [cv_s]
        simp (disch := omega) only [ofNat_nI, nI_add, pk_mul, nI_clamp, nI_leI, nI_ltI, nI_eq, vp_in_nI_iff, nI_subr, nI_m1r, m1_eq, m1_eq2, m1_le, m1_le2, m1_lt, m1_lt2, m1_self, cv_sub, cv_add1, cv_eq, cv_eqI, cv_eqI2, cv_m1, cv_lt0, cv_leI, cv_Ile, cv_le, cv_lt, cv_Ilt, cv_ltI, not_true, not_false_iff, true_implies, false_implies, false_or, or_false, true_and, and_true, false_and, and_false, true_or, or_true, h0, q1]
        intro p
        show s a ≠ C - t + a
        omega
      · rw [cv_s]
        simp (disch := omega) only [ofNat_nI, nI_add, pk_mul, nI_clamp, nI_leI, nI_ltI, nI_eq, vp_in_nI_iff, nI_subr, nI_m1r, m1_eq, m1_eq2, m1_le, m1_le2, m1_lt, m1_lt2, m1_self, cv_sub, cv_add1, cv_eq, cv_eqI, cv_eqI2, cv_m1, cv_lt0, cv_leI, cv_Ile, cv_le, cv_lt, cv_Ilt, cv_ltI, not_true, not_false_iff, true_implies, false_implies, false_or, or_false, true_and, and_true, false_and, and_false, true_or, or_true]
        omega
      · revert p
        rw [cv_s]
        simp (disch := omega) only [ofNat_nI, nI_add, pk_mul, nI_clamp, nI_leI, nI_ltI, nI_eq, vp_in_nI_iff, nI_subr, nI_m1r, m1_eq, m1_eq2, m1_le, m1_le2, m1_lt, m1_lt2, m1_self, cv_sub, cv_add1, cv_eq, cv_eqI, cv_eqI2, cv_m1, cv_lt0, cv_leI, cv_Ile, cv_le, cv_lt, cv_Ilt, cv_ltI, not_true, not_false_iff, true_implies, false_implies, false_or, or_false, true_and, and_true, false_and, and_false, true_or, or_true, h0, q1]
        intro p
        refine ih (by omega) (fun j h1 h2 => ?_)
        by_cases q : j = a
        · subst q; exact p
        · exact hall j h1 (by omega)
  have := loop t (Nat.le_refl t) (fun j h1 h2 => by omega)
  obtain ⟨t', rfl⟩ : ∃ t', t = t' + 1 := ⟨t - 1, by omega⟩
  rw [cv_s] at this
  simp (disch := omega) only [ofNat_nI, nI_add, pk_mul, nI_clamp, nI_leI, nI_ltI, nI_eq, vp_in_nI_iff, nI_subr, nI_m1r, m1_eq, m1_eq2, m1_le, m1_le2, m1_lt, m1_lt2, m1_self, cv_sub, cv_add1, cv_eq, cv_eqI, cv_eqI2, cv_m1, cv_lt0, cv_leI, cv_Ile, cv_le, cv_lt, cv_Ilt, cv_ltI, not_true, not_false_iff, true_implies, false_implies, false_or, or_false, true_and, and_true, false_and, and_false, true_or, or_true]
  exact this
theorem s_levelsOfSet {G : mG} {Q : Int32 → mM → Prop} {μ : mM} {t : Nat} {s L : Nat → Nat} (ht : t ≤ 3) (hs : ∀ j, j < t → μ 143 j = nI (s j) ∧ s j < 8 ∧ μ 135 (5 + s j) = nI (L j))
    (k : Q (nI (pd t L)) μ) : CtI G mX12_levelsOfSet [.ref (gb G + 132), .int (nI t)] μ Q := by
  refine e_X12_levelsOfSet fun E C => k_X12_levelsOfSet_0 C ?_
  have loop : ∀ (d i : Nat), i + d = t → Wm G mX12_levelsOfSet E (bm G mX12_levelsOfSet E (pI Q)) μ 4 [(0, .ref (gb G + 132)), (1, .int (nI t)), (2, .int (nI (pd i L))), (3, .int (nI i))] [] := by
    intro d
    induction d with
    | zero =>
      intro i hi
      refine k_X12_levelsOfSet_4 C (fun _ => by rw [show i = t by omega]; exact k) (fun p => ?_) (fun p => ?_) (fun p => ?_)
      all_goals
        exfalso
        revert p
        simp (disch := omega) only [ofNat_nI, nI_add, pk_mul, nI_clamp, nI_leI, nI_ltI, nI_eq, vp_in_nI_iff, nI_subr, nI_m1r, m1_eq, m1_eq2, m1_le, m1_le2, m1_lt, m1_lt2, m1_self, cv_sub, cv_add1, cv_eq, cv_eqI, cv_eqI2, cv_m1, cv_lt0, cv_leI, cv_Ile, cv_le, cv_lt, cv_Ilt, cv_ltI, not_true, not_false_iff, true_implies, false_implies, false_or, or_false, true_and, and_true, false_and, and_false, true_or, or_true]
        omega
    | succ d ih =>
      intro i hi
      obtain ⟨q1, q2, q3⟩ := hs i (by omega)
      refine k_X12_levelsOfSet_4 C (fun p => ?_) (fun _ => ?_) (fun _ => ?_) (fun _ => ?_)
      · exfalso
        revert p
        simp (disch := omega) only [ofNat_nI, nI_add, pk_mul, nI_clamp, nI_leI, nI_ltI, nI_eq, vp_in_nI_iff, nI_subr, nI_m1r, m1_eq, m1_eq2, m1_le, m1_le2, m1_lt, m1_lt2, m1_self, cv_sub, cv_add1, cv_eq, cv_eqI, cv_eqI2, cv_m1, cv_lt0, cv_leI, cv_Ile, cv_le, cv_lt, cv_Ilt, cv_ltI, not_true, not_false_iff, true_implies, false_implies, false_or, or_false, true_and, and_true, false_and, and_false, true_or, or_true]
        omega
      · simp (disch := omega) only [ofNat_nI, nI_add, pk_mul, nI_clamp, nI_leI, nI_ltI, nI_eq, vp_in_nI_iff, nI_subr, nI_m1r, m1_eq, m1_eq2, m1_le, m1_le2, m1_lt, m1_lt2, m1_self, cv_sub, cv_add1, cv_eq, cv_eqI, cv_eqI2, cv_m1, cv_lt0, cv_leI, cv_Ile, cv_le, cv_lt, cv_Ilt, cv_ltI, not_true, not_false_iff, true_implies, false_implies, false_or, or_false, true_and, and_true, false_and, and_false, true_or, or_true]
        omega
      · simp (disch := omega) only [ofNat_nI, nI_add, pk_mul, nI_clamp, nI_leI, nI_ltI, nI_eq, vp_in_nI_iff, nI_subr, nI_m1r, m1_eq, m1_eq2, m1_le, m1_le2, m1_lt, m1_lt2, m1_self, cv_sub, cv_add1, cv_eq, cv_eqI, cv_eqI2, cv_m1, cv_lt0, cv_leI, cv_Ile, cv_le, cv_lt, cv_Ilt, cv_ltI, not_true, not_false_iff, true_implies, false_implies, false_or, or_false, true_and, and_true, false_and, and_false, true_or, or_true, q1]
        omega
      · simp (disch := omega) only [ofNat_nI, nI_add, pk_mul, nI_clamp, nI_leI, nI_ltI, nI_eq, vp_in_nI_iff, nI_subr, nI_m1r, m1_eq, m1_eq2, m1_le, m1_le2, m1_lt, m1_lt2, m1_self, cv_sub, cv_add1, cv_eq, cv_eqI, cv_eqI2, cv_m1, cv_lt0, cv_leI, cv_Ile, cv_le, cv_lt, cv_Ilt, cv_ltI, not_true, not_false_iff, true_implies, false_implies, false_or, or_false, true_and, and_true, false_and, and_false, true_or, or_true, q1, q3]
        exact ih (i + 1) (by omega)
  exact loop t 0 (by omega)
theorem dvs_le (L : Nat → Nat) (k : Nat) : ∀ (n w : Nat), dvs L k n w ≤ w
  | 0, w => Nat.le_refl w
  | n + 1, w => by
    rw [dvs]
    exact Nat.le_trans (dvs_le L k n _) (Nat.div_le_self _ _)
theorem s_levelOf {G : mG} {Q : Int32 → mM → Prop} {μ : mM} {t w k : Nat} {s L : Nat → Nat} (ht : t ≤ 3) (hk : k < t) (hw : w < 2 ^ 31) (hs : ∀ j, j < t → μ 143 j = nI (s j) ∧ s j < 8 ∧ μ 135 (5 + s j) = nI (L j) ∧ 0 < L j ∧ L j < 5)
    (kq : Q (nI (dg L t w k)) μ) : CtI G mX12_levelOf [.ref (gb G + 132), .int (nI w), .int (nI k), .int (nI t)] μ Q := by
  refine e_X12_levelOf fun E C => k_X12_levelOf_0 C ?_
  have loop : ∀ (n w' : Nat), k + 1 + n ≤ t → w' < 2 ^ 31 → dvs L (k + 1) n w' % L k = dg L t w k → Wm G mX12_levelOf E (bm G mX12_levelOf E (pI Q)) μ 8 [(0, .ref (gb G + 132)), (2, .int (nI k)), (4, .int (nI w')), (5, .int (nI (k + n)))] [] := by
    intro n
    induction n with
    | zero =>
      intro w' hn hw' e
      obtain ⟨q1, q2, q3, q4, q5⟩ := hs k hk
      refine k_X12_levelOf_8 C (fun _ => ?_) (fun _ => ?_) (fun _ => ?_) (fun _ => ?_) (fun p => ?_) (fun p => ?_) (fun p => ?_) (fun p => ?_)
      · simp (disch := omega) only [ofNat_nI, nI_add, pk_mul, nI_clamp, nI_leI, nI_ltI, nI_eq, vp_in_nI_iff, nI_subr, nI_m1r, m1_eq, m1_eq2, m1_le, m1_le2, m1_lt, m1_lt2, m1_self, cv_sub, cv_add1, cv_eq, cv_eqI, cv_eqI2, cv_m1, cv_lt0, cv_leI, cv_Ile, cv_le, cv_lt, cv_Ilt, cv_ltI, not_true, not_false_iff, true_implies, false_implies, false_or, or_false, true_and, and_true, false_and, and_false, true_or, or_true]
        omega
      · simp (disch := omega) only [ofNat_nI, nI_add, pk_mul, nI_clamp, nI_leI, nI_ltI, nI_eq, vp_in_nI_iff, nI_subr, nI_m1r, m1_eq, m1_eq2, m1_le, m1_le2, m1_lt, m1_lt2, m1_self, cv_sub, cv_add1, cv_eq, cv_eqI, cv_eqI2, cv_m1, cv_lt0, cv_leI, cv_Ile, cv_le, cv_lt, cv_Ilt, cv_ltI, not_true, not_false_iff, true_implies, false_implies, false_or, or_false, true_and, and_true, false_and, and_false, true_or, or_true, q1]
        omega
      · simp (disch := omega) only [ofNat_nI, nI_add, pk_mul, nI_clamp, nI_leI, nI_ltI, nI_eq, vp_in_nI_iff, nI_subr, nI_m1r, m1_eq, m1_eq2, m1_le, m1_le2, m1_lt, m1_lt2, m1_self, cv_sub, cv_add1, cv_eq, cv_eqI, cv_eqI2, cv_m1, cv_lt0, cv_leI, cv_Ile, cv_le, cv_lt, cv_Ilt, cv_ltI, not_true, not_false_iff, true_implies, false_implies, false_or, or_false, true_and, and_true, false_and, and_false, true_or, or_true, q1, q3]
        omega
      · simp (disch := omega) only [ofNat_nI, nI_add, pk_mul, nI_clamp, nI_leI, nI_ltI, nI_eq, vp_in_nI_iff, nI_subr, nI_m1r, m1_eq, m1_eq2, m1_le, m1_le2, m1_lt, m1_lt2, m1_self, cv_sub, cv_add1, cv_eq, cv_eqI, cv_eqI2, cv_m1, cv_lt0, cv_leI, cv_Ile, cv_le, cv_lt, cv_Ilt, cv_ltI, not_true, not_false_iff, true_implies, false_implies, false_or, or_false, true_and, and_true, false_and, and_false, true_or, or_true, q1, q3]
        rw [pk_div hw' q4 (by omega), pk_mul, nI_subr (Nat.div_mul_le_self _ _)]
        have e2 : w' - w' / L k * L k = dg L t w k := by
          rw [← e, dvs]
          have := Nat.div_add_mod w' (L k)
          rw [Nat.mul_comm] at this
          omega
        rw [e2]
        exact kq
      all_goals
        exfalso
        revert p
        simp (disch := omega) only [ofNat_nI, nI_add, pk_mul, nI_clamp, nI_leI, nI_ltI, nI_eq, vp_in_nI_iff, nI_subr, nI_m1r, m1_eq, m1_eq2, m1_le, m1_le2, m1_lt, m1_lt2, m1_self, cv_sub, cv_add1, cv_eq, cv_eqI, cv_eqI2, cv_m1, cv_lt0, cv_leI, cv_Ile, cv_le, cv_lt, cv_Ilt, cv_ltI, not_true, not_false_iff, true_implies, false_implies, false_or, or_false, true_and, and_true, false_and, and_false, true_or, or_true]
        omega
    | succ n ih =>
      intro w' hn hw' e
      obtain ⟨q1, q2, q3, q4, q5⟩ := hs (k + (n + 1)) (by omega)
      refine k_X12_levelOf_8 C (fun p => ?_) (fun p => ?_) (fun p => ?_) (fun p => ?_) (fun _ => ?_) (fun _ => ?_) (fun _ => ?_) (fun _ => ?_)
      · exfalso
        revert p
        simp (disch := omega) only [ofNat_nI, nI_add, pk_mul, nI_clamp, nI_leI, nI_ltI, nI_eq, vp_in_nI_iff, nI_subr, nI_m1r, m1_eq, m1_eq2, m1_le, m1_le2, m1_lt, m1_lt2, m1_self, cv_sub, cv_add1, cv_eq, cv_eqI, cv_eqI2, cv_m1, cv_lt0, cv_leI, cv_Ile, cv_le, cv_lt, cv_Ilt, cv_ltI, not_true, not_false_iff, true_implies, false_implies, false_or, or_false, true_and, and_true, false_and, and_false, true_or, or_true]
        omega
      · exfalso
        revert p
        simp (disch := omega) only [ofNat_nI, nI_add, pk_mul, nI_clamp, nI_leI, nI_ltI, nI_eq, vp_in_nI_iff, nI_subr, nI_m1r, m1_eq, m1_eq2, m1_le, m1_le2, m1_lt, m1_lt2, m1_self, cv_sub, cv_add1, cv_eq, cv_eqI, cv_eqI2, cv_m1, cv_lt0, cv_leI, cv_Ile, cv_le, cv_lt, cv_Ilt, cv_ltI, not_true, not_false_iff, true_implies, false_implies, false_or, or_false, true_and, and_true, false_and, and_false, true_or, or_true]
        omega
      · exfalso
        revert p
        simp (disch := omega) only [ofNat_nI, nI_add, pk_mul, nI_clamp, nI_leI, nI_ltI, nI_eq, vp_in_nI_iff, nI_subr, nI_m1r, m1_eq, m1_eq2, m1_le, m1_le2, m1_lt, m1_lt2, m1_self, cv_sub, cv_add1, cv_eq, cv_eqI, cv_eqI2, cv_m1, cv_lt0, cv_leI, cv_Ile, cv_le, cv_lt, cv_Ilt, cv_ltI, not_true, not_false_iff, true_implies, false_implies, false_or, or_false, true_and, and_true, false_and, and_false, true_or, or_true]
        omega
      · exfalso
        revert p
        simp (disch := omega) only [ofNat_nI, nI_add, pk_mul, nI_clamp, nI_leI, nI_ltI, nI_eq, vp_in_nI_iff, nI_subr, nI_m1r, m1_eq, m1_eq2, m1_le, m1_le2, m1_lt, m1_lt2, m1_self, cv_sub, cv_add1, cv_eq, cv_eqI, cv_eqI2, cv_m1, cv_lt0, cv_leI, cv_Ile, cv_le, cv_lt, cv_Ilt, cv_ltI, not_true, not_false_iff, true_implies, false_implies, false_or, or_false, true_and, and_true, false_and, and_false, true_or, or_true]
        omega
      · simp (disch := omega) only [ofNat_nI, nI_add, pk_mul, nI_clamp, nI_leI, nI_ltI, nI_eq, vp_in_nI_iff, nI_subr, nI_m1r, m1_eq, m1_eq2, m1_le, m1_le2, m1_lt, m1_lt2, m1_self, cv_sub, cv_add1, cv_eq, cv_eqI, cv_eqI2, cv_m1, cv_lt0, cv_leI, cv_Ile, cv_le, cv_lt, cv_Ilt, cv_ltI, not_true, not_false_iff, true_implies, false_implies, false_or, or_false, true_and, and_true, false_and, and_false, true_or, or_true]
        omega
      · simp (disch := omega) only [ofNat_nI, nI_add, pk_mul, nI_clamp, nI_leI, nI_ltI, nI_eq, vp_in_nI_iff, nI_subr, nI_m1r, m1_eq, m1_eq2, m1_le, m1_le2, m1_lt, m1_lt2, m1_self, cv_sub, cv_add1, cv_eq, cv_eqI, cv_eqI2, cv_m1, cv_lt0, cv_leI, cv_Ile, cv_le, cv_lt, cv_Ilt, cv_ltI, not_true, not_false_iff, true_implies, false_implies, false_or, or_false, true_and, and_true, false_and, and_false, true_or, or_true, q1]
        omega
      · simp (disch := omega) only [ofNat_nI, nI_add, pk_mul, nI_clamp, nI_leI, nI_ltI, nI_eq, vp_in_nI_iff, nI_subr, nI_m1r, m1_eq, m1_eq2, m1_le, m1_le2, m1_lt, m1_lt2, m1_self, cv_sub, cv_add1, cv_eq, cv_eqI, cv_eqI2, cv_m1, cv_lt0, cv_leI, cv_Ile, cv_le, cv_lt, cv_Ilt, cv_ltI, not_true, not_false_iff, true_implies, false_implies, false_or, or_false, true_and, and_true, false_and, and_false, true_or, or_true, q1, q3]
        omega
      · simp (disch := omega) only [ofNat_nI, nI_add, pk_mul, nI_clamp, nI_leI, nI_ltI, nI_eq, vp_in_nI_iff, nI_subr, nI_m1r, m1_eq, m1_eq2, m1_le, m1_le2, m1_lt, m1_lt2, m1_self, cv_sub, cv_add1, cv_eq, cv_eqI, cv_eqI2, cv_m1, cv_lt0, cv_leI, cv_Ile, cv_le, cv_lt, cv_Ilt, cv_ltI, not_true, not_false_iff, true_implies, false_implies, false_or, or_false, true_and, and_true, false_and, and_false, true_or, or_true, q1, q3]
        rw [pk_div hw' q4 (by omega), ← cv_s (k + n)] at *
        refine ih (w' / L (k + (n + 1))) (by omega) (Nat.lt_of_le_of_lt (Nat.div_le_self _ _) hw') ?_
        rw [dvs] at e
        rw [← e, show k + 1 + n = k + (n + 1) by omega]
  obtain ⟨t', rfl⟩ : ∃ t', t = k + 1 + t' := ⟨t - k - 1, by omega⟩
  have := loop t' w (by omega) hw (by unfold dg; rw [show k + 1 + t' - 1 - k = t' by omega])
  simp (disch := omega) only [ofNat_nI, nI_add, pk_mul, nI_clamp, nI_leI, nI_ltI, nI_eq, vp_in_nI_iff, nI_subr, nI_m1r, m1_eq, m1_eq2, m1_le, m1_le2, m1_lt, m1_lt2, m1_self, cv_sub, cv_add1, cv_eq, cv_eqI, cv_eqI2, cv_m1, cv_lt0, cv_leI, cv_Ile, cv_le, cv_lt, cv_Ilt, cv_ltI, not_true, not_false_iff, true_implies, false_implies, false_or, or_false, true_and, and_true, false_and, and_false, true_or, or_true]
  rw [show k + 1 + t' - 1 = k + t' by omega]
  exact this

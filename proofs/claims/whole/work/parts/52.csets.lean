/-! THE CLASS: sets of columns -/
def SetC (s : Nat) (P : Pl) (μ : mM) : Prop := μ s 0 = nI (ns (qC P) (qT P)) ∧ μ s 1 = nI (qT P) ∧ (∀ i, i < ns (qC P) (qT P) → ∀ j, j < qT P → μ (s + 1) (3 * i + j) = nI (st (qC P) (qT P) i j)) ∧ (∀ i, i ≤ ns (qC P) (qT P) → μ (s + 2) i = nI (fi P i)) ∧ ∀ c, c < qC P → μ (s + 4) c = nI (qL P c)
theorem SetC.of {s : Nat} {P : Pl} {μ μ' : mM} (h : SetC s P μ) (e0 : μ' s = μ s) (e1 : μ' (s + 1) = μ (s + 1)) (e2 : μ' (s + 2) = μ (s + 2)) (e4 : μ' (s + 4) = μ (s + 4)) : SetC s P μ' := by
  unfold SetC
  rw [e0, e1, e2, e4]
  exact h
theorem s_nextPick {G : mG} {Q : Int32 → mM → Prop} {μ : mM} {q C t : Nat} {s : Nat → Nat} (h0 : sh q = (0, 0)) (hw : μ q 1 = nI t) (ht : 1 ≤ t ∧ t ≤ 3 ∧ t ≤ C ∧ C ≤ 8) (hs : ∀ j, j < t → μ (q + 3) j = nI (s j) ∧ s j ≤ C - t + j)
    (k0 : (∀ j, j < t → s j = C - t + j) → Q 0 μ)
    (k1 : ∀ a, a < t → s a ≠ C - t + a → (∀ j, j < t → a < j → s j = C - t + j) → ∀ g : Nat → Int32, (∀ j, j < t → g j = nI (if j < a then s j else s a + 1 + (j - a))) → Q 1 (mrw μ (q + 3) g)) : CtI G mX0_nextPick [.ref (gb G + q), .int (nI C)] μ Q := by
  obtain ⟨t1, t3, tC, tC8⟩ := ht
  have hqq : q ≠ q + 3 := by omega
  refine e_X0_nextPick h0 fun E X => k_X0_nextPick_0 X h0 ?_
  rw [hw, show nI t - 1 = cv t from cv_sub1 t]
  have loop3 : ∀ (a : Nat), a < t → s a ≠ C - t + a → (∀ j, j < t → a < j → s j = C - t + j) → ∀ (d i : Nat) (g : Nat → Int32), i + d = t → a < i → (∀ j, j < i → g j = nI (if j < a then s j else s a + 1 + (j - a))) →
      Wm G mX0_nextPick E (bm G mX0_nextPick E (pI Q)) (mrw μ (q + 3) g) 54 [(0, .ref (gb G + q)), (3, .int (nI i))] [] := by
    intro a ha1 ha2 ha3 d
    have hsa := (hs a ha1).2
    induction d with
    | zero =>
      intro i g hi hai hg
      refine k_X0_nextPick_54 X h0 (fun _ => k1 a ha1 ha2 ha3 g (fun j hj => hg j (by omega))) (fun p => ?_) (fun p => ?_) (fun p => ?_)
      all_goals
        exfalso
        revert p
        rw [mrw_ne hqq, hw]
        simp (disch := omega) only [ofNat_nI, nI_add, pk_mul, nI_clamp, nI_leI, nI_ltI, nI_eq, vp_in_nI_iff, nI_subr, nI_m1r, m1_eq, m1_eq2, m1_le, m1_le2, m1_lt, m1_lt2, m1_self, cv_sub, cv_add1, cv_eq, cv_eqI, cv_eqI2, cv_m1, cv_lt0, cv_leI, cv_Ile, cv_le, cv_lt, cv_Ilt, cv_ltI, not_true, not_false_iff, true_implies, false_implies, false_or, or_false, true_and, and_true, false_and, and_false, true_or, or_true]
        omega
    | succ d ih =>
      intro i g hi hai hg
      refine k_X0_nextPick_54 X h0 (fun p => ?_) (fun _ => ?_) (fun _ => ?_) (fun _ => ?_)
      · exfalso
        revert p
        rw [mrw_ne hqq, hw]
        simp (disch := omega) only [ofNat_nI, nI_add, pk_mul, nI_clamp, nI_leI, nI_ltI, nI_eq, vp_in_nI_iff, nI_subr, nI_m1r, m1_eq, m1_eq2, m1_le, m1_le2, m1_lt, m1_lt2, m1_self, cv_sub, cv_add1, cv_eq, cv_eqI, cv_eqI2, cv_m1, cv_lt0, cv_leI, cv_Ile, cv_le, cv_lt, cv_Ilt, cv_ltI, not_true, not_false_iff, true_implies, false_implies, false_or, or_false, true_and, and_true, false_and, and_false, true_or, or_true]
        omega
      · simp (disch := omega) only [ofNat_nI, nI_add, pk_mul, nI_clamp, nI_leI, nI_ltI, nI_eq, vp_in_nI_iff, nI_subr, nI_m1r, m1_eq, m1_eq2, m1_le, m1_le2, m1_lt, m1_lt2, m1_self, cv_sub, cv_add1, cv_eq, cv_eqI, cv_eqI2, cv_m1, cv_lt0, cv_leI, cv_Ile, cv_le, cv_lt, cv_Ilt, cv_ltI, not_true, not_false_iff, true_implies, false_implies, false_or, or_false, true_and, and_true, false_and, and_false, true_or, or_true]
        omega
      · simp (disch := omega) only [ofNat_nI, nI_add, pk_mul, nI_clamp, nI_leI, nI_ltI, nI_eq, vp_in_nI_iff, nI_subr, nI_m1r, m1_eq, m1_eq2, m1_le, m1_le2, m1_lt, m1_lt2, m1_self, cv_sub, cv_add1, cv_eq, cv_eqI, cv_eqI2, cv_m1, cv_lt0, cv_leI, cv_Ile, cv_le, cv_lt, cv_Ilt, cv_ltI, not_true, not_false_iff, true_implies, false_implies, false_or, or_false, true_and, and_true, false_and, and_false, true_or, or_true]
        omega
      · have e := hg (i - 1) (by omega)
        rw [if_neg (by omega)] at e
        simp (disch := omega) only [ofNat_nI, nI_add, pk_mul, nI_clamp, nI_leI, nI_ltI, nI_eq, vp_in_nI_iff, nI_subr, nI_m1r, m1_eq, m1_eq2, m1_le, m1_le2, m1_lt, m1_lt2, m1_self, cv_sub, cv_add1, cv_eq, cv_eqI, cv_eqI2, cv_m1, cv_lt0, cv_leI, cv_Ile, cv_le, cv_lt, cv_Ilt, cv_ltI, not_true, not_false_iff, true_implies, false_implies, false_or, or_false, true_and, and_true, false_and, and_false, true_or, or_true]
        rw [mrw_at, e]
        simp (disch := omega) only [ofNat_nI, nI_add, pk_mul, nI_clamp, nI_leI, nI_ltI, nI_eq, vp_in_nI_iff, nI_subr, nI_m1r, m1_eq, m1_eq2, m1_le, m1_le2, m1_lt, m1_lt2, m1_self, cv_sub, cv_add1, cv_eq, cv_eqI, cv_eqI2, cv_m1, cv_lt0, cv_leI, cv_Ile, cv_le, cv_lt, cv_Ilt, cv_ltI, not_true, not_false_iff, true_implies, false_implies, false_or, or_false, true_and, and_true, false_and, and_false, true_or, or_true]
        rw [ms_mrw]
        refine ih (i + 1) _ (by omega) (by omega) (fun j hj => ?_)
        rw [upd_at]
        by_cases z : j = i
        · rw [if_pos z, if_neg (by omega)]
          congr 1
          omega
        · rw [if_neg z]; exact hg j (by omega)
  have at33 : ∀ kk, kk ≤ t → (∀ j, j < t → kk ≤ j → s j = C - t + j) → (kk = 0 ∨ s (kk - 1) ≠ C - t + (kk - 1)) → Wm G mX0_nextPick E (bm G mX0_nextPick E (pI Q)) μ 34 [(0, .ref (gb G + q)), (2, .int (cv kk))] [] := by
    intro kk hkk hall hne
    cases kk with
    | zero =>
      refine k_X0_nextPick_34 X h0 (fun p => ?_) (fun p => ?_) (fun _ => k0 (fun j hj => hall j hj (by omega)))
      all_goals exact absurd p (by decide)
    | succ a =>
      have e : a + 1 - 1 = a := rfl
      rw [e] at hne
      rw [cv_s]
      refine k_X0_nextPick_34 X h0 (fun _ => ?_) (fun _ => ?_) (fun p => absurd (nI_pos' (by omega)) p)
      · simp (disch := omega) only [ofNat_nI, nI_add, pk_mul, nI_clamp, nI_leI, nI_ltI, nI_eq, vp_in_nI_iff, nI_subr, nI_m1r, m1_eq, m1_eq2, m1_le, m1_le2, m1_lt, m1_lt2, m1_self, cv_sub, cv_add1, cv_eq, cv_eqI, cv_eqI2, cv_m1, cv_lt0, cv_leI, cv_Ile, cv_le, cv_lt, cv_Ilt, cv_ltI, not_true, not_false_iff, true_implies, false_implies, false_or, or_false, true_and, and_true, false_and, and_false, true_or, or_true]
        omega
      · obtain ⟨q1, q2⟩ := hs a (by omega)
        simp (disch := omega) only [ofNat_nI, nI_add, pk_mul, nI_clamp, nI_leI, nI_ltI, nI_eq, vp_in_nI_iff, nI_subr, nI_m1r, m1_eq, m1_eq2, m1_le, m1_le2, m1_lt, m1_lt2, m1_self, cv_sub, cv_add1, cv_eq, cv_eqI, cv_eqI2, cv_m1, cv_lt0, cv_leI, cv_Ile, cv_le, cv_lt, cv_Ilt, cv_ltI, not_true, not_false_iff, true_implies, false_implies, false_or, or_false, true_and, and_true, false_and, and_false, true_or, or_true]
        rw [q1, ms_mrw0]
        simp (disch := omega) only [ofNat_nI, nI_add, pk_mul, nI_clamp, nI_leI, nI_ltI, nI_eq, vp_in_nI_iff, nI_subr, nI_m1r, m1_eq, m1_eq2, m1_le, m1_le2, m1_lt, m1_lt2, m1_self, cv_sub, cv_add1, cv_eq, cv_eqI, cv_eqI2, cv_m1, cv_lt0, cv_leI, cv_Ile, cv_le, cv_lt, cv_Ilt, cv_ltI, not_true, not_false_iff, true_implies, false_implies, false_or, or_false, true_and, and_true, false_and, and_false, true_or, or_true]
        refine loop3 a (by omega) (by omega) (fun j h1 h2 => hall j h1 (by omega)) (t - (a + 1)) (a + 1) _ (by omega) (by omega) (fun j hj => ?_)
        rw [upd_at]
        by_cases z : j = a
        · rw [if_pos z, if_neg (by omega)]
          congr 1
          omega
        · rw [if_neg z, if_pos (by omega)]
          exact (hs j (by omega)).1
  have loop : ∀ (kk : Nat), kk ≤ t → (∀ j, j < t → kk ≤ j → s j = C - t + j) → Wm G mX0_nextPick E (bm G mX0_nextPick E (pI Q)) μ 7 [(0, .ref (gb G + q)), (1, .int (nI C)), (2, .int (cv kk))] [] := by
    intro kk
    induction kk with
    | zero =>
      intro hkk hall
      refine k_X0_nextPick_7 X h0 (fun _ => at33 0 hkk hall (Or.inl rfl)) (fun p => ?_) (fun p => ?_)
      all_goals exact absurd (by decide) p
    | succ a ih =>
      intro hkk hall
      obtain ⟨q1, q2⟩ := hs a (by omega)
      have ea : μ (q + 3) (nI a).toNatClampNeg = nI (s a) := by rw [nI_clamp (by omega)]; exact q1
      have el : nI (s a) < nI C - nI t + nI a ↔ s a < C - t + a := by
        rw [nI_subr (by omega), nI_add, nI_ltI (by omega) (by omega)]
      rw [cv_s]
      refine k_X0_nextPick_7 X h0 (fun p => ?_) (fun _ => ?_) (fun _ p => ?_)
      · rw [ea, hw, el] at p
        have : s a ≠ C - t + a := by
          rcases p with p | ⟨-, p⟩
          · exact absurd p (nI_pos (by omega))
          · omega
        have := at33 (a + 1) hkk hall (Or.inr this)
        rw [cv_s] at this
        exact this
      · simp (disch := omega) only [ofNat_nI, nI_add, pk_mul, nI_clamp, nI_leI, nI_ltI, nI_eq, vp_in_nI_iff, nI_subr, nI_m1r, m1_eq, m1_eq2, m1_le, m1_le2, m1_lt, m1_lt2, m1_self, cv_sub, cv_add1, cv_eq, cv_eqI, cv_eqI2, cv_m1, cv_lt0, cv_leI, cv_Ile, cv_le, cv_lt, cv_Ilt, cv_ltI, not_true, not_false_iff, true_implies, false_implies, false_or, or_false, true_and, and_true, false_and, and_false, true_or, or_true]
        omega
      · rw [ea, hw, el] at p
        rw [show nI a + (-1) = cv a from cv_sub a]
        refine ih (by omega) (fun j h1 h2 => ?_)
        by_cases z : j = a
        · subst z; omega
        · exact hall j h1 (by omega)
  exact loop t (Nat.le_refl t) (fun j h1 h2 => by omega)
theorem s_buildSets {G : mG} {Q : mM → Prop} {μ : mM} {q p t : Nat} {P : Pl} (h0 : sh q = (0, 0)) (h1 : sh p = (0, 3)) (hqp : q + 5 ≤ p ∨ p + 4 ≤ q) (h : PW (qw P t)) (hp0 : μ p 0 = nI (qC P)) (hp1 : ∀ c, c < qC P → μ (p + 1) c = nI (qL P c)) (hf : μ (q + 2) 0 = 0)
    (k : ∀ μ', Fr [q, q + 1, q + 2, q + 3, q + 4] μ μ' → SetC q (qw P t) μ' → Q μ') : CtV G mX0_build [.ref (gb G + q), .ref (gb G + p), .int (nI t)] μ Q := by
  have hct := h.ct
  obtain ⟨t1, t3, tC, tC8⟩ := id hct
  have t1' : 1 ≤ t := t1
  have t3' : t ≤ 3 := t3
  have tC' : t ≤ qC P := tC
  have tC8' : qC P ≤ 8 := tC8
  have hct' : ctOk (qC P) t := hct
  obtain ⟨n1, n56⟩ := ns_pos hct'
  refine e_X0_build h0 h1 fun E X => k_X0_build_0 X h0 h1 cpy8 ?_
  have e3 : (if (3 : Int32) < nI t then (3 : Int32) else nI t) = nI t := by
    rw [if_neg (fun z => by
      have := (nI_ltI (a := 3) (by omega) (by omega)).mp z
      omega)]
  rw [e3]
  obtain ⟨μ1, hμ1⟩ : ∃ μ1, μ1 = cpy (ms (ms μ q 1 (nI t)) q 0 0) (p + 1) (q + 4) 0 0 8 := ⟨_, rfl⟩
  rw [← hμ1]
  have b0 : μ1 q 0 = 0 := by rw [hμ1, cpy_ne (by omega), ms_row, upd_at, if_pos rfl]
  have b1 : μ1 q 1 = nI t := by rw [hμ1, cpy_ne (by omega), ms_row, upd_at, if_neg (by decide), ms_row, upd_at, if_pos rfl]
  have b2 : μ1 (q + 2) = μ (q + 2) := by rw [hμ1, cpy_ne (by omega), ms_ne (by omega), ms_ne (by omega)]
  have b4 : ∀ c, c < qC P → μ1 (q + 4) c = nI (qL P c) := fun c hc => by
    rw [hμ1, show (8 : Int32) = nI 8 from rfl, cpy_at (by omega) (by omega), ms_ne (by omega), ms_ne (by omega)]
    exact hp1 c hc
  have bF : Fr [q, q + 1, q + 2, q + 3, q + 4] μ μ1 := by
    rw [hμ1]
    exact ((((Fr.rf _ μ).ms (by simp)).ms (by simp)).cpy (by simp))
  have bp : ∀ μ' : mM, Fr [q, q + 1, q + 2, q + 3, q + 4] μ μ' → μ' p 0 = nI (qC P) := fun μ' F => by
    rw [F p (by simp; omega)]
    exact hp0
  clear hμ1
  have ss : qw P t = (qC P, t, qL P, qN P, qV P) := rfl
  -- one set
  have one : ∀ (i : Nat) (μ' : mM), i < ns (qC P) t → Fr [q, q + 1, q + 2, q + 3, q + 4] μ μ' → μ' q 0 = nI i → μ' q 1 = nI t → (∀ i', i' < i → ∀ j, j < t → μ' (q + 1) (3 * i' + j) = nI (st (qC P) t i' j)) → (∀ i', i' ≤ i → μ' (q + 2) i' = nI (fi (qw P t) i')) → (∀ c, c < qC P → μ' (q + 4) c = nI (qL P c)) → (∀ j, j < t → μ' (q + 3) j = nI (st (qC P) t i j)) →
      (∀ μ2, Fr [q, q + 1, q + 2, q + 3, q + 4] μ μ2 → μ2 q 0 = nI (i + 1) → μ2 q 1 = nI t → (∀ i', i' < i + 1 → ∀ j, j < t → μ2 (q + 1) (3 * i' + j) = nI (st (qC P) t i' j)) → (∀ i', i' ≤ i + 1 → μ2 (q + 2) i' = nI (fi (qw P t) i')) → (∀ c, c < qC P → μ2 (q + 4) c = nI (qL P c)) →
        (i + 1 = ns (qC P) t → Q μ2) ∧ (i + 1 < ns (qC P) t → (∀ j, j < t → μ2 (q + 3) j = nI (st (qC P) t (i + 1) j)) → Wm G mX0_build E (bm G mX0_build E (pV Q)) μ2 77 [(0, .ref (gb G + q)), (1, .ref (gb G + p)), (3, .int 1)] [])) →
      Wm G mX0_build E (bm G mX0_build E (pV Q)) μ' 77 [(0, .ref (gb G + q)), (1, .ref (gb G + p)), (3, .int 1)] [] := by
    intro i μ' hi F c0 c1 c2 c3 c4 c5 cont
    have hst := fun j (hj : j < t) => st_lt hct' hi hj
    have hpp := h.pp_le (i := i) hi
    refine k_X0_build_77 X h0 h1 (fun z => ?_) (fun _ _ => ?_)
    · exfalso
      rw [c0] at z
      rcases z with z | ⟨-, z⟩
      · exact absurd z (by decide)
      · have := (nI_leI (a := 56) (by omega) (by omega)).mp z
        omega
    · have inner : ∀ (d j : Nat) (g : Nat → Int32), j + d = t → (∀ i', i' < i → ∀ j, j < t → g (3 * i' + j) = nI (st (qC P) t i' j)) → (∀ j', j' < j → g (3 * i + j') = nI (st (qC P) t i j')) →
          Wm G mX0_build E (bm G mX0_build E (pV Q)) (mrw μ' (q + 1) g) 96 [(0, .ref (gb G + q)), (1, .ref (gb G + p)), (4, .int (nI (pd j (qS (qw P t) i)))), (5, .int (nI j))] [] := by
        intro d
        induction d with
        | zero =>
          intro j g hj g1 g2
          have hjt : j = t := by omega
          subst hjt
          have m0 : (mrw μ' (q + 1) g) q 0 = nI i := by rw [mrw_ne (by omega)]; exact c0
          have m1 : (mrw μ' (q + 1) g) q 1 = nI j := by rw [mrw_ne (by omega)]; exact c1
          have m2 : (mrw μ' (q + 1) g) (q + 2) = μ' (q + 2) := mrw_ne (by omega)
          refine k_X0_build_96 X h0 h1 (fun _ => ?_) (fun _ => ?_) (fun _ => ?_) (fun z => ?_) (fun z => ?_) (fun z => ?_) (fun z => ?_)
          · rw [m0]
            simp (disch := omega) only [ofNat_nI, nI_add, pk_mul, nI_clamp, nI_leI, nI_ltI, nI_eq, vp_in_nI_iff, nI_subr, nI_m1r, m1_eq, m1_eq2, m1_le, m1_le2, m1_lt, m1_lt2, m1_self, cv_sub, cv_add1, cv_eq, cv_eqI, cv_eqI2, cv_m1, cv_lt0, cv_leI, cv_Ile, cv_le, cv_lt, cv_Ilt, cv_ltI, not_true, not_false_iff, true_implies, false_implies, false_or, or_false, true_and, and_true, false_and, and_false, true_or, or_true]
            omega
          · rw [m0]
            simp (disch := omega) only [ofNat_nI, nI_add, pk_mul, nI_clamp, nI_leI, nI_ltI, nI_eq, vp_in_nI_iff, nI_subr, nI_m1r, m1_eq, m1_eq2, m1_le, m1_le2, m1_lt, m1_lt2, m1_self, cv_sub, cv_add1, cv_eq, cv_eqI, cv_eqI2, cv_m1, cv_lt0, cv_leI, cv_Ile, cv_le, cv_lt, cv_Ilt, cv_ltI, not_true, not_false_iff, true_implies, false_implies, false_or, or_false, true_and, and_true, false_and, and_false, true_or, or_true]
            omega
          · have e1 : (nI i + 1 : Int32).toNatClampNeg = i + 1 := by rw [nI_1, nI_clamp (by omega)]
            have e5 : ∀ (v : Nat) (w : Int32), ms (mrw μ' (q + 1) g) (q + 2) v w q 0 = nI i := fun v w => by rw [ms_ne (by omega)]; exact m0
            have ef : μ' (q + 2) i + nI (pd j (qS (qw P j) i)) = nI (fi (qw P j) (i + 1)) := by
              rw [c3 i (Nat.le_refl i), nI_add]
              rfl
            rw [m0, m2, e1, nI_clamp (by omega), ef, e5, show nI i + 1 = nI (i + 1) from nI_1 i]
            obtain ⟨μ2, hμ2⟩ : ∃ μ2, μ2 = ms (ms (mrw μ' (q + 1) g) (q + 2) (i + 1) (nI (fi (qw P j) (i + 1)))) q 0 (nI (i + 1)) := ⟨_, rfl⟩
            rw [← hμ2]
            have f0 : μ2 q 0 = nI (i + 1) := by rw [hμ2, ms_row, upd_at, if_pos rfl]
            have f1 : μ2 q 1 = nI j := by rw [hμ2, ms_row, upd_at, if_neg (by decide), ms_ne (by omega)]; exact m1
            have f2 : ∀ i', i' < i + 1 → ∀ j', j' < j → μ2 (q + 1) (3 * i' + j') = nI (st (qC P) j i' j') := fun i' hi' j' hj' => by
              rw [hμ2, ms_ne (by omega), ms_ne (by omega), mrw_at]
              by_cases z : i' = i
              · rw [z]; exact g2 j' hj'
              · exact g1 i' (by omega) j' hj'
            have f3 : ∀ i', i' ≤ i + 1 → μ2 (q + 2) i' = nI (fi (qw P j) i') := fun i' hi' => by
              rw [hμ2, ms_ne (by omega), ms_row, upd_at]
              by_cases z : i' = i + 1
              · rw [if_pos z, z]
              · rw [if_neg z, m2]; exact c3 i' (by omega)
            have f4 : ∀ c, c < qC P → μ2 (q + 4) c = nI (qL P c) := fun c hc => by
              rw [hμ2, ms_ne (by omega), ms_ne (by omega), mrw_ne (by omega)]; exact c4 c hc
            have f5 : ∀ j', j' < j → μ2 (q + 3) j' = nI (st (qC P) j i j') := fun j' hj' => by
              rw [hμ2, ms_ne (by omega), ms_ne (by omega), mrw_ne (by omega)]; exact c5 j' hj'
            have fF : Fr [q, q + 1, q + 2, q + 3, q + 4] μ μ2 := by
              rw [hμ2]
              exact ((F.mrw (by simp)).ms (by simp)).ms (by simp)
            clear hμ2
            rw [bp μ2 fF]
            refine s_nextPick h0 f1 ⟨t1', t3', tC', tC8'⟩ (fun j' hj' => ⟨f5 j' hj', (hst j' hj').2.1⟩) (fun hall => ?_) (fun a ha1 ha2 ha3 g' hg' => ?_)
            · have hl := (st_end hct' hi).mp hall
              exact k_X0_build_190 X h0 h1 (k_X0_build_77 X h0 h1 (fun _ => (cont μ2 fF f0 f1 f2 f3 f4).1 hl) (fun z => absurd rfl z))
            · have hl : i + 1 < ns (qC P) j := by
                have : ¬ i + 1 = ns (qC P) j := fun z => ha2 ((st_end hct' hi).mpr z a ha1)
                omega
              refine k_X0_build_190 X h0 h1 ((cont (mrw μ2 (q + 3) g') (fF.mrw (by simp)) ?_ ?_ ?_ ?_ ?_).2 hl ?_)
              · rw [mrw_ne (by omega)]; exact f0
              · rw [mrw_ne (by omega)]; exact f1
              · rw [mrw_ne (by omega)]; exact f2
              · rw [mrw_ne (by omega)]; exact f3
              · rw [mrw_ne (by omega)]; exact f4
              · intro j' hj'
                rw [mrw_at, hg' j' hj', st_next hct' hl ha1 ha2 ha3 hj']
          all_goals
            exfalso
            revert z
            rw [m1]
            simp (disch := omega) only [ofNat_nI, nI_add, pk_mul, nI_clamp, nI_leI, nI_ltI, nI_eq, vp_in_nI_iff, nI_subr, nI_m1r, m1_eq, m1_eq2, m1_le, m1_le2, m1_lt, m1_lt2, m1_self, cv_sub, cv_add1, cv_eq, cv_eqI, cv_eqI2, cv_m1, cv_lt0, cv_leI, cv_Ile, cv_le, cv_lt, cv_Ilt, cv_ltI, not_true, not_false_iff, true_implies, false_implies, false_or, or_false, true_and, and_true, false_and, and_false, true_or, or_true]
            omega
        | succ d ihd =>
          intro j g hj g1 g2
          have hjt : j < t := by omega
          obtain ⟨l1, l2, l3⟩ := hst j hjt
          have hq := h.lst (i := i) (k := j) hi hjt
          have m0 : (mrw μ' (q + 1) g) q 0 = nI i := by rw [mrw_ne (by omega)]; exact c0
          have m1 : (mrw μ' (q + 1) g) q 1 = nI t := by rw [mrw_ne (by omega)]; exact c1
          have m3 : (mrw μ' (q + 1) g) (q + 3) (nI j).toNatClampNeg = nI (st (qC P) t i j) := by rw [mrw_ne (by omega), nI_clamp (by omega)]; exact c5 j hjt
          have ei : (nI i * 3 + nI j : Int32).toNatClampNeg = 3 * i + j := by
            rw [show (3 : Int32) = nI 3 from rfl, pk_mul, nI_add, nI_clamp (by omega)]
            omega
          have e3 : ∀ (v : Nat) (w : Int32), ms (mrw μ' (q + 1) g) (q + 1) v w (q + 3) (nI j).toNatClampNeg = nI (st (qC P) t i j) := fun v w => by rw [ms_ne (by omega)]; exact m3
          have e4 : ∀ (v : Nat) (w : Int32), ms (mrw μ' (q + 1) g) (q + 1) v w (q + 4) (st (qC P) t i j) = nI (qS (qw P t) i j) := fun v w => by rw [ms_ne (by omega), mrw_ne (by omega)]; exact c4 _ l1
          refine k_X0_build_96 X h0 h1 (fun z => ?_) (fun z => ?_) (fun z => ?_) (fun _ => ?_) (fun _ => ?_) (fun _ => ?_) (fun _ => ?_)
          · exfalso
            revert z
            rw [m1]
            simp (disch := omega) only [ofNat_nI, nI_add, pk_mul, nI_clamp, nI_leI, nI_ltI, nI_eq, vp_in_nI_iff, nI_subr, nI_m1r, m1_eq, m1_eq2, m1_le, m1_le2, m1_lt, m1_lt2, m1_self, cv_sub, cv_add1, cv_eq, cv_eqI, cv_eqI2, cv_m1, cv_lt0, cv_leI, cv_Ile, cv_le, cv_lt, cv_Ilt, cv_ltI, not_true, not_false_iff, true_implies, false_implies, false_or, or_false, true_and, and_true, false_and, and_false, true_or, or_true]
            omega
          · exfalso
            revert z
            rw [m1]
            simp (disch := omega) only [ofNat_nI, nI_add, pk_mul, nI_clamp, nI_leI, nI_ltI, nI_eq, vp_in_nI_iff, nI_subr, nI_m1r, m1_eq, m1_eq2, m1_le, m1_le2, m1_lt, m1_lt2, m1_self, cv_sub, cv_add1, cv_eq, cv_eqI, cv_eqI2, cv_m1, cv_lt0, cv_leI, cv_Ile, cv_le, cv_lt, cv_Ilt, cv_ltI, not_true, not_false_iff, true_implies, false_implies, false_or, or_false, true_and, and_true, false_and, and_false, true_or, or_true]
            omega
          · exfalso
            revert z
            rw [m1]
            simp (disch := omega) only [ofNat_nI, nI_add, pk_mul, nI_clamp, nI_leI, nI_ltI, nI_eq, vp_in_nI_iff, nI_subr, nI_m1r, m1_eq, m1_eq2, m1_le, m1_le2, m1_lt, m1_lt2, m1_self, cv_sub, cv_add1, cv_eq, cv_eqI, cv_eqI2, cv_m1, cv_lt0, cv_leI, cv_Ile, cv_le, cv_lt, cv_Ilt, cv_ltI, not_true, not_false_iff, true_implies, false_implies, false_or, or_false, true_and, and_true, false_and, and_false, true_or, or_true]
            omega
          · simp (disch := omega) only [ofNat_nI, nI_add, pk_mul, nI_clamp, nI_leI, nI_ltI, nI_eq, vp_in_nI_iff, nI_subr, nI_m1r, m1_eq, m1_eq2, m1_le, m1_le2, m1_lt, m1_lt2, m1_self, cv_sub, cv_add1, cv_eq, cv_eqI, cv_eqI2, cv_m1, cv_lt0, cv_leI, cv_Ile, cv_le, cv_lt, cv_Ilt, cv_ltI, not_true, not_false_iff, true_implies, false_implies, false_or, or_false, true_and, and_true, false_and, and_false, true_or, or_true]
            omega
          · rw [m0]
            simp (disch := omega) only [ofNat_nI, nI_add, pk_mul, nI_clamp, nI_leI, nI_ltI, nI_eq, vp_in_nI_iff, nI_subr, nI_m1r, m1_eq, m1_eq2, m1_le, m1_le2, m1_lt, m1_lt2, m1_self, cv_sub, cv_add1, cv_eq, cv_eqI, cv_eqI2, cv_m1, cv_lt0, cv_leI, cv_Ile, cv_le, cv_lt, cv_Ilt, cv_ltI, not_true, not_false_iff, true_implies, false_implies, false_or, or_false, true_and, and_true, false_and, and_false, true_or, or_true]
            omega
          · rw [e3]
            simp (disch := omega) only [ofNat_nI, nI_add, pk_mul, nI_clamp, nI_leI, nI_ltI, nI_eq, vp_in_nI_iff, nI_subr, nI_m1r, m1_eq, m1_eq2, m1_le, m1_le2, m1_lt, m1_lt2, m1_self, cv_sub, cv_add1, cv_eq, cv_eqI, cv_eqI2, cv_m1, cv_lt0, cv_leI, cv_Ile, cv_le, cv_lt, cv_Ilt, cv_ltI, not_true, not_false_iff, true_implies, false_implies, false_or, or_false, true_and, and_true, false_and, and_false, true_or, or_true]
            omega
          · rw [e3, m0, m3, ei, nI_clamp (show st (qC P) t i j < 2 ^ 31 by omega), e4, pk_mul, ms_mrw]
            simp (disch := omega) only [ofNat_nI, nI_add, pk_mul, nI_clamp, nI_leI, nI_ltI, nI_eq, vp_in_nI_iff, nI_subr, nI_m1r, m1_eq, m1_eq2, m1_le, m1_le2, m1_lt, m1_lt2, m1_self, cv_sub, cv_add1, cv_eq, cv_eqI, cv_eqI2, cv_m1, cv_lt0, cv_leI, cv_Ile, cv_le, cv_lt, cv_Ilt, cv_ltI, not_true, not_false_iff, true_implies, false_implies, false_or, or_false, true_and, and_true, false_and, and_false, true_or, or_true]
            refine ihd (j + 1) _ (by omega) (fun i' hi' j' hj' => ?_) (fun j' hj' => ?_)
            · rw [upd_at, if_neg (by omega)]; exact g1 i' hi' j' hj'
            · rw [upd_at]
              by_cases z : j' = j
              · rw [if_pos (by omega), z]
              · rw [if_neg (by omega)]; exact g2 j' (by omega)
      have := inner t 0 (μ' (q + 1)) (by omega) c2 (fun j' hj' => absurd hj' (Nat.not_lt_zero j'))
      rw [mrw_self] at this
      exact this
  -- the state ahead of set i
  have sets : ∀ (d i : Nat) (μ' : mM), i + d + 1 = ns (qC P) t → Fr [q, q + 1, q + 2, q + 3, q + 4] μ μ' → μ' q 0 = nI i → μ' q 1 = nI t → (∀ i', i' < i → ∀ j, j < t → μ' (q + 1) (3 * i' + j) = nI (st (qC P) t i' j)) → (∀ i', i' ≤ i → μ' (q + 2) i' = nI (fi (qw P t) i')) → (∀ c, c < qC P → μ' (q + 4) c = nI (qL P c)) → (∀ j, j < t → μ' (q + 3) j = nI (st (qC P) t i j)) →
      Wm G mX0_build E (bm G mX0_build E (pV Q)) μ' 77 [(0, .ref (gb G + q)), (1, .ref (gb G + p)), (3, .int 1)] [] := by
    intro d
    induction d with
    | zero =>
      intro i μ' hid F c0 c1 c2 c3 c4 c5
      refine one i μ' (by omega) F c0 c1 c2 c3 c4 c5 (fun μ2 F2 f0 f1 f2 f3 f4 => ⟨fun hl => k μ2 F2 ⟨?_, f1, ?_, ?_, f4⟩, fun hl => by omega⟩)
      · rw [f0, hl]; rfl
      · intro i' hi'
        exact f2 i' (by rw [hl]; exact hi')
      · intro i' hi'
        exact f3 i' (by rw [hl]; exact hi')
    | succ d ih =>
      intro i μ' hid F c0 c1 c2 c3 c4 c5
      refine one i μ' (by omega) F c0 c1 c2 c3 c4 c5 (fun μ2 F2 f0 f1 f2 f3 f4 => ⟨fun hl => by omega, fun hl f5 => ih (i + 1) μ2 (by omega) F2 f0 f1 f2 f3 f4 f5⟩)
  have pick : ∀ (d j : Nat) (g : Nat → Int32), j + d = t → (∀ j', j' < j → g j' = nI j') → Wm G mX0_build E (bm G mX0_build E (pV Q)) (mrw μ1 (q + 3) g) 31 [(0, .ref (gb G + q)), (1, .ref (gb G + p)), (3, .int (nI j))] [] := by
    intro d
    induction d with
    | zero =>
      intro j g hj hg
      have e1 : (mrw μ1 (q + 3) g) q 1 = nI t := by rw [mrw_ne (by omega)]; exact b1
      have e0 : (mrw μ1 (q + 3) g) p 0 = nI (qC P) := bp _ (bF.mrw (by simp))
      refine k_X0_build_31 X h0 h1 (fun _ v hv => ?_) (fun z => ?_) (fun z => ?_)
      · have ev : v = 1 := by
          rw [e1, e0] at hv
          rcases hv with ⟨z | ⟨-, z⟩, -⟩ | ⟨-, -, z⟩
          · have := (nI_ltI (b := 1) (by omega) (by omega)).mp z
            omega
          · have := (nI_ltI (by omega) (by omega)).mp z
            omega
          · exact z
        rw [ev]
        refine sets (ns (qC P) t - 1) 0 _ (by omega) (bF.mrw (by simp)) ?_ e1 (fun i' hi' => absurd hi' (Nat.not_lt_zero i')) (fun i' hi' => ?_) (fun c hc => ?_) (fun j' hj' => ?_)
        · rw [mrw_ne (by omega)]; exact b0
        · have : i' = 0 := by omega
          subst this
          rw [mrw_ne (by omega), b2, hf]
          rfl
        · rw [mrw_ne (by omega)]; exact b4 c hc
        · rw [mrw_at, st_0 hct' hj']
          exact hg j' (by omega)
      all_goals
        exfalso
        revert z
        rw [e1]
        simp (disch := omega) only [ofNat_nI, nI_add, pk_mul, nI_clamp, nI_leI, nI_ltI, nI_eq, vp_in_nI_iff, nI_subr, nI_m1r, m1_eq, m1_eq2, m1_le, m1_le2, m1_lt, m1_lt2, m1_self, cv_sub, cv_add1, cv_eq, cv_eqI, cv_eqI2, cv_m1, cv_lt0, cv_leI, cv_Ile, cv_le, cv_lt, cv_Ilt, cv_ltI, not_true, not_false_iff, true_implies, false_implies, false_or, or_false, true_and, and_true, false_and, and_false, true_or, or_true]
        omega
    | succ d ih =>
      intro j g hj hg
      have e1 : (mrw μ1 (q + 3) g) q 1 = nI t := by rw [mrw_ne (by omega)]; exact b1
      refine k_X0_build_31 X h0 h1 (fun z => ?_) (fun _ => ?_) (fun _ => ?_)
      · exfalso
        revert z
        rw [e1]
        simp (disch := omega) only [ofNat_nI, nI_add, pk_mul, nI_clamp, nI_leI, nI_ltI, nI_eq, vp_in_nI_iff, nI_subr, nI_m1r, m1_eq, m1_eq2, m1_le, m1_le2, m1_lt, m1_lt2, m1_self, cv_sub, cv_add1, cv_eq, cv_eqI, cv_eqI2, cv_m1, cv_lt0, cv_leI, cv_Ile, cv_le, cv_lt, cv_Ilt, cv_ltI, not_true, not_false_iff, true_implies, false_implies, false_or, or_false, true_and, and_true, false_and, and_false, true_or, or_true]
        omega
      · simp (disch := omega) only [ofNat_nI, nI_add, pk_mul, nI_clamp, nI_leI, nI_ltI, nI_eq, vp_in_nI_iff, nI_subr, nI_m1r, m1_eq, m1_eq2, m1_le, m1_le2, m1_lt, m1_lt2, m1_self, cv_sub, cv_add1, cv_eq, cv_eqI, cv_eqI2, cv_m1, cv_lt0, cv_leI, cv_Ile, cv_le, cv_lt, cv_Ilt, cv_ltI, not_true, not_false_iff, true_implies, false_implies, false_or, or_false, true_and, and_true, false_and, and_false, true_or, or_true]
        omega
      · rw [nI_clamp (by omega), ms_mrw]
        simp (disch := omega) only [ofNat_nI, nI_add, pk_mul, nI_clamp, nI_leI, nI_ltI, nI_eq, vp_in_nI_iff, nI_subr, nI_m1r, m1_eq, m1_eq2, m1_le, m1_le2, m1_lt, m1_lt2, m1_self, cv_sub, cv_add1, cv_eq, cv_eqI, cv_eqI2, cv_m1, cv_lt0, cv_leI, cv_Ile, cv_le, cv_lt, cv_Ilt, cv_ltI, not_true, not_false_iff, true_implies, false_implies, false_or, or_false, true_and, and_true, false_and, and_false, true_or, or_true]
        refine ih (j + 1) _ (by omega) (fun j' hj' => ?_)
        rw [upd_at]
        by_cases z : j' = j
        · rw [if_pos z, z]
        · rw [if_neg z]; exact hg j' (by omega)
  have := pick t 0 (μ1 (q + 3)) (by omega) (fun j' hj' => absurd hj' (Nat.not_lt_zero j'))
  rw [mrw_self] at this
  exact this

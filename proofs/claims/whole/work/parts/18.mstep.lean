/-! THE MODEL: rows that come, go, are copied; the trial's row -/
theorem NowP.of {g g' : Nat → Int32} {P : Pl} (hC : qC P ≤ 8) (hN : qN P ≤ 12) (h : NowP g P) (he : ∀ j, j < 97 → j ≠ 3 → j ≠ 4 → g' j = g j) : NowP g' P := by
  obtain ⟨a, b, c, d, e⟩ := h
  refine ⟨by rw [he 0 (by omega) (by omega) (by omega)]; exact a, by rw [he 1 (by omega) (by omega) (by omega)]; exact b, by rw [he 2 (by omega) (by omega) (by omega)]; exact c, fun j hj => by rw [he _ (by omega) (by omega) (by omega)]; exact d j hj, fun i hi => ?_⟩
  obtain ⟨m, cl, le, m3, e0, ek, ec⟩ := e i hi
  refine ⟨m, cl, le, m3, ?_, fun k hk => ?_, ec⟩
  · show g' (13 + 7 * i + 0) = _
    rw [he _ (by omega) (by omega) (by omega)]; exact e0
  · obtain ⟨q1, q2, q3⟩ := ek k hk
    refine ⟨?_, ?_, q3⟩
    · show g' (13 + 7 * i + (1 + 2 * k)) = _
      rw [he _ (by omega) (by omega) (by omega)]; exact q1
    · show g' (13 + 7 * i + (2 + 2 * k)) = _
      rw [he _ (by omega) (by omega) (by omega)]; exact q2
theorem RowM.of {g g' : Nat → Int32} {j : Nat} {r : Nat → Nat} (h : RowM g j r) (he : ∀ c, c < 8 → g' (161 + 8 * j + c) = g (161 + 8 * j + c)) : RowM g' j r := fun c hc => by rw [he c hc]; exact h c hc
theorem s_copiesRow {G : mG} {Q : mM → Prop} {μ : mM} {a b : Nat} (ha : a < 64) (hb : b < 64) (hab : a ≠ b)
    (k : ∀ g : Nat → Int32, (∀ j, j ≠ 97 + b → (j < 161 + 8 * b ∨ 161 + 8 * b + 8 ≤ j) → g j = μ 135 j) → g (97 + b) = μ 135 (97 + a) → (∀ c, c < 8 → g (161 + 8 * b + c) = μ 135 (161 + 8 * a + c)) → Q (mrw μ 135 g)) :
    CtV G mX12_copiesRow [.ref (gb G + 132), .int (nI a), .int (nI b)] μ Q := by
  refine e_X12_copiesRow fun E C => k_X12_copiesRow_0 C ?_
  have loop : ∀ (d i : Nat) (g : Nat → Int32), i + d = 8 → (∀ j, (j < 161 + 8 * b ∨ 161 + 8 * b + i ≤ j) → g j = μ 135 j) → (∀ c, c < i → g (161 + 8 * b + c) = μ 135 (161 + 8 * a + c)) →
      Wm G mX12_copiesRow E (bm G mX12_copiesRow E (pV Q)) (mrw μ 135 g) 2 [(0, .ref (gb G + 132)), (1, .int (nI a)), (2, .int (nI b)), (3, .int (nI i))] [] := by
    intro d
    induction d with
    | zero =>
      intro i g hi h1 h2
      refine k_X12_copiesRow_2 C (fun _ => ?_) (fun _ => ?_) (fun _ => ?_) (fun p => ?_) (fun p => ?_) (fun p => ?_)
      · simp (disch := omega) only [ofNat_nI, nI_add, pk_mul, nI_clamp, nI_leI, nI_ltI, nI_eq, vp_in_nI_iff, nI_subr, nI_m1r, m1_eq, m1_eq2, m1_le, m1_le2, m1_lt, m1_lt2, m1_self, cv_sub, cv_add1, cv_eq, cv_eqI, cv_eqI2, cv_m1, cv_lt0, cv_leI, cv_Ile, cv_le, cv_lt, cv_Ilt, cv_ltI, not_true, not_false_iff, true_implies, false_implies, false_or, or_false, true_and, and_true, false_and, and_false, true_or, or_true]
        omega
      · simp (disch := omega) only [ofNat_nI, nI_add, pk_mul, nI_clamp, nI_leI, nI_ltI, nI_eq, vp_in_nI_iff, nI_subr, nI_m1r, m1_eq, m1_eq2, m1_le, m1_le2, m1_lt, m1_lt2, m1_self, cv_sub, cv_add1, cv_eq, cv_eqI, cv_eqI2, cv_m1, cv_lt0, cv_leI, cv_Ile, cv_le, cv_lt, cv_Ilt, cv_ltI, not_true, not_false_iff, true_implies, false_implies, false_or, or_false, true_and, and_true, false_and, and_false, true_or, or_true]
        omega
      · rw [mrw_at, ms_mrw]
        simp (disch := omega) only [ofNat_nI, nI_add, pk_mul, nI_clamp, nI_leI, nI_ltI, nI_eq, vp_in_nI_iff, nI_subr, nI_m1r, m1_eq, m1_eq2, m1_le, m1_le2, m1_lt, m1_lt2, m1_self, cv_sub, cv_add1, cv_eq, cv_eqI, cv_eqI2, cv_m1, cv_lt0, cv_leI, cv_Ile, cv_le, cv_lt, cv_Ilt, cv_ltI, not_true, not_false_iff, true_implies, false_implies, false_or, or_false, true_and, and_true, false_and, and_false, true_or, or_true]
        refine k _ (fun j hj hj2 => ?_) ?_ (fun c hc => ?_)
        · rw [upd_at, if_neg hj]; exact h1 j (by omega)
        · rw [upd_at, if_pos rfl]; exact h1 _ (by omega)
        · rw [upd_at, if_neg (by omega)]; exact h2 c (by omega)
      all_goals
        exfalso
        revert p
        simp (disch := omega) only [ofNat_nI, nI_add, pk_mul, nI_clamp, nI_leI, nI_ltI, nI_eq, vp_in_nI_iff, nI_subr, nI_m1r, m1_eq, m1_eq2, m1_le, m1_le2, m1_lt, m1_lt2, m1_self, cv_sub, cv_add1, cv_eq, cv_eqI, cv_eqI2, cv_m1, cv_lt0, cv_leI, cv_Ile, cv_le, cv_lt, cv_Ilt, cv_ltI, not_true, not_false_iff, true_implies, false_implies, false_or, or_false, true_and, and_true, false_and, and_false, true_or, or_true]
        all_goals omega
    | succ d ih =>
      intro i g hi h1 h2
      refine k_X12_copiesRow_2 C (fun p => ?_) (fun p => ?_) (fun p => ?_) (fun _ => ?_) (fun _ => ?_) (fun _ => ?_)
      · exfalso
        revert p
        simp (disch := omega) only [ofNat_nI, nI_add, pk_mul, nI_clamp, nI_leI, nI_ltI, nI_eq, vp_in_nI_iff, nI_subr, nI_m1r, m1_eq, m1_eq2, m1_le, m1_le2, m1_lt, m1_lt2, m1_self, cv_sub, cv_add1, cv_eq, cv_eqI, cv_eqI2, cv_m1, cv_lt0, cv_leI, cv_Ile, cv_le, cv_lt, cv_Ilt, cv_ltI, not_true, not_false_iff, true_implies, false_implies, false_or, or_false, true_and, and_true, false_and, and_false, true_or, or_true]
        all_goals omega
      · exfalso
        revert p
        simp (disch := omega) only [ofNat_nI, nI_add, pk_mul, nI_clamp, nI_leI, nI_ltI, nI_eq, vp_in_nI_iff, nI_subr, nI_m1r, m1_eq, m1_eq2, m1_le, m1_le2, m1_lt, m1_lt2, m1_self, cv_sub, cv_add1, cv_eq, cv_eqI, cv_eqI2, cv_m1, cv_lt0, cv_leI, cv_Ile, cv_le, cv_lt, cv_Ilt, cv_ltI, not_true, not_false_iff, true_implies, false_implies, false_or, or_false, true_and, and_true, false_and, and_false, true_or, or_true]
        all_goals omega
      · exfalso
        revert p
        simp (disch := omega) only [ofNat_nI, nI_add, pk_mul, nI_clamp, nI_leI, nI_ltI, nI_eq, vp_in_nI_iff, nI_subr, nI_m1r, m1_eq, m1_eq2, m1_le, m1_le2, m1_lt, m1_lt2, m1_self, cv_sub, cv_add1, cv_eq, cv_eqI, cv_eqI2, cv_m1, cv_lt0, cv_leI, cv_Ile, cv_le, cv_lt, cv_Ilt, cv_ltI, not_true, not_false_iff, true_implies, false_implies, false_or, or_false, true_and, and_true, false_and, and_false, true_or, or_true]
        all_goals omega
      · simp (disch := omega) only [ofNat_nI, nI_add, pk_mul, nI_clamp, nI_leI, nI_ltI, nI_eq, vp_in_nI_iff, nI_subr, nI_m1r, m1_eq, m1_eq2, m1_le, m1_le2, m1_lt, m1_lt2, m1_self, cv_sub, cv_add1, cv_eq, cv_eqI, cv_eqI2, cv_m1, cv_lt0, cv_leI, cv_Ile, cv_le, cv_lt, cv_Ilt, cv_ltI, not_true, not_false_iff, true_implies, false_implies, false_or, or_false, true_and, and_true, false_and, and_false, true_or, or_true]
        omega
      · simp (disch := omega) only [ofNat_nI, nI_add, pk_mul, nI_clamp, nI_leI, nI_ltI, nI_eq, vp_in_nI_iff, nI_subr, nI_m1r, m1_eq, m1_eq2, m1_le, m1_le2, m1_lt, m1_lt2, m1_self, cv_sub, cv_add1, cv_eq, cv_eqI, cv_eqI2, cv_m1, cv_lt0, cv_leI, cv_Ile, cv_le, cv_lt, cv_Ilt, cv_ltI, not_true, not_false_iff, true_implies, false_implies, false_or, or_false, true_and, and_true, false_and, and_false, true_or, or_true]
        omega
      · rw [mrw_at, ms_mrw]
        simp (disch := omega) only [ofNat_nI, nI_add, pk_mul, nI_clamp, nI_leI, nI_ltI, nI_eq, vp_in_nI_iff, nI_subr, nI_m1r, m1_eq, m1_eq2, m1_le, m1_le2, m1_lt, m1_lt2, m1_self, cv_sub, cv_add1, cv_eq, cv_eqI, cv_eqI2, cv_m1, cv_lt0, cv_leI, cv_Ile, cv_le, cv_lt, cv_Ilt, cv_ltI, not_true, not_false_iff, true_implies, false_implies, false_or, or_false, true_and, and_true, false_and, and_false, true_or, or_true]
        refine ih (i + 1) _ (by omega) (fun j hj => ?_) (fun c hc => ?_)
        · rw [upd_at, if_neg (by omega)]; exact h1 j (by omega)
        · rw [upd_at]
          by_cases q : c = i
          · rw [if_pos (by omega), q]; exact h1 _ (by omega)
          · rw [if_neg (by omega)]; exact h2 c (by omega)
  have := loop 8 0 (μ 135) (by omega) (fun j _ => rfl) (fun c hc => by omega)
  rw [mrw_self] at this
  exact this
/-- row i is taken out -/
def rmv {α : Type} (f : Nat → α) (i : Nat) : Nat → α := fun j => if j < i then f j else f (j + 1)
theorem s_drops {G : mG} {Q : mM → Prop} {μ : mM} {n i : Nat} {R : Nat → Nat → Nat} {told : Nat → Nat} (hr : RowsM (μ 135) n R told) (hi : i < n)
    (k : ∀ g : Nat → Int32, (∀ j, j < 97 → j ≠ 3 → g j = μ 135 j) → RowsM g (n - 1) (rmv R i) (rmv told i) → Q (mrw μ 135 g)) : CtV G mX12_drops [.ref (gb G + 132), .int (nI i)] μ Q := by
  obtain ⟨r3, r64, rr, rt⟩ := hr
  refine e_X12_drops fun E C => k_X12_drops_0 C ?_
  simp (disch := omega) only [ofNat_nI, nI_add, pk_mul, nI_clamp, nI_leI, nI_ltI, nI_eq, vp_in_nI_iff, nI_subr, nI_m1r, m1_eq, m1_eq2, m1_le, m1_le2, m1_lt, m1_lt2, m1_self, cv_sub, cv_add1, cv_eq, cv_eqI, cv_eqI2, cv_m1, cv_lt0, cv_leI, cv_Ile, cv_le, cv_lt, cv_Ilt, cv_ltI, not_true, not_false_iff, true_implies, false_implies, false_or, or_false, true_and, and_true, false_and, and_false, true_or, or_true]
  have loop : ∀ (d a : Nat) (g : Nat → Int32), a + d = n → i < a → (∀ j, j < 97 → g j = μ 135 j) → (∀ j, j < a - 1 → RowM g j (rmv R i j) ∧ g (97 + j) = nI (rmv told i j)) → (∀ j, a ≤ j → j < n → RowM g j (R j) ∧ g (97 + j) = nI (told j)) →
      Wm G mX12_drops E (bm G mX12_drops E (pV Q)) (mrw μ 135 g) 4 [(0, .ref (gb G + 132)), (2, .int (nI a))] [] := by
    intro d
    induction d with
    | zero =>
      intro a g ha hia h1 h2 h3
      have e3 : (mrw μ 135 g) 135 3 = nI n := by rw [mrw_at, h1 3 (by omega)]; exact r3
      refine k_X12_drops_4 C (fun _ => ?_) (fun p => ?_)
      · rw [e3, ms_mrw]
        simp (disch := omega) only [ofNat_nI, nI_add, pk_mul, nI_clamp, nI_leI, nI_ltI, nI_eq, vp_in_nI_iff, nI_subr, nI_m1r, m1_eq, m1_eq2, m1_le, m1_le2, m1_lt, m1_lt2, m1_self, cv_sub, cv_add1, cv_eq, cv_eqI, cv_eqI2, cv_m1, cv_lt0, cv_leI, cv_Ile, cv_le, cv_lt, cv_Ilt, cv_ltI, not_true, not_false_iff, true_implies, false_implies, false_or, or_false, true_and, and_true, false_and, and_false, true_or, or_true]
        refine k _ (fun j hj hj3 => ?_) ⟨?_, by omega, fun j hj => ?_, fun j hj => ?_⟩
        · rw [upd_at, if_neg hj3]; exact h1 j hj
        · rw [upd_at, if_pos rfl]
        · exact (h2 j (by omega)).1.of (fun c hc => by rw [upd_at, if_neg (by omega)])
        · rw [upd_at, if_neg (by omega)]
          refine ⟨(h2 j (by omega)).2, ?_⟩
          unfold rmv
          by_cases q : j < i
          · rw [if_pos q]; exact (rt j (by omega)).2
          · rw [if_neg q]; exact (rt (j + 1) (by omega)).2
      · exfalso
        revert p
        rw [e3]
        simp (disch := omega) only [ofNat_nI, nI_add, pk_mul, nI_clamp, nI_leI, nI_ltI, nI_eq, vp_in_nI_iff, nI_subr, nI_m1r, m1_eq, m1_eq2, m1_le, m1_le2, m1_lt, m1_lt2, m1_self, cv_sub, cv_add1, cv_eq, cv_eqI, cv_eqI2, cv_m1, cv_lt0, cv_leI, cv_Ile, cv_le, cv_lt, cv_Ilt, cv_ltI, not_true, not_false_iff, true_implies, false_implies, false_or, or_false, true_and, and_true, false_and, and_false, true_or, or_true]
        all_goals omega
    | succ d ih =>
      intro a g ha hia h1 h2 h3
      have e3 : (mrw μ 135 g) 135 3 = nI n := by rw [mrw_at, h1 3 (by omega)]; exact r3
      refine k_X12_drops_4 C (fun p => ?_) (fun _ => ?_)
      · exfalso
        revert p
        rw [e3]
        simp (disch := omega) only [ofNat_nI, nI_add, pk_mul, nI_clamp, nI_leI, nI_ltI, nI_eq, vp_in_nI_iff, nI_subr, nI_m1r, m1_eq, m1_eq2, m1_le, m1_le2, m1_lt, m1_lt2, m1_self, cv_sub, cv_add1, cv_eq, cv_eqI, cv_eqI2, cv_m1, cv_lt0, cv_leI, cv_Ile, cv_le, cv_lt, cv_Ilt, cv_ltI, not_true, not_false_iff, true_implies, false_implies, false_or, or_false, true_and, and_true, false_and, and_false, true_or, or_true]
        all_goals omega
      · simp (disch := omega) only [ofNat_nI, nI_add, pk_mul, nI_clamp, nI_leI, nI_ltI, nI_eq, vp_in_nI_iff, nI_subr, nI_m1r, m1_eq, m1_eq2, m1_le, m1_le2, m1_lt, m1_lt2, m1_self, cv_sub, cv_add1, cv_eq, cv_eqI, cv_eqI2, cv_m1, cv_lt0, cv_leI, cv_Ile, cv_le, cv_lt, cv_Ilt, cv_ltI, not_true, not_false_iff, true_implies, false_implies, false_or, or_false, true_and, and_true, false_and, and_false, true_or, or_true]
        refine s_copiesRow (by omega) (by omega) (by omega) fun g' q1 q2 q3 => k_X12_drops_22 C ?_
        rw [mrw_mrw]
        simp only [mrw_at] at q1 q2 q3
        simp (disch := omega) only [ofNat_nI, nI_add, pk_mul, nI_clamp, nI_leI, nI_ltI, nI_eq, vp_in_nI_iff, nI_subr, nI_m1r, m1_eq, m1_eq2, m1_le, m1_le2, m1_lt, m1_lt2, m1_self, cv_sub, cv_add1, cv_eq, cv_eqI, cv_eqI2, cv_m1, cv_lt0, cv_leI, cv_Ile, cv_le, cv_lt, cv_Ilt, cv_ltI, not_true, not_false_iff, true_implies, false_implies, false_or, or_false, true_and, and_true, false_and, and_false, true_or, or_true]
        refine ih (a + 1) g' (by omega) (by omega) (fun j hj => ?_) (fun j hj => ?_) (fun j hj1 hj2 => ?_)
        · rw [q1 j (by omega) (by omega)]; exact h1 j hj
        · by_cases q : j = a - 1
          · subst q
            have e : rmv R i (a - 1) = R a := by unfold rmv; rw [if_neg (by omega), show a - 1 + 1 = a by omega]
            have e2 : rmv told i (a - 1) = told a := by unfold rmv; rw [if_neg (by omega), show a - 1 + 1 = a by omega]
            obtain ⟨z1, z2⟩ := h3 a (Nat.le_refl a) (by omega)
            rw [e, e2, q2]
            exact ⟨fun c hc => by rw [q3 c hc]; exact z1 c hc, z2⟩
          · obtain ⟨z1, z2⟩ := h2 j (by omega)
            refine ⟨z1.of (fun c hc => q1 _ (by omega) (by omega)), ?_⟩
            rw [q1 _ (by omega) (by omega)]; exact z2
        · obtain ⟨z1, z2⟩ := h3 j (by omega) hj2
          refine ⟨z1.of (fun c hc => q1 _ (by omega) (by omega)), ?_⟩
          rw [q1 _ (by omega) (by omega)]; exact z2
  have := loop (n - (i + 1)) (i + 1) (μ 135) (by omega) (by omega) (fun j _ => rfl) (fun j hj => ?_) (fun j hj1 hj2 => ⟨rr j hj2, (rt j hj2).1⟩)
  · rw [mrw_self] at this
    exact this
  · unfold rmv
    rw [if_pos (by omega), if_pos (by omega)]
    exact ⟨rr j (by omega), (rt j (by omega)).1⟩
/-- a row comes behind the others -/
def psh {α : Type} (f : Nat → α) (n : Nat) (x : α) : Nat → α := fun j => if j = n then x else f j
theorem s_comes {G : mG} {Q : mM → Prop} {μ : mM} {n C c1 n1 : Nat} {R : Nat → Nat → Nat} {told r : Nat → Nat} (h1 : sh c1 = (1, n1)) (hc1 : c1 ≠ 135) (hn1 : 8 ≤ n1) (hn2 : n1 < 10000) (hC : C ≤ 8) (h0 : μ 135 0 = nI C) (hr : RowsM (μ 135) n R told) (hn : n < 64)
    (hg : ∀ c, c < C → μ c1 c = cv (r c) ∧ r c ≤ 4) (hz : ∀ c, C ≤ c → r c = 0)
    (k : ∀ g : Nat → Int32, (∀ j, j < 97 → j ≠ 3 → g j = μ 135 j) → RowsM g (n + 1) (psh R n r) (psh told n 0) → Q (mrw μ 135 g)) : CtV G mX12_comes [.ref (gb G + 132), .ref (gb G + c1)] μ Q := by
  obtain ⟨r3, r64, rr, rt⟩ := hr
  refine e_X12_comes h1 fun E X => k_X12_comes_0 X h1 ?_
  rw [r3]
  have loop : ∀ (d i : Nat) (g : Nat → Int32), i + d = 8 → (∀ j, (j < 161 + 8 * n ∨ 161 + 8 * n + i ≤ j) → g j = μ 135 j) → (∀ c, c < i → g (161 + 8 * n + c) = cv (r c)) →
      Wm G mX12_comes E (bm G mX12_comes E (pV Q)) (mrw μ 135 g) 9 [(0, .ref (gb G + 132)), (1, .ref (gb G + c1)), (2, .int (nI n)), (3, .int (nI i))] [] := by
    intro d
    induction d with
    | zero =>
      intro i g hi g1 g2
      refine k_X12_comes_9 X h1 (fun _ => ?_) (fun _ => ?_) (fun p => ?_) (fun p => ?_) (fun p => ?_)
      · simp (disch := omega) only [ofNat_nI, nI_add, pk_mul, nI_clamp, nI_leI, nI_ltI, nI_eq, vp_in_nI_iff, nI_subr, nI_m1r, m1_eq, m1_eq2, m1_le, m1_le2, m1_lt, m1_lt2, m1_self, cv_sub, cv_add1, cv_eq, cv_eqI, cv_eqI2, cv_m1, cv_lt0, cv_leI, cv_Ile, cv_le, cv_lt, cv_Ilt, cv_ltI, not_true, not_false_iff, true_implies, false_implies, false_or, or_false, true_and, and_true, false_and, and_false, true_or, or_true]
        omega
      · simp (disch := omega) only [ofNat_nI, nI_add, pk_mul, nI_clamp, nI_leI, nI_ltI, nI_eq, vp_in_nI_iff, nI_subr, nI_m1r, m1_eq, m1_eq2, m1_le, m1_le2, m1_lt, m1_lt2, m1_self, cv_sub, cv_add1, cv_eq, cv_eqI, cv_eqI2, cv_m1, cv_lt0, cv_leI, cv_Ile, cv_le, cv_lt, cv_Ilt, cv_ltI, not_true, not_false_iff, true_implies, false_implies, false_or, or_false, true_and, and_true, false_and, and_false, true_or, or_true]
        rw [ms_mrw, ms_mrw, mrw_at, upd_at, if_neg (by omega), g1 3 (by omega), r3]
        simp (disch := omega) only [ofNat_nI, nI_add, pk_mul, nI_clamp, nI_leI, nI_ltI, nI_eq, vp_in_nI_iff, nI_subr, nI_m1r, m1_eq, m1_eq2, m1_le, m1_le2, m1_lt, m1_lt2, m1_self, cv_sub, cv_add1, cv_eq, cv_eqI, cv_eqI2, cv_m1, cv_lt0, cv_leI, cv_Ile, cv_le, cv_lt, cv_Ilt, cv_ltI, not_true, not_false_iff, true_implies, false_implies, false_or, or_false, true_and, and_true, false_and, and_false, true_or, or_true]
        refine k _ (fun j hj hj3 => ?_) ⟨?_, by omega, fun j hj => ?_, fun j hj => ?_⟩
        · rw [upd_at, if_neg hj3, upd_at, if_neg (by omega)]; exact g1 j (by omega)
        · rw [upd_at, if_pos rfl]
        · unfold psh
          by_cases q : j = n
          · rw [if_pos q]
            subst q
            intro c hc
            rw [upd_at, if_neg (by omega), upd_at, if_neg (by omega), g2 c (by omega)]
            refine ⟨rfl, ?_⟩
            by_cases z : c < C
            · exact (hg c z).2
            · rw [hz c (by omega)]; omega
          · rw [if_neg q]
            exact (rr j (by omega)).of (fun c hc => by rw [upd_at, if_neg (by omega), upd_at, if_neg (by omega)]; exact g1 _ (by omega))
        · unfold psh
          by_cases q : j = n
          · rw [if_pos q, upd_at, if_neg (by omega), upd_at, if_pos (by omega)]; exact ⟨rfl, by omega⟩
          · rw [if_neg q, upd_at, if_neg (by omega), upd_at, if_neg (by omega), g1 _ (by omega)]; exact rt j (by omega)
      all_goals
        exfalso
        revert p
        simp (disch := omega) only [ofNat_nI, nI_add, pk_mul, nI_clamp, nI_leI, nI_ltI, nI_eq, vp_in_nI_iff, nI_subr, nI_m1r, m1_eq, m1_eq2, m1_le, m1_le2, m1_lt, m1_lt2, m1_self, cv_sub, cv_add1, cv_eq, cv_eqI, cv_eqI2, cv_m1, cv_lt0, cv_leI, cv_Ile, cv_le, cv_lt, cv_Ilt, cv_ltI, not_true, not_false_iff, true_implies, false_implies, false_or, or_false, true_and, and_true, false_and, and_false, true_or, or_true]
        all_goals omega
    | succ d ih =>
      intro i g hi g1 g2
      have e0 : (mrw μ 135 g) 135 0 = nI C := by rw [mrw_at, g1 0 (by omega)]; exact h0
      refine k_X12_comes_9 X h1 (fun p => ?_) (fun p => ?_) (fun _ _ => ?_) (fun _ v hv => ?_) (fun _ v hv => ?_)
      · exfalso
        revert p
        simp (disch := omega) only [ofNat_nI, nI_add, pk_mul, nI_clamp, nI_leI, nI_ltI, nI_eq, vp_in_nI_iff, nI_subr, nI_m1r, m1_eq, m1_eq2, m1_le, m1_le2, m1_lt, m1_lt2, m1_self, cv_sub, cv_add1, cv_eq, cv_eqI, cv_eqI2, cv_m1, cv_lt0, cv_leI, cv_Ile, cv_le, cv_lt, cv_Ilt, cv_ltI, not_true, not_false_iff, true_implies, false_implies, false_or, or_false, true_and, and_true, false_and, and_false, true_or, or_true]
        all_goals omega
      · exfalso
        revert p
        simp (disch := omega) only [ofNat_nI, nI_add, pk_mul, nI_clamp, nI_leI, nI_ltI, nI_eq, vp_in_nI_iff, nI_subr, nI_m1r, m1_eq, m1_eq2, m1_le, m1_le2, m1_lt, m1_lt2, m1_self, cv_sub, cv_add1, cv_eq, cv_eqI, cv_eqI2, cv_m1, cv_lt0, cv_leI, cv_Ile, cv_le, cv_lt, cv_Ilt, cv_ltI, not_true, not_false_iff, true_implies, false_implies, false_or, or_false, true_and, and_true, false_and, and_false, true_or, or_true]
        all_goals omega
      · simp (disch := omega) only [ofNat_nI, nI_add, pk_mul, nI_clamp, nI_leI, nI_ltI, nI_eq, vp_in_nI_iff, nI_subr, nI_m1r, m1_eq, m1_eq2, m1_le, m1_le2, m1_lt, m1_lt2, m1_self, cv_sub, cv_add1, cv_eq, cv_eqI, cv_eqI2, cv_m1, cv_lt0, cv_leI, cv_Ile, cv_le, cv_lt, cv_Ilt, cv_ltI, not_true, not_false_iff, true_implies, false_implies, false_or, or_false, true_and, and_true, false_and, and_false, true_or, or_true]
        omega
      · simp (disch := omega) only [ofNat_nI, nI_add, pk_mul, nI_clamp, nI_leI, nI_ltI, nI_eq, vp_in_nI_iff, nI_subr, nI_m1r, m1_eq, m1_eq2, m1_le, m1_le2, m1_lt, m1_lt2, m1_self, cv_sub, cv_add1, cv_eq, cv_eqI, cv_eqI2, cv_m1, cv_lt0, cv_leI, cv_Ile, cv_le, cv_lt, cv_Ilt, cv_ltI, not_true, not_false_iff, true_implies, false_implies, false_or, or_false, true_and, and_true, false_and, and_false, true_or, or_true]
        omega
      · have ev : v = cv (r i) := by
          revert hv
          rw [mrw_ne hc1]
          simp (disch := omega) only [ofNat_nI, nI_add, pk_mul, nI_clamp, nI_leI, nI_ltI, nI_eq, vp_in_nI_iff, nI_subr, nI_m1r, m1_eq, m1_eq2, m1_le, m1_le2, m1_lt, m1_lt2, m1_self, cv_sub, cv_add1, cv_eq, cv_eqI, cv_eqI2, cv_m1, cv_lt0, cv_leI, cv_Ile, cv_le, cv_lt, cv_Ilt, cv_ltI, not_true, not_false_iff, true_implies, false_implies, false_or, or_false, true_and, and_true, false_and, and_false, true_or, or_true, e0]
          intro hv
          rcases hv with ⟨a, b⟩ | ⟨a, b⟩
          · rw [hz i a, b]; rfl
          · rw [b]; exact (hg i (by omega)).1
        rw [ev, ms_mrw]
        simp (disch := omega) only [ofNat_nI, nI_add, pk_mul, nI_clamp, nI_leI, nI_ltI, nI_eq, vp_in_nI_iff, nI_subr, nI_m1r, m1_eq, m1_eq2, m1_le, m1_le2, m1_lt, m1_lt2, m1_self, cv_sub, cv_add1, cv_eq, cv_eqI, cv_eqI2, cv_m1, cv_lt0, cv_leI, cv_Ile, cv_le, cv_lt, cv_Ilt, cv_ltI, not_true, not_false_iff, true_implies, false_implies, false_or, or_false, true_and, and_true, false_and, and_false, true_or, or_true]
        refine ih (i + 1) _ (by omega) (fun j hj => ?_) (fun c hc => ?_)
        · rw [upd_at, if_neg (by omega)]; exact g1 j (by omega)
        · rw [upd_at]
          by_cases q : c = i
          · rw [if_pos (by omega), q]
          · rw [if_neg (by omega)]; exact g2 c (by omega)
  have := loop 8 0 (μ 135) (by omega) (fun j _ => rfl) (fun c hc => by omega)
  rw [mrw_self] at this
  exact this
theorem s_probes {G : mG} {Q : mM → Prop} {μ : mM} {C c1 n1 : Nat} {r : Nat → Nat} (h1 : sh c1 = (1, n1)) (hc1 : c1 ≠ 138) (hn1 : 8 ≤ n1) (hn2 : n1 < 10000) (hC : C ≤ 8) (h0 : μ 135 0 = nI C) (hg : ∀ c, c < C → μ c1 c = cv (r c))
    (k : ∀ g : Nat → Int32, (∀ c, c < C → g c = cv (r c)) → Q (mrw μ 138 g)) : CtV G mX12_probes [.ref (gb G + 132), .ref (gb G + c1)] μ Q := by
  refine e_X12_probes h1 fun E X => k_X12_probes_0 X h1 ?_
  have loop : ∀ (d i : Nat) (g : Nat → Int32), i + d = C → (∀ c, c < i → g c = cv (r c)) → Wm G mX12_probes E (bm G mX12_probes E (pV Q)) (mrw μ 138 g) 2 [(0, .ref (gb G + 132)), (1, .ref (gb G + c1)), (2, .int (nI i))] [] := by
    intro d
    induction d with
    | zero =>
      intro i g hi hgi
      refine k_X12_probes_2 X h1 (fun _ => k g (fun c hc => hgi c (by omega))) (fun p => ?_) (fun p => ?_) (fun p => ?_)
      all_goals
        exfalso
        revert p
        rw [mrw_ne (by decide), h0]
        simp (disch := omega) only [ofNat_nI, nI_add, pk_mul, nI_clamp, nI_leI, nI_ltI, nI_eq, vp_in_nI_iff, nI_subr, nI_m1r, m1_eq, m1_eq2, m1_le, m1_le2, m1_lt, m1_lt2, m1_self, cv_sub, cv_add1, cv_eq, cv_eqI, cv_eqI2, cv_m1, cv_lt0, cv_leI, cv_Ile, cv_le, cv_lt, cv_Ilt, cv_ltI, not_true, not_false_iff, true_implies, false_implies, false_or, or_false, true_and, and_true, false_and, and_false, true_or, or_true]
        all_goals omega
    | succ d ih =>
      intro i g hi hgi
      refine k_X12_probes_2 X h1 (fun p => ?_) (fun _ => ?_) (fun _ => ?_) (fun _ => ?_)
      · exfalso
        revert p
        rw [mrw_ne (by decide), h0]
        simp (disch := omega) only [ofNat_nI, nI_add, pk_mul, nI_clamp, nI_leI, nI_ltI, nI_eq, vp_in_nI_iff, nI_subr, nI_m1r, m1_eq, m1_eq2, m1_le, m1_le2, m1_lt, m1_lt2, m1_self, cv_sub, cv_add1, cv_eq, cv_eqI, cv_eqI2, cv_m1, cv_lt0, cv_leI, cv_Ile, cv_le, cv_lt, cv_Ilt, cv_ltI, not_true, not_false_iff, true_implies, false_implies, false_or, or_false, true_and, and_true, false_and, and_false, true_or, or_true]
        all_goals omega
      · simp (disch := omega) only [ofNat_nI, nI_add, pk_mul, nI_clamp, nI_leI, nI_ltI, nI_eq, vp_in_nI_iff, nI_subr, nI_m1r, m1_eq, m1_eq2, m1_le, m1_le2, m1_lt, m1_lt2, m1_self, cv_sub, cv_add1, cv_eq, cv_eqI, cv_eqI2, cv_m1, cv_lt0, cv_leI, cv_Ile, cv_le, cv_lt, cv_Ilt, cv_ltI, not_true, not_false_iff, true_implies, false_implies, false_or, or_false, true_and, and_true, false_and, and_false, true_or, or_true]
        omega
      · simp (disch := omega) only [ofNat_nI, nI_add, pk_mul, nI_clamp, nI_leI, nI_ltI, nI_eq, vp_in_nI_iff, nI_subr, nI_m1r, m1_eq, m1_eq2, m1_le, m1_le2, m1_lt, m1_lt2, m1_self, cv_sub, cv_add1, cv_eq, cv_eqI, cv_eqI2, cv_m1, cv_lt0, cv_leI, cv_Ile, cv_le, cv_lt, cv_Ilt, cv_ltI, not_true, not_false_iff, true_implies, false_implies, false_or, or_false, true_and, and_true, false_and, and_false, true_or, or_true]
        omega
      · rw [mrw_ne hc1]
        simp (disch := omega) only [ofNat_nI, nI_add, pk_mul, nI_clamp, nI_leI, nI_ltI, nI_eq, vp_in_nI_iff, nI_subr, nI_m1r, m1_eq, m1_eq2, m1_le, m1_le2, m1_lt, m1_lt2, m1_self, cv_sub, cv_add1, cv_eq, cv_eqI, cv_eqI2, cv_m1, cv_lt0, cv_leI, cv_Ile, cv_le, cv_lt, cv_Ilt, cv_ltI, not_true, not_false_iff, true_implies, false_implies, false_or, or_false, true_and, and_true, false_and, and_false, true_or, or_true, hg i (by omega)]
        rw [ms_mrw]
        refine ih (i + 1) _ (by omega) (fun c hc => ?_)
        rw [upd_at]
        by_cases q : c = i
        · rw [if_pos q, q]
        · rw [if_neg q]; exact hgi c (by omega)
  have := loop C 0 (μ 138) (by omega) (fun c hc => by omega)
  rw [mrw_self] at this
  exact this
theorem s_probesRow {G : mG} {Q : mM → Prop} {μ : mM} {C j : Nat} {r : Nat → Nat} (hC : C ≤ 8) (h0 : μ 135 0 = nI C) (hj : j < 64) (hg : RowM (μ 135) j r)
    (k : ∀ g : Nat → Int32, (∀ c, c < C → g c = cv (r c)) → Q (mrw μ 138 g)) : CtV G mX12_probesRow [.ref (gb G + 132), .int (nI j)] μ Q := by
  refine e_X12_probesRow fun E X => k_X12_probesRow_0 X ?_
  have loop : ∀ (d i : Nat) (g : Nat → Int32), i + d = C → (∀ c, c < i → g c = cv (r c)) → Wm G mX12_probesRow E (bm G mX12_probesRow E (pV Q)) (mrw μ 138 g) 2 [(0, .ref (gb G + 132)), (1, .int (nI j)), (2, .int (nI i))] [] := by
    intro d
    induction d with
    | zero =>
      intro i g hi hgi
      refine k_X12_probesRow_2 X (fun _ => k g (fun c hc => hgi c (by omega))) (fun p => ?_) (fun p => ?_) (fun p => ?_)
      all_goals
        exfalso
        revert p
        rw [mrw_ne (by decide), h0]
        simp (disch := omega) only [ofNat_nI, nI_add, pk_mul, nI_clamp, nI_leI, nI_ltI, nI_eq, vp_in_nI_iff, nI_subr, nI_m1r, m1_eq, m1_eq2, m1_le, m1_le2, m1_lt, m1_lt2, m1_self, cv_sub, cv_add1, cv_eq, cv_eqI, cv_eqI2, cv_m1, cv_lt0, cv_leI, cv_Ile, cv_le, cv_lt, cv_Ilt, cv_ltI, not_true, not_false_iff, true_implies, false_implies, false_or, or_false, true_and, and_true, false_and, and_false, true_or, or_true]
        all_goals omega
    | succ d ih =>
      intro i g hi hgi
      refine k_X12_probesRow_2 X (fun p => ?_) (fun _ => ?_) (fun _ => ?_) (fun _ => ?_)
      · exfalso
        revert p
        rw [mrw_ne (by decide), h0]
        simp (disch := omega) only [ofNat_nI, nI_add, pk_mul, nI_clamp, nI_leI, nI_ltI, nI_eq, vp_in_nI_iff, nI_subr, nI_m1r, m1_eq, m1_eq2, m1_le, m1_le2, m1_lt, m1_lt2, m1_self, cv_sub, cv_add1, cv_eq, cv_eqI, cv_eqI2, cv_m1, cv_lt0, cv_leI, cv_Ile, cv_le, cv_lt, cv_Ilt, cv_ltI, not_true, not_false_iff, true_implies, false_implies, false_or, or_false, true_and, and_true, false_and, and_false, true_or, or_true]
        all_goals omega
      · simp (disch := omega) only [ofNat_nI, nI_add, pk_mul, nI_clamp, nI_leI, nI_ltI, nI_eq, vp_in_nI_iff, nI_subr, nI_m1r, m1_eq, m1_eq2, m1_le, m1_le2, m1_lt, m1_lt2, m1_self, cv_sub, cv_add1, cv_eq, cv_eqI, cv_eqI2, cv_m1, cv_lt0, cv_leI, cv_Ile, cv_le, cv_lt, cv_Ilt, cv_ltI, not_true, not_false_iff, true_implies, false_implies, false_or, or_false, true_and, and_true, false_and, and_false, true_or, or_true]
        omega
      · simp (disch := omega) only [ofNat_nI, nI_add, pk_mul, nI_clamp, nI_leI, nI_ltI, nI_eq, vp_in_nI_iff, nI_subr, nI_m1r, m1_eq, m1_eq2, m1_le, m1_le2, m1_lt, m1_lt2, m1_self, cv_sub, cv_add1, cv_eq, cv_eqI, cv_eqI2, cv_m1, cv_lt0, cv_leI, cv_Ile, cv_le, cv_lt, cv_Ilt, cv_ltI, not_true, not_false_iff, true_implies, false_implies, false_or, or_false, true_and, and_true, false_and, and_false, true_or, or_true]
        omega
      · rw [mrw_ne (by decide)]
        simp (disch := omega) only [ofNat_nI, nI_add, pk_mul, nI_clamp, nI_leI, nI_ltI, nI_eq, vp_in_nI_iff, nI_subr, nI_m1r, m1_eq, m1_eq2, m1_le, m1_le2, m1_lt, m1_lt2, m1_self, cv_sub, cv_add1, cv_eq, cv_eqI, cv_eqI2, cv_m1, cv_lt0, cv_leI, cv_Ile, cv_le, cv_lt, cv_Ilt, cv_ltI, not_true, not_false_iff, true_implies, false_implies, false_or, or_false, true_and, and_true, false_and, and_false, true_or, or_true, (hg i (by omega)).1]
        rw [ms_mrw]
        refine ih (i + 1) _ (by omega) (fun c hc => ?_)
        rw [upd_at]
        by_cases q : c = i
        · rw [if_pos q, q]
        · rw [if_neg q]; exact hgi c (by omega)
  have := loop C 0 (μ 138) (by omega) (fun c hc => by omega)
  rw [mrw_self] at this
  exact this

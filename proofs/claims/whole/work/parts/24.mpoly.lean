/-! THE MODEL: rows by digits; trials of the row that is drawn -/
/-- a row by its digits, and whether it is one -/
def rowD (C d : Nat) : Nat → Nat := fun c => if c < C then (if d / 10 ^ (C - 1 - c) % 10 = 9 then 0 else d / 10 ^ (C - 1 - c) % 10 + 1) else 0
def okD (C : Nat) (L : Nat → Nat) (d : Nat) : Prop := d / 10 ^ C = 0 ∧ ∀ c, c < C → d / 10 ^ (C - 1 - c) % 10 = 9 ∨ d / 10 ^ (C - 1 - c) % 10 < L c
theorem s_canGreedy {G : mG} {Q : Int32 → mM → Prop} {μ : mM} {P : Pl} (h : PW P) (hn : NowP (μ 135) P) {r : Nat → Nat} {c v : Nat} (hc : c < qC P) (hv : v < qL P c) (hr : ∀ j, j < qC P → μ 146 j = cv (r j) ∧ r j ≤ qL P j)
    (k : ∀ μ', Fr [138, 139] μ μ' → Q (nI (canB P (up r c (v + 1))).toNat) μ') : CtI G mX12_canGreedy [.ref (gb G + 132), .int (nI c), .int (nI v)] μ Q := by
  have hC8 : qC P ≤ 8 := h.ct.2.2.2
  refine e_X12_canGreedy fun E C => k_X12_canGreedy_0 C ?_
  refine s_probes (c1 := 146) (n1 := 8) rfl (by decide) (by decide) (by decide) hC8 hn.1 (fun j hj => (hr j hj).1) fun g0 hg0 => k_X12_canGreedy_8 C ?_ ?_
  · simp (disch := omega) only [ofNat_nI, nI_add, pk_mul, nI_clamp, nI_leI, nI_ltI, nI_eq, vp_in_nI_iff, nI_subr, nI_m1r, m1_eq, m1_eq2, m1_le, m1_le2, m1_lt, m1_lt2, m1_self, cv_sub, cv_add1, cv_eq, cv_eqI, cv_eqI2, cv_m1, cv_lt0, cv_leI, cv_Ile, cv_le, cv_lt, cv_Ilt, cv_ltI, not_true, not_false_iff, true_implies, false_implies, false_or, or_false, true_and, and_true, false_and, and_false, true_or, or_true]
    omega
  · have e : (nI c).toNatClampNeg = c := nI_clamp (by omega)
    rw [e, ms_mrw]
    refine s_canProbe (r := up r c (v + 1)) h (by rw [mrw_ne (by decide)]; exact hn) (fun j hj => ?_) fun g1 => k_X12_canGreedy_19 C ?_ (k _ (((Fr.rf _ μ).mrw (by decide)).mrw (by decide)))
    · rw [mrw_at, upd_at, up_at]
      by_cases q : j = c
      · rw [if_pos q, if_pos q, cv_s, q]
        exact ⟨rfl, hv⟩
      · rw [if_neg q, if_neg q]
        exact ⟨hg0 j hj, (hr j hj).2⟩
    · cases canB P (up r c (v + 1))
      · exact Or.inl rfl
      · exact Or.inr rfl
theorem cv_pred (n : Nat) (h : 0 < n) : nI n - nI 1 = cv n := by
  rw [nI_subr (by omega)]
  obtain ⟨m, rfl⟩ : ∃ m, n = m + 1 := ⟨n - 1, by omega⟩
  rw [cv_s]
  rfl
theorem s_reads {G : mG} {Q : Int32 → mM → Prop} {μ : mM} {P : Pl} (h : PW P) (hn : NowP (μ 135) P) {d : Nat} (hd : d < 2 ^ 31)
    (k0 : ∀ g, ¬ okD (qC P) (qL P) d → Q 0 (mrw μ 145 g)) (k1 : ∀ g : Nat → Int32, okD (qC P) (qL P) d → (∀ c, c < qC P → g c = cv (rowD (qC P) d c)) → Q 1 (mrw μ 145 g)) : CtI G mX12_reads [.ref (gb G + 132), .int (nI d)] μ Q := by
  have hC8 : qC P ≤ 8 := h.ct.2.2.2
  have hC2 : 2 ≤ qC P := h.1
  refine e_X12_reads fun E C => k_X12_reads_0 C ?_
  rw [hn.1, show (1 : Int32) = nI 1 from rfl, cv_pred _ (by omega)]
  have loop : ∀ (a : Nat) (g : Nat → Int32), a ≤ qC P → (∀ c, a ≤ c → c < qC P → g c = cv (rowD (qC P) d c) ∧ (d / 10 ^ (qC P - 1 - c) % 10 = 9 ∨ d / 10 ^ (qC P - 1 - c) % 10 < qL P c)) →
      Wm G mX12_reads E (bm G mX12_reads E (pI Q)) (mrw μ 145 g) 11 [(0, .ref (gb G + 132)), (2, .int (nI (d / 10 ^ (qC P - a)))), (3, .int (cv a))] [] := by
    intro a
    induction a with
    | zero =>
      intro g _ hg
      have hdd : d / 10 ^ qC P ≤ d := Nat.div_le_self _ _
      refine k_X12_reads_11 C (fun _ p => ?_) (fun _ p => ?_) (fun p => ?_) (fun p => ?_) (fun p => ?_) (fun p => ?_)
      · refine k0 g (fun z => p ?_)
        rw [Nat.sub_zero, z.1]
        rfl
      · refine k1 g ⟨?_, fun c hc => (hg c (by omega) hc).2⟩ (fun c hc => (hg c (by omega) hc).1)
        rw [Nat.sub_zero] at p
        exact (nI_eq (b := 0) (by omega) (by omega)).mp p
      all_goals exact absurd (show cv 0 < 0 by decide) p
    | succ a ih =>
      intro g ha hg
      have hxd : d / 10 ^ (qC P - (a + 1)) ≤ d := Nat.div_le_self _ _
      have l4 := (h.lv (c := a) (by omega)).2
      have e1 : d / 10 ^ (qC P - a) = d / 10 ^ (qC P - (a + 1)) / 10 := by
        rw [Nat.div_div_eq_div_mul, ← Nat.pow_succ, show (qC P - (a + 1)).succ = qC P - a by omega]
      have e2 : qC P - 1 - a = qC P - (a + 1) := by omega
      have hg' := fun g' => ih g' (by omega)
      rw [e1] at hg'
      have hrow : rowD (qC P) d a = if d / 10 ^ (qC P - (a + 1)) % 10 = 9 then 0 else d / 10 ^ (qC P - (a + 1)) % 10 + 1 := by
        unfold rowD
        rw [if_pos (by omega), e2]
      generalize hx : d / 10 ^ (qC P - (a + 1)) = x at hxd hg' hrow
      have e10 : nI x / 10 = nI (x / 10) := pk_div (d := 10) (by omega) (by omega) (by omega)
      have er : nI x - nI x / 10 * 10 = nI (x % 10) := pk_rem (d := 10) (by omega) (by omega) (by omega)
      have hm : x % 10 < 10 := Nat.mod_lt _ (by omega)
      have ev : ∀ v : Int32, ((¬ nI (x % 10) = 9 ∧ v = nI (x % 10)) ∨ (nI (x % 10) = 9 ∧ v = -1)) → v = cv (rowD (qC P) d a) := fun v hv => by
        rw [hrow]
        revert hv
        simp (disch := omega) only [ofNat_nI, nI_add, pk_mul, nI_clamp, nI_leI, nI_ltI, nI_eq, vp_in_nI_iff, nI_subr, nI_m1r, m1_eq, m1_eq2, m1_le, m1_le2, m1_lt, m1_lt2, m1_self, cv_sub, cv_add1, cv_eq, cv_eqI, cv_eqI2, cv_m1, cv_lt0, cv_leI, cv_Ile, cv_le, cv_lt, cv_Ilt, cv_ltI, not_true, not_false_iff, true_implies, false_implies, false_or, or_false, true_and, and_true, false_and, and_false, true_or, or_true]
        rintro (⟨z, rfl⟩ | ⟨z, rfl⟩)
        · rw [if_neg z, cv_s]
        · rw [if_pos z]; rfl
      rw [cv_s]
      refine k_X12_reads_11 C (fun p => ?_) (fun p => ?_) (fun _ v hv => ?_) (fun _ v hv p => ?_) (fun _ v hv p => ?_) (fun _ v hv p p2 => ?_)
      · exact absurd p (nI_pos (by omega))
      · exact absurd p (nI_pos (by omega))
      · simp (disch := omega) only [ofNat_nI, nI_add, pk_mul, nI_clamp, nI_leI, nI_ltI, nI_eq, vp_in_nI_iff, nI_subr, nI_m1r, m1_eq, m1_eq2, m1_le, m1_le2, m1_lt, m1_lt2, m1_self, cv_sub, cv_add1, cv_eq, cv_eqI, cv_eqI2, cv_m1, cv_lt0, cv_leI, cv_Ile, cv_le, cv_lt, cv_Ilt, cv_ltI, not_true, not_false_iff, true_implies, false_implies, false_or, or_false, true_and, and_true, false_and, and_false, true_or, or_true]
        omega
      · rw [er] at hv p
        rw [ev v hv, e10, ms_mrw]
        have e4 : (nI a).toNatClampNeg = a := nI_clamp (by omega)
        have e5 : nI a + (-1) = cv a := cv_sub a
        rw [e4, e5]
        refine hg' _ (fun c hc1 hc2 => ?_)
        rw [upd_at]
        by_cases q : c = a
        · subst q
          rw [if_pos rfl]
          refine ⟨rfl, ?_⟩
          revert p
          rw [mrw_ne (by decide)]
          rw [e2, hx]
          simp (disch := omega) only [ofNat_nI, nI_add, pk_mul, nI_clamp, nI_leI, nI_ltI, nI_eq, vp_in_nI_iff, nI_subr, nI_m1r, m1_eq, m1_eq2, m1_le, m1_le2, m1_lt, m1_lt2, m1_self, cv_sub, cv_add1, cv_eq, cv_eqI, cv_eqI2, cv_m1, cv_lt0, cv_leI, cv_Ile, cv_le, cv_lt, cv_Ilt, cv_ltI, not_true, not_false_iff, true_implies, false_implies, false_or, or_false, true_and, and_true, false_and, and_false, true_or, or_true, hn.2.2.2.1 c hc2]
          omega
        · rw [if_neg q]
          exact hg c (by omega) hc2
      · simp (disch := omega) only [ofNat_nI, nI_add, pk_mul, nI_clamp, nI_leI, nI_ltI, nI_eq, vp_in_nI_iff, nI_subr, nI_m1r, m1_eq, m1_eq2, m1_le, m1_le2, m1_lt, m1_lt2, m1_self, cv_sub, cv_add1, cv_eq, cv_eqI, cv_eqI2, cv_m1, cv_lt0, cv_leI, cv_Ile, cv_le, cv_lt, cv_Ilt, cv_ltI, not_true, not_false_iff, true_implies, false_implies, false_or, or_false, true_and, and_true, false_and, and_false, true_or, or_true]
        omega
      · rw [er] at hv p p2
        rw [ms_mrw]
        refine k0 _ (fun z => ?_)
        have := z.2 a (by omega)
        rw [e2, hx] at this
        revert p p2
        rw [mrw_ne (by decide)]
        simp (disch := omega) only [ofNat_nI, nI_add, pk_mul, nI_clamp, nI_leI, nI_ltI, nI_eq, vp_in_nI_iff, nI_subr, nI_m1r, m1_eq, m1_eq2, m1_le, m1_le2, m1_lt, m1_lt2, m1_self, cv_sub, cv_add1, cv_eq, cv_eqI, cv_eqI2, cv_m1, cv_lt0, cv_leI, cv_Ile, cv_le, cv_lt, cv_Ilt, cv_ltI, not_true, not_false_iff, true_implies, false_implies, false_or, or_false, true_and, and_true, false_and, and_false, true_or, or_true, hn.2.2.2.1 a (by omega)]
        omega
  have := loop (qC P) (μ 145) (Nat.le_refl _) (fun c h1 h2 => by omega)
  rw [mrw_self, Nat.sub_self, Nat.pow_zero, Nat.div_one] at this
  exact this

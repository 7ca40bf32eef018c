/-! THE MODEL: rows by digits; trials of the row that is drawn -/
/-- a row by its digits, and whether it is one -/
def rowD (C d : Nat) : Nat → Nat := fun c => if c < C then (if d / 10 ^ (C - 1 - c) % 10 = 9 then 0 else d / 10 ^ (C - 1 - c) % 10 + 1) else 0
def okD (C : Nat) (L : Nat → Nat) (d : Nat) : Prop := d / 10 ^ C = 0 ∧ ∀ c, c < C → d / 10 ^ (C - 1 - c) % 10 = 9 ∨ d / 10 ^ (C - 1 - c) % 10 < L c
theorem s_canGreedy {G : mG} {Q : Int32 → mM → Prop} {μ : mM} {P : Pl} (h : PW P) (hn : NowP (μ 135) P) {r : Nat → Nat} {c v : Nat} (hc : c < qC P) (hv : v < qL P c) (hr : ∀ j, j < qC P → μ 146 j = cv (r j) ∧ r j ≤ qL P j)
    (k : ∀ μ', Fr [138, 139] μ μ' → Q (nI (canB P (up r c (v + 1))).toNat) μ') : CtI G mX12_canGreedy [.ref (gb G + 132), .int (nI c), .int (nI v)] μ Q := by
  have hC8 : qC P ≤ 8 := h.ct.2.2.2
  refine e_X12_canGreedy fun E C => k_X12_canGreedy_0 C ?_
  refine s_probes (c1 := 146) (n1 := 8) rfl (by decide) (by decide) (by decide) hC8 hn.1 (fun j hj => (hr j hj).1) fun g0 hg0 => k_X12_canGreedy_8 C ?_ ?_
  · simp (disch := omega) only [ofNat_nI, nI_add, pk_mul, nI_clamp, nI_leI, nI_ltI, nI_eq, vp_in_nI_iff, nI_subr, nI_m1r, m1_eq, m1_eq2, m1_le, m1_le2, m1_lt, m1_lt2, m1_self, cv_sub, cv_add1, cv_eq, cv_eqI, cv_eqI2, cv_m1, cv_lt0, cv_leI, cv_Ile, cv_le, cv_lt, cv_Ilt, cv_ltI, not_true, not_false_iff, true_implies, false_implies, false_or, or_false, true_and, and_true, false_and, and_false, true_or, or_true]
    omega
  · have e : (nI c).toNatClampNeg = c := nI_clamp (by omega)
    rw [e, ms_mrw]
    refine s_canProbe (r := up r c (v + 1)) h (by rw [mrw_ne (by decide)]; exact hn) (fun j hj => ?_) fun g1 => k_X12_canGreedy_19 C ?_ (k _ (((Fr.rf _ μ).mrw (by decide)).mrw (by decide)))
    · rw [mrw_at, upd_at, up_at]
      by_cases q : j = c
      · rw [if_pos q, if_pos q, cv_s, q]
        exact ⟨rfl, hv⟩
      · rw [if_neg q, if_neg q]
        exact ⟨hg0 j hj, (hr j hj).2⟩
    · cases canB P (up r c (v + 1))
      · exact Or.inl rfl
      · exact Or.inr rfl

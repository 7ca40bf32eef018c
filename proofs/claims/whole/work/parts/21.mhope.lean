/-! THE MODEL: hope; rows by digits; what a cell brings -/
/-- open mixes of a row, with one column told -/
def morN (P : Pl) (o : Nat → Bool) (r : Nat → Nat) (c : Nat) : Nat := sm (MM P) (fun m => (o m && hasM P r m && decide (∃ k, k < qT P ∧ mcol P m k = c)).toNat)
theorem s_moreBy {G : mG} {Q : Int32 → mM → Prop} {μ : mM} {P : Pl} (h : PW P) (hT : μ 135 1 = nI (qT P)) (hM : MM P ≤ 1200) (h13 : μ 132 13 = nI (MM P)) (hL : LM μ P (MM P)) {j c : Nat} {r : Nat → Nat} {o : Nat → Bool} (hj : j < 64) (hc : c < 8) (hr : RowM (μ 135) j r)
    (ho : ∀ m, m < MM P → μ 144 m = nI (o m).toNat) (k : Q (nI (morN P o r c)) μ) : CtI G mX12_moreBy [.ref (gb G + 132), .int (nI j), .int (nI c)] μ Q := by
  have hT3 : qT P ≤ 3 := h.ct.2.1
  refine e_X12_moreBy fun E C => k_X12_moreBy_0 C ?_
  refine lp_up (W := fun i => Wm G mX12_moreBy E (bm G mX12_moreBy E (pI Q)) μ 5 [(0, .ref (gb G + 132)), (1, .int (nI j)), (2, .int (nI c)), (3, .int (nI (sm i (fun m => (o m && hasM P r m && decide (∃ k, k < qT P ∧ mcol P m k = c)).toNat)))), (4, .int (nI i))] []) (MM P) ?_ (fun m hm ih => ?_)
  · refine k_X12_moreBy_5 C (fun _ => k) (fun p => ?_) (fun p => ?_) (fun p => ?_)
    all_goals
      exfalso
      revert p
      rw [h13]
      simp (disch := omega) only [ofNat_nI, nI_add, pk_mul, nI_clamp, nI_leI, nI_ltI, nI_eq, vp_in_nI_iff, nI_subr, nI_m1r, m1_eq, m1_eq2, m1_le, m1_le2, m1_lt, m1_lt2, m1_self, cv_sub, cv_add1, cv_eq, cv_eqI, cv_eqI2, cv_m1, cv_lt0, cv_leI, cv_Ile, cv_le, cv_lt, cv_Ilt, cv_ltI, not_true, not_false_iff, true_implies, false_implies, false_or, or_false, true_and, and_true, false_and, and_false, true_or, or_true]
      all_goals omega
  · rw [sm] at ih
    refine k_X12_moreBy_5 C (fun p => ?_) (fun _ => ?_) (fun _ p => ?_) (fun _ p => ?_)
    · exfalso
      revert p
      rw [h13]
      simp (disch := omega) only [ofNat_nI, nI_add, pk_mul, nI_clamp, nI_leI, nI_ltI, nI_eq, vp_in_nI_iff, nI_subr, nI_m1r, m1_eq, m1_eq2, m1_le, m1_le2, m1_lt, m1_lt2, m1_self, cv_sub, cv_add1, cv_eq, cv_eqI, cv_eqI2, cv_m1, cv_lt0, cv_leI, cv_Ile, cv_le, cv_lt, cv_Ilt, cv_ltI, not_true, not_false_iff, true_implies, false_implies, false_or, or_false, true_and, and_true, false_and, and_false, true_or, or_true]
      omega
    · simp (disch := omega) only [ofNat_nI, nI_add, pk_mul, nI_clamp, nI_leI, nI_ltI, nI_eq, vp_in_nI_iff, nI_subr, nI_m1r, m1_eq, m1_eq2, m1_le, m1_le2, m1_lt, m1_lt2, m1_self, cv_sub, cv_add1, cv_eq, cv_eqI, cv_eqI2, cv_m1, cv_lt0, cv_leI, cv_Ile, cv_le, cv_lt, cv_Ilt, cv_ltI, not_true, not_false_iff, true_implies, false_implies, false_or, or_false, true_and, and_true, false_and, and_false, true_or, or_true]
      omega
    · revert p
      simp (disch := omega) only [ofNat_nI, nI_add, pk_mul, nI_clamp, nI_leI, nI_ltI, nI_eq, vp_in_nI_iff, nI_subr, nI_m1r, m1_eq, m1_eq2, m1_le, m1_le2, m1_lt, m1_lt2, m1_self, cv_sub, cv_add1, cv_eq, cv_eqI, cv_eqI2, cv_m1, cv_lt0, cv_leI, cv_Ile, cv_le, cv_lt, cv_Ilt, cv_ltI, not_true, not_false_iff, true_implies, false_implies, false_or, or_false, true_and, and_true, false_and, and_false, true_or, or_true, ho m hm]
      intro p
      have e : o m = false := (nI_b0 _).mp p
      rw [e] at ih
      exact ih
    · have eo : o m = true := by
        revert p
        simp (disch := omega) only [ofNat_nI, nI_add, pk_mul, nI_clamp, nI_leI, nI_ltI, nI_eq, vp_in_nI_iff, nI_subr, nI_m1r, m1_eq, m1_eq2, m1_le, m1_le2, m1_lt, m1_lt2, m1_self, cv_sub, cv_add1, cv_eq, cv_eqI, cv_eqI2, cv_m1, cv_lt0, cv_leI, cv_Ile, cv_le, cv_lt, cv_Ilt, cv_ltI, not_true, not_false_iff, true_implies, false_implies, false_or, or_false, true_and, and_true, false_and, and_false, true_or, or_true, ho m hm]
        intro p
        cases q : o m with
        | true => rfl
        | false => rw [q] at p; exact absurd rfl p
      refine s_hasMix h hT hM hL hj hm hr (k_X12_moreBy_31 C (fun p => ?_) (fun p => ?_))
      · have e : hasM P r m = true := by
          rw [nI_b0] at p
          cases q : hasM P r m with
          | true => rfl
          | false => exact absurd q p
        rw [eo, e, Bool.true_and, Bool.true_and] at ih
        have loop : ∀ (d i b : Nat), i + d = qT P → b = (decide (∃ k, k < i ∧ mcol P m k = c)).toNat →
            Wm G mX12_moreBy E (bm G mX12_moreBy E (pI Q)) μ 43 [(0, .ref (gb G + 132)), (1, .int (nI j)), (2, .int (nI c)), (3, .int (nI (sm m (fun m => (o m && hasM P r m && decide (∃ k, k < qT P ∧ mcol P m k = c)).toNat)))), (4, .int (nI m)), (5, .int (nI b)), (6, .int (nI i))] [] := by
          intro d
          induction d with
          | zero =>
            intro i b hi hb
            refine k_X12_moreBy_43 C (fun _ v hv => ?_) (fun p => ?_) (fun p => ?_)
            · rw [hb] at hv
              rw [phB hv, show i = qT P by omega]
              simp (disch := omega) only [ofNat_nI, nI_add, pk_mul, nI_clamp, nI_leI, nI_ltI, nI_eq, vp_in_nI_iff, nI_subr, nI_m1r, m1_eq, m1_eq2, m1_le, m1_le2, m1_lt, m1_lt2, m1_self, cv_sub, cv_add1, cv_eq, cv_eqI, cv_eqI2, cv_m1, cv_lt0, cv_leI, cv_Ile, cv_le, cv_lt, cv_Ilt, cv_ltI, not_true, not_false_iff, true_implies, false_implies, false_or, or_false, true_and, and_true, false_and, and_false, true_or, or_true]
              exact ih
            all_goals
              exfalso
              revert p
              rw [hT]
              simp (disch := omega) only [ofNat_nI, nI_add, pk_mul, nI_clamp, nI_leI, nI_ltI, nI_eq, vp_in_nI_iff, nI_subr, nI_m1r, m1_eq, m1_eq2, m1_le, m1_le2, m1_lt, m1_lt2, m1_self, cv_sub, cv_add1, cv_eq, cv_eqI, cv_eqI2, cv_m1, cv_lt0, cv_leI, cv_Ile, cv_le, cv_lt, cv_Ilt, cv_ltI, not_true, not_false_iff, true_implies, false_implies, false_or, or_false, true_and, and_true, false_and, and_false, true_or, or_true]
              all_goals omega
          | succ d ihd =>
            intro i b hi hb
            have hb1 : b ≤ 1 := by rw [hb]; exact bool_lt _
            obtain ⟨q1, q2⟩ := hL m hm i (by omega)
            have c1 := mcol_lt h hm (show i < qT P by omega)
            have hC8 : qC P ≤ 8 := h.ct.2.2.2
            refine k_X12_moreBy_43 C (fun p => ?_) (fun _ _ => ?_) (fun _ v hv => ?_)
            · exfalso
              revert p
              rw [hT]
              simp (disch := omega) only [ofNat_nI, nI_add, pk_mul, nI_clamp, nI_leI, nI_ltI, nI_eq, vp_in_nI_iff, nI_subr, nI_m1r, m1_eq, m1_eq2, m1_le, m1_le2, m1_lt, m1_lt2, m1_self, cv_sub, cv_add1, cv_eq, cv_eqI, cv_eqI2, cv_m1, cv_lt0, cv_leI, cv_Ile, cv_le, cv_lt, cv_Ilt, cv_ltI, not_true, not_false_iff, true_implies, false_implies, false_or, or_false, true_and, and_true, false_and, and_false, true_or, or_true]
              all_goals omega
            · simp (disch := omega) only [ofNat_nI, nI_add, pk_mul, nI_clamp, nI_leI, nI_ltI, nI_eq, vp_in_nI_iff, nI_subr, nI_m1r, m1_eq, m1_eq2, m1_le, m1_le2, m1_lt, m1_lt2, m1_self, cv_sub, cv_add1, cv_eq, cv_eqI, cv_eqI2, cv_m1, cv_lt0, cv_leI, cv_Ile, cv_le, cv_lt, cv_Ilt, cv_ltI, not_true, not_false_iff, true_implies, false_implies, false_or, or_false, true_and, and_true, false_and, and_false, true_or, or_true]
              omega
            · have ev : v = nI (decide (∃ k, k < i + 1 ∧ mcol P m k = c)).toNat := by
                revert hv
                simp (disch := omega) only [ofNat_nI, nI_add, pk_mul, nI_clamp, nI_leI, nI_ltI, nI_eq, vp_in_nI_iff, nI_subr, nI_m1r, m1_eq, m1_eq2, m1_le, m1_le2, m1_lt, m1_lt2, m1_self, cv_sub, cv_add1, cv_eq, cv_eqI, cv_eqI2, cv_m1, cv_lt0, cv_leI, cv_Ile, cv_le, cv_lt, cv_Ilt, cv_ltI, not_true, not_false_iff, true_implies, false_implies, false_or, or_false, true_and, and_true, false_and, and_false, true_or, or_true, q1]
                intro hv
                by_cases z : ∃ k, k < i + 1 ∧ mcol P m k = c
                · rw [decide_eq_true z]
                  rcases hv with hv | hv
                  · exact hv.2
                  · exfalso
                    obtain ⟨kk, z1, z2⟩ := z
                    by_cases q : kk = i
                    · subst q; exact hv.2.1 z2
                    · have : b = 1 := by rw [hb, decide_eq_true (⟨kk, by omega, z2⟩ : ∃ k, k < i ∧ mcol P m k = c)]; rfl
                      omega
                · rw [decide_eq_false z]
                  rcases hv with hv | hv
                  · exfalso
                    rcases hv.1 with u | u
                    · refine z ?_
                      by_cases q : ∃ k, k < i ∧ mcol P m k = c
                      · obtain ⟨kk, z1, z2⟩ := q
                        exact ⟨kk, by omega, z2⟩
                      · rw [decide_eq_false q] at hb
                        exact absurd hb u
                    · exact z ⟨i, by omega, u.2⟩
                  · exact hv.2.2
              rw [ev]
              simp (disch := omega) only [ofNat_nI, nI_add, pk_mul, nI_clamp, nI_leI, nI_ltI, nI_eq, vp_in_nI_iff, nI_subr, nI_m1r, m1_eq, m1_eq2, m1_le, m1_le2, m1_lt, m1_lt2, m1_self, cv_sub, cv_add1, cv_eq, cv_eqI, cv_eqI2, cv_m1, cv_lt0, cv_leI, cv_Ile, cv_le, cv_lt, cv_Ilt, cv_ltI, not_true, not_false_iff, true_implies, false_implies, false_or, or_false, true_and, and_true, false_and, and_false, true_or, or_true]
              exact ihd (i + 1) _ (by omega) rfl
        exact loop (qT P) 0 0 (by omega) (by rw [decide_eq_false (fun z => by obtain ⟨k, z1, -⟩ := z; omega)]; rfl)
      · rw [nI_b0] at p
        rw [p, Bool.and_false, Bool.false_and] at ih
        simp (disch := omega) only [ofNat_nI, nI_add, pk_mul, nI_clamp, nI_leI, nI_ltI, nI_eq, vp_in_nI_iff, nI_subr, nI_m1r, m1_eq, m1_eq2, m1_le, m1_le2, m1_lt, m1_lt2, m1_self, cv_sub, cv_add1, cv_eq, cv_eqI, cv_eqI2, cv_m1, cv_lt0, cv_leI, cv_Ile, cv_le, cv_lt, cv_Ilt, cv_ltI, not_true, not_false_iff, true_implies, false_implies, false_or, or_false, true_and, and_true, false_and, and_false, true_or, or_true]
        exact ih
/-- what a mix brings to hope -/
def wgt (P : Pl) (r : Nat → Nat) (m : Nat) : Nat := if ∃ k, k < qT P ∧ r (mcol P m k) ≠ 0 ∧ r (mcol P m k) ≠ mlev P m k + 1 then 0 else pd (qT P) (fun k => if r (mcol P m k) = 0 then 60 / qL P (mcol P m k) else 60)
theorem wgt_le (P : Pl) (h : PW P) (r : Nat → Nat) (m : Nat) : wgt P r m ≤ 216000 := by
  unfold wgt
  split
  · omega
  · have := pd_le (n := qT P) (B := 60) (f := fun k => if r (mcol P m k) = 0 then 60 / qL P (mcol P m k) else 60) (fun k hk => by
      show (if r (mcol P m k) = 0 then 60 / qL P (mcol P m k) else 60) ≤ 60
      split
      · exact Nat.div_le_self _ _
      · exact Nat.le_refl _)
    have h3 : qT P ≤ 3 := h.ct.2.1
    exact Nat.le_trans this (Nat.le_trans (Nat.pow_le_pow_right (by omega) h3) (by decide))
theorem l60 {L : Nat} (h0 : 2 ≤ L) (h1 : L ≤ 4) : (60 : Int64) / (nI L).toInt64 = lN (60 / L) := by
  rw [nI_l (by omega)]
  exact pk_lDiv (a := 60) (b := L) (by omega) (by omega) (by omega)
theorem s_weight {G : mG} {Q : Int64 → mM → Prop} {μ : mM} {P : Pl} (h : PW P) (hn : NowP (μ 135) P) (hM : MM P ≤ 1200) (hL : LM μ P (MM P)) {c1 n1 m : Nat} {r : Nat → Nat} (h1 : sh c1 = (1, n1)) (hn1 : 8 ≤ n1) (hn2 : n1 < 10000) (hm : m < MM P)
    (hr : ∀ c, c < qC P → μ c1 c = cv (r c) ∧ r c ≤ 4) (k : Q (lN (wgt P r m)) μ) : CtL G mX12_weight [.ref (gb G + 132), .ref (gb G + c1), .int (nI m)] μ Q := by
  have hT3 : qT P ≤ 3 := h.ct.2.1
  have hC8 : qC P ≤ 8 := h.ct.2.2.2
  refine e_X12_weight h1 fun E C => k_X12_weight_0 C h1 ?_
  have loop : ∀ (d i : Nat), i + d = qT P → (∀ k, k < i → r (mcol P m k) = 0 ∨ r (mcol P m k) = mlev P m k + 1) →
      Wm G mX12_weight E (bm G mX12_weight E (pL Q)) μ 5 [(0, .ref (gb G + 132)), (1, .ref (gb G + c1)), (2, .int (nI m)), (3, .long (lN (pd i (fun k => if r (mcol P m k) = 0 then 60 / qL P (mcol P m k) else 60)))), (5, .int (nI i))] [] := by
    intro d
    induction d with
    | zero =>
      intro i hi hall
      refine k_X12_weight_5 C h1 (fun _ => ?_) (fun p => ?_) (fun p => ?_) (fun p => ?_) (fun p => ?_)
      · have e : wgt P r m = pd i (fun k => if r (mcol P m k) = 0 then 60 / qL P (mcol P m k) else 60) := by
          unfold wgt
          rw [if_neg, show qT P = i by omega]
          rintro ⟨k, k1, k2, k3⟩
          rcases hall k (by omega) with q | q
          · exact k2 q
          · exact k3 q
        rw [e] at k
        exact k
      all_goals
        exfalso
        revert p
        rw [hn.2.1]
        simp (disch := omega) only [ofNat_nI, nI_add, pk_mul, nI_clamp, nI_leI, nI_ltI, nI_eq, vp_in_nI_iff, nI_subr, nI_m1r, m1_eq, m1_eq2, m1_le, m1_le2, m1_lt, m1_lt2, m1_self, cv_sub, cv_add1, cv_eq, cv_eqI, cv_eqI2, cv_m1, cv_lt0, cv_leI, cv_Ile, cv_le, cv_lt, cv_Ilt, cv_ltI, not_true, not_false_iff, true_implies, false_implies, false_or, or_false, true_and, and_true, false_and, and_false, true_or, or_true]
        all_goals omega
    | succ d ih =>
      intro i hi hall
      have hiT : i < qT P := by omega
      obtain ⟨q1, q2⟩ := hL m hm i hiT
      have cl := mcol_lt h hm hiT
      have ll := mlev_lt h hm hiT
      obtain ⟨l2, l4⟩ := h.lv cl
      obtain ⟨r1, r2⟩ := hr _ cl
      refine k_X12_weight_5 C h1 (fun p => ?_) (fun _ => ?_) (fun _ => ?_) (fun _ p => ?_) (fun _ p1 p2 => ?_)
      · exfalso
        revert p
        rw [hn.2.1]
        simp (disch := omega) only [ofNat_nI, nI_add, pk_mul, nI_clamp, nI_leI, nI_ltI, nI_eq, vp_in_nI_iff, nI_subr, nI_m1r, m1_eq, m1_eq2, m1_le, m1_le2, m1_lt, m1_lt2, m1_self, cv_sub, cv_add1, cv_eq, cv_eqI, cv_eqI2, cv_m1, cv_lt0, cv_leI, cv_Ile, cv_le, cv_lt, cv_Ilt, cv_ltI, not_true, not_false_iff, true_implies, false_implies, false_or, or_false, true_and, and_true, false_and, and_false, true_or, or_true]
        all_goals omega
      · simp (disch := omega) only [ofNat_nI, nI_add, pk_mul, nI_clamp, nI_leI, nI_ltI, nI_eq, vp_in_nI_iff, nI_subr, nI_m1r, m1_eq, m1_eq2, m1_le, m1_le2, m1_lt, m1_lt2, m1_self, cv_sub, cv_add1, cv_eq, cv_eqI, cv_eqI2, cv_m1, cv_lt0, cv_leI, cv_Ile, cv_le, cv_lt, cv_Ilt, cv_ltI, not_true, not_false_iff, true_implies, false_implies, false_or, or_false, true_and, and_true, false_and, and_false, true_or, or_true]
        omega
      · simp (disch := omega) only [ofNat_nI, nI_add, pk_mul, nI_clamp, nI_leI, nI_ltI, nI_eq, vp_in_nI_iff, nI_subr, nI_m1r, m1_eq, m1_eq2, m1_le, m1_le2, m1_lt, m1_lt2, m1_self, cv_sub, cv_add1, cv_eq, cv_eqI, cv_eqI2, cv_m1, cv_lt0, cv_leI, cv_Ile, cv_le, cv_lt, cv_Ilt, cv_ltI, not_true, not_false_iff, true_implies, false_implies, false_or, or_false, true_and, and_true, false_and, and_false, true_or, or_true, q1]
        omega
      · revert p
        simp (disch := omega) only [ofNat_nI, nI_add, pk_mul, nI_clamp, nI_leI, nI_ltI, nI_eq, vp_in_nI_iff, nI_subr, nI_m1r, m1_eq, m1_eq2, m1_le, m1_le2, m1_lt, m1_lt2, m1_self, cv_sub, cv_add1, cv_eq, cv_eqI, cv_eqI2, cv_m1, cv_lt0, cv_leI, cv_Ile, cv_le, cv_lt, cv_Ilt, cv_ltI, not_true, not_false_iff, true_implies, false_implies, false_or, or_false, true_and, and_true, false_and, and_false, true_or, or_true, q1, q2, r1]
        intro p
        refine k_X12_weight_61 C h1 ?_ (fun _ => ?_) (fun _ => ?_) (fun p2 => ?_) (fun p2 => ?_)
        · simp (disch := omega) only [ofNat_nI, nI_add, pk_mul, nI_clamp, nI_leI, nI_ltI, nI_eq, vp_in_nI_iff, nI_subr, nI_m1r, m1_eq, m1_eq2, m1_le, m1_le2, m1_lt, m1_lt2, m1_self, cv_sub, cv_add1, cv_eq, cv_eqI, cv_eqI2, cv_m1, cv_lt0, cv_leI, cv_Ile, cv_le, cv_lt, cv_Ilt, cv_ltI, not_true, not_false_iff, true_implies, false_implies, false_or, or_false, true_and, and_true, false_and, and_false, true_or, or_true]
          omega
        · simp (disch := omega) only [ofNat_nI, nI_add, pk_mul, nI_clamp, nI_leI, nI_ltI, nI_eq, vp_in_nI_iff, nI_subr, nI_m1r, m1_eq, m1_eq2, m1_le, m1_le2, m1_lt, m1_lt2, m1_self, cv_sub, cv_add1, cv_eq, cv_eqI, cv_eqI2, cv_m1, cv_lt0, cv_leI, cv_Ile, cv_le, cv_lt, cv_Ilt, cv_ltI, not_true, not_false_iff, true_implies, false_implies, false_or, or_false, true_and, and_true, false_and, and_false, true_or, or_true]
          omega
        · simp (disch := omega) only [ofNat_nI, nI_add, pk_mul, nI_clamp, nI_leI, nI_ltI, nI_eq, vp_in_nI_iff, nI_subr, nI_m1r, m1_eq, m1_eq2, m1_le, m1_le2, m1_lt, m1_lt2, m1_self, cv_sub, cv_add1, cv_eq, cv_eqI, cv_eqI2, cv_m1, cv_lt0, cv_leI, cv_Ile, cv_le, cv_lt, cv_Ilt, cv_ltI, not_true, not_false_iff, true_implies, false_implies, false_or, or_false, true_and, and_true, false_and, and_false, true_or, or_true]
          rw [hn.2.2.2.1 _ cl, nI_l (by omega)]
          intro z
          have := (lN_eq (by omega) (by omega)).mp (show lN (qL P (mcol P m i)) = lN 0 from z)
          omega
        · revert p2
          simp (disch := omega) only [ofNat_nI, nI_add, pk_mul, nI_clamp, nI_leI, nI_ltI, nI_eq, vp_in_nI_iff, nI_subr, nI_m1r, m1_eq, m1_eq2, m1_le, m1_le2, m1_lt, m1_lt2, m1_self, cv_sub, cv_add1, cv_eq, cv_eqI, cv_eqI2, cv_m1, cv_lt0, cv_leI, cv_Ile, cv_le, cv_lt, cv_Ilt, cv_ltI, not_true, not_false_iff, true_implies, false_implies, false_or, or_false, true_and, and_true, false_and, and_false, true_or, or_true, r1]
          intro p2
          rw [hn.2.2.2.1 _ cl, l60 l2 l4, lN_mul]
          have := ih (i + 1) (by omega) (fun k hk => by
            by_cases q : k = i
            · subst q; omega
            · exact hall k (by omega))
          rw [pd, if_pos (by omega)] at this
          exact this
        · revert p2
          simp (disch := omega) only [ofNat_nI, nI_add, pk_mul, nI_clamp, nI_leI, nI_ltI, nI_eq, vp_in_nI_iff, nI_subr, nI_m1r, m1_eq, m1_eq2, m1_le, m1_le2, m1_lt, m1_lt2, m1_self, cv_sub, cv_add1, cv_eq, cv_eqI, cv_eqI2, cv_m1, cv_lt0, cv_leI, cv_Ile, cv_le, cv_lt, cv_Ilt, cv_ltI, not_true, not_false_iff, true_implies, false_implies, false_or, or_false, true_and, and_true, false_and, and_false, true_or, or_true, r1]
          intro p2
          have := ih (i + 1) (by omega) (fun k hk => by
            by_cases q : k = i
            · subst q; omega
            · exact hall k (by omega))
          rw [pd, if_neg (by omega)] at this
          rw [show (60 : Int64) = lN 60 from rfl, lN_mul]
          exact this
      · revert p1 p2
        simp (disch := omega) only [ofNat_nI, nI_add, pk_mul, nI_clamp, nI_leI, nI_ltI, nI_eq, vp_in_nI_iff, nI_subr, nI_m1r, m1_eq, m1_eq2, m1_le, m1_le2, m1_lt, m1_lt2, m1_self, cv_sub, cv_add1, cv_eq, cv_eqI, cv_eqI2, cv_m1, cv_lt0, cv_leI, cv_Ile, cv_le, cv_lt, cv_Ilt, cv_ltI, not_true, not_false_iff, true_implies, false_implies, false_or, or_false, true_and, and_true, false_and, and_false, true_or, or_true, q1, q2, r1]
        intro p1 p2
        have e : wgt P r m = 0 := by
          unfold wgt
          rw [if_pos ⟨i, hiT, p1, p2⟩]
        rw [e] at k
        exact k
  exact loop (qT P) 0 (by omega) (fun k hk => by omega)
/-- a row and a mix together -/
def wth (P : Pl) (r : Nat → Nat) (m : Nat) : Nat → Nat := fun c => if mrow P m c = 0 then r c else mrow P m c
theorem s_canWith {G : mG} {Q : Int32 → mM → Prop} {μ : mM} {P : Pl} (h : PW P) (hn : NowP (μ 135) P) (hM : MM P ≤ 1200) (hL : LM μ P (MM P)) {c1 n1 m : Nat} {r : Nat → Nat} (h1 : sh c1 = (1, n1)) (hc1 : c1 ≠ 138) (hn1 : 8 ≤ n1) (hn2 : n1 < 10000) (hm : m < MM P)
    (hr : ∀ c, c < qC P → μ c1 c = cv (r c) ∧ r c ≤ qL P c) (k : ∀ f g : Nat → Int32, Q (nI (canB P (wth P r m)).toNat) (mrw (mrw μ 138 f) 139 g)) : CtI G mX12_canWith [.ref (gb G + 132), .ref (gb G + c1), .int (nI m)] μ Q := by
  have hT3 : qT P ≤ 3 := h.ct.2.1
  have hC8 : qC P ≤ 8 := h.ct.2.2.2
  refine e_X12_canWith h1 fun E C => k_X12_canWith_0 C h1 ?_
  refine s_probes h1 hc1 hn1 hn2 hC8 hn.1 (fun c hc => (hr c hc).1) fun g0 hg0 => k_X12_canWith_5 C ?_
  have loop : ∀ (d i : Nat) (g : Nat → Int32), i + d = qT P → (∀ k, k < i → g (mcol P m k) = nI (mlev P m k)) → (∀ c, c < qC P → (∀ k, k < i → mcol P m k ≠ c) → g c = cv (r c)) →
      Wm G mX12_canWith E (bm G mX12_canWith E (pI Q)) (mrw μ 138 g) 7 [(0, .ref (gb G + 132)), (2, .int (nI m)), (3, .int (nI i))] [] := by
    intro d
    induction d with
    | zero =>
      intro i g hi g1 g2
      have hiT : i = qT P := by omega
      subst hiT
      refine k_X12_canWith_7 C (fun _ => ?_) (fun p => ?_) (fun p => ?_) (fun p => ?_)
      · refine s_canProbe (r := wth P r m) h (by rw [mrw_ne (by decide)]; exact hn) (fun c hc => ?_) fun g' => k_X12_canWith_52 C ?_ (k g g')
        · rw [mrw_at]
          unfold wth
          by_cases q : mrow P m c = 0
          · rw [if_pos q, g2 c hc (fun k hk z => by
              have := mrow_at h hm hk
              rw [z, q] at this
              omega)]
            exact ⟨rfl, (hr c hc).2⟩
          · rw [if_neg q]
            obtain ⟨k, hk, rfl⟩ := mrow_ne q
            rw [mrow_at h hm hk, g1 k hk, cv_s]
            exact ⟨rfl, mlev_lt h hm hk⟩
        · cases canB P (wth P r m)
          · exact Or.inl rfl
          · exact Or.inr rfl
      all_goals
        exfalso
        revert p
        rw [mrw_ne (by decide), hn.2.1]
        simp (disch := omega) only [ofNat_nI, nI_add, pk_mul, nI_clamp, nI_leI, nI_ltI, nI_eq, vp_in_nI_iff, nI_subr, nI_m1r, m1_eq, m1_eq2, m1_le, m1_le2, m1_lt, m1_lt2, m1_self, cv_sub, cv_add1, cv_eq, cv_eqI, cv_eqI2, cv_m1, cv_lt0, cv_leI, cv_Ile, cv_le, cv_lt, cv_Ilt, cv_ltI, not_true, not_false_iff, true_implies, false_implies, false_or, or_false, true_and, and_true, false_and, and_false, true_or, or_true]
        all_goals omega
    | succ d ih =>
      intro i g hi g1 g2
      have hiT : i < qT P := by omega
      obtain ⟨q1, q2⟩ := hL m hm i hiT
      have cl := mcol_lt h hm hiT
      refine k_X12_canWith_7 C (fun p => ?_) (fun _ => ?_) (fun _ => ?_) (fun _ => ?_)
      · exfalso
        revert p
        rw [mrw_ne (by decide), hn.2.1]
        simp (disch := omega) only [ofNat_nI, nI_add, pk_mul, nI_clamp, nI_leI, nI_ltI, nI_eq, vp_in_nI_iff, nI_subr, nI_m1r, m1_eq, m1_eq2, m1_le, m1_le2, m1_lt, m1_lt2, m1_self, cv_sub, cv_add1, cv_eq, cv_eqI, cv_eqI2, cv_m1, cv_lt0, cv_leI, cv_Ile, cv_le, cv_lt, cv_Ilt, cv_ltI, not_true, not_false_iff, true_implies, false_implies, false_or, or_false, true_and, and_true, false_and, and_false, true_or, or_true]
        all_goals omega
      · simp (disch := omega) only [ofNat_nI, nI_add, pk_mul, nI_clamp, nI_leI, nI_ltI, nI_eq, vp_in_nI_iff, nI_subr, nI_m1r, m1_eq, m1_eq2, m1_le, m1_le2, m1_lt, m1_lt2, m1_self, cv_sub, cv_add1, cv_eq, cv_eqI, cv_eqI2, cv_m1, cv_lt0, cv_leI, cv_Ile, cv_le, cv_lt, cv_Ilt, cv_ltI, not_true, not_false_iff, true_implies, false_implies, false_or, or_false, true_and, and_true, false_and, and_false, true_or, or_true]
        omega
      · rw [mrw_ne (by decide)]
        simp (disch := omega) only [ofNat_nI, nI_add, pk_mul, nI_clamp, nI_leI, nI_ltI, nI_eq, vp_in_nI_iff, nI_subr, nI_m1r, m1_eq, m1_eq2, m1_le, m1_le2, m1_lt, m1_lt2, m1_self, cv_sub, cv_add1, cv_eq, cv_eqI, cv_eqI2, cv_m1, cv_lt0, cv_leI, cv_Ile, cv_le, cv_lt, cv_Ilt, cv_ltI, not_true, not_false_iff, true_implies, false_implies, false_or, or_false, true_and, and_true, false_and, and_false, true_or, or_true, q1]
        omega
      · rw [mrw_ne (by decide), mrw_ne (by decide), ms_mrw]
        simp (disch := omega) only [ofNat_nI, nI_add, pk_mul, nI_clamp, nI_leI, nI_ltI, nI_eq, vp_in_nI_iff, nI_subr, nI_m1r, m1_eq, m1_eq2, m1_le, m1_le2, m1_lt, m1_lt2, m1_self, cv_sub, cv_add1, cv_eq, cv_eqI, cv_eqI2, cv_m1, cv_lt0, cv_leI, cv_Ile, cv_le, cv_lt, cv_Ilt, cv_ltI, not_true, not_false_iff, true_implies, false_implies, false_or, or_false, true_and, and_true, false_and, and_false, true_or, or_true, q1, q2]
        refine ih (i + 1) _ (by omega) (fun k hk => ?_) (fun c hc hne => ?_)
        · rw [upd_at]
          by_cases q : k = i
          · rw [q, if_pos rfl]
          · rw [if_neg (fun z => q (mcol_inj h hm (by omega) hiT z))]
            exact g1 k (by omega)
        · rw [upd_at, if_neg (fun z => hne i (by omega) z.symm)]
          exact g2 c hc (fun k hk => hne k (by omega))
  exact loop (qT P) 0 g0 (by omega) (fun k hk => by omega) (fun c hc _ => hg0 c hc)
def hopN (P : Pl) (o : Nat → Bool) (r : Nat → Nat) (M : Nat) : Nat := sm M (fun m => if (o m && canB P (wth P r m)) = true then wgt P r m else 0)
theorem hopN_le (P : Pl) (h : PW P) (o : Nat → Bool) (r : Nat → Nat) (M : Nat) : hopN P o r M ≤ M * 216000 := sm_le (fun i _ => by
  show (if (o i && canB P (wth P r i)) = true then wgt P r i else 0) ≤ _
  split
  · exact wgt_le P h r i
  · omega)
theorem s_hopeOf {G : mG} {Q : Int64 → mM → Prop} {μ : mM} {P : Pl} (h : PW P) (hn : NowP (μ 135) P) (hM : MM P ≤ 1200) (h13 : μ 132 13 = nI (MM P)) (hL : LM μ P (MM P)) {c1 n1 : Nat} {r : Nat → Nat} {o : Nat → Bool} (h1 : sh c1 = (1, n1)) (hc1 : c1 ≠ 138 ∧ c1 ≠ 139) (hn1 : 8 ≤ n1) (hn2 : n1 < 10000)
    (ho : ∀ m, m < MM P → μ 144 m = nI (o m).toNat) (hr : ∀ c, c < qC P → μ c1 c = cv (r c) ∧ r c ≤ qL P c) (k : ∀ μ', Fr [138, 139] μ μ' → Q (lN (hopN P o r (MM P))) μ') : CtL G mX12_hopeOf [.ref (gb G + 132), .ref (gb G + c1)] μ Q := by
  have hC8 : qC P ≤ 8 := h.ct.2.2.2
  refine e_X12_hopeOf h1 fun E C => k_X12_hopeOf_0 C h1 ?_
  have loop : ∀ (d i : Nat) (μ' : mM), i + d = MM P → Fr [138, 139] μ μ' → Wm G mX12_hopeOf E (bm G mX12_hopeOf E (pL Q)) μ' 5 [(0, .ref (gb G + 132)), (1, .ref (gb G + c1)), (2, .long (lN (hopN P o r i))), (4, .int (nI i))] [] := by
    intro d
    induction d with
    | zero =>
      intro i μ' hi F
      have e : i = MM P := by omega
      subst e
      have e13 : μ' 132 13 = nI (MM P) := by rw [F 132 (by decide)]; exact h13
      refine k_X12_hopeOf_5 C h1 (fun _ => k μ' F) (fun p => ?_) (fun p => ?_) (fun p => ?_)
      all_goals
        exfalso
        revert p
        rw [e13]
        simp (disch := omega) only [ofNat_nI, nI_add, pk_mul, nI_clamp, nI_leI, nI_ltI, nI_eq, vp_in_nI_iff, nI_subr, nI_m1r, m1_eq, m1_eq2, m1_le, m1_le2, m1_lt, m1_lt2, m1_self, cv_sub, cv_add1, cv_eq, cv_eqI, cv_eqI2, cv_m1, cv_lt0, cv_leI, cv_Ile, cv_le, cv_lt, cv_Ilt, cv_ltI, not_true, not_false_iff, true_implies, false_implies, false_or, or_false, true_and, and_true, false_and, and_false, true_or, or_true]
        all_goals omega
    | succ d ih =>
      intro i μ' hi F
      have hiM : i < MM P := by omega
      have e13 : μ' 132 13 = nI (MM P) := by rw [F 132 (by decide)]; exact h13
      have eo : μ' 144 i = nI (o i).toNat := by rw [F 144 (by decide)]; exact ho i hiM
      have hL' : LM μ' P (MM P) := hL.of (F 140 (by decide)) (F 141 (by decide))
      have hn' : NowP (μ' 135) P := by rw [F 135 (by decide)]; exact hn
      have hr' : ∀ c, c < qC P → μ' c1 c = cv (r c) ∧ r c ≤ qL P c := fun c hc => by rw [F c1 (by simp [hc1.1, hc1.2])]; exact hr c hc
      have hs : hopN P o r (i + 1) = hopN P o r i + if (o i && canB P (wth P r i)) = true then wgt P r i else 0 := rfl
      refine k_X12_hopeOf_5 C h1 (fun p => ?_) (fun _ => ?_) (fun _ p => ?_) (fun _ p => ?_)
      · exfalso
        revert p
        rw [e13]
        simp (disch := omega) only [ofNat_nI, nI_add, pk_mul, nI_clamp, nI_leI, nI_ltI, nI_eq, vp_in_nI_iff, nI_subr, nI_m1r, m1_eq, m1_eq2, m1_le, m1_le2, m1_lt, m1_lt2, m1_self, cv_sub, cv_add1, cv_eq, cv_eqI, cv_eqI2, cv_m1, cv_lt0, cv_leI, cv_Ile, cv_le, cv_lt, cv_Ilt, cv_ltI, not_true, not_false_iff, true_implies, false_implies, false_or, or_false, true_and, and_true, false_and, and_false, true_or, or_true]
        all_goals omega
      · simp (disch := omega) only [ofNat_nI, nI_add, pk_mul, nI_clamp, nI_leI, nI_ltI, nI_eq, vp_in_nI_iff, nI_subr, nI_m1r, m1_eq, m1_eq2, m1_le, m1_le2, m1_lt, m1_lt2, m1_self, cv_sub, cv_add1, cv_eq, cv_eqI, cv_eqI2, cv_m1, cv_lt0, cv_leI, cv_Ile, cv_le, cv_lt, cv_Ilt, cv_ltI, not_true, not_false_iff, true_implies, false_implies, false_or, or_false, true_and, and_true, false_and, and_false, true_or, or_true]
        omega
      · have eo1 : o i = true := by
          revert p
          simp (disch := omega) only [ofNat_nI, nI_add, pk_mul, nI_clamp, nI_leI, nI_ltI, nI_eq, vp_in_nI_iff, nI_subr, nI_m1r, m1_eq, m1_eq2, m1_le, m1_le2, m1_lt, m1_lt2, m1_self, cv_sub, cv_add1, cv_eq, cv_eqI, cv_eqI2, cv_m1, cv_lt0, cv_leI, cv_Ile, cv_le, cv_lt, cv_Ilt, cv_ltI, not_true, not_false_iff, true_implies, false_implies, false_or, or_false, true_and, and_true, false_and, and_false, true_or, or_true, eo]
          intro p
          cases q : o i with
          | true => rfl
          | false => rw [q] at p; exact absurd rfl p
        have wl := wgt_le P h r i
        refine s_weight h hn' hM hL' h1 hn1 hn2 hiM (fun c hc => ⟨(hr' c hc).1, by have := (hr' c hc).2; have := (h.lv hc).2; omega⟩) (k_X12_hopeOf_34 C h1 (fun p => ?_) (fun p => ?_))
        · rw [lg_cmp_le] at p
          have w0 : wgt P r i = 0 := by
            have := (lN_le (b := 0) (by omega) (by omega)).mp p
            omega
          rw [w0] at hs
          have := ih (i + 1) μ' (by omega) F
          rw [hs] at this
          rw [show (0 : Int64) = lN 0 from rfl, lN_add]
          simp (disch := omega) only [ofNat_nI, nI_add, pk_mul, nI_clamp, nI_leI, nI_ltI, nI_eq, vp_in_nI_iff, nI_subr, nI_m1r, m1_eq, m1_eq2, m1_le, m1_le2, m1_lt, m1_lt2, m1_self, cv_sub, cv_add1, cv_eq, cv_eqI, cv_eqI2, cv_m1, cv_lt0, cv_leI, cv_Ile, cv_le, cv_lt, cv_Ilt, cv_ltI, not_true, not_false_iff, true_implies, false_implies, false_or, or_false, true_and, and_true, false_and, and_false, true_or, or_true]
          split at this <;> exact this
        · refine s_canWith h hn' hM hL' h1 hc1.1 hn1 hn2 hiM hr' fun f g => k_X12_hopeOf_51 C h1 (fun p => ?_) (fun p => ?_)
          · rw [nI_b0] at p
            rw [p, Bool.and_false, if_neg (by decide)] at hs
            have := ih (i + 1) _ (by omega) ((F.mrw (c := 138) (f := f) (by decide)).mrw (c := 139) (f := g) (by decide))
            rw [hs] at this
            rw [show (0 : Int64) = lN 0 from rfl, lN_add]
            simp (disch := omega) only [ofNat_nI, nI_add, pk_mul, nI_clamp, nI_leI, nI_ltI, nI_eq, vp_in_nI_iff, nI_subr, nI_m1r, m1_eq, m1_eq2, m1_le, m1_le2, m1_lt, m1_lt2, m1_self, cv_sub, cv_add1, cv_eq, cv_eqI, cv_eqI2, cv_m1, cv_lt0, cv_leI, cv_Ile, cv_le, cv_lt, cv_Ilt, cv_ltI, not_true, not_false_iff, true_implies, false_implies, false_or, or_false, true_and, and_true, false_and, and_false, true_or, or_true]
            exact this
          · rw [nI_b0] at p
            have ec : canB P (wth P r i) = true := by
              cases q : canB P (wth P r i) with
              | true => rfl
              | false => exact absurd q p
            rw [eo1, ec, if_pos (by decide)] at hs
            have := ih (i + 1) _ (by omega) ((F.mrw (c := 138) (f := f) (by decide)).mrw (c := 139) (f := g) (by decide))
            rw [hs] at this
            rw [lN_add]
            simp (disch := omega) only [ofNat_nI, nI_add, pk_mul, nI_clamp, nI_leI, nI_ltI, nI_eq, vp_in_nI_iff, nI_subr, nI_m1r, m1_eq, m1_eq2, m1_le, m1_le2, m1_lt, m1_lt2, m1_self, cv_sub, cv_add1, cv_eq, cv_eqI, cv_eqI2, cv_m1, cv_lt0, cv_leI, cv_Ile, cv_le, cv_lt, cv_Ilt, cv_ltI, not_true, not_false_iff, true_implies, false_implies, false_or, or_false, true_and, and_true, false_and, and_false, true_or, or_true]
            exact this
      · have eo0 : o i = false := by
          revert p
          simp (disch := omega) only [ofNat_nI, nI_add, pk_mul, nI_clamp, nI_leI, nI_ltI, nI_eq, vp_in_nI_iff, nI_subr, nI_m1r, m1_eq, m1_eq2, m1_le, m1_le2, m1_lt, m1_lt2, m1_self, cv_sub, cv_add1, cv_eq, cv_eqI, cv_eqI2, cv_m1, cv_lt0, cv_leI, cv_Ile, cv_le, cv_lt, cv_Ilt, cv_ltI, not_true, not_false_iff, true_implies, false_implies, false_or, or_false, true_and, and_true, false_and, and_false, true_or, or_true, eo]
          intro p
          exact (nI_b0 _).mp p
        rw [eo0, Bool.false_and, if_neg (by decide), Nat.add_zero] at hs
        have := ih (i + 1) μ' (by omega) F
        rw [hs] at this
        simp (disch := omega) only [ofNat_nI, nI_add, pk_mul, nI_clamp, nI_leI, nI_ltI, nI_eq, vp_in_nI_iff, nI_subr, nI_m1r, m1_eq, m1_eq2, m1_le, m1_le2, m1_lt, m1_lt2, m1_self, cv_sub, cv_add1, cv_eq, cv_eqI, cv_eqI2, cv_m1, cv_lt0, cv_leI, cv_Ile, cv_le, cv_lt, cv_Ilt, cv_ltI, not_true, not_false_iff, true_implies, false_implies, false_or, or_false, true_and, and_true, false_and, and_false, true_or, or_true]
        exact this
  exact loop (MM P) 0 μ (by omega) (Fr.rf _ _)

/-! THE MODEL: the mixes laid out; rows that have them -/
def LM (μ : mM) (P : Pl) (n : Nat) : Prop := ∀ m, m < n → ∀ k, k < qT P → μ 140 (3 * m + k) = nI (mcol P m k) ∧ μ 141 (3 * m + k) = nI (mlev P m k)
/-- the model's mixes -/
def MixM (μ : mM) (P : Pl) : Prop := μ 132 13 = nI (MM P) ∧ LM μ P (MM P) ∧ ∀ m, m < MM P → μ 142 m = nI (canB P (mrow P m)).toNat
theorem LM.of {μ μ' : mM} {P : Pl} {n : Nat} (h : LM μ P n) (h1 : μ' 140 = μ 140) (h2 : μ' 141 = μ 141) : LM μ' P n := fun m hm k hk => by rw [h1, h2]; exact h m hm k hk
theorem MixM.of {μ μ' : mM} {P : Pl} (h : MixM μ P) (h0 : μ' 132 13 = μ 132 13) (h1 : μ' 140 = μ 140) (h2 : μ' 141 = μ 141) (h3 : μ' 142 = μ 142) : MixM μ' P :=
  ⟨h0.trans h.1, h.2.1.of h1 h2, fun m hm => by rw [h3]; exact h.2.2 m hm⟩
theorem vz (b : Bool) : vp_nar .boolean (nI b.toNat) = nI b.toNat := by cases b <;> rfl
theorem bool_lt (b : Bool) : b.toNat ≤ 1 := by cases b <;> decide
theorem mcol_of {P : Pl} {i w k : Nat} (hi : i < ns (qC P) (qT P)) (hw : w < pp P i) : mcol P (fi P i + w) k = st (qC P) (qT P) i k := by
  unfold mcol; rw [mix_of hi hw]
theorem mlev_of {P : Pl} {i w k : Nat} (hi : i < ns (qC P) (qT P)) (hw : w < pp P i) : mlev P (fi P i + w) k = dg (qS P i) (qT P) w k := by
  unfold mlev; rw [mix_of hi hw]
theorem fi_s (P : Pl) (i : Nat) : fi P (i + 1) = fi P i + pp P i := rfl
theorem fi_le {P : Pl} {i : Nat} (hi : i ≤ ns (qC P) (qT P)) : fi P i ≤ MM P := sm_part _ hi
abbrev kM : List Nat := [132, 138, 139, 140, 141, 142, 143]
theorem s_laysMixes {G : mG} {Q : mM → Prop} {μ : mM} {P : Pl} (h : PW P) (hn : NowP (μ 135) P) (hM : MM P ≤ 1200)
    (k : ∀ μ' : mM, Fr kM μ μ' → (∀ j, j ≠ 13 → μ' 132 j = μ 132 j) → MixM μ' P → Q μ') : CtV G mX12_laysMixes [.ref (gb G + 132)] μ Q := by
  have hc := h.ct
  obtain ⟨t1, t3, tC, tC8⟩ := hc
  have hC2 := h.1
  refine e_X12_laysMixes fun E C => k_X12_laysMixes_0 C (fun _ => ?_) (fun p => ?_)
  rotate_left
  · exfalso
    revert p
    simp (disch := omega) only [ofNat_nI, nI_add, pk_mul, nI_clamp, nI_leI, nI_ltI, nI_eq, vp_in_nI_iff, nI_subr, nI_m1r, m1_eq, m1_eq2, m1_le, m1_le2, m1_lt, m1_lt2, m1_self, cv_sub, cv_add1, cv_eq, cv_eqI, cv_eqI2, cv_m1, cv_lt0, cv_leI, cv_Ile, cv_le, cv_lt, cv_Ilt, cv_ltI, not_true, not_false_iff, true_implies, false_implies, false_or, or_false, true_and, and_true, false_and, and_false, true_or, or_true, hn.1]
    omega
  rw [hn.2.1]
  refine s_beginsSet t3 fun g hg => k_X12_laysMixes_27 C ?_
  -- the second part: which can be
  have part2 : ∀ (d m : Nat) (μ' : mM), m + d = MM P → Fr kM μ μ' → (∀ j, j ≠ 13 → μ' 132 j = μ 132 j) → μ' 132 13 = nI (MM P) → LM μ' P (MM P) → (∀ m', m' < m → μ' 142 m' = nI (canB P (mrow P m')).toNat) →
      Wm G mX12_laysMixes E (bm G mX12_laysMixes E (pV Q)) μ' 134 [(0, .ref (gb G + 132)), (1, .int (nI (qT P))), (3, .int (nI m))] [] := by
    intro d
    induction d with
    | zero =>
      intro m μ' hm hF h132 h13 hL hcan
      refine k_X12_laysMixes_134 C (fun _ => k μ' hF h132 ⟨h13, hL, fun m' hm' => hcan m' (by omega)⟩) (fun p => ?_)
      exfalso
      revert p
      simp (disch := omega) only [ofNat_nI, nI_add, pk_mul, nI_clamp, nI_leI, nI_ltI, nI_eq, vp_in_nI_iff, nI_subr, nI_m1r, m1_eq, m1_eq2, m1_le, m1_le2, m1_lt, m1_lt2, m1_self, cv_sub, cv_add1, cv_eq, cv_eqI, cv_eqI2, cv_m1, cv_lt0, cv_leI, cv_Ile, cv_le, cv_lt, cv_Ilt, cv_ltI, not_true, not_false_iff, true_implies, false_implies, false_or, or_false, true_and, and_true, false_and, and_false, true_or, or_true, h13]
      omega
    | succ d ih =>
      intro m μ' hm hF h132 h13 hL hcan
      have hmM : m < MM P := by omega
      refine k_X12_laysMixes_134 C (fun p => ?_) (fun _ => ?_)
      · exfalso
        revert p
        simp (disch := omega) only [ofNat_nI, nI_add, pk_mul, nI_clamp, nI_leI, nI_ltI, nI_eq, vp_in_nI_iff, nI_subr, nI_m1r, m1_eq, m1_eq2, m1_le, m1_le2, m1_lt, m1_lt2, m1_self, cv_sub, cv_add1, cv_eq, cv_eqI, cv_eqI2, cv_m1, cv_lt0, cv_leI, cv_Ile, cv_le, cv_lt, cv_Ilt, cv_ltI, not_true, not_false_iff, true_implies, false_implies, false_or, or_false, true_and, and_true, false_and, and_false, true_or, or_true, h13]
        omega
      -- levels told
      have tell : ∀ (e kk : Nat) (f : Nat → Int32), kk + e = qT P → (∀ c, c < 8 → f c = cv (sm kk (fun k' => if mcol P m k' = c then mlev P m k' + 1 else 0))) →
          Wm G mX12_laysMixes E (bm G mX12_laysMixes E (pV Q)) (mrw μ' 138 f) 169 [(0, .ref (gb G + 132)), (1, .int (nI (qT P))), (3, .int (nI m)), (4, .int (nI kk))] [] := by
        intro e
        induction e with
        | zero =>
          intro kk f hkk hf
          have hkT : kk = qT P := by omega
          subst hkT
          refine k_X12_laysMixes_169 C (fun _ => ?_) (fun p => ?_) (fun p => ?_) (fun p => ?_)
          · refine s_canProbe h (by rw [mrw_ne (by decide), hF 135 (by decide)]; exact hn) (r := mrow P m) (fun c hcC => ?_) (fun g' => ?_)
            · rw [mrw_at]
              refine ⟨hf c (by omega), ?_⟩
              by_cases q : mrow P m c = 0
              · omega
              · obtain ⟨k', hk', rfl⟩ := mrow_ne q
                rw [mrow_at h hmM hk']
                have := mlev_lt h hmM hk'
                omega
            · refine k_X12_laysMixes_217 C ?_ ?_
              · simp (disch := omega) only [ofNat_nI, nI_add, pk_mul, nI_clamp, nI_leI, nI_ltI, nI_eq, vp_in_nI_iff, nI_subr, nI_m1r, m1_eq, m1_eq2, m1_le, m1_le2, m1_lt, m1_lt2, m1_self, cv_sub, cv_add1, cv_eq, cv_eqI, cv_eqI2, cv_m1, cv_lt0, cv_leI, cv_Ile, cv_le, cv_lt, cv_Ilt, cv_ltI, not_true, not_false_iff, true_implies, false_implies, false_or, or_false, true_and, and_true, false_and, and_false, true_or, or_true]
                omega
              · simp (disch := omega) only [ofNat_nI, nI_add, pk_mul, nI_clamp, nI_leI, nI_ltI, nI_eq, vp_in_nI_iff, nI_subr, nI_m1r, m1_eq, m1_eq2, m1_le, m1_le2, m1_lt, m1_lt2, m1_self, cv_sub, cv_add1, cv_eq, cv_eqI, cv_eqI2, cv_m1, cv_lt0, cv_leI, cv_Ile, cv_le, cv_lt, cv_Ilt, cv_ltI, not_true, not_false_iff, true_implies, false_implies, false_or, or_false, true_and, and_true, false_and, and_false, true_or, or_true]
                rw [vz]
                have n1 : ∀ c, c ≠ 138 → c ≠ 139 → c ≠ 142 → ms (mrw (mrw μ' 138 f) 139 g') 142 m (nI (canB P (mrow P m)).toNat) c = μ' c := fun c a b e => by
                  rw [ms_ne e, mrw_ne b, mrw_ne a]
                refine ih (m + 1) _ (by omega) (((hF.mrw (by decide)).mrw (by decide)).ms (by decide)) (fun j hj => ?_) ?_ (hL.of (n1 _ (by decide) (by decide) (by decide)) (n1 _ (by decide) (by decide) (by decide))) (fun m' hm' => ?_)
                · rw [n1 _ (by decide) (by decide) (by decide)]; exact h132 j hj
                · rw [n1 _ (by decide) (by decide) (by decide)]; exact h13
                · rw [ms_row, upd_at]
                  by_cases q : m' = m
                  · rw [if_pos q, q]
                  · rw [if_neg q, mrw_ne (by decide), mrw_ne (by decide)]
                    exact hcan m' (by omega)
          all_goals
            exfalso
            revert p
            simp (disch := omega) only [ofNat_nI, nI_add, pk_mul, nI_clamp, nI_leI, nI_ltI, nI_eq, vp_in_nI_iff, nI_subr, nI_m1r, m1_eq, m1_eq2, m1_le, m1_le2, m1_lt, m1_lt2, m1_self, cv_sub, cv_add1, cv_eq, cv_eqI, cv_eqI2, cv_m1, cv_lt0, cv_leI, cv_Ile, cv_le, cv_lt, cv_Ilt, cv_ltI, not_true, not_false_iff, true_implies, false_implies, false_or, or_false, true_and, and_true, false_and, and_false, true_or, or_true]
            omega
        | succ e ihe =>
          intro kk f hkk hf
          have hkT : kk < qT P := by omega
          obtain ⟨q1, q2⟩ := hL m hmM kk hkT
          have c1 := mcol_lt h hmM hkT
          have l1 := mlev_lt h hmM hkT
          refine k_X12_laysMixes_169 C (fun p => ?_) (fun _ => ?_) (fun _ => ?_) (fun _ => ?_)
          · exfalso
            revert p
            simp (disch := omega) only [ofNat_nI, nI_add, pk_mul, nI_clamp, nI_leI, nI_ltI, nI_eq, vp_in_nI_iff, nI_subr, nI_m1r, m1_eq, m1_eq2, m1_le, m1_le2, m1_lt, m1_lt2, m1_self, cv_sub, cv_add1, cv_eq, cv_eqI, cv_eqI2, cv_m1, cv_lt0, cv_leI, cv_Ile, cv_le, cv_lt, cv_Ilt, cv_ltI, not_true, not_false_iff, true_implies, false_implies, false_or, or_false, true_and, and_true, false_and, and_false, true_or, or_true]
            omega
          · simp (disch := omega) only [ofNat_nI, nI_add, pk_mul, nI_clamp, nI_leI, nI_ltI, nI_eq, vp_in_nI_iff, nI_subr, nI_m1r, m1_eq, m1_eq2, m1_le, m1_le2, m1_lt, m1_lt2, m1_self, cv_sub, cv_add1, cv_eq, cv_eqI, cv_eqI2, cv_m1, cv_lt0, cv_leI, cv_Ile, cv_le, cv_lt, cv_Ilt, cv_ltI, not_true, not_false_iff, true_implies, false_implies, false_or, or_false, true_and, and_true, false_and, and_false, true_or, or_true]
            omega
          · rw [mrw_ne (by decide)]
            simp (disch := omega) only [ofNat_nI, nI_add, pk_mul, nI_clamp, nI_leI, nI_ltI, nI_eq, vp_in_nI_iff, nI_subr, nI_m1r, m1_eq, m1_eq2, m1_le, m1_le2, m1_lt, m1_lt2, m1_self, cv_sub, cv_add1, cv_eq, cv_eqI, cv_eqI2, cv_m1, cv_lt0, cv_leI, cv_Ile, cv_le, cv_lt, cv_Ilt, cv_ltI, not_true, not_false_iff, true_implies, false_implies, false_or, or_false, true_and, and_true, false_and, and_false, true_or, or_true, q1]
            omega
          · rw [mrw_ne (by decide), mrw_ne (by decide)]
            simp (disch := omega) only [ofNat_nI, nI_add, pk_mul, nI_clamp, nI_leI, nI_ltI, nI_eq, vp_in_nI_iff, nI_subr, nI_m1r, m1_eq, m1_eq2, m1_le, m1_le2, m1_lt, m1_lt2, m1_self, cv_sub, cv_add1, cv_eq, cv_eqI, cv_eqI2, cv_m1, cv_lt0, cv_leI, cv_Ile, cv_le, cv_lt, cv_Ilt, cv_ltI, not_true, not_false_iff, true_implies, false_implies, false_or, or_false, true_and, and_true, false_and, and_false, true_or, or_true, q1, q2]
            rw [ms_mrw]
            refine ihe (kk + 1) _ (by omega) (fun c hc8 => ?_)
            rw [upd_at, sm]
            by_cases q : c = mcol P m kk
            · rw [if_pos q, if_pos q.symm, sm_zero (fun i hi => if_neg (fun e => by have := mcol_inj h hmM (by omega) hkT (e.trans q); omega)), Nat.zero_add, cv_s]
            · rw [if_neg q, if_neg (fun e => q e.symm), hf c hc8]; rfl
      have clear : ∀ (e c : Nat) (f : Nat → Int32), c + e = 8 → (∀ c', c' < c → f c' = cv 0) →
          Wm G mX12_laysMixes E (bm G mX12_laysMixes E (pV Q)) (mrw μ' 138 f) 145 [(0, .ref (gb G + 132)), (1, .int (nI (qT P))), (3, .int (nI m)), (4, .int (nI c))] [] := by
        intro e
        induction e with
        | zero =>
          intro c f hce hf
          refine k_X12_laysMixes_145 C (fun _ => tell (qT P) 0 f (by omega) (fun c hc => by rw [hf c (by omega)]; rfl)) (fun p => ?_) (fun p => ?_)
          all_goals
            exfalso
            revert p
            simp (disch := omega) only [ofNat_nI, nI_add, pk_mul, nI_clamp, nI_leI, nI_ltI, nI_eq, vp_in_nI_iff, nI_subr, nI_m1r, m1_eq, m1_eq2, m1_le, m1_le2, m1_lt, m1_lt2, m1_self, cv_sub, cv_add1, cv_eq, cv_eqI, cv_eqI2, cv_m1, cv_lt0, cv_leI, cv_Ile, cv_le, cv_lt, cv_Ilt, cv_ltI, not_true, not_false_iff, true_implies, false_implies, false_or, or_false, true_and, and_true, false_and, and_false, true_or, or_true]
            omega
        | succ e ihe =>
          intro c f hce hf
          refine k_X12_laysMixes_145 C (fun p => ?_) (fun _ => ?_) (fun _ => ?_)
          · exfalso
            revert p
            simp (disch := omega) only [ofNat_nI, nI_add, pk_mul, nI_clamp, nI_leI, nI_ltI, nI_eq, vp_in_nI_iff, nI_subr, nI_m1r, m1_eq, m1_eq2, m1_le, m1_le2, m1_lt, m1_lt2, m1_self, cv_sub, cv_add1, cv_eq, cv_eqI, cv_eqI2, cv_m1, cv_lt0, cv_leI, cv_Ile, cv_le, cv_lt, cv_Ilt, cv_ltI, not_true, not_false_iff, true_implies, false_implies, false_or, or_false, true_and, and_true, false_and, and_false, true_or, or_true]
            omega
          · simp (disch := omega) only [ofNat_nI, nI_add, pk_mul, nI_clamp, nI_leI, nI_ltI, nI_eq, vp_in_nI_iff, nI_subr, nI_m1r, m1_eq, m1_eq2, m1_le, m1_le2, m1_lt, m1_lt2, m1_self, cv_sub, cv_add1, cv_eq, cv_eqI, cv_eqI2, cv_m1, cv_lt0, cv_leI, cv_Ile, cv_le, cv_lt, cv_Ilt, cv_ltI, not_true, not_false_iff, true_implies, false_implies, false_or, or_false, true_and, and_true, false_and, and_false, true_or, or_true]
            omega
          · simp (disch := omega) only [ofNat_nI, nI_add, pk_mul, nI_clamp, nI_leI, nI_ltI, nI_eq, vp_in_nI_iff, nI_subr, nI_m1r, m1_eq, m1_eq2, m1_le, m1_le2, m1_lt, m1_lt2, m1_self, cv_sub, cv_add1, cv_eq, cv_eqI, cv_eqI2, cv_m1, cv_lt0, cv_leI, cv_Ile, cv_le, cv_lt, cv_Ilt, cv_ltI, not_true, not_false_iff, true_implies, false_implies, false_or, or_false, true_and, and_true, false_and, and_false, true_or, or_true]
            rw [ms_mrw]
            refine ihe (c + 1) _ (by omega) (fun c' hc' => ?_)
            rw [upd_at]
            by_cases q : c' = c
            · rw [if_pos q]; rfl
            · rw [if_neg q]; exact hf c' (by omega)
      have := clear 8 0 (μ' 138) (by omega) (fun c' hc' => by omega)
      rw [mrw_self] at this
      exact this
  have nsP := ns_pos h.ct
  -- the first part: set by set
  have row : ∀ (i w : Nat), i < ns (qC P) (qT P) → w < pp P i → ∀ (cont : ∀ μ' : mM, Fr kM μ μ' → (∀ j, j ≠ 13 → μ' 132 j = μ 132 j) → μ' 132 13 = nI (fi P i + (w + 1)) → LM μ' P (fi P i + (w + 1)) → (∀ j, j < qT P → μ' 143 j = nI (st (qC P) (qT P) i j)) →
      Wm G mX12_laysMixes E (bm G mX12_laysMixes E (pV Q)) μ' 42 [(0, .ref (gb G + 132)), (1, .int (nI (qT P))), (3, .int (nI (pp P i))), (4, .int (nI (w + 1)))] []),
      ∀ (e kk : Nat) (μ' : mM), kk + e = qT P → Fr kM μ μ' → (∀ j, j ≠ 13 → μ' 132 j = μ 132 j) → μ' 132 13 = nI (fi P i + w) → LM μ' P (fi P i + w) → (∀ j, j < qT P → μ' 143 j = nI (st (qC P) (qT P) i j)) →
      (∀ k', k' < kk → μ' 140 (3 * (fi P i + w) + k') = nI (mcol P (fi P i + w) k') ∧ μ' 141 (3 * (fi P i + w) + k') = nI (mlev P (fi P i + w) k')) →
      Wm G mX12_laysMixes E (bm G mX12_laysMixes E (pV Q)) μ' 51 [(0, .ref (gb G + 132)), (1, .int (nI (qT P))), (3, .int (nI (pp P i))), (4, .int (nI w)), (5, .int (nI kk))] [] := by
    intro i w hi hw cont e
    have hlt := fi_lt hi hw
    have hpp := (h.pp_le hi).2
    induction e with
    | zero =>
      intro kk μ' hkk hF h132 h13 hL hset hrow
      refine k_X12_laysMixes_51 C (fun _ => ?_) (fun p => ?_) (fun p => ?_) (fun p => ?_)
      · rw [h13]
        simp (disch := omega) only [ofNat_nI, nI_add, pk_mul, nI_clamp, nI_leI, nI_ltI, nI_eq, vp_in_nI_iff, nI_subr, nI_m1r, m1_eq, m1_eq2, m1_le, m1_le2, m1_lt, m1_lt2, m1_self, cv_sub, cv_add1, cv_eq, cv_eqI, cv_eqI2, cv_m1, cv_lt0, cv_leI, cv_Ile, cv_le, cv_lt, cv_Ilt, cv_ltI, not_true, not_false_iff, true_implies, false_implies, false_or, or_false, true_and, and_true, false_and, and_false, true_or, or_true]
        refine cont _ (hF.ms (by decide)) (fun j hj => ?_) ?_ (fun m hm k' hk' => ?_) (fun j hj => ?_)
        · rw [ms_row, upd_at, if_neg hj]; exact h132 j hj
        · rw [ms_row, upd_at, if_pos rfl, Nat.add_assoc]
        · rw [ms_ne (by decide), ms_ne (by decide)]
          by_cases q : m = fi P i + w
          · subst q; exact hrow k' (by omega)
          · exact hL m (by omega) k' hk'
        · rw [ms_ne (by decide)]; exact hset j hj
      all_goals
        exfalso
        revert p
        simp (disch := omega) only [ofNat_nI, nI_add, pk_mul, nI_clamp, nI_leI, nI_ltI, nI_eq, vp_in_nI_iff, nI_subr, nI_m1r, m1_eq, m1_eq2, m1_le, m1_le2, m1_lt, m1_lt2, m1_self, cv_sub, cv_add1, cv_eq, cv_eqI, cv_eqI2, cv_m1, cv_lt0, cv_leI, cv_Ile, cv_le, cv_lt, cv_Ilt, cv_ltI, not_true, not_false_iff, true_implies, false_implies, false_or, or_false, true_and, and_true, false_and, and_false, true_or, or_true]
        omega
    | succ e ihe =>
      intro kk μ' hkk hF h132 h13 hL hset hrow
      have hkT : kk < qT P := by omega
      refine k_X12_laysMixes_51 C (fun p => ?_) (fun _ => ?_) (fun _ => ?_) (fun _ => ?_)
      · exfalso
        revert p
        simp (disch := omega) only [ofNat_nI, nI_add, pk_mul, nI_clamp, nI_leI, nI_ltI, nI_eq, vp_in_nI_iff, nI_subr, nI_m1r, m1_eq, m1_eq2, m1_le, m1_le2, m1_lt, m1_lt2, m1_self, cv_sub, cv_add1, cv_eq, cv_eqI, cv_eqI2, cv_m1, cv_lt0, cv_leI, cv_Ile, cv_le, cv_lt, cv_Ilt, cv_ltI, not_true, not_false_iff, true_implies, false_implies, false_or, or_false, true_and, and_true, false_and, and_false, true_or, or_true]
        omega
      · simp (disch := omega) only [ofNat_nI, nI_add, pk_mul, nI_clamp, nI_leI, nI_ltI, nI_eq, vp_in_nI_iff, nI_subr, nI_m1r, m1_eq, m1_eq2, m1_le, m1_le2, m1_lt, m1_lt2, m1_self, cv_sub, cv_add1, cv_eq, cv_eqI, cv_eqI2, cv_m1, cv_lt0, cv_leI, cv_Ile, cv_le, cv_lt, cv_Ilt, cv_ltI, not_true, not_false_iff, true_implies, false_implies, false_or, or_false, true_and, and_true, false_and, and_false, true_or, or_true]
        omega
      · rw [h13]
        simp (disch := omega) only [ofNat_nI, nI_add, pk_mul, nI_clamp, nI_leI, nI_ltI, nI_eq, vp_in_nI_iff, nI_subr, nI_m1r, m1_eq, m1_eq2, m1_le, m1_le2, m1_lt, m1_lt2, m1_self, cv_sub, cv_add1, cv_eq, cv_eqI, cv_eqI2, cv_m1, cv_lt0, cv_leI, cv_Ile, cv_le, cv_lt, cv_Ilt, cv_ltI, not_true, not_false_iff, true_implies, false_implies, false_or, or_false, true_and, and_true, false_and, and_false, true_or, or_true]
        omega
      · rw [h13]
        simp (disch := omega) only [ofNat_nI, nI_add, pk_mul, nI_clamp, nI_leI, nI_ltI, nI_eq, vp_in_nI_iff, nI_subr, nI_m1r, m1_eq, m1_eq2, m1_le, m1_le2, m1_lt, m1_lt2, m1_self, cv_sub, cv_add1, cv_eq, cv_eqI, cv_eqI2, cv_m1, cv_lt0, cv_leI, cv_Ile, cv_le, cv_lt, cv_Ilt, cv_ltI, not_true, not_false_iff, true_implies, false_implies, false_or, or_false, true_and, and_true, false_and, and_false, true_or, or_true, hset kk hkT]
        refine s_levelOf (L := qS P i) (s := st (qC P) (qT P) i) t3 hkT (by omega) (fun j hj => ?_) ?_
        · have hl := st_lt h.ct hi hj
          have h5 : μ' 135 (5 + st (qC P) (qT P) i j) = nI (qL P (st (qC P) (qT P) i j)) := by rw [hF 135 (by decide)]; exact hn.2.2.2.1 _ hl.1
          have hq := h.lst hi hj
          rw [ms_ne (by decide), ms_ne (by decide)]
          exact ⟨hset j hj, by omega, h5, by omega, by omega⟩
        · refine k_X12_laysMixes_100 C ?_ ?_
          · simp (disch := omega) only [ofNat_nI, nI_add, pk_mul, nI_clamp, nI_leI, nI_ltI, nI_eq, vp_in_nI_iff, nI_subr, nI_m1r, m1_eq, m1_eq2, m1_le, m1_le2, m1_lt, m1_lt2, m1_self, cv_sub, cv_add1, cv_eq, cv_eqI, cv_eqI2, cv_m1, cv_lt0, cv_leI, cv_Ile, cv_le, cv_lt, cv_Ilt, cv_ltI, not_true, not_false_iff, true_implies, false_implies, false_or, or_false, true_and, and_true, false_and, and_false, true_or, or_true]
            omega
          · simp (disch := omega) only [ofNat_nI, nI_add, pk_mul, nI_clamp, nI_leI, nI_ltI, nI_eq, vp_in_nI_iff, nI_subr, nI_m1r, m1_eq, m1_eq2, m1_le, m1_le2, m1_lt, m1_lt2, m1_self, cv_sub, cv_add1, cv_eq, cv_eqI, cv_eqI2, cv_m1, cv_lt0, cv_leI, cv_Ile, cv_le, cv_lt, cv_Ilt, cv_ltI, not_true, not_false_iff, true_implies, false_implies, false_or, or_false, true_and, and_true, false_and, and_false, true_or, or_true]
            have n1 : ∀ c, c ≠ 140 → c ≠ 141 → ms (ms μ' 140 (3 * (fi P i + w) + kk) (nI (st (qC P) (qT P) i kk))) 141 (3 * (fi P i + w) + kk) (nI (dg (qS P i) (qT P) w kk)) c = μ' c := fun c a b => by rw [ms_ne b, ms_ne a]
            have e140 : ms (ms μ' 140 (3 * (fi P i + w) + kk) (nI (st (qC P) (qT P) i kk))) 141 (3 * (fi P i + w) + kk) (nI (dg (qS P i) (qT P) w kk)) 140 = upd (μ' 140) (3 * (fi P i + w) + kk) (nI (st (qC P) (qT P) i kk)) := by rw [ms_ne (by decide), ms_row]
            have e141 : ms (ms μ' 140 (3 * (fi P i + w) + kk) (nI (st (qC P) (qT P) i kk))) 141 (3 * (fi P i + w) + kk) (nI (dg (qS P i) (qT P) w kk)) 141 = upd (μ' 141) (3 * (fi P i + w) + kk) (nI (dg (qS P i) (qT P) w kk)) := by rw [ms_row, ms_ne (by decide)]
            refine ihe (kk + 1) _ (by omega) ((hF.ms (by decide)).ms (by decide)) (fun j hj => ?_) ?_ (fun m hm k' hk' => ?_) (fun j hj => ?_) (fun k' hk' => ?_)
            · rw [n1 _ (by decide) (by decide)]; exact h132 j hj
            · rw [n1 _ (by decide) (by decide)]; exact h13
            · rw [e140, e141, upd_at, upd_at, if_neg (by omega), if_neg (by omega)]
              exact hL m hm k' hk'
            · rw [n1 _ (by decide) (by decide)]; exact hset j hj
            · rw [e140, e141, upd_at, upd_at]
              by_cases q : k' = kk
              · subst q
                rw [if_pos rfl, if_pos rfl, mcol_of hi hw, mlev_of hi hw]
                exact ⟨rfl, rfl⟩
              · rw [if_neg (by omega), if_neg (by omega)]
                exact hrow k' (by omega)
  have wloop : ∀ (i : Nat), i < ns (qC P) (qT P) → ∀ (cont : ∀ μ' : mM, Fr kM μ μ' → (∀ j, j ≠ 13 → μ' 132 j = μ 132 j) → μ' 132 13 = nI (fi P (i + 1)) → LM μ' P (fi P (i + 1)) → (∀ j, j < qT P → μ' 143 j = nI (st (qC P) (qT P) i j)) →
      Wm G mX12_laysMixes E (bm G mX12_laysMixes E (pV Q)) μ' 42 [(0, .ref (gb G + 132)), (1, .int (nI (qT P))), (3, .int (nI (pp P i))), (4, .int (nI (pp P i)))] []),
      ∀ (e w : Nat) (μ' : mM), w + e = pp P i → Fr kM μ μ' → (∀ j, j ≠ 13 → μ' 132 j = μ 132 j) → μ' 132 13 = nI (fi P i + w) → LM μ' P (fi P i + w) → (∀ j, j < qT P → μ' 143 j = nI (st (qC P) (qT P) i j)) →
      Wm G mX12_laysMixes E (bm G mX12_laysMixes E (pV Q)) μ' 42 [(0, .ref (gb G + 132)), (1, .int (nI (qT P))), (3, .int (nI (pp P i))), (4, .int (nI w))] [] := by
    intro i hi cont e
    have hpp := (h.pp_le hi).2
    induction e with
    | zero =>
      intro w μ' hw hF h132 h13 hL hset
      have e : w = pp P i := by omega
      subst e
      exact cont μ' hF h132 h13 hL hset
    | succ e ihe =>
      intro w μ' hw hF h132 h13 hL hset
      refine k_X12_laysMixes_42 C (fun p => ?_) (fun _ => ?_)
      · exfalso
        revert p
        simp (disch := omega) only [ofNat_nI, nI_add, pk_mul, nI_clamp, nI_leI, nI_ltI, nI_eq, vp_in_nI_iff, nI_subr, nI_m1r, m1_eq, m1_eq2, m1_le, m1_le2, m1_lt, m1_lt2, m1_self, cv_sub, cv_add1, cv_eq, cv_eqI, cv_eqI2, cv_m1, cv_lt0, cv_leI, cv_Ile, cv_le, cv_lt, cv_Ilt, cv_ltI, not_true, not_false_iff, true_implies, false_implies, false_or, or_false, true_and, and_true, false_and, and_false, true_or, or_true]
        omega
      · exact row i w hi (by omega) (fun μ'' a1 a2 a3 a4 a5 => ihe (w + 1) μ'' (by omega) a1 a2 a3 a4 a5) (qT P) 0 μ' (by omega) hF h132 h13 hL hset (fun k' hk' => absurd hk' (Nat.not_lt_zero _))
  have part1 : ∀ (d i : Nat) (μ' : mM), i + d + 1 = ns (qC P) (qT P) → Fr kM μ μ' → (∀ j, j ≠ 13 → μ' 132 j = μ 132 j) → μ' 132 13 = nI (fi P i) → LM μ' P (fi P i) → (∀ j, j < qT P → μ' 143 j = nI (st (qC P) (qT P) i j)) →
      Wm G mX12_laysMixes E (bm G mX12_laysMixes E (pV Q)) μ' 29 [(0, .ref (gb G + 132)), (1, .int (nI (qT P))), (2, .int 1)] [] := by
    intro d
    induction d with
    | zero =>
      intro i μ' hid hF h132 h13 hL hset
      have hi : i < ns (qC P) (qT P) := by omega
      have hpp := (h.pp_le hi).2
      refine k_X12_laysMixes_29 C (fun p => absurd p (by decide)) (fun _ => ?_)
      refine s_levelsOfSet (s := st (qC P) (qT P) i) (L := qS P i) t3 (fun j hj => ⟨hset j hj, by have := st_lt h.ct hi hj; omega, by rw [hF 135 (by decide)]; exact hn.2.2.2.1 _ (st_lt h.ct hi hj).1⟩) (k_X12_laysMixes_38 C ?_)
      refine wloop i hi (fun μ'' a1 a2 a3 a4 a5 => ?_) (pp P i) 0 μ' (by omega) hF h132 h13 hL hset
      refine k_X12_laysMixes_42 C (fun _ => ?_) (fun p => ?_)
      · refine s_nextSet (s := st (qC P) (qT P) i) (by rw [a1 135 (by decide)]; exact hn.1) ⟨t1, t3, tC, tC8⟩ (fun j hj => ⟨a5 j hj, (st_lt h.ct hi hj).2.1⟩) (fun _ => ?_) (fun a ha1 ha2 ha3 g hg => ?_)
        · refine k_X12_laysMixes_128 C (k_X12_laysMixes_29 C (fun _ => ?_) (fun p => absurd rfl p))
          have e : fi P (i + 1) = MM P := by unfold MM; rw [show i + 1 = ns (qC P) (qT P) by omega]
          rw [e] at a3 a4
          exact part2 (MM P) 0 μ'' (by omega) a1 a2 a3 a4 (fun m' hm' => absurd hm' (Nat.not_lt_zero _))
        · exact absurd ((st_end h.ct hi).mpr (by omega) a ha1) ha2
      · exfalso
        revert p
        simp (disch := omega) only [ofNat_nI, nI_add, pk_mul, nI_clamp, nI_leI, nI_ltI, nI_eq, vp_in_nI_iff, nI_subr, nI_m1r, m1_eq, m1_eq2, m1_le, m1_le2, m1_lt, m1_lt2, m1_self, cv_sub, cv_add1, cv_eq, cv_eqI, cv_eqI2, cv_m1, cv_lt0, cv_leI, cv_Ile, cv_le, cv_lt, cv_Ilt, cv_ltI, not_true, not_false_iff, true_implies, false_implies, false_or, or_false, true_and, and_true, false_and, and_false, true_or, or_true]
        omega
    | succ d ih =>
      intro i μ' hid hF h132 h13 hL hset
      have hi : i < ns (qC P) (qT P) := by omega
      have hpp := (h.pp_le hi).2
      refine k_X12_laysMixes_29 C (fun p => absurd p (by decide)) (fun _ => ?_)
      refine s_levelsOfSet (s := st (qC P) (qT P) i) (L := qS P i) t3 (fun j hj => ⟨hset j hj, by have := st_lt h.ct hi hj; omega, by rw [hF 135 (by decide)]; exact hn.2.2.2.1 _ (st_lt h.ct hi hj).1⟩) (k_X12_laysMixes_38 C ?_)
      refine wloop i hi (fun μ'' a1 a2 a3 a4 a5 => ?_) (pp P i) 0 μ' (by omega) hF h132 h13 hL hset
      refine k_X12_laysMixes_42 C (fun _ => ?_) (fun p => ?_)
      · refine s_nextSet (s := st (qC P) (qT P) i) (by rw [a1 135 (by decide)]; exact hn.1) ⟨t1, t3, tC, tC8⟩ (fun j hj => ⟨a5 j hj, (st_lt h.ct hi hj).2.1⟩) (fun hall => ?_) (fun a ha1 ha2 ha3 g hg => ?_)
        · have := (st_end h.ct hi).mp hall
          omega
        · refine k_X12_laysMixes_128 C ?_
          refine ih (i + 1) _ (by omega) (a1.mrw (by decide)) (fun j hj => ?_) ?_ (a4.of (mrw_ne (by decide)) (mrw_ne (by decide))) (fun j hj => ?_)
          · rw [mrw_ne (by decide)]; exact a2 j hj
          · rw [mrw_ne (by decide)]; exact a3
          · rw [mrw_at, hg j hj, st_next h.ct (by omega) ha1 ha2 ha3 hj]
      · exfalso
        revert p
        simp (disch := omega) only [ofNat_nI, nI_add, pk_mul, nI_clamp, nI_leI, nI_ltI, nI_eq, vp_in_nI_iff, nI_subr, nI_m1r, m1_eq, m1_eq2, m1_le, m1_le2, m1_lt, m1_lt2, m1_self, cv_sub, cv_add1, cv_eq, cv_eqI, cv_eqI2, cv_m1, cv_lt0, cv_leI, cv_Ile, cv_le, cv_lt, cv_Ilt, cv_ltI, not_true, not_false_iff, true_implies, false_implies, false_or, or_false, true_and, and_true, false_and, and_false, true_or, or_true]
        omega
  refine part1 (ns (qC P) (qT P) - 1) 0 _ (by omega) ((Fr.rf _ _).ms (by decide) |>.mrw (by decide)) (fun j hj => ?_) ?_ (fun m hm => absurd hm (Nat.not_lt_zero _)) (fun j hj => ?_)
  · rw [mrw_ne (by decide), ms_row, upd_at, if_neg hj]
  · rw [mrw_ne (by decide), ms_row, upd_at, if_pos rfl]; rfl
  · rw [mrw_at, st_0 h.ct hj]; exact hg j hj

/-! THE CLASS: the mixes of a plan laid; asked -/
theorem dvs_low (L : Nat → Nat) (k : Nat) : ∀ (n w : Nat), dvs L k (n + 1) w = dvs L (k + 1) n w / L k
  | 0, w => rfl
  | n + 1, w => by
    rw [dvs, dvs_low L k n, dvs, show k + (n + 1) = k + 1 + n by omega]
/-- a mix's cells from its place a on -/
def prw (P : Pl) (m a : Nat) : Nat → Nat := fun c => if ∃ k, k < qT P ∧ a ≤ k ∧ mcol P m k = c then mrow P m c else 0
theorem s_cellsOf {G : mG} {Q : Int32 → mM → Prop} {μ : mM} {P : Pl} (h : PW P) (hS : SetC 23 P μ) {i w : Nat} (hi : i < ns (qC P) (qT P)) (hw : w < pp P i) (k : Q (rowI (mrow P (fi P i + w))) μ) : CtI G mX2_cellsOf [.ref (gb G + 22), .int (nI i), .int (nI (fi P i + w))] μ Q := by
  obtain ⟨t1, t3, tC, hC8⟩ := h.ct
  have n56 := (ns_pos h.ct).2
  have hMM := h.MM_le
  have hlt := fi_lt hi hw
  have hpp := (h.pp_le hi).2
  obtain ⟨s0, s1, s2, s3, s4⟩ := hS
  refine e_X2_cellsOf fun E C => k_X2_cellsOf_0 C ?_ ?_
  · simp (disch := omega) only [ofNat_nI, nI_add, pk_mul, nI_clamp, nI_leI, nI_ltI, nI_eq, vp_in_nI_iff, nI_subr, nI_m1r, m1_eq, m1_eq2, m1_le, m1_le2, m1_lt, m1_lt2, m1_self, cv_sub, cv_add1, cv_eq, cv_eqI, cv_eqI2, cv_m1, cv_lt0, cv_leI, cv_Ile, cv_le, cv_lt, cv_Ilt, cv_ltI, not_true, not_false_iff, true_implies, false_implies, false_or, or_false, true_and, and_true, false_and, and_false, true_or, or_true]
    omega
  have ef : μ 25 (nI i).toNatClampNeg = nI (fi P i) := by rw [nI_clamp (by omega)]; exact s3 i (by omega)
  rw [ef, s1, nI_subr (by omega), show fi P i + w - fi P i = w by omega, show nI (qT P) - 1 = cv (qT P) from cv_sub1 _]
  have e0 : rowI (prw P (fi P i + w) (qT P)) = 0 := by
    rw [← rowI_0]
    exact rowI_congr fun c _ => if_neg (by rintro ⟨k, h1, h2, -⟩; omega)
  have ea : rowI (prw P (fi P i + w) 0) = rowI (mrow P (fi P i + w)) := rowI_congr fun c _ => by
    unfold prw
    by_cases q : ∃ k, k < qT P ∧ 0 ≤ k ∧ mcol P (fi P i + w) k = c
    · rw [if_pos q]
    · rw [if_neg q]
      exact (mrow_0 fun k hk e => q ⟨k, hk, Nat.zero_le k, e⟩).symm
  have loop : ∀ a, a ≤ qT P → Wm G mX2_cellsOf E (bm G mX2_cellsOf E (pI Q)) μ 26 [(0, .ref (gb G + 22)), (1, .int (nI i)), (3, .int (nI (dvs (qS P i) a (qT P - a) w))), (4, .int (rowI (prw P (fi P i + w) a))), (5, .int (cv a))] [] := by
    intro a
    induction a with
    | zero =>
      intro _
      rw [ea]
      refine k_X2_cellsOf_26 C (fun _ => k) (fun z => ?_) (fun z => ?_) (fun z => ?_) (fun z => ?_)
      all_goals exact absurd (show cv 0 < 0 by decide) z
    | succ a ih =>
      intro ha
      have ih := ih (by omega)
      have haT : a < qT P := by omega
      obtain ⟨l1, l2, l3⟩ := st_lt h.ct hi haT
      have hq := h.lst hi haT
      have ed : dvs (qS P i) a (qT P - a) w = dvs (qS P i) (a + 1) (qT P - (a + 1)) w / qS P i a := by
        rw [show qT P - a = (qT P - (a + 1)) + 1 by omega]
        exact dvs_low _ _ _ _
      have eg : dg (qS P i) (qT P) w a = dvs (qS P i) (a + 1) (qT P - (a + 1)) w % qS P i a := by
        unfold dg
        rw [show qT P - 1 - a = qT P - (a + 1) by omega]
      have hdl : dvs (qS P i) (a + 1) (qT P - (a + 1)) w ≤ w := dvs_le _ _ _ _
      rw [ed] at ih
      generalize dvs (qS P i) (a + 1) (qT P - (a + 1)) w = u at ih eg hdl
      have ei : (nI i * 3 + nI a : Int32) = nI (3 * i + a) := by
        rw [show (3 : Int32) = nI 3 from rfl, pk_mul, nI_add, Nat.mul_comm]
      have ec : μ 24 (nI i * 3 + nI a).toNatClampNeg = nI (st (qC P) (qT P) i a) := by
        rw [ei, nI_clamp (by omega)]
        exact s2 i hi a haT
      have eL : μ 27 (nI (st (qC P) (qT P) i a)).toNatClampNeg = nI (qS P i a) := by rw [nI_clamp (by omega)]; exact s4 _ l1
      have em : (if (1 : Int32) < nI (qS P i a) then nI (qS P i a) else 1) = nI (qS P i a) := if_pos ((nI_ltI (a := 1) (by omega) (by omega)).mpr (by omega))
      rw [cv_s]
      refine k_X2_cellsOf_26 C (fun z => absurd z (nI_pos (by omega))) (fun _ => ?_) (fun _ => ?_) (fun _ => ?_) (fun _ => ?_)
      · rw [ei]
        simp (disch := omega) only [ofNat_nI, nI_add, pk_mul, nI_clamp, nI_leI, nI_ltI, nI_eq, vp_in_nI_iff, nI_subr, nI_m1r, m1_eq, m1_eq2, m1_le, m1_le2, m1_lt, m1_lt2, m1_self, cv_sub, cv_add1, cv_eq, cv_eqI, cv_eqI2, cv_m1, cv_lt0, cv_leI, cv_Ile, cv_le, cv_lt, cv_Ilt, cv_ltI, not_true, not_false_iff, true_implies, false_implies, false_or, or_false, true_and, and_true, false_and, and_false, true_or, or_true]
        omega
      · rw [ec]
        simp (disch := omega) only [ofNat_nI, nI_add, pk_mul, nI_clamp, nI_leI, nI_ltI, nI_eq, vp_in_nI_iff, nI_subr, nI_m1r, m1_eq, m1_eq2, m1_le, m1_le2, m1_lt, m1_lt2, m1_self, cv_sub, cv_add1, cv_eq, cv_eqI, cv_eqI2, cv_m1, cv_lt0, cv_leI, cv_Ile, cv_le, cv_lt, cv_Ilt, cv_ltI, not_true, not_false_iff, true_implies, false_implies, false_or, or_false, true_and, and_true, false_and, and_false, true_or, or_true]
        omega
      · rw [ec, eL, em]
        exact nI_ne0 (by omega) (by omega)
      · rw [ec, eL, em, pk_rem (by omega) (by omega) (by omega), pk_div (by omega) (by omega) (by omega), show nI a + (-1) = cv a from cv_sub a, ← eg]
        have hc0 : prw P (fi P i + w) (a + 1) (st (qC P) (qT P) i a) = 0 := if_neg (by
          rintro ⟨k', h1, h2, h3⟩
          rw [mcol_of hi hw] at h3
          have := st_inj h.ct hi haT h1 h3
          omega)
        have hdl2 : dg (qS P i) (qT P) w a < qS P i a := dg_lt (by omega)
        rw [row_bit (by omega) (by omega) hc0]
        have er : rowI (up (prw P (fi P i + w) (a + 1)) (st (qC P) (qT P) i a) (dg (qS P i) (qT P) w a + 1)) = rowI (prw P (fi P i + w) a) := rowI_congr fun c _ => by
          rw [up_at]
          by_cases q : c = st (qC P) (qT P) i a
          · rw [if_pos q]
            unfold prw
            rw [if_pos ⟨a, haT, Nat.le_refl a, by rw [mcol_of hi hw, q]⟩, q]
            have := mrow_at h hlt haT
            rw [mcol_of hi hw, mlev_of hi hw] at this
            exact this.symm
          · rw [if_neg q]
            unfold prw
            by_cases z : ∃ k, k < qT P ∧ a + 1 ≤ k ∧ mcol P (fi P i + w) k = c
            · obtain ⟨k', h1, h2, h3⟩ := id z
              rw [if_pos z, if_pos ⟨k', h1, by omega, h3⟩]
            · rw [if_neg z, if_neg (by
                rintro ⟨k', h1, h2, h3⟩
                by_cases y : k' = a
                · rw [y, mcol_of hi hw] at h3
                  exact q h3.symm
                · exact z ⟨k', h1, by omega, h3⟩)]
        rw [er]
        exact ih
  have := loop (qT P) (Nat.le_refl _)
  rw [Nat.sub_self, e0] at this
  exact this
theorem left_0 (P : Pl) : leftI P (rowI (fun _ => 0)) = allI P := c_ext fun c l hc hl => by
  rw [b_left hc hl (fun _ _ => Nat.zero_le _), if_pos rfl, b_all P hc hl]
theorem nI_any (x : Int32) : x = nI x.toBitVec.toNat := by
  apply Int32.toBitVec_inj.mp
  show x.toBitVec = BitVec.ofNat 32 x.toBitVec.toNat
  rw [BitVec.ofNat_toNat]
  simp
theorem s_buildMix {G : mG} {Q : mM → Prop} {μ : mM} {p : Nat} {P : Pl} (h1 : sh p = (0, 3)) (hp4 : p + 4 ≤ 22 ∨ 31 ≤ p) (hP : PlOk P) (hp : PlC p P μ) (hf : μ 25 0 = 0) (k : ∀ μ' h, Fr [22, 23, 24, 25, 26, 27, 28, 29] μ μ' → MxC P h μ' → Q μ') : CtV G mX2_build [.ref (gb G + 22), .ref (gb G + p)] μ Q := by
  obtain ⟨h, hM, hz⟩ := hP
  have n56 := (ns_pos h.ct).2
  have eqw : qw P (qT P) = P := rfl
  have hpn : ∀ j, j < 4 → p + j ∉ [22, 23, 24, 25, 26, 27, 28, 29] := fun j hj => by simp; omega
  have hpF : ∀ μ' : mM, Fr [22, 23, 24, 25, 26, 27, 28, 29] μ μ' → PlC p P μ' := fun μ' F => hp.of (F p (hpn 0 (by omega))) (F _ (hpn 1 (by omega))) (F _ (hpn 2 (by omega))) (F _ (hpn 3 (by omega)))
  refine e_X2_build h1 fun E C => k_X2_build_0 C h1 ?_
  rw [hp.2.1]
  refine s_buildSets (P := P) (t := qT P) (by rfl) h1 (by omega) (by rw [eqw]; exact h) hp.1 hp.2.2.2.2.1 hf fun μ1 F1 hS1 => k_X2_build_12 C h1 ?_
  rw [eqw] at hS1
  have F1' : Fr [22, 23, 24, 25, 26, 27, 28, 29] μ μ1 := F1.mono (by decide)
  have hp1 := hpF μ1 F1'
  rw [hp1.2.2.2.1, ← left_0 P]
  refine s_lawTop h1 h hp1 (left_Lf h (fun _ => Nat.zero_le _)) fun w hw => ?_
  obtain ⟨f0, hf1, hf2, rfl⟩ : ∃ f, fitX (qC P) (leftI P (rowI (fun _ => 0))) f ∧ lawX P f ∧ w = rowI (rowF (qC P) f) := by
    rcases hw with ⟨-, b⟩ | h'
    · obtain ⟨f, a1, a2⟩ := (left_can h (fun _ => Nat.zero_le _)).mpr hz
      exact absurd a2 (b f a1)
    · exact h'
  have hfl := ((left_fit h (fun _ => Nat.zero_le _)).mp hf1).1
  refine k_X2_build_21 C h1 ?_
  have mixes : ∀ (i : Nat), i < ns (qC P) (qT P) → ∀ (cont : ∀ μ', Fr [22, 23, 24, 25, 26, 27, 28, 29] μ μ' → SetC 23 P μ' → (∀ m, m < fi P (i + 1) → μ' 28 m = rowI (mrow P m)) → (∀ m, m < fi P (i + 1) → LawR P (leftI P (rowI (mrow P m))) (μ' 29 m)) → μ' 22 4 = nI (sm (fi P (i + 1)) (fun m => (canB P (mrow P m)).toNat)) → Wm G mX2_build E (bm G mX2_build E (pV Q)) μ' 29 [(0, .ref (gb G + 22)), (1, .ref (gb G + p)), (2, .int (rowI (rowF (qC P) f0))), (3, .int (nI (i + 1)))] []),
      ∀ (d w : Nat) (μ' : mM), w + d = pp P i → Fr [22, 23, 24, 25, 26, 27, 28, 29] μ μ' → SetC 23 P μ' → (∀ m, m < fi P i + w → μ' 28 m = rowI (mrow P m)) → (∀ m, m < fi P i + w → LawR P (leftI P (rowI (mrow P m))) (μ' 29 m)) → μ' 22 4 = nI (sm (fi P i + w) (fun m => (canB P (mrow P m)).toNat)) →
        Wm G mX2_build E (bm G mX2_build E (pV Q)) μ' 51 [(0, .ref (gb G + 22)), (1, .ref (gb G + p)), (2, .int (rowI (rowF (qC P) f0))), (3, .int (nI i)), (4, .int (nI (fi P i + w)))] [] := by
    intro i hi cont d
    have hpp := (h.pp_le hi).2
    have hfi := fi_le (P := P) (i := i + 1) (by omega)
    have hfs := fi_s P i
    induction d with
    | zero =>
      intro w μ' hw F hS a b c
      have e : w = pp P i := by omega
      subst e
      rw [← fi_s] at a b c ⊢
      have ef : μ' 25 (nI i + 1).toNatClampNeg = nI (fi P (i + 1)) := by rw [nI_1, nI_clamp (by omega)]; exact hS.2.2.2.1 _ (by omega)
      refine k_X2_build_51 C h1 ?_ (fun _ => ?_) (fun z => ?_)
      · simp (disch := omega) only [ofNat_nI, nI_add, pk_mul, nI_clamp, nI_leI, nI_ltI, nI_eq, vp_in_nI_iff, nI_subr, nI_m1r, m1_eq, m1_eq2, m1_le, m1_le2, m1_lt, m1_lt2, m1_self, cv_sub, cv_add1, cv_eq, cv_eqI, cv_eqI2, cv_m1, cv_lt0, cv_leI, cv_Ile, cv_le, cv_lt, cv_Ilt, cv_ltI, not_true, not_false_iff, true_implies, false_implies, false_or, or_false, true_and, and_true, false_and, and_false, true_or, or_true]
        omega
      · simp (disch := omega) only [ofNat_nI, nI_add, pk_mul, nI_clamp, nI_leI, nI_ltI, nI_eq, vp_in_nI_iff, nI_subr, nI_m1r, m1_eq, m1_eq2, m1_le, m1_le2, m1_lt, m1_lt2, m1_self, cv_sub, cv_add1, cv_eq, cv_eqI, cv_eqI2, cv_m1, cv_lt0, cv_leI, cv_Ile, cv_le, cv_lt, cv_Ilt, cv_ltI, not_true, not_false_iff, true_implies, false_implies, false_or, or_false, true_and, and_true, false_and, and_false, true_or, or_true]
        exact cont μ' F hS a b c
      · exfalso
        revert z
        rw [ef]
        simp (disch := omega) only [ofNat_nI, nI_add, pk_mul, nI_clamp, nI_leI, nI_ltI, nI_eq, vp_in_nI_iff, nI_subr, nI_m1r, m1_eq, m1_eq2, m1_le, m1_le2, m1_lt, m1_lt2, m1_self, cv_sub, cv_add1, cv_eq, cv_eqI, cv_eqI2, cv_m1, cv_lt0, cv_leI, cv_Ile, cv_le, cv_lt, cv_Ilt, cv_ltI, not_true, not_false_iff, true_implies, false_implies, false_or, or_false, true_and, and_true, false_and, and_false, true_or, or_true]
        omega
    | succ d ih =>
      intro w μ' hw F hS a b c
      have hwp : w < pp P i := by omega
      have hlt := fi_lt hi hwp
      have ef : μ' 25 (nI i + 1).toNatClampNeg = nI (fi P (i + 1)) := by rw [nI_1, nI_clamp (by omega)]; exact hS.2.2.2.1 _ (by omega)
      refine k_X2_build_51 C h1 ?_ (fun z => ?_) (fun _ _ => ?_)
      · simp (disch := omega) only [ofNat_nI, nI_add, pk_mul, nI_clamp, nI_leI, nI_ltI, nI_eq, vp_in_nI_iff, nI_subr, nI_m1r, m1_eq, m1_eq2, m1_le, m1_le2, m1_lt, m1_lt2, m1_self, cv_sub, cv_add1, cv_eq, cv_eqI, cv_eqI2, cv_m1, cv_lt0, cv_leI, cv_Ile, cv_le, cv_lt, cv_Ilt, cv_ltI, not_true, not_false_iff, true_implies, false_implies, false_or, or_false, true_and, and_true, false_and, and_false, true_or, or_true]
        omega
      · exfalso
        rw [ef] at z
        revert z
        rw [show (1200 : Int32) = nI 1200 from rfl, nI_leI (by omega) (by omega), nI_leI (by omega) (by omega)]
        omega
      · refine s_cellsOf h hS hi hwp (k_X2_build_88 C h1 ?_ ?_ ?_)
        · simp (disch := omega) only [ofNat_nI, nI_add, pk_mul, nI_clamp, nI_leI, nI_ltI, nI_eq, vp_in_nI_iff, nI_subr, nI_m1r, m1_eq, m1_eq2, m1_le, m1_le2, m1_lt, m1_lt2, m1_self, cv_sub, cv_add1, cv_eq, cv_eqI, cv_eqI2, cv_m1, cv_lt0, cv_leI, cv_Ile, cv_le, cv_lt, cv_Ilt, cv_ltI, not_true, not_false_iff, true_implies, false_implies, false_or, or_false, true_and, and_true, false_and, and_false, true_or, or_true]
          omega
        · simp (disch := omega) only [ofNat_nI, nI_add, pk_mul, nI_clamp, nI_leI, nI_ltI, nI_eq, vp_in_nI_iff, nI_subr, nI_m1r, m1_eq, m1_eq2, m1_le, m1_le2, m1_lt, m1_lt2, m1_self, cv_sub, cv_add1, cv_eq, cv_eqI, cv_eqI2, cv_m1, cv_lt0, cv_leI, cv_Ile, cv_le, cv_lt, cv_Ilt, cv_ltI, not_true, not_false_iff, true_implies, false_implies, false_or, or_false, true_and, and_true, false_and, and_false, true_or, or_true]
          omega
        · have e28 : (ms μ' 28 (nI (fi P i + w)).toNatClampNeg (rowI (mrow P (fi P i + w)))) 28 (nI (fi P i + w)).toNatClampNeg = rowI (mrow P (fi P i + w)) := by rw [ms_row, upd_at, if_pos rfl]
          rw [e28, nI_clamp (by omega)]
          have F2 : Fr [22, 23, 24, 25, 26, 27, 28, 29] μ (ms μ' 28 (fi P i + w) (rowI (mrow P (fi P i + w)))) := F.ms (by decide)
          refine s_lawfulNear h1 h (hpF _ F2) (mrow_le h hlt) hfl fun wv hwv => k_X2_build_107 C h1 ?_ ?_ (fun v hv => ?_)
          · simp (disch := omega) only [ofNat_nI, nI_add, pk_mul, nI_clamp, nI_leI, nI_ltI, nI_eq, vp_in_nI_iff, nI_subr, nI_m1r, m1_eq, m1_eq2, m1_le, m1_le2, m1_lt, m1_lt2, m1_self, cv_sub, cv_add1, cv_eq, cv_eqI, cv_eqI2, cv_m1, cv_lt0, cv_leI, cv_Ile, cv_le, cv_lt, cv_Ilt, cv_ltI, not_true, not_false_iff, true_implies, false_implies, false_or, or_false, true_and, and_true, false_and, and_false, true_or, or_true]
            omega
          · simp (disch := omega) only [ofNat_nI, nI_add, pk_mul, nI_clamp, nI_leI, nI_ltI, nI_eq, vp_in_nI_iff, nI_subr, nI_m1r, m1_eq, m1_eq2, m1_le, m1_le2, m1_lt, m1_lt2, m1_self, cv_sub, cv_add1, cv_eq, cv_eqI, cv_eqI2, cv_m1, cv_lt0, cv_leI, cv_Ile, cv_le, cv_lt, cv_Ilt, cv_ltI, not_true, not_false_iff, true_implies, false_implies, false_or, or_false, true_and, and_true, false_and, and_false, true_or, or_true]
            omega
          · rw [nI_clamp (by omega)] at hv ⊢
            rw [ms_row, upd_at, if_pos rfl] at hv
            have hc := (hwv.iff h).trans (left_can h (mrow_le h hlt))
            have ev : v = nI (canB P (mrow P (fi P i + w))).toNat := by
              rcases hv with ⟨y, rfl⟩ | ⟨y, rfl⟩
              · have : canB P (mrow P (fi P i + w)) = false := bnot fun q => hc.mpr q y
                rw [this]; rfl
              · rw [hc.mp y]; rfl
            rw [ev, ms_ne (by decide), c, nI_add, show nI (fi P i + w) + 1 = nI (fi P i + (w + 1)) from nI_1 _]
            refine ih (w + 1) _ (by omega) ((F2.ms (by decide)).ms (by decide)) (hS.of (by rw [ms_ne (by decide), ms_ne (by decide), ms_ne (by decide)]) (by rw [ms_ne (by decide), ms_ne (by decide), ms_ne (by decide)]) (by rw [ms_ne (by decide), ms_ne (by decide), ms_ne (by decide)]) (by rw [ms_ne (by decide), ms_ne (by decide), ms_ne (by decide)])) (fun m hm => ?_) (fun m hm => ?_) ?_
            · rw [ms_ne (by decide), ms_ne (by decide), ms_row, upd_at]
              by_cases q : m = fi P i + w
              · rw [if_pos q, q]
              · rw [if_neg q]; exact a m (by omega)
            · rw [ms_ne (by decide), ms_row, upd_at]
              by_cases q : m = fi P i + w
              · rw [if_pos q, q]; exact hwv
              · rw [if_neg q, ms_ne (by decide)]; exact b m (by omega)
            · rw [ms_row, upd_at, if_pos rfl]
              rfl
  have sets : ∀ (d i : Nat) (μ' : mM), i + d = ns (qC P) (qT P) → Fr [22, 23, 24, 25, 26, 27, 28, 29] μ μ' → SetC 23 P μ' → (∀ m, m < fi P i → μ' 28 m = rowI (mrow P m)) → (∀ m, m < fi P i → LawR P (leftI P (rowI (mrow P m))) (μ' 29 m)) → μ' 22 4 = nI (sm (fi P i) (fun m => (canB P (mrow P m)).toNat)) →
      Wm G mX2_build E (bm G mX2_build E (pV Q)) μ' 29 [(0, .ref (gb G + 22)), (1, .ref (gb G + p)), (2, .int (rowI (rowF (qC P) f0))), (3, .int (nI i))] [] := by
    intro d
    induction d with
    | zero =>
      intro i μ' hid F hS a b c
      have e : i = ns (qC P) (qT P) := by omega
      subst e
      refine k_X2_build_29 C h1 (fun _ => ?_) (fun z => ?_) (fun z => ?_)
      · exact k μ' (fun m => (μ' 30 m).toBitVec.toNat) F ⟨hS, a, b, fun m _ => nI_any _, c⟩
      all_goals
        exfalso
        revert z
        rw [hS.1]
        simp (disch := omega) only [ofNat_nI, nI_add, pk_mul, nI_clamp, nI_leI, nI_ltI, nI_eq, vp_in_nI_iff, nI_subr, nI_m1r, m1_eq, m1_eq2, m1_le, m1_le2, m1_lt, m1_lt2, m1_self, cv_sub, cv_add1, cv_eq, cv_eqI, cv_eqI2, cv_m1, cv_lt0, cv_leI, cv_Ile, cv_le, cv_lt, cv_Ilt, cv_ltI, not_true, not_false_iff, true_implies, false_implies, false_or, or_false, true_and, and_true, false_and, and_false, true_or, or_true]
        omega
    | succ d ih =>
      intro i μ' hid F hS a b c
      have hi : i < ns (qC P) (qT P) := by omega
      have ef : μ' 25 (nI i).toNatClampNeg = nI (fi P i) := by rw [nI_clamp (by omega)]; exact hS.2.2.2.1 _ (by omega)
      refine k_X2_build_29 C h1 (fun z => ?_) (fun _ => ?_) (fun _ => ?_)
      · exfalso
        revert z
        rw [hS.1]
        simp (disch := omega) only [ofNat_nI, nI_add, pk_mul, nI_clamp, nI_leI, nI_ltI, nI_eq, vp_in_nI_iff, nI_subr, nI_m1r, m1_eq, m1_eq2, m1_le, m1_le2, m1_lt, m1_lt2, m1_self, cv_sub, cv_add1, cv_eq, cv_eqI, cv_eqI2, cv_m1, cv_lt0, cv_leI, cv_Ile, cv_le, cv_lt, cv_Ilt, cv_ltI, not_true, not_false_iff, true_implies, false_implies, false_or, or_false, true_and, and_true, false_and, and_false, true_or, or_true]
        omega
      · simp (disch := omega) only [ofNat_nI, nI_add, pk_mul, nI_clamp, nI_leI, nI_ltI, nI_eq, vp_in_nI_iff, nI_subr, nI_m1r, m1_eq, m1_eq2, m1_le, m1_le2, m1_lt, m1_lt2, m1_self, cv_sub, cv_add1, cv_eq, cv_eqI, cv_eqI2, cv_m1, cv_lt0, cv_leI, cv_Ile, cv_le, cv_lt, cv_Ilt, cv_ltI, not_true, not_false_iff, true_implies, false_implies, false_or, or_false, true_and, and_true, false_and, and_false, true_or, or_true]
        omega
      · rw [ef]
        exact mixes i hi (fun μ2 F2 hS2 a2 b2 c2 => ih (i + 1) μ2 (by omega) F2 hS2 a2 b2 c2) (pp P i) 0 μ' (by omega) F hS a b c
  refine sets (ns (qC P) (qT P)) 0 _ (by omega) (F1'.ms (by decide)) (hS1.of (ms_ne (by decide)) (ms_ne (by decide)) (ms_ne (by decide)) (ms_ne (by decide))) (fun m hm => absurd hm (Nat.not_lt_zero m)) (fun m hm => absurd hm (Nat.not_lt_zero m)) ?_
  rw [ms_row, upd_at, if_pos rfl]
  rfl

/-! THE MODEL: cells settled; fields -/
theorem ms_back {ν : mM} {c j : Nat} {v w : Int32} (h : ν c j = w) : ms (ms ν c j v) c j w = ν := by
  funext c'
  unfold ms
  by_cases q : c' = c
  · subst q
    simp only [if_true]
    funext i
    unfold upd
    by_cases z : i = j
    · rw [if_pos z, z, h]
    · rw [if_neg z, if_neg z]
  · simp [q]
theorem morN_le (P : Pl) (o : Nat → Bool) (r : Nat → Nat) (c : Nat) : morN P o r c ≤ MM P := by
  have := sm_le (n := MM P) (B := 1) (f := fun m => (o m && hasM P r m && decide (∃ k, k < qT P ∧ mcol P m k = c)).toNat) (fun i _ => bool_lt _)
  unfold morN
  omega
/-- the level that a cell is settled with -/
def stl (P : Pl) (o : Nat → Bool) (r : Nat → Nat) (c : Nat) : Nat := (bst (fun v => canB P (up r c (v + 1))) (fun v => morN P o (up r c (v + 1)) c) (qL P c)).1
theorem s_settles {G : mG} {Q : mM → Prop} {μ : mM} {P : Pl} (h : PW P) (hn : NowP (μ 135) P) (hM : MM P ≤ 1200) (hX : MixM μ P) {n j c : Nat} {R : Nat → Nat → Nat} {told : Nat → Nat} (hr : RowsM (μ 135) n R told) (hj : j < n) (hc : c < qC P) (hf : R j c = 0) (hw : ∀ c, c < qC P → R j c ≤ qL P c)
    (k : ∀ μ' g, Fr [135, 138, 139, 144] μ μ' → μ' 135 = g → (∀ i, i < 97 → g i = μ 135 i) → RowsM g n (psh R j (up (R j) c (stl P (openB P n R) (R j) c))) told → Q μ') : CtV G mX12_settles [.ref (gb G + 132), .int (nI j), .int (nI c)] μ Q := by
  have hC8 : qC P ≤ 8 := h.ct.2.2.2
  obtain ⟨l2, l4⟩ := h.lv hc
  refine e_X12_settles fun E C => k_X12_settles_0 C ?_
  refine s_laysOpen h hn.2.1 hM hX hr fun g0 hg0 => k_X12_settles_4 C ?_
  obtain ⟨r3, r64, rr, rt⟩ := hr
  have at1 : μ 135 (161 + 8 * j + c) = cv 0 := by rw [((rr j hj) c (by omega)).1, hf]
  have inner : ∀ (e v : Nat) (ν : mM), v + e = qL P c → Fr [138, 139, 144] μ ν → (∀ m, m < MM P → ν 144 m = nI (openB P n R m).toNat) →
      Wm G mX12_settles E (bm G mX12_settles E (pV Q)) ν 26 [(0, .ref (gb G + 132)), (1, .int (nI j)), (2, .int (nI c)), (4, .int (nI (161 + 8 * j + c))), (5, .int (cv (bst (fun v => canB P (up (R j) c (v + 1))) (fun v => morN P (openB P n R) (up (R j) c (v + 1)) c) v).1)), (6, .int (cv (bst (fun v => canB P (up (R j) c (v + 1))) (fun v => morN P (openB P n R) (up (R j) c (v + 1)) c) v).2)), (7, .int (nI v))] [] := by
    intro e
    induction e with
    | zero =>
      intro v ν hv F hg
      have e135 : ν 135 = μ 135 := F 135 (by decide)
      have eL : ν 135 (5 + c) = nI (qL P c) := by rw [e135]; exact hn.2.2.2.1 c hc
      have hvL : v = qL P c := by omega
      subst hvL
      refine k_X12_settles_26 C ?_ (fun _ => ?_) (fun _ => ?_) (fun p => ?_)
      · simp (disch := omega) only [ofNat_nI, nI_add, pk_mul, nI_clamp, nI_leI, nI_ltI, nI_eq, vp_in_nI_iff, nI_subr, nI_m1r, m1_eq, m1_eq2, m1_le, m1_le2, m1_lt, m1_lt2, m1_self, cv_sub, cv_add1, cv_eq, cv_eqI, cv_eqI2, cv_m1, cv_lt0, cv_leI, cv_Ile, cv_le, cv_lt, cv_Ilt, cv_ltI, not_true, not_false_iff, true_implies, false_implies, false_or, or_false, true_and, and_true, false_and, and_false, true_or, or_true]
        omega
      · simp (disch := omega) only [ofNat_nI, nI_add, pk_mul, nI_clamp, nI_leI, nI_ltI, nI_eq, vp_in_nI_iff, nI_subr, nI_m1r, m1_eq, m1_eq2, m1_le, m1_le2, m1_lt, m1_lt2, m1_self, cv_sub, cv_add1, cv_eq, cv_eqI, cv_eqI2, cv_m1, cv_lt0, cv_leI, cv_Ile, cv_le, cv_lt, cv_Ilt, cv_ltI, not_true, not_false_iff, true_implies, false_implies, false_or, or_false, true_and, and_true, false_and, and_false, true_or, or_true]
        omega
      · simp (disch := omega) only [ofNat_nI, nI_add, pk_mul, nI_clamp, nI_leI, nI_ltI, nI_eq, vp_in_nI_iff, nI_subr, nI_m1r, m1_eq, m1_eq2, m1_le, m1_le2, m1_lt, m1_lt2, m1_self, cv_sub, cv_add1, cv_eq, cv_eqI, cv_eqI2, cv_m1, cv_lt0, cv_leI, cv_Ile, cv_le, cv_lt, cv_Ilt, cv_ltI, not_true, not_false_iff, true_implies, false_implies, false_or, or_false, true_and, and_true, false_and, and_false, true_or, or_true]
        have hbb := bst_le (fun v => canB P (up (R j) c (v + 1))) (fun v => morN P (openB P n R) (up (R j) c (v + 1)) c) (qL P c)
        refine k _ _ ((F.mono (by decide)).ms (by decide)) rfl (fun i hi => ?_) ⟨?_, r64, fun b hb => ?_, fun b hb => ?_⟩
        · rw [ms_mrw0, mrw_at, upd_at, if_neg (by omega), e135]
        · rw [ms_mrw0, mrw_at, upd_at, if_neg (by omega), e135]; exact r3
        · intro c' hc'
          rw [ms_mrw0, mrw_at, upd_at]
          unfold psh
          by_cases q : b = j
          · subst q
            rw [if_pos rfl, up_at]
            by_cases q2 : c' = c
            · rw [if_pos (by omega), if_pos q2]
              refine ⟨rfl, ?_⟩
              unfold stl
              omega
            · rw [if_neg (by omega), if_neg q2, e135]
              exact rr b hb c' hc'
          · rw [if_neg (by omega), if_neg q, e135]
            exact rr b hb c' hc'
        · rw [ms_mrw0, mrw_at, upd_at, if_neg (by omega), e135]; exact rt b hb
      · exfalso
        revert p
        simp (disch := omega) only [ofNat_nI, nI_add, pk_mul, nI_clamp, nI_leI, nI_ltI, nI_eq, vp_in_nI_iff, nI_subr, nI_m1r, m1_eq, m1_eq2, m1_le, m1_le2, m1_lt, m1_lt2, m1_self, cv_sub, cv_add1, cv_eq, cv_eqI, cv_eqI2, cv_m1, cv_lt0, cv_leI, cv_Ile, cv_le, cv_lt, cv_Ilt, cv_ltI, not_true, not_false_iff, true_implies, false_implies, false_or, or_false, true_and, and_true, false_and, and_false, true_or, or_true, eL]
        all_goals omega
    | succ e ihe =>
      intro v ν hv F hg
      have hvL : v < qL P c := by omega
      have e135 : ν 135 = μ 135 := F 135 (by decide)
      have eL : ν 135 (5 + c) = nI (qL P c) := by rw [e135]; exact hn.2.2.2.1 c hc
      refine k_X12_settles_26 C ?_ (fun _ => ?_) (fun p => ?_) (fun _ => ?_)
      · simp (disch := omega) only [ofNat_nI, nI_add, pk_mul, nI_clamp, nI_leI, nI_ltI, nI_eq, vp_in_nI_iff, nI_subr, nI_m1r, m1_eq, m1_eq2, m1_le, m1_le2, m1_lt, m1_lt2, m1_self, cv_sub, cv_add1, cv_eq, cv_eqI, cv_eqI2, cv_m1, cv_lt0, cv_leI, cv_Ile, cv_le, cv_lt, cv_Ilt, cv_ltI, not_true, not_false_iff, true_implies, false_implies, false_or, or_false, true_and, and_true, false_and, and_false, true_or, or_true]
        omega
      · simp (disch := omega) only [ofNat_nI, nI_add, pk_mul, nI_clamp, nI_leI, nI_ltI, nI_eq, vp_in_nI_iff, nI_subr, nI_m1r, m1_eq, m1_eq2, m1_le, m1_le2, m1_lt, m1_lt2, m1_self, cv_sub, cv_add1, cv_eq, cv_eqI, cv_eqI2, cv_m1, cv_lt0, cv_leI, cv_Ile, cv_le, cv_lt, cv_Ilt, cv_ltI, not_true, not_false_iff, true_implies, false_implies, false_or, or_false, true_and, and_true, false_and, and_false, true_or, or_true]
        omega
      · exfalso
        revert p
        simp (disch := omega) only [ofNat_nI, nI_add, pk_mul, nI_clamp, nI_leI, nI_ltI, nI_eq, vp_in_nI_iff, nI_subr, nI_m1r, m1_eq, m1_eq2, m1_le, m1_le2, m1_lt, m1_lt2, m1_self, cv_sub, cv_add1, cv_eq, cv_eqI, cv_eqI2, cv_m1, cv_lt0, cv_leI, cv_Ile, cv_le, cv_lt, cv_Ilt, cv_ltI, not_true, not_false_iff, true_implies, false_implies, false_or, or_false, true_and, and_true, false_and, and_false, true_or, or_true, eL]
        all_goals omega
      · have hrow : RowM (ν 135) j (R j) := by rw [e135]; exact rr j hj
        refine s_probesRow (r := R j) hC8 (by rw [e135]; exact hn.1) (by omega) hrow fun g1 hg1 => k_X12_settles_44 C ?_ ?_
        · simp (disch := omega) only [ofNat_nI, nI_add, pk_mul, nI_clamp, nI_leI, nI_ltI, nI_eq, vp_in_nI_iff, nI_subr, nI_m1r, m1_eq, m1_eq2, m1_le, m1_le2, m1_lt, m1_lt2, m1_self, cv_sub, cv_add1, cv_eq, cv_eqI, cv_eqI2, cv_m1, cv_lt0, cv_leI, cv_Ile, cv_le, cv_lt, cv_Ilt, cv_ltI, not_true, not_false_iff, true_implies, false_implies, false_or, or_false, true_and, and_true, false_and, and_false, true_or, or_true]
          omega
        · simp (disch := omega) only [ofNat_nI, nI_add, pk_mul, nI_clamp, nI_leI, nI_ltI, nI_eq, vp_in_nI_iff, nI_subr, nI_m1r, m1_eq, m1_eq2, m1_le, m1_le2, m1_lt, m1_lt2, m1_self, cv_sub, cv_add1, cv_eq, cv_eqI, cv_eqI2, cv_m1, cv_lt0, cv_leI, cv_Ile, cv_le, cv_lt, cv_Ilt, cv_ltI, not_true, not_false_iff, true_implies, false_implies, false_or, or_false, true_and, and_true, false_and, and_false, true_or, or_true]
          rw [ms_mrw]
          have F2 : Fr [138, 139, 144] μ (mrw ν 138 (upd g1 c (nI v))) := F.mrw (by decide)
          have hle : ∀ i, i < qC P → up (R j) c (v + 1) i ≤ qL P i := fun i hi => by
            rw [up_at]
            by_cases q : i = c
            · rw [if_pos q, q]; omega
            · rw [if_neg q]; exact hw i hi
          refine s_canProbe (r := up (R j) c (v + 1)) h (by rw [F2 135 (by decide)]; exact hn) (fun i hi => ⟨?_, hle i hi⟩) fun g2 => ?_
          · rw [mrw_at, upd_at, up_at]
            by_cases q : i = c
            · rw [if_pos q, if_pos q, cv_s]
            · rw [if_neg q, if_neg q]; exact hg1 i hi
          · have F3 : Fr [138, 139, 144] μ (mrw (mrw ν 138 (upd g1 c (nI v))) 139 g2) := F2.mrw (by decide)
            have hg3 : ∀ m, m < MM P → mrw (mrw ν 138 (upd g1 c (nI v))) 139 g2 144 m = nI (openB P n R m).toNat := fun m hm => by
              rw [mrw_ne (by decide), mrw_ne (by decide)]; exact hg m hm
            generalize mrw (mrw ν 138 (upd g1 c (nI v))) 139 g2 = ν3 at F3 hg3
            have e3 : ν3 135 = μ 135 := F3 135 (by decide)
            refine k_X12_settles_56 C (fun _ => ?_) (fun p => ?_) (fun p => ?_)
            · simp (disch := omega) only [ofNat_nI, nI_add, pk_mul, nI_clamp, nI_leI, nI_ltI, nI_eq, vp_in_nI_iff, nI_subr, nI_m1r, m1_eq, m1_eq2, m1_le, m1_le2, m1_lt, m1_lt2, m1_self, cv_sub, cv_add1, cv_eq, cv_eqI, cv_eqI2, cv_m1, cv_lt0, cv_leI, cv_Ile, cv_le, cv_lt, cv_Ilt, cv_ltI, not_true, not_false_iff, true_implies, false_implies, false_or, or_false, true_and, and_true, false_and, and_false, true_or, or_true]
              omega
            · have ec : canB P (up (R j) c (v + 1)) = true := by
                rw [nI_b0] at p
                rcases b01 (canB P (up (R j) c (v + 1))) with q | q
                · exact q
                · exact absurd q p
              have e4 : (nI (161 + 8 * j + c)).toNatClampNeg = 161 + 8 * j + c := nI_clamp (by omega)
              rw [e4]
              have hb4 : ms ν3 135 (161 + 8 * j + c) (nI v) 135 = upd (μ 135) (161 + 8 * j + c) (nI v) := by rw [ms_mrw0, mrw_at, e3]
              refine s_moreBy (r := up (R j) c (v + 1)) (o := openB P n R) h (by rw [hb4, upd_at, if_neg (by omega)]; exact hn.2.1) hM (by rw [ms_mrw0, mrw_ne (by decide), F3 132 (by decide)]; exact hX.1)
                (hX.2.1.of (by rw [ms_mrw0, mrw_ne (by decide)]; exact F3 140 (by decide)) (by rw [ms_mrw0, mrw_ne (by decide)]; exact F3 141 (by decide))) (by omega) (by omega) (fun i hi => ?_) (fun m hm => by rw [ms_mrw0, mrw_ne (by decide)]; exact hg3 m hm) (k_X12_settles_77 C ?_ (fun p => ?_) (fun p => ?_))
              · rw [hb4, upd_at, up_at]
                by_cases q : i = c
                · rw [if_pos (by omega), if_pos q, cv_s]
                  exact ⟨rfl, by omega⟩
                · rw [if_neg (by omega), if_neg q]
                  exact rr j hj i hi
              · simp (disch := omega) only [ofNat_nI, nI_add, pk_mul, nI_clamp, nI_leI, nI_ltI, nI_eq, vp_in_nI_iff, nI_subr, nI_m1r, m1_eq, m1_eq2, m1_le, m1_le2, m1_lt, m1_lt2, m1_self, cv_sub, cv_add1, cv_eq, cv_eqI, cv_eqI2, cv_m1, cv_lt0, cv_leI, cv_Ile, cv_le, cv_lt, cv_Ilt, cv_ltI, not_true, not_false_iff, true_implies, false_implies, false_or, or_false, true_and, and_true, false_and, and_false, true_or, or_true]
                omega
              all_goals
                have hB := fun v => morN_le P (openB P n R) (up (R j) c (v + 1)) c
                have b2 := bst2_le (can := fun v => canB P (up (R j) c (v + 1))) (n := v) (fun v _ => hB v)
                have hv0 := hB v
                rw [cv_ltI (by omega) (by omega)] at p
                rw [e4, ms_back (by rw [e3, at1]; rfl)]
                have := ihe (v + 1) ν3 (by omega) F3 hg3
              · rw [bst, if_pos ⟨ec, p⟩] at this
                simp (disch := omega) only [ofNat_nI, nI_add, pk_mul, nI_clamp, nI_leI, nI_ltI, nI_eq, vp_in_nI_iff, nI_subr, nI_m1r, m1_eq, m1_eq2, m1_le, m1_le2, m1_lt, m1_lt2, m1_self, cv_sub, cv_add1, cv_eq, cv_eqI, cv_eqI2, cv_m1, cv_lt0, cv_leI, cv_Ile, cv_le, cv_lt, cv_Ilt, cv_ltI, not_true, not_false_iff, true_implies, false_implies, false_or, or_false, true_and, and_true, false_and, and_false, true_or, or_true]
                rw [cv_s, cv_s] at this
                exact this
              · rw [bst, if_neg (fun z => p z.2)] at this
                simp (disch := omega) only [ofNat_nI, nI_add, pk_mul, nI_clamp, nI_leI, nI_ltI, nI_eq, vp_in_nI_iff, nI_subr, nI_m1r, m1_eq, m1_eq2, m1_le, m1_le2, m1_lt, m1_lt2, m1_self, cv_sub, cv_add1, cv_eq, cv_eqI, cv_eqI2, cv_m1, cv_lt0, cv_leI, cv_Ile, cv_le, cv_lt, cv_Ilt, cv_ltI, not_true, not_false_iff, true_implies, false_implies, false_or, or_false, true_and, and_true, false_and, and_false, true_or, or_true]
                exact this
            · have ec : canB P (up (R j) c (v + 1)) = false := (nI_b0 _).mp p
              have := ihe (v + 1) ν3 (by omega) F3 hg3
              rw [bst, if_neg (fun z => by rw [ec] at z; cases z.1)] at this
              simp (disch := omega) only [ofNat_nI, nI_add, pk_mul, nI_clamp, nI_leI, nI_ltI, nI_eq, vp_in_nI_iff, nI_subr, nI_m1r, m1_eq, m1_eq2, m1_le, m1_le2, m1_lt, m1_lt2, m1_self, cv_sub, cv_add1, cv_eq, cv_eqI, cv_eqI2, cv_m1, cv_lt0, cv_leI, cv_Ile, cv_le, cv_lt, cv_Ilt, cv_ltI, not_true, not_false_iff, true_implies, false_implies, false_or, or_false, true_and, and_true, false_and, and_false, true_or, or_true]
              exact this
  have := inner (qL P c) 0 (mrw μ 144 g0) (by omega) ((Fr.rf _ μ).mrw (by decide)) (fun m hm => by rw [mrw_at]; exact hg0 m hm)
  simp (disch := omega) only [ofNat_nI, nI_add, pk_mul, nI_clamp, nI_leI, nI_ltI, nI_eq, vp_in_nI_iff, nI_subr, nI_m1r, m1_eq, m1_eq2, m1_le, m1_le2, m1_lt, m1_lt2, m1_self, cv_sub, cv_add1, cv_eq, cv_eqI, cv_eqI2, cv_m1, cv_lt0, cv_leI, cv_Ile, cv_le, cv_lt, cv_Ilt, cv_ltI, not_true, not_false_iff, true_implies, false_implies, false_or, or_false, true_and, and_true, false_and, and_false, true_or, or_true]
  exact this
/-- the greatest of the levels and of the columns but one; the field for it -/
def mxl (C : Nat) (L : Nat → Nat) : Nat → Nat
  | 0 => C - 1
  | i + 1 => if L i ≤ mxl C L i then mxl C L i else L i
theorem mxl_le {C : Nat} {L : Nat → Nat} (hC : C ≤ 8) : ∀ {n : Nat}, (∀ i, i < n → L i ≤ 4) → mxl C L n ≤ 7
  | 0, _ => by rw [mxl]; omega
  | n + 1, h => by
    rw [mxl]
    split
    · exact mxl_le hC (fun i hi => h i (by omega))
    · have := h n (by omega); omega
theorem mxl_ge {C : Nat} {L : Nat → Nat} : ∀ {n : Nat}, C - 1 ≤ mxl C L n ∧ ∀ i, i < n → L i ≤ mxl C L n
  | 0 => ⟨Nat.le_refl _, fun i hi => by omega⟩
  | n + 1 => by
    obtain ⟨a, b⟩ := mxl_ge (C := C) (L := L) (n := n)
    rw [mxl]
    split
    · refine ⟨a, fun i hi => ?_⟩
      by_cases q : i = n
      · rw [q]; assumption
      · exact b i (by omega)
    · refine ⟨by omega, fun i hi => ?_⟩
      by_cases q : i = n
      · rw [q]; exact Nat.le_refl _
      · have := b i (by omega); omega
def fld (l : Nat) : Nat := if l ≤ 2 then 2 else if l = 6 then 7 else l
def qF (P : Pl) : Nat := fld (mxl (qC P) (qL P) (qC P))
theorem s_fieldFor {G : mG} {Q : Int32 → mM → Prop} {μ : mM} {P : Pl} (h : PW P) (hn : NowP (μ 135) P) (k : Q (nI (qF P)) μ) : CtI G mX12_fieldFor [.ref (gb G + 132)] μ Q := by
  have hC8 : qC P ≤ 8 := h.ct.2.2.2
  have hC2 : 2 ≤ qC P := h.1
  have hl : ∀ {n}, n ≤ qC P → mxl (qC P) (qL P) n ≤ 7 := fun hn => mxl_le hC8 (fun i hi => (h.lv (by omega)).2)
  refine e_X12_fieldFor fun E C => k_X12_fieldFor_0 C ?_
  rw [hn.1]
  simp (disch := omega) only [ofNat_nI, nI_add, pk_mul, nI_clamp, nI_leI, nI_ltI, nI_eq, vp_in_nI_iff, nI_subr, nI_m1r, m1_eq, m1_eq2, m1_le, m1_le2, m1_lt, m1_lt2, m1_self, cv_sub, cv_add1, cv_eq, cv_eqI, cv_eqI2, cv_m1, cv_lt0, cv_leI, cv_Ile, cv_le, cv_lt, cv_Ilt, cv_ltI, not_true, not_false_iff, true_implies, false_implies, false_or, or_false, true_and, and_true, false_and, and_false, true_or, or_true]
  refine lp_up (W := fun i => Wm G mX12_fieldFor E (bm G mX12_fieldFor E (pI Q)) μ 11 [(0, .ref (gb G + 132)), (1, .int (nI (mxl (qC P) (qL P) i))), (2, .int (nI i))] []) (qC P) ?_ (fun i hi ih => ?_)
  · refine k_X12_fieldFor_11 C (fun _ => ?_) (fun p => ?_) (fun p => ?_)
    · have h7 := hl (Nat.le_refl _)
      have loop : ∀ (d q : Nat), q + d = 8 → 2 ≤ q → q ≤ qF P → Wm G mX12_fieldFor E (bm G mX12_fieldFor E (pI Q)) μ 54 [(1, .int (nI (mxl (qC P) (qL P) (qC P)))), (2, .int (nI q))] [] := by
        unfold qF fld at k ⊢
        generalize mxl (qC P) (qL P) (qC P) = l at k h7 ⊢
        intro d
        induction d with
        | zero =>
          intro q hq h2 hle
          exfalso
          revert hle
          split
          · omega
          · split <;> omega
        | succ d ihd =>
          intro q hq h2 hle
          refine k_X12_fieldFor_54 C (fun p => ?_) (fun _ p => ?_) (fun _ p1 p2 => ?_)
          · exfalso
            revert p
            simp (disch := omega) only [ofNat_nI, nI_add, pk_mul, nI_clamp, nI_leI, nI_ltI, nI_eq, vp_in_nI_iff, nI_subr, nI_m1r, m1_eq, m1_eq2, m1_le, m1_le2, m1_lt, m1_lt2, m1_self, cv_sub, cv_add1, cv_eq, cv_eqI, cv_eqI2, cv_m1, cv_lt0, cv_leI, cv_Ile, cv_le, cv_lt, cv_Ilt, cv_ltI, not_true, not_false_iff, true_implies, false_implies, false_or, or_false, true_and, and_true, false_and, and_false, true_or, or_true]
            all_goals omega
          · revert p
            simp (disch := omega) only [ofNat_nI, nI_add, pk_mul, nI_clamp, nI_leI, nI_ltI, nI_eq, vp_in_nI_iff, nI_subr, nI_m1r, m1_eq, m1_eq2, m1_le, m1_le2, m1_lt, m1_lt2, m1_self, cv_sub, cv_add1, cv_eq, cv_eqI, cv_eqI2, cv_m1, cv_lt0, cv_leI, cv_Ile, cv_le, cv_lt, cv_Ilt, cv_ltI, not_true, not_false_iff, true_implies, false_implies, false_or, or_false, true_and, and_true, false_and, and_false, true_or, or_true]
            intro p
            refine ihd (q + 1) (by omega) (by omega) ?_
            revert hle
            split
            · omega
            · split <;> omega
          · revert p1 p2
            simp (disch := omega) only [ofNat_nI, nI_add, pk_mul, nI_clamp, nI_leI, nI_ltI, nI_eq, vp_in_nI_iff, nI_subr, nI_m1r, m1_eq, m1_eq2, m1_le, m1_le2, m1_lt, m1_lt2, m1_self, cv_sub, cv_add1, cv_eq, cv_eqI, cv_eqI2, cv_m1, cv_lt0, cv_leI, cv_Ile, cv_le, cv_lt, cv_Ilt, cv_ltI, not_true, not_false_iff, true_implies, false_implies, false_or, or_false, true_and, and_true, false_and, and_false, true_or, or_true]
            intro p1 p2
            have e : (if l ≤ 2 then 2 else if l = 6 then 7 else l) = q := by
              revert hle
              split
              · omega
              · split <;> omega
            rw [e] at k
            exact k
      have h2 : 2 ≤ qF P := by
        unfold qF fld
        split
        · omega
        · split <;> omega
      exact loop 6 2 (by omega) (by omega) h2
    all_goals
      exfalso
      revert p
      rw [hn.1]
      simp (disch := omega) only [ofNat_nI, nI_add, pk_mul, nI_clamp, nI_leI, nI_ltI, nI_eq, vp_in_nI_iff, nI_subr, nI_m1r, m1_eq, m1_eq2, m1_le, m1_le2, m1_lt, m1_lt2, m1_self, cv_sub, cv_add1, cv_eq, cv_eqI, cv_eqI2, cv_m1, cv_lt0, cv_leI, cv_Ile, cv_le, cv_lt, cv_Ilt, cv_ltI, not_true, not_false_iff, true_implies, false_implies, false_or, or_false, true_and, and_true, false_and, and_false, true_or, or_true]
      all_goals omega
  · have h7 := hl (Nat.le_of_lt hi)
    have hL4 := (h.lv hi).2
    refine k_X12_fieldFor_11 C (fun p => ?_) (fun _ => ?_) (fun _ v hv => ?_)
    · exfalso
      revert p
      rw [hn.1]
      simp (disch := omega) only [ofNat_nI, nI_add, pk_mul, nI_clamp, nI_leI, nI_ltI, nI_eq, vp_in_nI_iff, nI_subr, nI_m1r, m1_eq, m1_eq2, m1_le, m1_le2, m1_lt, m1_lt2, m1_self, cv_sub, cv_add1, cv_eq, cv_eqI, cv_eqI2, cv_m1, cv_lt0, cv_leI, cv_Ile, cv_le, cv_lt, cv_Ilt, cv_ltI, not_true, not_false_iff, true_implies, false_implies, false_or, or_false, true_and, and_true, false_and, and_false, true_or, or_true]
      all_goals omega
    · simp (disch := omega) only [ofNat_nI, nI_add, pk_mul, nI_clamp, nI_leI, nI_ltI, nI_eq, vp_in_nI_iff, nI_subr, nI_m1r, m1_eq, m1_eq2, m1_le, m1_le2, m1_lt, m1_lt2, m1_self, cv_sub, cv_add1, cv_eq, cv_eqI, cv_eqI2, cv_m1, cv_lt0, cv_leI, cv_Ile, cv_le, cv_lt, cv_Ilt, cv_ltI, not_true, not_false_iff, true_implies, false_implies, false_or, or_false, true_and, and_true, false_and, and_false, true_or, or_true]
      omega
    · have ev : v = nI (mxl (qC P) (qL P) (i + 1)) := by
        revert hv
        simp (disch := omega) only [ofNat_nI, nI_add, pk_mul, nI_clamp, nI_leI, nI_ltI, nI_eq, vp_in_nI_iff, nI_subr, nI_m1r, m1_eq, m1_eq2, m1_le, m1_le2, m1_lt, m1_lt2, m1_self, cv_sub, cv_add1, cv_eq, cv_eqI, cv_eqI2, cv_m1, cv_lt0, cv_leI, cv_Ile, cv_le, cv_lt, cv_Ilt, cv_ltI, not_true, not_false_iff, true_implies, false_implies, false_or, or_false, true_and, and_true, false_and, and_false, true_or, or_true, hn.2.2.2.1 i hi]
        intro hv
        rw [mxl]
        rcases hv with hv | hv
        · rw [if_pos hv.1, hv.2]
        · rw [if_neg hv.1, hv.2]
      rw [ev]
      simp (disch := omega) only [ofNat_nI, nI_add, pk_mul, nI_clamp, nI_leI, nI_ltI, nI_eq, vp_in_nI_iff, nI_subr, nI_m1r, m1_eq, m1_eq2, m1_le, m1_le2, m1_lt, m1_lt2, m1_self, cv_sub, cv_add1, cv_eq, cv_eqI, cv_eqI2, cv_m1, cv_lt0, cv_leI, cv_Ile, cv_le, cv_lt, cv_Ilt, cv_ltI, not_true, not_false_iff, true_implies, false_implies, false_or, or_false, true_and, and_true, false_and, and_false, true_or, or_true]
      exact ih
theorem s_power {G : mG} {Q : Int32 → mM → Prop} {μ : mM} {q t : Nat} (ht : t < 2 ^ 31) (k : Q (nI (q ^ t)) μ) : CtI G mX12_power [.int (nI q), .int (nI t)] μ Q := by
  refine e_X12_power fun E C => k_X12_power_0 C ?_
  refine lp_up (W := fun i => Wm G mX12_power E (bm G mX12_power E (pI Q)) μ 4 [(0, .int (nI q)), (1, .int (nI t)), (2, .int (nI (q ^ i))), (3, .int (nI i))] []) t ?_ (fun i hi ih => ?_)
  · refine k_X12_power_4 C (fun _ => k) (fun p => ?_)
    exfalso
    revert p
    simp (disch := omega) only [ofNat_nI, nI_add, pk_mul, nI_clamp, nI_leI, nI_ltI, nI_eq, vp_in_nI_iff, nI_subr, nI_m1r, m1_eq, m1_eq2, m1_le, m1_le2, m1_lt, m1_lt2, m1_self, cv_sub, cv_add1, cv_eq, cv_eqI, cv_eqI2, cv_m1, cv_lt0, cv_leI, cv_Ile, cv_le, cv_lt, cv_Ilt, cv_ltI, not_true, not_false_iff, true_implies, false_implies, false_or, or_false, true_and, and_true, false_and, and_false, true_or, or_true]
    all_goals omega
  · refine k_X12_power_4 C (fun p => ?_) (fun _ => ?_)
    · exfalso
      revert p
      simp (disch := omega) only [ofNat_nI, nI_add, pk_mul, nI_clamp, nI_leI, nI_ltI, nI_eq, vp_in_nI_iff, nI_subr, nI_m1r, m1_eq, m1_eq2, m1_le, m1_le2, m1_lt, m1_lt2, m1_self, cv_sub, cv_add1, cv_eq, cv_eqI, cv_eqI2, cv_m1, cv_lt0, cv_leI, cv_Ile, cv_le, cv_lt, cv_Ilt, cv_ltI, not_true, not_false_iff, true_implies, false_implies, false_or, or_false, true_and, and_true, false_and, and_false, true_or, or_true]
      all_goals omega
    · rw [Nat.pow_succ] at ih
      simp (disch := omega) only [ofNat_nI, nI_add, pk_mul, nI_clamp, nI_leI, nI_ltI, nI_eq, vp_in_nI_iff, nI_subr, nI_m1r, m1_eq, m1_eq2, m1_le, m1_le2, m1_lt, m1_lt2, m1_self, cv_sub, cv_add1, cv_eq, cv_eqI, cv_eqI2, cv_m1, cv_lt0, cv_leI, cv_Ile, cv_le, cv_lt, cv_Ilt, cv_ltI, not_true, not_false_iff, true_implies, false_implies, false_or, or_false, true_and, and_true, false_and, and_false, true_or, or_true]
      exact ih

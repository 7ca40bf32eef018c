/-! THE MODEL: settle, field, widen, drawn -/
def stS (s : Ps) (j c : Nat) : Ps := sCel s j c (stl (zP s) (openB (zP s) (zn s) (zR s)) (zR s j) c)
def seC (j : Nat) : Nat → Nat → Ps × Nat → Ps × Nat
  | 0, _, a => a
  | d + 1, c, a => seC j d (c + 1) (if zR a.1 j c = 0 then (stS a.1 j c, a.2 + 1) else a)
def seR : Nat → Nat → Ps × Nat → Ps × Nat
  | 0, _, a => a
  | d + 1, j, a => seR d (j + 1) (seC j (zC a.1) 0 a)
def o_settle (σ : Sg) : Int32 × Sg := if zC (ys σ) = 0 then (-1, σ) else (nI (seR (zn (ys σ)) 0 (ys σ, 0)).2, sS (kpS σ) (seR (zn (ys σ)) 0 (ys σ, 0)).1)
theorem PsOk.st {s : Ps} (h : PsOk s) {j c : Nat} (hj : j < zn s) (hc : c < zC s) (h0 : zR s j c = 0) : PsOk (stS s j c) := by
  have hC := zn_C h (by omega)
  exact h.cel hj (bst_row (h.2.2.2 hC).1.1 ((h.2.2.2 hC).2 j hj).1 hc h0).2
theorem m_settle {G : mG} {μ : mM} {σ : Sg} (ok : SgOk σ) (hm : Mr σ μ) : Km G mX12_settle [.ref (gb G + 132)] μ (o_settle σ) := by
  intro Q k
  unfold o_settle at k
  refine e_X12_settle fun E C => k_X12_settle_0 C (fun p => ?_) (fun p => ?_)
  · rw [noPl ok.2.2.1 hm.2.1.1] at p
    rw [if_pos p] at k
    exact k μ (Fr.rf _ μ) hm
  · rw [noPl ok.2.2.1 hm.2.1.1] at p
    rw [if_neg p] at k
    have ok2 := ok.kpS p
    have hn64 := ok.2.2.1.2.1
    have hC8 := zC_le ok.2.2.1
    have col : ∀ (j : Nat), j < zn (ys σ) → ∀ (d c : Nat) (q : Ps × Nat) (μ' : mM), c + d = zC (ys σ) → zn q.1 = zn (ys σ) → q.2 ≤ 8 * j + c → PsOk q.1 → zP q.1 = zP (ys σ) → Fr KM μ μ' → Mr (sS (kpS σ) q.1) μ' →
        (∀ μ2, zn (seC j d c q).1 = zn (ys σ) → (seC j d c q).2 ≤ 8 * (j + 1) → PsOk (seC j d c q).1 → zP (seC j d c q).1 = zP (ys σ) → Fr KM μ μ2 → Mr (sS (kpS σ) (seC j d c q).1) μ2 → Wm G mX12_settle E (bm G mX12_settle E (pI Q)) μ2 17 [(0, .ref (gb G + 132)), (1, .int (nI (seC j d c q).2)), (2, .int (nI (j + 1)))] []) →
        Wm G mX12_settle E (bm G mX12_settle E (pI Q)) μ' 29 [(0, .ref (gb G + 132)), (1, .int (nI q.2)), (2, .int (nI j)), (3, .int (nI c))] [] := by
      intro j hj d
      induction d with
      | zero =>
        intro c q μ' hcd hnq hqc hs hP F hms cont
        have h0 : μ' 135 0 = nI (zC q.1) := hms.2.1.1.2.1
        have hz : zC q.1 = zC (ys σ) := by rw [zC, zC, hP]
        refine k_X12_settle_29 C (fun _ => ?_) (fun z => ?_) (fun z => ?_) (fun z => ?_)
        · simp (disch := omega) only [ofNat_nI, nI_add, pk_mul, nI_clamp, nI_leI, nI_ltI, nI_eq, vp_in_nI_iff, nI_subr, nI_m1r, m1_eq, m1_eq2, m1_le, m1_le2, m1_lt, m1_lt2, m1_self, cv_sub, cv_add1, cv_eq, cv_eqI, cv_eqI2, cv_m1, cv_lt0, cv_leI, cv_Ile, cv_le, cv_lt, cv_Ilt, cv_ltI, not_true, not_false_iff, true_implies, false_implies, false_or, or_false, true_and, and_true, false_and, and_false, true_or, or_true]
          exact cont μ' hnq (by show q.2 ≤ _; omega) hs hP F hms
        all_goals
          exfalso
          revert z
          rw [h0, hz]
          simp (disch := omega) only [ofNat_nI, nI_add, pk_mul, nI_clamp, nI_leI, nI_ltI, nI_eq, vp_in_nI_iff, nI_subr, nI_m1r, m1_eq, m1_eq2, m1_le, m1_le2, m1_lt, m1_lt2, m1_self, cv_sub, cv_add1, cv_eq, cv_eqI, cv_eqI2, cv_m1, cv_lt0, cv_leI, cv_Ile, cv_le, cv_lt, cv_Ilt, cv_ltI, not_true, not_false_iff, true_implies, false_implies, false_or, or_false, true_and, and_true, false_and, and_false, true_or, or_true]
          omega
      | succ d ih =>
        intro c q μ' hcd hnq hqc hs hP F hms cont
        have h0 : μ' 135 0 = nI (zC q.1) := hms.2.1.1.2.1
        have hz : zC q.1 = zC (ys σ) := by rw [zC, zC, hP]
        have hCs : zC q.1 ≠ 0 := by rw [hz]; exact p
        obtain ⟨hP1, hr1, hX1⟩ : NowP (μ' 135) (zP q.1) ∧ RowsM (μ' 135) (zn q.1) (zR q.1) (zt q.1) ∧ MixM μ' (zP q.1) := MrN.row hms hCs
        obtain ⟨⟨hW, hM, -⟩, hro⟩ := hs.2.2.2 hCs
        have oks : SgOk (sS (kpS σ) q.1) := ok2.sS hs
        have rl := (hro j (by omega)).1.1
        have er : μ' 135 (161 + 8 * j + c) = cv (zR q.1 j c) := (hr1.2.2.1 j (by omega) c (by omega)).1
        have rl4 : zR q.1 j c ≤ 4 := (hr1.2.2.1 j (by omega) c (by omega)).2
        refine k_X12_settle_29 C (fun z => ?_) (fun _ => ?_) (fun _ z => ?_) (fun _ z => ?_)
        · exfalso
          revert z
          rw [h0, hz]
          simp (disch := omega) only [ofNat_nI, nI_add, pk_mul, nI_clamp, nI_leI, nI_ltI, nI_eq, vp_in_nI_iff, nI_subr, nI_m1r, m1_eq, m1_eq2, m1_le, m1_le2, m1_lt, m1_lt2, m1_self, cv_sub, cv_add1, cv_eq, cv_eqI, cv_eqI2, cv_m1, cv_lt0, cv_leI, cv_Ile, cv_le, cv_lt, cv_Ilt, cv_ltI, not_true, not_false_iff, true_implies, false_implies, false_or, or_false, true_and, and_true, false_and, and_false, true_or, or_true]
          omega
        · simp (disch := omega) only [ofNat_nI, nI_add, pk_mul, nI_clamp, nI_leI, nI_ltI, nI_eq, vp_in_nI_iff, nI_subr, nI_m1r, m1_eq, m1_eq2, m1_le, m1_le2, m1_lt, m1_lt2, m1_self, cv_sub, cv_add1, cv_eq, cv_eqI, cv_eqI2, cv_m1, cv_lt0, cv_leI, cv_Ile, cv_le, cv_lt, cv_Ilt, cv_ltI, not_true, not_false_iff, true_implies, false_implies, false_or, or_false, true_and, and_true, false_and, and_false, true_or, or_true]
          omega
        · revert z
          simp (disch := omega) only [ofNat_nI, nI_add, pk_mul, nI_clamp, nI_leI, nI_ltI, nI_eq, vp_in_nI_iff, nI_subr, nI_m1r, m1_eq, m1_eq2, m1_le, m1_le2, m1_lt, m1_lt2, m1_self, cv_sub, cv_add1, cv_eq, cv_eqI, cv_eqI2, cv_m1, cv_lt0, cv_leI, cv_Ile, cv_le, cv_lt, cv_Ilt, cv_ltI, not_true, not_false_iff, true_implies, false_implies, false_or, or_false, true_and, and_true, false_and, and_false, true_or, or_true, er]
          intro z
          refine s_settles hW hP1 hM hX1 hr1 (show j < zn q.1 by omega) (show c < zC q.1 by omega) z (fun c _ => rl c) fun μ2 g F2 e2 g1 g2 => k_X12_settle_58 C ?_
          have e1 : (if zR q.1 j c = 0 then (stS q.1 j c, q.2 + 1) else q) = (stS q.1 j c, q.2 + 1) := if_pos z
          rw [seC, e1] at cont
          have hm2 : Mr (sS (kpS σ) (stS q.1 j c)) μ2 := by
            refine Mr.row2 hms (F2.mono (by decide)) (by rfl) ?_
            rw [e2]
            exact hms.2.1.1.row hs hCs rfl rfl (fun i hi _ => g1 i hi) g2
          simp (disch := omega) only [ofNat_nI, nI_add, pk_mul, nI_clamp, nI_leI, nI_ltI, nI_eq, vp_in_nI_iff, nI_subr, nI_m1r, m1_eq, m1_eq2, m1_le, m1_le2, m1_lt, m1_lt2, m1_self, cv_sub, cv_add1, cv_eq, cv_eqI, cv_eqI2, cv_m1, cv_lt0, cv_leI, cv_Ile, cv_le, cv_lt, cv_Ilt, cv_ltI, not_true, not_false_iff, true_implies, false_implies, false_or, or_false, true_and, and_true, false_and, and_false, true_or, or_true]
          exact ih (c + 1) (stS q.1 j c, q.2 + 1) μ2 (by omega) hnq (by show q.2 + 1 ≤ _; omega) (hs.st (by omega) (by omega) z) hP (F.tr (F2.mono (by decide))) hm2 cont
        · revert z
          simp (disch := omega) only [ofNat_nI, nI_add, pk_mul, nI_clamp, nI_leI, nI_ltI, nI_eq, vp_in_nI_iff, nI_subr, nI_m1r, m1_eq, m1_eq2, m1_le, m1_le2, m1_lt, m1_lt2, m1_self, cv_sub, cv_add1, cv_eq, cv_eqI, cv_eqI2, cv_m1, cv_lt0, cv_leI, cv_Ile, cv_le, cv_lt, cv_Ilt, cv_ltI, not_true, not_false_iff, true_implies, false_implies, false_or, or_false, true_and, and_true, false_and, and_false, true_or, or_true, er]
          intro z
          have e1 : (if zR q.1 j c = 0 then (stS q.1 j c, q.2 + 1) else q) = q := if_neg z
          rw [seC, e1] at cont
          exact ih (c + 1) q μ' (by omega) hnq (by omega) hs hP F hms cont
    have loop : ∀ (d j : Nat) (q : Ps × Nat) (μ' : mM), j + d = zn (ys σ) → zn q.1 = zn (ys σ) → q.2 ≤ 8 * j → PsOk q.1 → zP q.1 = zP (ys σ) → Fr KM μ μ' → Mr (sS (kpS σ) q.1) μ' → seR d j q = seR (zn (ys σ)) 0 (ys σ, 0) →
        Wm G mX12_settle E (bm G mX12_settle E (pI Q)) μ' 17 [(0, .ref (gb G + 132)), (1, .int (nI q.2)), (2, .int (nI j))] [] := by
      intro d
      induction d with
      | zero =>
        intro j q μ' hjd hnq hqj hs hP F hms e
        have h3 : μ' 135 3 = nI (zn q.1) := hms.2.1.1.2.2.1
        refine k_X12_settle_17 C (fun _ => ?_) (fun z => ?_)
        · rw [← e] at k
          exact k μ' F hms
        · exfalso
          revert z
          rw [h3]
          simp (disch := omega) only [ofNat_nI, nI_add, pk_mul, nI_clamp, nI_leI, nI_ltI, nI_eq, vp_in_nI_iff, nI_subr, nI_m1r, m1_eq, m1_eq2, m1_le, m1_le2, m1_lt, m1_lt2, m1_self, cv_sub, cv_add1, cv_eq, cv_eqI, cv_eqI2, cv_m1, cv_lt0, cv_leI, cv_Ile, cv_le, cv_lt, cv_Ilt, cv_ltI, not_true, not_false_iff, true_implies, false_implies, false_or, or_false, true_and, and_true, false_and, and_false, true_or, or_true]
          omega
      | succ d ih =>
        intro j q μ' hjd hnq hqj hs hP F hms e
        have h3 : μ' 135 3 = nI (zn q.1) := hms.2.1.1.2.2.1
        have hz : zC q.1 = zC (ys σ) := by rw [zC, zC, hP]
        refine k_X12_settle_17 C (fun z => ?_) (fun _ => ?_)
        · exfalso
          revert z
          rw [h3]
          simp (disch := omega) only [ofNat_nI, nI_add, pk_mul, nI_clamp, nI_leI, nI_ltI, nI_eq, vp_in_nI_iff, nI_subr, nI_m1r, m1_eq, m1_eq2, m1_le, m1_le2, m1_lt, m1_lt2, m1_self, cv_sub, cv_add1, cv_eq, cv_eqI, cv_eqI2, cv_m1, cv_lt0, cv_leI, cv_Ile, cv_le, cv_lt, cv_Ilt, cv_ltI, not_true, not_false_iff, true_implies, false_implies, false_or, or_false, true_and, and_true, false_and, and_false, true_or, or_true]
          omega
        · refine col j (by omega) (zC (ys σ)) 0 q μ' (by omega) hnq (by omega) hs hP F hms (fun μ2 a1 a2 a3 a4 a5 a6 => ?_)
          rw [seR, hz] at e
          exact ih (j + 1) _ μ2 (by omega) a1 a2 a3 a4 a5 a6 e
    refine m_keepsAct ok hm fun μ2 F2 e2 hm2 => k_X12_settle_13 C ?_
    exact loop (zn (ys σ)) 0 (ys σ, 0) μ2 (by omega) rfl (Nat.le_refl _) ok.2.2.1 rfl (F2.mono (by decide)) hm2 rfl
/-- rows by a field -/
theorem fld_is {l : Nat} (h : l ≤ 7) : isQ (fld l) ∧ l ≤ fld l := by
  unfold fld isQ
  split
  · omega
  · split
    · omega
    · omega
theorem qF_is {P : Pl} (h : PW P) : isQ (qF P) ∧ qC P ≤ qF P + 1 ∧ ∀ i, i < qC P → qL P i ≤ qF P := by
  have h1 := mxl_le (C := qC P) (L := qL P) (n := qC P) h.ct.2.2.2 (fun i hi => (h.lv hi).2)
  have h2 := mxl_ge (C := qC P) (L := qL P) (n := qC P)
  obtain ⟨a, b⟩ := fld_is h1
  unfold qF
  refine ⟨a, by omega, fun i hi => Nat.le_trans (h2.2 i hi) b⟩
def sFl (s : Ps) : Ps := sR s (qF (zP s) ^ qT (zP s)) (fun w => polR (zP s) (qF (zP s)) w) (fun _ => 0)
def flB (P : Pl) : Bool := decide (qF P ^ qT P ≤ 64) && decide (∀ w, w < qF P ^ qT P → canB P (polR P (qF P) w) = true)
def o_field (σ : Sg) : Int32 × Sg := if zC (ys σ) = 0 then (-1, σ) else if flB (zP (ys σ)) = true then (nI (qF (zP (ys σ))), sS (kpS σ) (sFl (ys σ))) else (-2, σ)
theorem PsOk.fl {s : Ps} (h : PsOk s) (hC : zC s ≠ 0) (hb : flB (zP s) = true) : PsOk (sFl s) := by
  unfold flB at hb
  rw [Bool.and_eq_true, decide_eq_true_iff, decide_eq_true_iff] at hb
  exact h.mk hC hb.1 (fun j hj => ⟨⟨fun c => polR_le _ _ _ c, hb.2 j hj⟩, by omega⟩)
theorem psh_self {α : Type} (f : Nat → α) (n : Nat) : psh f n (f n) = f := by
  funext j
  unfold psh
  by_cases q : j = n
  · rw [if_pos q, q]
  · rw [if_neg q]
theorem m_field {G : mG} {μ : mM} {σ : Sg} (ok : SgOk σ) (hm : Mr σ μ) : Km G mX12_field [.ref (gb G + 132)] μ (o_field σ) := by
  intro Q k
  unfold o_field at k
  refine e_X12_field fun E C => k_X12_field_0 C (fun p => ?_) (fun p => ?_)
  · rw [noPl ok.2.2.1 hm.2.1.1] at p
    rw [if_pos p] at k
    exact k μ (Fr.rf _ μ) hm
  · rw [noPl ok.2.2.1 hm.2.1.1] at p
    rw [if_neg p] at k
    have ok2 := ok.kpS p
    obtain ⟨hP, hr, hX⟩ := MrN.row hm p
    obtain ⟨⟨hW, hM, -⟩, hro⟩ := ok.2.2.1.2.2.2 p
    obtain ⟨hq, hqC, -⟩ := qF_is hW
    obtain ⟨t1, t3, -, hC8⟩ := hW.ct
    have hq7 : qF (zP (ys σ)) ≤ 7 ∧ 2 ≤ qF (zP (ys σ)) := by unfold isQ at hq; omega
    have hpow : qF (zP (ys σ)) ^ qT (zP (ys σ)) ≤ 343 := Nat.le_trans (Nat.pow_le_pow_left hq7.1 _) (Nat.le_trans (Nat.pow_le_pow_right (by omega) t3) (by decide))
    refine s_fieldFor hW hP (k_X12_field_13 C (fun z => absurd z (nI_pos (by omega))) (fun _ => ?_))
    rw [hP.2.1]
    refine s_power (by omega) (k_X12_field_28 C (fun z => ?_) (fun z => ?_))
    · have hle : qF (zP (ys σ)) ^ qT (zP (ys σ)) ≤ 64 := (nI_leI (b := 64) (by omega) (by omega)).mp z
      rw [hP.2.1]
      refine s_power (by omega) (k_X12_field_46 C ?_)
      generalize hpw : qF (zP (ys σ)) ^ qT (zP (ys σ)) = pw at *
      generalize hqq : qF (zP (ys σ)) = q at *
      have two : ∀ (d w : Nat) (μ' : mM), w + d = pw → flB (zP (ys σ)) = true → Fr KM μ μ' → Mr (sS (kpS σ) (sR (ys σ) w (fun w => polR (zP (ys σ)) q w) (fun _ => 0))) μ' →
          Wm G mX12_field E (bm G mX12_field E (pI Q)) μ' 97 [(0, .ref (gb G + 132)), (1, .int (nI q)), (2, .int (nI pw)), (3, .int (nI w))] [] := by
        intro d
        induction d with
        | zero =>
          intro w μ' hw hb F hms
          refine k_X12_field_97 C (fun _ => ?_) (fun y => ?_)
          · rw [if_pos hb] at k
            have e : sFl (ys σ) = sR (ys σ) w (fun w => polR (zP (ys σ)) q w) (fun _ => 0) := by
              unfold sFl
              rw [hqq, hpw, show w = pw by omega]
            rw [e] at k
            exact k μ' F hms
          · exfalso
            revert y
            simp (disch := omega) only [ofNat_nI, nI_add, pk_mul, nI_clamp, nI_leI, nI_ltI, nI_eq, vp_in_nI_iff, nI_subr, nI_m1r, m1_eq, m1_eq2, m1_le, m1_le2, m1_lt, m1_lt2, m1_self, cv_sub, cv_add1, cv_eq, cv_eqI, cv_eqI2, cv_m1, cv_lt0, cv_leI, cv_Ile, cv_le, cv_lt, cv_Ilt, cv_ltI, not_true, not_false_iff, true_implies, false_implies, false_or, or_false, true_and, and_true, false_and, and_false, true_or, or_true]
            omega
        | succ d ih =>
          intro w μ' hw hb F hms
          have hb2 := hb
          unfold flB at hb2
          rw [Bool.and_eq_true, decide_eq_true_iff, decide_eq_true_iff, hqq, hpw] at hb2
          have hs : PsOk (sR (ys σ) w (fun w => polR (zP (ys σ)) q w) (fun _ => 0)) := ok.2.2.1.mk p (by omega) (fun j hj => ⟨⟨fun c => polR_le _ _ _ c, hb2.2 j (by omega)⟩, by omega⟩)
          have oks := ok2.sS hs
          have hP1 : NowP (μ' 135) (zP (ys σ)) := (MrN.row hms p).1
          refine k_X12_field_97 C (fun y => ?_) (fun _ => ?_)
          · exfalso
            revert y
            simp (disch := omega) only [ofNat_nI, nI_add, pk_mul, nI_clamp, nI_leI, nI_ltI, nI_eq, vp_in_nI_iff, nI_subr, nI_m1r, m1_eq, m1_eq2, m1_le, m1_le2, m1_lt, m1_lt2, m1_self, cv_sub, cv_add1, cv_eq, cv_eqI, cv_eqI2, cv_m1, cv_lt0, cv_leI, cv_Ile, cv_le, cv_lt, cv_Ilt, cv_ltI, not_true, not_false_iff, true_implies, false_implies, false_or, or_false, true_and, and_true, false_and, and_false, true_or, or_true]
            omega
          · refine s_laysPolynomial hW hP1 hq hqC (by omega) fun μ2 F2 g2 => k_X12_field_108 C ?_
            have hm2 := hms.fr (F2.mono (by decide))
            refine m_comes oks hm2 p (show w < 64 by omega) (c1 := 145) (n1 := 8) (r := polR (zP (ys σ)) q w) rfl (by decide) (by decide) (by decide) (fun c => polR_le _ _ _ c) g2 fun μ3 F3 hm3 => k_X12_field_116 C ?_
            simp (disch := omega) only [ofNat_nI, nI_add, pk_mul, nI_clamp, nI_leI, nI_ltI, nI_eq, vp_in_nI_iff, nI_subr, nI_m1r, m1_eq, m1_eq2, m1_le, m1_le2, m1_lt, m1_lt2, m1_self, cv_sub, cv_add1, cv_eq, cv_eqI, cv_eqI2, cv_m1, cv_lt0, cv_leI, cv_Ile, cv_le, cv_lt, cv_Ilt, cv_ltI, not_true, not_false_iff, true_implies, false_implies, false_or, or_false, true_and, and_true, false_and, and_false, true_or, or_true]
            refine ih (w + 1) μ3 (by omega) hb ((F.tr (F2.mono (by decide))).tr (F3.mono (by decide))) ?_
            have e : sAdd (sR (ys σ) w (fun w => polR (zP (ys σ)) q w) (fun _ => 0)) (polR (zP (ys σ)) q w) = sR (ys σ) (w + 1) (fun w => polR (zP (ys σ)) q w) (fun _ => 0) := by
              show sR _ (w + 1) (psh (fun w => polR (zP (ys σ)) q w) w (polR (zP (ys σ)) q w)) (psh (fun _ => 0) w 0) = _
              have e1 := psh_self (fun w => polR (zP (ys σ)) q w) w
              have e2 := psh_self (fun _ : Nat => 0) w
              rw [e1, e2]
              rfl
            rw [← e]
            exact hm3
      have one : ∀ (d w : Nat) (μ' : mM), w + d = pw → (∀ w', w' < w → canB (zP (ys σ)) (polR (zP (ys σ)) q w') = true) → Fr scM μ μ' →
          Wm G mX12_field E (bm G mX12_field E (pI Q)) μ' 49 [(0, .ref (gb G + 132)), (1, .int (nI q)), (2, .int (nI pw)), (3, .int (nI w))] [] := by
        intro d
        induction d with
        | zero =>
          intro w μ' hw hall F
          have hm1 := hm.fr F
          refine k_X12_field_49 C (fun _ => ?_) (fun y => ?_)
          · refine m_keepsAct ok hm1 fun μ2 F2 e2 hm2 => k_X12_field_88 C ?_
            have hb : flB (zP (ys σ)) = true := by
              unfold flB
              rw [hqq, hpw, decide_eq_true hle, decide_eq_true (fun w' hw' => hall w' (by omega))]
              rfl
            refine two pw 0 _ (by omega) hb (((F.mono (by decide)).tr (F2.mono (by decide))).ms (by decide)) ?_
            rw [ms_mrw0]
            refine hm2.row (by rfl) ?_
            have hr2 := (MrN.row hm2 p).2.1
            refine hm2.2.1.1.row (ok.kpS p).2.2.1 p rfl rfl (fun j hj h3 => by rw [upd_at, if_neg h3]) ⟨by rw [upd_at, if_pos rfl]; rfl, Nat.zero_le _, fun j hj => absurd hj (Nat.not_lt_zero j), fun j hj => absurd hj (Nat.not_lt_zero j)⟩
          · exfalso
            revert y
            simp (disch := omega) only [ofNat_nI, nI_add, pk_mul, nI_clamp, nI_leI, nI_ltI, nI_eq, vp_in_nI_iff, nI_subr, nI_m1r, m1_eq, m1_eq2, m1_le, m1_le2, m1_lt, m1_lt2, m1_self, cv_sub, cv_add1, cv_eq, cv_eqI, cv_eqI2, cv_m1, cv_lt0, cv_leI, cv_Ile, cv_le, cv_lt, cv_Ilt, cv_ltI, not_true, not_false_iff, true_implies, false_implies, false_or, or_false, true_and, and_true, false_and, and_false, true_or, or_true]
            omega
        | succ d ih =>
          intro w μ' hw hall F
          have hm1 := hm.fr F
          have e5 : μ' 135 = μ 135 := F 135 (by decide)
          refine k_X12_field_49 C (fun y => ?_) (fun _ => ?_)
          · exfalso
            revert y
            simp (disch := omega) only [ofNat_nI, nI_add, pk_mul, nI_clamp, nI_leI, nI_ltI, nI_eq, vp_in_nI_iff, nI_subr, nI_m1r, m1_eq, m1_eq2, m1_le, m1_le2, m1_lt, m1_lt2, m1_self, cv_sub, cv_add1, cv_eq, cv_eqI, cv_eqI2, cv_m1, cv_lt0, cv_leI, cv_Ile, cv_le, cv_lt, cv_Ilt, cv_ltI, not_true, not_false_iff, true_implies, false_implies, false_or, or_false, true_and, and_true, false_and, and_false, true_or, or_true]
            omega
          · refine s_laysPolynomial hW (by rw [e5]; exact hP) hq hqC (by omega) fun μ2 F2 g2 => k_X12_field_60 C ?_
            refine s_probes (c1 := 145) (n1 := 8) rfl (by decide) (by decide) (by decide) hC8 (by rw [F2 135 (by decide), e5]; exact hP.1) g2 fun g3 hg3 => k_X12_field_68 C ?_
            refine s_canProbe (r := polR (zP (ys σ)) q w) hW (by rw [mrw_ne (by decide), F2 135 (by decide), e5]; exact hP) (fun c hc => ⟨by rw [mrw_at]; exact hg3 c hc, polR_le _ _ _ c⟩) fun g4 => ?_
            have F4 : Fr scM μ (mrw (mrw μ2 138 g3) 139 g4) := ((F.tr (F2.mono (by decide))).mrw (by decide)).mrw (by decide)
            refine k_X12_field_72 C (fun y => ?_) (fun y => ?_)
            · rw [nI_b0] at y
              have hc : canB (zP (ys σ)) (polR (zP (ys σ)) q w) = true := by cases z : canB (zP (ys σ)) (polR (zP (ys σ)) q w) with | true => rfl | false => exact absurd z y
              simp (disch := omega) only [ofNat_nI, nI_add, pk_mul, nI_clamp, nI_leI, nI_ltI, nI_eq, vp_in_nI_iff, nI_subr, nI_m1r, m1_eq, m1_eq2, m1_le, m1_le2, m1_lt, m1_lt2, m1_self, cv_sub, cv_add1, cv_eq, cv_eqI, cv_eqI2, cv_m1, cv_lt0, cv_leI, cv_Ile, cv_le, cv_lt, cv_Ilt, cv_ltI, not_true, not_false_iff, true_implies, false_implies, false_or, or_false, true_and, and_true, false_and, and_false, true_or, or_true]
              refine ih (w + 1) _ (by omega) (fun w' hw' => ?_) F4
              by_cases u : w' = w
              · rw [u]; exact hc
              · exact hall w' (by omega)
            · rw [nI_b0] at y
              have hb : ¬ flB (zP (ys σ)) = true := by
                intro v
                unfold flB at v
                rw [Bool.and_eq_true, decide_eq_true_iff, decide_eq_true_iff, hqq, hpw] at v
                rw [v.2 w (by omega)] at y
                cases y
              rw [if_neg hb] at k
              exact k _ (F4.mono (by decide)) (hm.fr F4)
      exact one pw 0 μ (by omega) (fun w' hw' => absurd hw' (Nat.not_lt_zero _)) (Fr.rf _ μ)
    · have hle : ¬ qF (zP (ys σ)) ^ qT (zP (ys σ)) ≤ 64 := fun y => z ((nI_leI (b := 64) (by omega) (by omega)).mpr y)
      have hb : ¬ flB (zP (ys σ)) = true := by
        intro v
        unfold flB at v
        rw [Bool.and_eq_true, decide_eq_true_iff] at v
        exact hle v.1
      rw [if_neg hb] at k
      exact k μ (Fr.rf _ μ) hm

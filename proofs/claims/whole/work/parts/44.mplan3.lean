/-! THE MODEL: plan -/
theorem sT_sT (σ : Sg) : yT (sT σ (yT σ) 0) = yT σ := rfl
theorem m_plan {G : mG} {μ : mM} {σ : Sg} (ok : SgOk σ) (hm : Mr σ μ) : Km G mX12_plan [.ref (gb G + 132)] μ (o_plan σ) := by
  intro Q k
  unfold o_plan at k
  have hz := ok.2.1
  obtain ⟨hT, hN, hU, hK⟩ := id hm
  have ht : Tm (yT σ, yz σ) μ := ⟨ok.2.1, ok.1, hT⟩
  refine e_X12_plan fun E X => k_X12_plan_0 X (s_readsAll ht (fun μ1 x e P1 h13 => ?_) (fun μ1 P e P1 hg => ?_))
  · simp only [e] at k
    refine k_X12_plan_4 X (fun y => absurd rfl y) (fun _ => ?_)
    rw [h13]
    have e1 : ∀ j, j ∉ [1, 2, 3, 5, 6, 9] → ms μ1 132 1 0 132 j = μ 132 j := fun j hj => by
      rw [ms_row, upd_at, if_neg (fun z => hj (by rw [z]; decide))]
      exact P1.2 j (fun z => hj (by simp only [List.mem_cons] at z ⊢; exact Or.inr z))
    have e2 : ∀ c, c ∉ [132, 136] → ms μ1 132 1 0 c = μ c := fun c hc => by
      rw [ms_ne (fun z => hc (by rw [z]; decide))]
      exact P1.1 c hc
    refine k _ ((P1.1.mono (by decide)).ms (by decide)) ⟨⟨by rw [ms_row, upd_at, if_pos rfl]; rfl, fun j hj => absurd hj (Nat.not_lt_zero j), fun j hj => ?_⟩, hN.of (e2 _ (by decide)) (e1 13 (by decide)) (e2 _ (by decide)) (e2 _ (by decide)) (e2 _ (by decide)), hU.of (e1 26 (by decide)) (e2 _ (by decide)), hK.of (e2 _ (by decide)) (e2 _ (by decide))⟩
    rw [e2 134 (by decide)]
    exact hT.2.2 j hj
  · simp only [e] at k
    have hP := prP_ok e
    have hC8 := hP.ct.2.2.2
    have hC2 := hP.1
    have hMM := hP.MM_le
    refine k_X12_plan_4 X (fun _ => ?_) (fun y => absurd y (by decide))
    have ez : μ1 132 1 = nI (yz σ) := (P1.2 1 (by decide)).trans hT.1
    have ex : μ1 135 4 = nI (zx (ys σ)) := by rw [P1.1 135 (by decide)]; exact hN.1.1
    rw [ez, ex]
    -- the old ones go aside
    refine s_copies (a := 0) (b := 0) (n0 := 673) (n2 := 673) (c0 := 135) (c2 := 137) rfl rfl (by decide) (by decide) (by decide) (by decide) (by decide) fun gB gB1 gB2 => k_X12_plan_52 X ?_
    refine s_copies (a := 0) (b := 0) (n0 := 673) (n2 := 673) (c0 := 136) (c2 := 135) rfl rfl (by decide) (by decide) (by decide) (by decide) (by decide) fun gN gN1 gN2 => k_X12_plan_65 X ?_
    have gN3 : ∀ j, j < 673 → gN j = upd (μ1 136) 4 (nI (zx (ys σ))) j := fun j hj => by
      have := gN1 j hj
      rw [Nat.zero_add] at this
      rw [this, mrw_ne (by decide), ms_row]
      rfl
    have gB3 : ∀ j, j < 673 → gB j = μ 135 j := fun j hj => by
      have := gB1 j hj
      rw [Nat.zero_add] at this
      rw [this, ms_ne (by decide), ms_ne (by decide), P1.1 135 (by decide)]
    obtain ⟨μ2, hμ2⟩ : ∃ μ2, μ2 = mrw (mrw (ms (ms μ1 132 1 0) 136 4 (nI (zx (ys σ)))) 137 gB) 135 gN := ⟨_, rfl⟩
    rw [← hμ2]
    have q135 : μ2 135 = gN := by rw [hμ2, mrw_at]
    have q137 : μ2 137 = gB := by rw [hμ2, mrw_ne (by decide), mrw_at]
    have q132 : ∀ j, j ∉ [1, 2, 3, 5, 6, 9] → μ2 132 j = μ 132 j := fun j hj => by
      rw [hμ2, mrw_ne (by decide), mrw_ne (by decide), ms_ne (by decide), ms_row, upd_at, if_neg (fun z => hj (by rw [z]; decide))]
      exact P1.2 j (fun z => hj (by simp only [List.mem_cons] at z ⊢; exact Or.inr z))
    have q1 : μ2 132 1 = 0 := by rw [hμ2, mrw_ne (by decide), mrw_ne (by decide), ms_ne (by decide), ms_row, upd_at, if_pos rfl]
    have qo : ∀ c, c ∉ [132, 135, 136, 137] → μ2 c = μ c := fun c hc => by
      rw [hμ2, mrw_ne (fun z => hc (by rw [z]; decide)), mrw_ne (fun z => hc (by rw [z]; decide)), ms_ne (fun z => hc (by rw [z]; decide)), ms_ne (fun z => hc (by rw [z]; decide))]
      exact P1.1 c (fun z => hc (by simp only [List.mem_cons, List.not_mem_nil, or_false] at z ⊢; rcases z with z | z; exact Or.inl z; exact Or.inr (Or.inr (Or.inl z))))
    clear hμ2
    have gP : NowP gN P := by
      refine NowP.of hC8 hP.2.2.2.2.1 hg.1 (fun j hj h3 h4 => ?_)
      rw [gN3 j (by omega), upd_at, if_neg h4]
    have g3' : gN 3 = nI 0 := by rw [gN3 3 (by omega), upd_at, if_neg (by decide), hg.2]; rfl
    have gRow : RowsM gN 0 (fun _ _ => 0) (fun _ => 0) := ⟨g3', Nat.zero_le _, fun j hj => absurd hj (Nat.not_lt_zero j), fun j hj => absurd hj (Nat.not_lt_zero j)⟩
    have gS : NowS gN (sPl (ys σ) P) := ⟨by rw [gN3 4 (by omega), upd_at, if_pos rfl]; rfl, gP.1, g3', gP.2.2.1, fun _ => ⟨gP, gRow⟩⟩
    have gBS : NowS gB (ys σ) := hN.1.of ok.2.2.1 gB3
    have eMM : nx (qC P) (qL P) (qT P) 0 = MM P := (MM_nx P).symm
    have hMany : ∀ (μ' : mM) (Q' : Int32 → mM → Prop), μ' 135 = gN → Q' (nI (MM P)) μ' → CtI G mX12_mixMany [.ref (gb G + 132)] μ' Q' := fun μ' Q' e5 hq => by
      refine s_mixMany hP.ct (by rw [e5]; exact gP.1) (by rw [e5]; exact gP.2.1) (fun c hc => by rw [e5]; exact gP.2.2.2.1 c hc) ?_
      rw [eMM]
      exact hq
    have c1200 : 1200 < nI (MM P) ↔ 1200 < MM P := nI_ltI (a := 1200) (by omega) (by omega)
    -- back to what it was
    have back : (1200 < MM P ∨ canB P (fun _ => 0) = false) → ∀ μ' : mM, (∀ c, c ∉ [132, 135, 136, 137, 138, 139, 140, 141, 142, 143] → μ' c = μ c) → (∀ j, j ∉ [1, 2, 3, 5, 6, 9, 13] → μ' 132 j = μ 132 j) → μ' 132 1 = 0 → μ' 137 = gB → Wm G mX12_plan E (bm G mX12_plan E (pI Q)) μ' 117 [(0, .ref (gb G + 132)), (2, .int (nI (yz σ)))] [] := by
      intro hbad μ' r1 r2 r3 r4
      rw [if_pos hbad] at k
      refine k_X12_plan_117 X ?_
      refine s_copies (a := 0) (b := 0) (n0 := 673) (n2 := 673) (c0 := 137) (c2 := 135) rfl rfl (by decide) (by decide) (by decide) (by decide) (by decide) fun gR gR1 gR2 => k_X12_plan_130 X ?_
      have gRS : NowS gR (ys σ) := hN.1.of ok.2.2.1 (fun j hj => by
        have := gR1 j hj
        rw [Nat.zero_add, r4] at this
        rw [this]
        exact gB3 j hj)
      have u1 : ∀ c, c ∉ [132, 135, 136, 137, 138, 139, 140, 141, 142, 143] → mrw μ' 135 gR c = μ c := fun c hc => by
        rw [mrw_ne (fun z => hc (by rw [z]; decide))]
        exact r1 c hc
      have u2 : ∀ j, j ∉ [1, 2, 3, 5, 6, 9, 13] → mrw μ' 135 gR 132 j = μ 132 j := fun j hj => by rw [mrw_ne (by decide)]; exact r2 j hj
      have u3 : mrw μ' 135 gR 132 1 = 0 := by rw [mrw_ne (by decide)]; exact r3
      have u4 : mrw μ' 135 gR 135 = gR := mrw_at _ _ _
      have FF : Fr KM μ (mrw μ' 135 gR) := fun c hc => u1 c (fun z => hc (by
        have : ∀ x, x ∈ [132, 135, 136, 137, 138, 139, 140, 141, 142, 143] → x ∈ KM := by decide
        exact this c z))
      generalize mrw μ' 135 gR = μ5 at u1 u2 u3 u4 FF ⊢
      have mT : MrT (yT (sT σ (yT σ) 0)) (yz (sT σ (yT σ) 0)) μ5 := ⟨u3, fun j hj => absurd hj (Nat.not_lt_zero j), fun j hj => by rw [u1 134 (by decide)]; exact hT.2.2 j hj⟩
      have mU : MrU (yu σ) (yA σ) μ5 := hU.of (u2 26 (by decide)) (u1 149 (by decide))
      have mK : MrK (yK σ) μ5 := hK.of (u1 150 (by decide)) (u1 151 (by decide))
      have fin : ∀ μ6 : mM, Fr KM μ μ6 → Mr (sT σ (yT σ) 0) μ6 → Wm G mX12_plan E (bm G mX12_plan E (pI Q)) μ6 134 [(2, .int (nI (yz σ)))] [] := fun μ6 F6 hm6 => by
        refine k_X12_plan_134 X ?_
        have := k μ6 F6 hm6
        rw [show (8 : Int32) = nI 8 from rfl, show (4 : Int32) = nI 4 from rfl, pk_mul, nI_add]
        exact this
      by_cases hC : zC (ys σ) = 0
      · refine e_X12_laysMixes fun E2 X2 => k_X12_laysMixes_0 X2 (fun y => ?_) (fun _ => ?_)
        · exfalso
          apply y
          rw [u4, gRS.2.1, hC]
          rfl
        · have v1 : ∀ j, j ≠ 13 → ms μ5 132 13 0 132 j = μ5 132 j := fun j hj => by rw [ms_row, upd_at, if_neg hj]
          have v2 : ∀ c, c ≠ 132 → ms μ5 132 13 0 c = μ5 c := fun c hc => ms_ne hc
          exact fin _ (FF.ms (by decide)) ⟨mT.of (v1 1 (by decide)) (v2 _ (by decide)) (v2 _ (by decide)), ⟨by rw [v2 _ (by decide), u4]; exact gRS, fun y => absurd hC y⟩, mU.of (v1 26 (by decide)) (v2 _ (by decide)), mK.of (v2 _ (by decide)) (v2 _ (by decide))⟩
      · exact m_lays (σ := sT σ (yT σ) 0) ok.2.2.1 hC mT (by rw [u4]; exact gRS) mU mK fun μ6 F6 hm6 => fin μ6 (FF.tr (F6.mono (by decide))) hm6
    -- the trial: all free
    have probe : ∀ (d i : Nat) (μ' : mM), i + d = 8 → (∀ c, c ∉ [132, 135, 136, 137, 138, 139, 140, 141, 142, 143] → μ' c = μ c) → (∀ j, j ∉ [1, 2, 3, 5, 6, 9, 13] → μ' 132 j = μ 132 j) → μ' 132 1 = 0 → μ' 137 = gB → μ' 135 = gN → (MM P ≤ 1200 → MixM μ' P) → (∀ j, j < i → μ' 138 j = cv 0) →
        Wm G mX12_plan E (bm G mX12_plan E (pI Q)) μ' 81 [(0, .ref (gb G + 132)), (2, .int (nI (yz σ))), (3, .int (nI i))] [] := by
      intro d
      induction d with
      | zero =>
        intro i μ' hi r1 r2 r3 r4 r5 r6 r7
        refine k_X12_plan_81 X (fun _ => ?_) (fun y => ?_) (fun y => ?_)
        · refine hMany μ' _ r5 (k_X12_plan_104 X (fun y => ?_) (fun y => ?_))
          · rw [c1200] at y
            exact back (Or.inl y) μ' r1 r2 r3 r4
          · rw [c1200] at y
            refine s_canProbe (r := fun _ => 0) hP (by rw [r5]; exact gP) (fun c hc => ⟨r7 c (by omega), Nat.zero_le _⟩) fun g9 => ?_
            have w1 : ∀ c, c ∉ [132, 135, 136, 137, 138, 139, 140, 141, 142, 143] → mrw μ' 139 g9 c = μ c := fun c hc => by
              rw [mrw_ne (fun z => hc (by rw [z]; decide))]
              exact r1 c hc
            refine k_X12_plan_114 X (fun y2 => ?_) (fun y2 => ?_)
            · rw [nI_b0] at y2
              have hc : canB P (fun _ => 0) = true := by cases w : canB P (fun _ => 0) with | true => rfl | false => exact absurd w y2
              rw [if_neg (by rintro (w | w); exact y w; rw [hc] at w; cases w)] at k
              have x6 := r6 (by omega)
              rw [mrw_ne (by decide), x6.1]
              have v1 : ∀ j, j ≠ 26 → ms (mrw μ' 139 g9) 132 26 0 132 j = μ' 132 j := fun j hj => by rw [ms_row, upd_at, if_neg hj, mrw_ne (by decide)]
              have v2 : ∀ c, c ≠ 132 → c ≠ 139 → ms (mrw μ' 139 g9) 132 26 0 c = μ' c := fun c a b => by rw [ms_ne a, mrw_ne b]
              have FF : Fr KM μ (ms (mrw μ' 139 g9) 132 26 0) := fun c hc => by
                rw [ms_ne (fun z => hc (by rw [z]; decide))]
                exact w1 c (fun z => hc (by
                  have : ∀ x, x ∈ [132, 135, 136, 137, 138, 139, 140, 141, 142, 143] → x ∈ KM := by decide
                  exact this c z))
              refine k _ FF ⟨⟨by rw [v1 1 (by decide), r3]; rfl, fun j hj => absurd hj (Nat.not_lt_zero j), fun j hj => by rw [v2 134 (by decide) (by decide), r1 134 (by decide)]; exact hT.2.2 j hj⟩, ⟨by rw [v2 135 (by decide) (by decide), r5]; exact gS, fun _ => x6.of (v1 13 (by decide)) (v2 _ (by decide) (by decide)) (v2 _ (by decide) (by decide)) (v2 _ (by decide) (by decide))⟩, ⟨by rw [ms_row, upd_at, if_pos rfl]; rfl, fun j hj => absurd hj (Nat.not_lt_zero j)⟩, hK.of (by rw [v2 150 (by decide) (by decide)]; exact r1 150 (by decide)) (by rw [v2 151 (by decide) (by decide)]; exact r1 151 (by decide))⟩
            · rw [nI_b0] at y2
              exact back (Or.inr y2) _ w1 (fun j hj => by rw [mrw_ne (by decide)]; exact r2 j hj) (by rw [mrw_ne (by decide)]; exact r3) (by rw [mrw_ne (by decide)]; exact r4)
        all_goals
          exfalso
          revert y
          simp (disch := omega) only [ofNat_nI, nI_add, pk_mul, nI_clamp, nI_leI, nI_ltI, nI_eq, vp_in_nI_iff, nI_subr, nI_m1r, m1_eq, m1_eq2, m1_le, m1_le2, m1_lt, m1_lt2, m1_self, cv_sub, cv_add1, cv_eq, cv_eqI, cv_eqI2, cv_m1, cv_lt0, cv_leI, cv_Ile, cv_le, cv_lt, cv_Ilt, cv_ltI, not_true, not_false_iff, true_implies, false_implies, false_or, or_false, true_and, and_true, false_and, and_false, true_or, or_true]
          omega
      | succ d ih =>
        intro i μ' hi r1 r2 r3 r4 r5 r6 r7
        refine k_X12_plan_81 X (fun y => ?_) (fun _ => ?_) (fun _ => ?_)
        · exfalso
          revert y
          simp (disch := omega) only [ofNat_nI, nI_add, pk_mul, nI_clamp, nI_leI, nI_ltI, nI_eq, vp_in_nI_iff, nI_subr, nI_m1r, m1_eq, m1_eq2, m1_le, m1_le2, m1_lt, m1_lt2, m1_self, cv_sub, cv_add1, cv_eq, cv_eqI, cv_eqI2, cv_m1, cv_lt0, cv_leI, cv_Ile, cv_le, cv_lt, cv_Ilt, cv_ltI, not_true, not_false_iff, true_implies, false_implies, false_or, or_false, true_and, and_true, false_and, and_false, true_or, or_true]
          omega
        · simp (disch := omega) only [ofNat_nI, nI_add, pk_mul, nI_clamp, nI_leI, nI_ltI, nI_eq, vp_in_nI_iff, nI_subr, nI_m1r, m1_eq, m1_eq2, m1_le, m1_le2, m1_lt, m1_lt2, m1_self, cv_sub, cv_add1, cv_eq, cv_eqI, cv_eqI2, cv_m1, cv_lt0, cv_leI, cv_Ile, cv_le, cv_lt, cv_Ilt, cv_ltI, not_true, not_false_iff, true_implies, false_implies, false_or, or_false, true_and, and_true, false_and, and_false, true_or, or_true]
          omega
        · rw [nI_clamp (by omega)]
          simp (disch := omega) only [ofNat_nI, nI_add, pk_mul, nI_clamp, nI_leI, nI_ltI, nI_eq, vp_in_nI_iff, nI_subr, nI_m1r, m1_eq, m1_eq2, m1_le, m1_le2, m1_lt, m1_lt2, m1_self, cv_sub, cv_add1, cv_eq, cv_eqI, cv_eqI2, cv_m1, cv_lt0, cv_leI, cv_Ile, cv_le, cv_lt, cv_Ilt, cv_ltI, not_true, not_false_iff, true_implies, false_implies, false_or, or_false, true_and, and_true, false_and, and_false, true_or, or_true]
          refine ih (i + 1) _ (by omega) (fun c hc => ?_) (fun j hj => by rw [ms_ne (by decide)]; exact r2 j hj) (by rw [ms_ne (by decide)]; exact r3) (by rw [ms_ne (by decide)]; exact r4) (by rw [ms_ne (by decide)]; exact r5) (fun hM => (r6 hM).of (by rw [ms_ne (by decide)]) (ms_ne (by decide)) (ms_ne (by decide)) (ms_ne (by decide))) (fun j hj => ?_)
          · rw [ms_ne (fun z => hc (by rw [z]; decide))]
            exact r1 c hc
          · rw [ms_row, upd_at]
            by_cases q : j = i
            · rw [if_pos q]; rfl
            · rw [if_neg q]; exact r7 j (by omega)
    have q132' : ∀ j, j ∉ [1, 2, 3, 5, 6, 9, 13] → μ2 132 j = μ 132 j := fun j hj => q132 j (fun z => hj (by
      have : ∀ x, x ∈ [1, 2, 3, 5, 6, 9] → x ∈ [1, 2, 3, 5, 6, 9, 13] := by decide
      exact this j z))
    have qo' : ∀ c, c ∉ [132, 135, 136, 137, 138, 139, 140, 141, 142, 143] → μ2 c = μ c := fun c hc => qo c (fun z => hc (by
      have : ∀ x, x ∈ [132, 135, 136, 137] → x ∈ [132, 135, 136, 137, 138, 139, 140, 141, 142, 143] := by decide
      exact this c z))
    refine hMany μ2 _ q135 (k_X12_plan_69 X (fun y => ?_) (fun y => ?_))
    · rw [c1200] at y
      exact k_X12_plan_79 X (probe 8 0 μ2 (by omega) qo' q132' q1 q137 q135 (fun hM => by omega) (fun j hj => absurd hj (Nat.not_lt_zero j)))
    · rw [c1200] at y
      refine s_laysMixes hP (by rw [q135]; exact gP) (by omega) fun μ3 F3 h3 hX => k_X12_plan_79 X ?_
      refine probe 8 0 μ3 (by omega) (fun c hc => ?_) (fun j hj => ?_) ((h3 1 (by decide)).trans q1) ((F3 137 (by decide)).trans q137) ((F3 135 (by decide)).trans q135) (fun _ => hX) (fun j hj => absurd hj (Nat.not_lt_zero j))
      · rw [F3 c (fun z => hc (by
          have : ∀ x, x ∈ kM → x ∈ [132, 135, 136, 137, 138, 139, 140, 141, 142, 143] := by decide
          exact this c z))]
        exact qo' c hc
      · rw [h3 j (fun z => hj (by rw [z]; decide))]
        exact q132' j hj

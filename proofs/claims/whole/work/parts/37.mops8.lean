/-! THE MODEL: widen, drawn -/
def pWd (P : Pl) (lv : Nat) : Pl := (qC P + 1, qT P, up (qL P) (qC P) lv, qN P, qV P)
def sWd (s : Ps) (lv : Nat) : Ps := (pWd (zP s) lv, zn s, zR s, zt s, zx s)
def o_widen (σ : Sg) (x : Int32) : Int32 × Sg := if zC (ys σ) = 0 ∨ x < 2 ∨ 4 < x ∨ zC (ys σ) = 8 then (-1, σ) else
  if 1200 < MM (pWd (zP (ys σ)) x.toNatClampNeg) then (-1, σ) else (nI (MM (pWd (zP (ys σ)) x.toNatClampNeg)), sS (kpS σ) (sWd (ys σ) x.toNatClampNeg))
theorem PW.wd {P : Pl} (h : PW P) {lv : Nat} (hC : qC P < 8) (h2 : 2 ≤ lv) (h4 : lv ≤ 4) : PW (pWd P lv) := by
  obtain ⟨a, ⟨b1, b2, b3, b4⟩, c, d, e, f, g⟩ := h
  refine ⟨by show 2 ≤ qC P + 1; omega, ⟨b1, b2, by show qT P ≤ qC P + 1; omega, by show qC P + 1 ≤ 8; omega⟩, fun i hi => ?_, fun i hi => ?_, e, fun i j hij => ?_, g⟩
  · replace hi : i < qC P + 1 := hi
    show 2 ≤ up (qL P) (qC P) lv i ∧ up (qL P) (qC P) lv i ≤ 4
    rw [up_at]
    by_cases q : i = qC P
    · rw [if_pos q]; exact ⟨h2, h4⟩
    · rw [if_neg q]; exact c i (by omega)
  · replace hi : qC P + 1 ≤ i := hi
    show up (qL P) (qC P) lv i = 0
    rw [up_at, if_neg (by omega)]
    exact d i (by omega)
  · obtain ⟨f1, f2, f3⟩ := f i j hij
    refine ⟨f1, by show j < qC P + 1; omega, ?_⟩
    show qV P i j ≤ up (qL P) (qC P) lv j
    rw [up_at, if_neg (by omega)]
    exact f3
theorem can_wd {P : Pl} {r : Nat → Nat} {lv : Nat} (h : can P r) (h2 : 2 ≤ lv) (hr : r (qC P) = 0) : can (pWd P lv) r := by
  obtain ⟨f, h1, h3, h4⟩ := h
  refine ⟨up f (qC P) 0, fun c hc => ?_, fun c hc hn => ?_, fun i hi => ?_⟩
  · replace hc : c < qC P + 1 := hc
    show up f (qC P) 0 c < up (qL P) (qC P) lv c
    rw [up_at, up_at]
    by_cases q : c = qC P
    · rw [if_pos q, if_pos q]; omega
    · rw [if_neg q, if_neg q]; exact h1 c (by omega)
  · replace hc : c < qC P + 1 := hc
    rw [up_at]
    by_cases q : c = qC P
    · rw [q] at hn; exact absurd hr hn
    · rw [if_neg q]; exact h3 c (by omega) hn
  · obtain ⟨c, hc, a, b⟩ := h4 i hi
    refine ⟨c, by show c < qC P + 1; omega, a, ?_⟩
    rw [up_at, if_neg (by omega)]
    exact b
theorem PsOk.wd {s : Ps} (h : PsOk s) (hC : zC s ≠ 0) {lv : Nat} (hC8 : zC s < 8) (h2 : 2 ≤ lv) (h4 : lv ≤ 4) (hM : MM (pWd (zP s) lv) ≤ 1200) : PsOk (sWd s lv) := by
  obtain ⟨⟨hW, hM0, hz⟩, hr⟩ := h.2.2.2 hC
  have hW' := hW.wd hC8 h2 h4
  refine ⟨h.1, h.2.1, fun z => absurd z (Nat.succ_ne_zero _), fun _ => ⟨⟨hW', hM, (canB_iff hW').mpr (can_wd ((canB_iff hW).mp hz) h2 rfl)⟩, fun j hj => ?_⟩⟩
  obtain ⟨⟨r1, r2⟩, r3⟩ := hr j hj
  have r0 : zR s j (qC (zP s)) = 0 := by
    have := r1 (qC (zP s))
    rw [hW.2.2.2.1 _ (Nat.le_refl _)] at this
    omega
  refine ⟨⟨fun c => ?_, (canB_iff hW').mpr (can_wd ((canB_iff hW).mp r2) h2 r0)⟩, r3⟩
  show zR s j c ≤ up (qL (zP s)) (qC (zP s)) lv c
  rw [up_at]
  by_cases q : c = qC (zP s)
  · rw [if_pos q, q, r0]; omega
  · rw [if_neg q]; exact r1 c
theorem NvR.of {g g' : Nat → Int32} {a : Nat → Nat} (h : NvR g a) (he : ∀ k, k < 7 → g' k = g k) : NvR g' a := by
  obtain ⟨m, cl, le, m3, e0, ek, ec⟩ := h
  refine ⟨m, cl, le, m3, by rw [he 0 (by omega)]; exact e0, fun k hk => ?_, ec⟩
  obtain ⟨q1, q2, q3⟩ := ek k hk
  exact ⟨by rw [he _ (by omega)]; exact q1, by rw [he _ (by omega)]; exact q2, q3⟩
theorem NowP.wd0 {g g' : Nat → Int32} {P : Pl} (hC : qC P < 8) (hN : qN P ≤ 12) (h : NowP g P) (he : ∀ j, j < 97 → j ≠ 3 → j ≠ 4 → j ≠ 5 + qC P → g' j = g j) : NowP g' P := by
  obtain ⟨a, b, c, d, e⟩ := h
  refine ⟨by rw [he 0 (by omega) (by omega) (by omega) (by omega)]; exact a, by rw [he 1 (by omega) (by omega) (by omega) (by omega)]; exact b, by rw [he 2 (by omega) (by omega) (by omega) (by omega)]; exact c, fun j hj => by rw [he _ (by omega) (by omega) (by omega) (by omega)]; exact d j hj, fun i hi => (e i hi).of (fun k hk => he _ (by omega) (by omega) (by omega) (by omega))⟩
theorem NowP.wd {g g' : Nat → Int32} {P : Pl} {lv : Nat} (hC : qC P < 8) (hN : qN P ≤ 12) (h : NowP g P) (he : ∀ j, j < 97 → j ≠ 0 → j ≠ 3 → j ≠ 4 → j ≠ 5 + qC P → g' j = g j) (h0 : g' 0 = nI (qC P + 1)) (hl : g' (5 + qC P) = nI lv) : NowP g' (pWd P lv) := by
  obtain ⟨a, b, c, d, e⟩ := h
  refine ⟨h0, by rw [he 1 (by omega) (by omega) (by omega) (by omega) (by omega)]; exact b, by rw [he 2 (by omega) (by omega) (by omega) (by omega) (by omega)]; exact c, fun j hj => ?_, fun i hi => (e i hi).of (fun k hk => he _ (by
    have : i < qN P := hi
    omega) (by omega) (by omega) (by omega) (by omega))⟩
  replace hj : j < qC P + 1 := hj
  show g' (5 + j) = nI (up (qL P) (qC P) lv j)
  rw [up_at]
  by_cases q : j = qC P
  · rw [if_pos q, q]; exact hl
  · rw [if_neg q, he _ (by omega) (by omega) (by omega) (by omega) (by omega)]; exact d j (by omega)
theorem m_widen {G : mG} {μ : mM} {σ : Sg} (ok : SgOk σ) (hm : Mr σ μ) (x : Int32) : Km G mX12_widen [.ref (gb G + 132), .int x] μ (o_widen σ x) := by
  intro Q k
  unfold o_widen at k
  have hC8 := zC_le ok.2.2.1
  have h00 := hm.2.1.1.2.1
  have e8 : μ 135 0 = 8 ↔ zC (ys σ) = 8 := by rw [h00]; exact nI_eq (b := 8) (by omega) (by omega)
  refine e_X12_widen fun E C => k_X12_widen_0 C (fun p => ?_) (fun _ _ _ p => ?_) (fun p p1 p2 p3 => ?_)
  · rw [noPl ok.2.2.1 hm.2.1.1, lg2_lt, lg4_gt, e8] at p
    rw [if_pos (by
      rcases p with p | ⟨-, (p | ⟨-, p⟩) | ⟨-, -, p⟩⟩
      · exact Or.inl p
      · exact Or.inr (Or.inl p)
      · exact Or.inr (Or.inr (Or.inl p))
      · exact Or.inr (Or.inr (Or.inr p)))] at k
    exact k μ (Fr.rf _ μ) hm
  · rw [h00]
    simp (disch := omega) only [ofNat_nI, nI_add, pk_mul, nI_clamp, nI_leI, nI_ltI, nI_eq, vp_in_nI_iff, nI_subr, nI_m1r, m1_eq, m1_eq2, m1_le, m1_le2, m1_lt, m1_lt2, m1_self, cv_sub, cv_add1, cv_eq, cv_eqI, cv_eqI2, cv_m1, cv_lt0, cv_leI, cv_Ile, cv_le, cv_lt, cv_Ilt, cv_ltI, not_true, not_false_iff, true_implies, false_implies, false_or, or_false, true_and, and_true, false_and, and_false, true_or, or_true]
    omega
  · rw [noPl ok.2.2.1 hm.2.1.1] at p
    rw [lg2_lt] at p1
    rw [lg4_gt] at p2
    rw [e8] at p3
    rw [if_neg (by rintro (z | z | z | z); exact p z; exact p1 z; exact p2 z; exact p3 z)] at k
    obtain ⟨lv, hlv, rfl⟩ := nI_of (x := x) (fun z => p1 (by
      rw [Int32.lt_iff_toInt_lt] at z ⊢
      have a : ((0 : Int32)).toInt = 0 := by decide
      have b : ((2 : Int32)).toInt = 2 := by decide
      omega))
    have l2 : 2 ≤ lv := Nat.le_of_not_lt fun z => p1 ((nI_ltI (b := 2) hlv (by omega)).mpr z)
    have l4 : lv ≤ 4 := Nat.le_of_not_lt fun z => p2 ((nI_ltI (a := 4) (by omega) hlv).mpr z)
    rw [nI_clamp hlv] at k
    obtain ⟨hP, hr, hX⟩ : NowP (μ 135) (zP (ys σ)) ∧ RowsM (μ 135) (zn (ys σ)) (zR (ys σ)) (zt (ys σ)) ∧ MixM μ (zP (ys σ)) := MrN.row hm p
    obtain ⟨⟨hW, hM, -⟩, hro⟩ := ok.2.2.1.2.2.2 p
    have hC7 : qC (zP (ys σ)) < 8 := by
      have : zC (ys σ) ≠ 8 := p3
      have : zC (ys σ) ≤ 8 := hC8
      exact Nat.lt_of_le_of_ne hC8 p3
    have hW' := hW.wd hC7 l2 l4
    have hN := hW.2.2.2.2.1
    have hn64 := ok.2.2.1.2.1
    have hMM' := hW'.MM_le
    generalize hc : qC (zP (ys σ)) = c at *
    have h0 : μ 135 0 = nI c := hP.1.trans (by rw [hc])
    have e5 : (5 + nI c : Int32) = nI (5 + c) := nI_add 5 c
    have e5c : (5 + nI c : Int32).toNatClampNeg = 5 + c := by rw [e5]; exact nI_clamp (by omega)
    have a1 : ms μ 135 (5 + c) (nI lv) 135 0 = nI c := by rw [ms_row, upd_at, if_neg (by omega)]; exact h0
    rw [h0, e5c, a1, show nI c + 1 = nI (c + 1) from nI_1 c, ms_mrw0 μ, ms_mrw]
    have g1 : ∀ j, j ≠ 0 → j ≠ 5 + c → upd (upd (μ 135) (5 + c) (nI lv)) 0 (nI (c + 1)) j = μ 135 j := fun j a b => by rw [upd_at, if_neg a, upd_at, if_neg b]
    have g0 : upd (upd (μ 135) (5 + c) (nI lv)) 0 (nI (c + 1)) 0 = nI (c + 1) := by rw [upd_at, if_pos rfl]
    have g5 : upd (upd (μ 135) (5 + c) (nI lv)) 0 (nI (c + 1)) (5 + c) = nI lv := by rw [upd_at, if_neg (by omega), upd_at, if_pos rfl]
    generalize upd (upd (μ 135) (5 + c) (nI lv)) 0 (nI (c + 1)) = ga at g1 g0 g5
    have hPa : NowP ga (pWd (zP (ys σ)) lv) := by
      refine NowP.wd (by rw [hc]; exact hC7) hN hP (fun j _ a _ _ b => g1 j a (by rw [hc] at b; exact b)) (by rw [hc]; exact g0) (by rw [hc]; exact g5)
    have hct : ctOk (c + 1) (qT (zP (ys σ))) := by
      have := hW'.ct
      rw [show qC (pWd (zP (ys σ)) lv) = c + 1 by show qC (zP (ys σ)) + 1 = _; rw [hc]] at this
      exact this
    refine s_mixMany (C := c + 1) (T := qT (zP (ys σ))) (L := qL (pWd (zP (ys σ)) lv)) hct (by rw [mrw_at]; exact g0) (by rw [mrw_at]; exact hPa.2.1) (fun i hi => by
      rw [mrw_at]
      exact hPa.2.2.2.1 i (by show i < qC (zP (ys σ)) + 1; rw [hc]; exact hi)) ?_
    have eMM : nx (c + 1) (qL (pWd (zP (ys σ)) lv)) (qT (zP (ys σ))) 0 = MM (pWd (zP (ys σ)) lv) := by
      rw [MM_nx]
      show _ = nx (qC (zP (ys σ)) + 1) _ _ 0
      rw [hc]
      rfl
    rw [eMM]
    have em1 : (mrw μ 135 ga) 135 0 - 1 = nI c := by rw [mrw_at, g0]; exact nI_pred c
    -- back to what it was
    have g2 : ∀ j, j ≠ 5 + c → upd (upd ga 0 (nI c)) (5 + c) 0 j = μ 135 j := fun j a => by
      rw [upd_at, if_neg a, upd_at]
      by_cases q : j = 0
      · rw [if_pos q, q, h0]
      · rw [if_neg q]; exact g1 j q a
    have eB : ms (ms (mrw μ 135 ga) 135 0 ((mrw μ 135 ga) 135 0 - 1)) 135 (5 + ((mrw μ 135 ga) 135 0 - 1)).toNatClampNeg 0 = mrw μ 135 (upd (upd ga 0 (nI c)) (5 + c) 0) := by
      rw [em1, e5c, ms_mrw, ms_mrw]
    generalize upd (upd ga 0 (nI c)) (5 + c) 0 = gb' at g2 eB
    have hSb : NowS gb' (ys σ) := by
      obtain ⟨b1, b2, b3, b4, b5⟩ := hm.2.1.1
      refine ⟨by rw [g2 4 (by omega)]; exact b1, by rw [g2 0 (by omega)]; exact b2, by rw [g2 3 (by omega)]; exact b3, by rw [g2 2 (by omega)]; exact b4, fun _ => ⟨?_, ?_⟩⟩
      · exact NowP.wd0 (by rw [hc]; exact hC7) hN hP (fun j _ _ _ b => g2 j (by rw [hc] at b; exact b))
      · obtain ⟨r3, r64, rr, rt⟩ := hr
        exact ⟨by rw [g2 3 (by omega)]; exact r3, r64, fun j hj => (rr j hj).of (fun i hi => g2 _ (by omega)), fun j hj => by rw [g2 _ (by omega)]; exact rt j hj⟩
    have hmB : Mr σ (mrw μ 135 gb') := hm.row (s := ys σ) rfl hSb
    have c1200 : ∀ v : Int32, ((1200 < nI (MM (pWd (zP (ys σ)) lv)) ∧ v = 0) ∨ (¬ 1200 < nI (MM (pWd (zP (ys σ)) lv)) ∧ v = 1)) → (v = 0 ↔ 1200 < MM (pWd (zP (ys σ)) lv)) := fun v hv => by
      have := nI_ltI (a := 1200) (b := MM (pWd (zP (ys σ)) lv)) (by omega) (by omega)
      rcases hv with ⟨z, rfl⟩ | ⟨z, rfl⟩
      · exact ⟨fun _ => this.mp z, fun _ => rfl⟩
      · exact ⟨fun y => absurd y (by decide), fun y => absurd (this.mpr y) z⟩
    refine k_X12_widen_62 C (fun v hv => ?_) (fun v hv z => ?_) (fun v hv z => ?_)
    · rw [em1, e5]
      simp (disch := omega) only [ofNat_nI, nI_add, pk_mul, nI_clamp, nI_leI, nI_ltI, nI_eq, vp_in_nI_iff, nI_subr, nI_m1r, m1_eq, m1_eq2, m1_le, m1_le2, m1_lt, m1_lt2, m1_self, cv_sub, cv_add1, cv_eq, cv_eqI, cv_eqI2, cv_m1, cv_lt0, cv_leI, cv_Ile, cv_le, cv_lt, cv_Ilt, cv_ltI, not_true, not_false_iff, true_implies, false_implies, false_or, or_false, true_and, and_true, false_and, and_false, true_or, or_true]
      omega
    · rw [c1200 v hv] at z
      rw [if_neg z] at k
      rw [eB]
      have okW : PsOk (sWd (ys σ) lv) := ok.2.2.1.wd p (by rw [zC, hc]; exact hC7) l2 l4 (by omega)
      refine m_keepsAct ok hmB fun μ2 F2 e2 hm2 => ?_
      have hP2 : NowP (μ2 135) (zP (ys σ)) := (MrN.row hm2 p).1
      have hr2 : RowsM (μ2 135) (zn (ys σ)) (zR (ys σ)) (zt (ys σ)) := (MrN.row hm2 p).2.1
      have h02 : μ2 135 0 = nI c := hP2.1.trans (by rw [hc])
      have hx2 : μ2 135 4 = nI (zx (ys σ)) := hm2.2.1.1.1
      have hn2 : μ2 135 2 = nI (qN (zP (ys σ))) := hm2.2.1.1.2.2.2.1
      obtain ⟨mT, -, mU, mK⟩ := hm2
      refine k_X12_widen_122 C ?_ ?_
      · rw [h02, e5]
        simp (disch := omega) only [ofNat_nI, nI_add, pk_mul, nI_clamp, nI_leI, nI_ltI, nI_eq, vp_in_nI_iff, nI_subr, nI_m1r, m1_eq, m1_eq2, m1_le, m1_le2, m1_lt, m1_lt2, m1_self, cv_sub, cv_add1, cv_eq, cv_eqI, cv_eqI2, cv_m1, cv_lt0, cv_leI, cv_Ile, cv_le, cv_lt, cv_Ilt, cv_ltI, not_true, not_false_iff, true_implies, false_implies, false_or, or_false, true_and, and_true, false_and, and_false, true_or, or_true]
        omega
      · rw [h02, e5c, ms_mrw0]
        have loop : ∀ (d j : Nat) (g : Nat → Int32), j + d = zn (ys σ) → (∀ i, i < 97 → g i = upd (μ2 135) (5 + c) (nI lv) i) → RowsM g (zn (ys σ)) (zR (ys σ)) (zt (ys σ)) →
            Wm G mX12_widen E (bm G mX12_widen E (pI Q)) (mrw μ2 135 g) 138 [(0, .ref (gb G + 132)), (3, .int (nI j))] [] := by
          intro d
          induction d with
          | zero =>
            intro j g hj q1 q2
            have q0 : g 0 = nI c := by rw [q1 0 (by omega), upd_at, if_neg (by omega)]; exact h02
            refine k_X12_widen_138 C (fun _ => ?_) (fun y => ?_) (fun y => ?_)
            · rw [mrw_at, q0, show nI c + 1 = nI (c + 1) from nI_1 c, ms_mrw]
              have hPg : NowP (upd g 0 (nI (c + 1))) (pWd (zP (ys σ)) lv) := by
                refine NowP.wd (by rw [hc]; exact hC7) hN hP2 (fun i hi a _ _ b => ?_) (by rw [upd_at, if_pos rfl, hc]) ?_
                · rw [hc] at b
                  rw [upd_at, if_neg a, q1 i hi, upd_at, if_neg b]
                · rw [hc, upd_at, if_neg (by omega), q1 _ (by omega), upd_at, if_pos rfl]
              have hRg : RowsM (upd g 0 (nI (c + 1))) (zn (ys σ)) (zR (ys σ)) (zt (ys σ)) := by
                obtain ⟨r3, r64, rr, rt⟩ := q2
                exact ⟨by rw [upd_at, if_neg (by omega)]; exact r3, r64, fun j hj => (rr j hj).of (fun i hi => by rw [upd_at, if_neg (by omega)]), fun j hj => by rw [upd_at, if_neg (by omega)]; exact rt j hj⟩
              refine m_lays (σ := sS (kpS σ) (sWd (ys σ) lv)) okW (Nat.succ_ne_zero _) (mT.of (by rw [mrw_ne (by decide)]) (mrw_ne (by decide)) (mrw_ne (by decide))) ?_ (mU.of (by rw [mrw_ne (by decide)]) (mrw_ne (by decide))) (mK.of (mrw_ne (by decide)) (mrw_ne (by decide))) fun μ3 F3 hm3 => k_X12_widen_189 C ?_
              · rw [mrw_at]
                refine ⟨?_, hPg.1, hRg.1, hPg.2.2.1, fun _ => ⟨hPg, hRg⟩⟩
                rw [upd_at, if_neg (by omega), q1 4 (by omega), upd_at, if_neg (by omega)]
                exact hx2
              · have e13 : μ3 132 13 = nI (MM (pWd (zP (ys σ)) lv)) := (hm3.2.1.2 (Nat.succ_ne_zero _)).1
                rw [e13]
                refine k μ3 ((((Fr.rf KM μ).mrw (c := 135) (f := gb') (by decide)).tr (F2.mono (by decide))).tr (Fr.tr ((Fr.rf KM μ2).mrw (c := 135) (by decide)) (F3.mono (by decide)))) hm3
            all_goals
              exfalso
              revert y
              rw [mrw_at, q2.1]
              simp (disch := omega) only [ofNat_nI, nI_add, pk_mul, nI_clamp, nI_leI, nI_ltI, nI_eq, vp_in_nI_iff, nI_subr, nI_m1r, m1_eq, m1_eq2, m1_le, m1_le2, m1_lt, m1_lt2, m1_self, cv_sub, cv_add1, cv_eq, cv_eqI, cv_eqI2, cv_m1, cv_lt0, cv_leI, cv_Ile, cv_le, cv_lt, cv_Ilt, cv_ltI, not_true, not_false_iff, true_implies, false_implies, false_or, or_false, true_and, and_true, false_and, and_false, true_or, or_true]
              omega
          | succ d ih =>
            intro j g hj q1 q2
            have q0 : g 0 = nI c := by rw [q1 0 (by omega), upd_at, if_neg (by omega)]; exact h02
            refine k_X12_widen_138 C (fun y => ?_) (fun _ => ?_) (fun _ => ?_)
            · exfalso
              revert y
              rw [mrw_at, q2.1]
              simp (disch := omega) only [ofNat_nI, nI_add, pk_mul, nI_clamp, nI_leI, nI_ltI, nI_eq, vp_in_nI_iff, nI_subr, nI_m1r, m1_eq, m1_eq2, m1_le, m1_le2, m1_lt, m1_lt2, m1_self, cv_sub, cv_add1, cv_eq, cv_eqI, cv_eqI2, cv_m1, cv_lt0, cv_leI, cv_Ile, cv_le, cv_lt, cv_Ilt, cv_ltI, not_true, not_false_iff, true_implies, false_implies, false_or, or_false, true_and, and_true, false_and, and_false, true_or, or_true]
              omega
            · rw [mrw_at, q0]
              simp (disch := omega) only [ofNat_nI, nI_add, pk_mul, nI_clamp, nI_leI, nI_ltI, nI_eq, vp_in_nI_iff, nI_subr, nI_m1r, m1_eq, m1_eq2, m1_le, m1_le2, m1_lt, m1_lt2, m1_self, cv_sub, cv_add1, cv_eq, cv_eqI, cv_eqI2, cv_m1, cv_lt0, cv_leI, cv_Ile, cv_le, cv_lt, cv_Ilt, cv_ltI, not_true, not_false_iff, true_implies, false_implies, false_or, or_false, true_and, and_true, false_and, and_false, true_or, or_true]
              omega
            · have r0 : zR (ys σ) j c = 0 := by
                have := (hro j (by omega)).1.1 c
                rw [hW.2.2.2.1 c (by omega)] at this
                omega
              have ea : (161 + 8 * nI j + nI c).toNatClampNeg = 161 + 8 * j + c := by
                simp (disch := omega) only [ofNat_nI, nI_add, pk_mul, nI_clamp, nI_leI, nI_ltI, nI_eq, vp_in_nI_iff, nI_subr, nI_m1r, m1_eq, m1_eq2, m1_le, m1_le2, m1_lt, m1_lt2, m1_self, cv_sub, cv_add1, cv_eq, cv_eqI, cv_eqI2, cv_m1, cv_lt0, cv_leI, cv_Ile, cv_le, cv_lt, cv_Ilt, cv_ltI, not_true, not_false_iff, true_implies, false_implies, false_or, or_false, true_and, and_true, false_and, and_false, true_or, or_true]
              rw [mrw_at, q0, ea, ms_mrw]
              simp (disch := omega) only [ofNat_nI, nI_add, pk_mul, nI_clamp, nI_leI, nI_ltI, nI_eq, vp_in_nI_iff, nI_subr, nI_m1r, m1_eq, m1_eq2, m1_le, m1_le2, m1_lt, m1_lt2, m1_self, cv_sub, cv_add1, cv_eq, cv_eqI, cv_eqI2, cv_m1, cv_lt0, cv_leI, cv_Ile, cv_le, cv_lt, cv_Ilt, cv_ltI, not_true, not_false_iff, true_implies, false_implies, false_or, or_false, true_and, and_true, false_and, and_false, true_or, or_true]
              refine ih (j + 1) _ (by omega) (fun i hi => by rw [upd_at, if_neg (by omega)]; exact q1 i hi) ?_
              obtain ⟨r3, r64, rr, rt⟩ := q2
              refine ⟨by rw [upd_at, if_neg (by omega)]; exact r3, r64, fun i hi => ?_, fun i hi => by rw [upd_at, if_neg (by omega)]; exact rt i hi⟩
              intro c' hc'
              rw [upd_at]
              by_cases q : i = j ∧ c' = c
              · obtain ⟨rfl, rfl⟩ := q
                rw [if_pos rfl, r0]
                exact ⟨rfl, by omega⟩
              · rw [if_neg (by
                  intro z
                  apply q
                  omega)]
                exact rr i hi c' hc'
        exact loop (zn (ys σ)) 0 _ (by omega) (fun i _ => rfl) (by
          obtain ⟨r3, r64, rr, rt⟩ := hr2
          exact ⟨by rw [upd_at, if_neg (by omega)]; exact r3, r64, fun j hj => (rr j hj).of (fun i hi => by rw [upd_at, if_neg (by omega)]), fun j hj => by rw [upd_at, if_neg (by omega)]; exact rt j hj⟩)
    · rw [c1200 v hv] at z
      rw [if_pos z] at k
      rw [eB]
      exact k _ ((Fr.rf _ μ).mrw (by decide)) hmB

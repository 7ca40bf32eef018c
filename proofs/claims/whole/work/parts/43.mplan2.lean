/-! THE MODEL: all read, plan -/
theorem s_readsAll {G : mG} {Q : Int32 → mM → Prop} {μ : mM} {T : Tx} (ht : Tm T μ)
    (k0 : ∀ μ' x, prP T = .inl x → PR μ μ' → μ' 132 3 = nI x → Q 0 μ')
    (k1 : ∀ μ' P, prP T = .inr P → PR μ μ' → RdP (μ' 136) P → Q 1 μ') : CtI G mX12_readsAll [.ref (gb G + 132)] μ Q := by
  have hn := ht.1
  refine e_X12_readsAll fun E X => k_X12_readsAll_0 X ?_
  have lines : ∀ (f p : Nat) (h : Bool) (P : Pl) (μ' : mM), T.2 < sb T p + f → p ≤ T.2 → μ' 132 2 = nI p → PR μ μ' → μ' 132 9 = nI h.toNat → PW P → RdP (μ' 136) P → lnP T f (sb T p) h P = prP T →
      Wm G mX12_readsAll E (bm G mX12_readsAll E (pI Q)) μ' 65 [(0, .ref (gb G + 132))] [] := by
    intro f
    induction f with
    | zero =>
      intro p h P μ' hf hp
      have := (sb_ge T p).2.2 hp
      omega
    | succ f ih =>
      intro p h P μ' hf hp h2 hPR h9 hP hg e
      refine k_X12_readsAll_65 X (s_next (ht.pr hPR) hp h2 fun μ1 C1 h12 => ?_)
      have ha := (sb_ge T p).2.2 hp
      have hss := sb_sb T p
      generalize sb T p = a at *
      have P1 : PR μ μ1 := hPR.tr (C1.pr (by decide))
      have h19 : μ1 132 9 = nI h.toNat := (C1.2 9 (by decide)).trans h9
      have g1 : μ1 136 = μ' 136 := C1.1 136 (by decide)
      have h59 : btI T a = 59 ↔ isC T a 59 = true := btC (ch := 59) (ht.2.1 _) (by decide)
      have hm1 : btI T a = -1 ↔ T.2 ≤ a := by
        unfold btI
        by_cases q : T.2 ≤ a
        · rw [if_pos q]; exact ⟨fun _ => q, fun _ => rfl⟩
        · rw [if_neg q]
          refine ⟨fun z => ?_, fun z => absurd z q⟩
          have := congrArg Int32.toInt z
          have h256 := ht.2.1 a
          rw [nI_toInt (by omega)] at this
          have em : ((-1 : Int32)).toInt = -1 := by decide
          omega
      rw [lnP] at e
      refine k_X12_readsAll_69 X (fun z => ?_) (fun z => ?_)
      · rw [h59] at z
        refine s_next (ht.pr P1) ha h12 fun μ2 C2 h22 => ?_
        rw [hss] at h22 ⊢
        have P2 : PR μ μ2 := P1.tr (C2.pr (by decide))
        refine k_X12_readsAll_135 X (fun y => ?_) (fun y => ?_)
        · rw [hm1] at y
          rw [if_pos y] at e
          exact k1 μ2 P e.symm P2 (by rw [C2.1 136 (by decide), g1]; exact hg)
        · rw [hm1] at y
          rw [if_neg y, if_neg z] at e
          refine k0 _ _ e.symm (P2.m2 (by decide)) ?_
          rw [ms_row, upd_at, if_pos rfl, h22, show (8 : Int32) = nI 8 from rfl, pk_mul]
          exact nI_add _ 1
      · rw [h59] at z
        have hal := (isC_iff.mp z).1
        rw [if_neg (by omega), if_pos z] at e
        have h32 : (ms μ1 132 2 (μ1 132 2 + 1)) 132 2 = nI (a + 1) := by rw [ms_row, upd_at, if_pos rfl, h12]; exact nI_1 a
        have P3 : PR μ (ms μ1 132 2 (μ1 132 2 + 1)) := P1.m2 (by decide)
        have h39 : (ms μ1 132 2 (μ1 132 2 + 1)) 132 9 = nI h.toNat := by rw [ms_row, upd_at, if_neg (by decide)]; exact h19
        have g3 : (ms μ1 132 2 (μ1 132 2 + 1)) 136 = μ' 136 := by rw [ms_ne (by decide)]; exact g1
        generalize ms μ1 132 2 (μ1 132 2 + 1) = μ3 at h32 P3 h39 g3 ⊢
        refine s_wordHere (ht.pr P3) (show a + 1 ≤ T.2 by omega) h32 fun μ4 C4 h42 => ?_
        obtain ⟨b1, b2, b3⟩ := sb_ge T (a + 1)
        have hb := b3 (by omega)
        have P4 : PR μ μ4 := P3.tr (C4.pr (by decide))
        have h49 : μ4 132 9 = nI h.toNat := (C4.2 9 (by decide)).trans h39
        have g4 : μ4 136 = μ' 136 := (C4.1 136 (by decide)).trans g3
        have hg4 : RdP (μ4 136) P := by rw [g4]; exact hg
        generalize sb T (a + 1) = b at *
        have other : wdB T 1 b = false → wdB T 2 b = false → ∀ v : Int32, ¬ 1 ≤ v → Wm G mX12_readsAll E (bm G mX12_readsAll E (pI Q)) μ4 88 [(0, .ref (gb G + 132))] [.int v] := fun y1 y2 v hv => by
          rw [if_neg (by rw [y1]; decide), if_neg (by rw [y2]; decide)] at e
          refine k_X12_readsAll_88 X (fun y => absurd y hv) (fun y => absurd y hv) (fun _ => ?_)
          refine k0 _ _ e.symm (P4.m2 (by decide)) ?_
          rw [ms_row, upd_at, if_pos rfl, h42, show (8 : Int32) = nI 8 from rfl, pk_mul]
          exact nI_add _ 1
        refine ⟨fun w hw hwd hwo => ?_, fun hno => other (hno 1 (by omega)) (hno 2 (by omega)) (-1) (by decide)⟩
        have hw3 : w = 0 ∨ w = 1 ∨ w = 2 := by omega
        rcases hw3 with rfl | rfl | rfl
        · obtain ⟨y1, y2⟩ := wdB_ne.1 hwd
          exact other y1 y2 (nI 0) (by decide)
        · rw [if_pos hwd] at e
          refine k_X12_readsAll_88 X (fun _ y => absurd rfl y) (fun _ _ => ?_) (fun y => absurd (by decide) y)
          refine s_readsStrength (ht.pr P4) hb h42 hwd hP hg4 h49 (fun μ5 x hx hc P5 h53 => ?_) (fun μ5 hh hD hr P5 h59 h52 hg5 => ?_)
          · refine k_X12_readsAll_113 X (fun _ => ?_) (fun y => absurd rfl y)
            refine k0 μ5 x ?_ (P4.tr P5) h53
            rw [← e, hx]
            by_cases y1 : h = true
            · rw [if_pos y1, if_pos y1]
            · rw [if_neg y1, if_neg y1]
              by_cases y2 : isD T (sb T (b + 8)) = true
              · rw [if_pos y2, if_pos y2, if_pos (by
                  rcases hc with y | y | y
                  · exact absurd y y1
                  · rw [y] at y2; cases y2
                  · exact y)]
              · rw [if_neg y2, if_neg y2]
          · rw [if_neg (by rw [hh]; decide), if_pos hD, if_neg hr] at e
            refine k_X12_readsAll_113 X (fun y => absurd y (by decide)) (fun _ => ?_)
            have hb8 : b + 8 ≤ T.2 := wdB_le (w := 1) (by omega) hwd
            obtain ⟨c1, c2, c3⟩ := sb_ge T (b + 8)
            obtain ⟨d1, d2, d3⟩ := sd_ge T (sb T (b + 8))
            obtain ⟨e1, e2, e3⟩ := sb_ge T (sd T (sb T (b + 8)))
            have := d3 (c3 hb8)
            refine ih _ true _ μ5 (by omega) this h52 (P4.tr P5) (by rw [h59]; rfl) (hP.str (by omega) (by omega)) hg5 e
        · rw [if_neg (by rw [(wdB_ne.2.2 hwd).2]; decide), if_pos hwd] at e
          refine k_X12_readsAll_88 X (fun _ _ => ?_) (fun _ y => absurd y (by decide)) (fun y => absurd (by decide) y)
          refine s_readsNever (ht.pr P4) hb h42 hwd hP hg4 (fun μ5 x hx P5 h53 => ?_) (fun μ5 q hN hq P5 h59 hq1 hqs hqb h52 hg5 => ?_)
          · refine k_X12_readsAll_123 X (fun y => absurd rfl y) (fun _ => ?_)
            refine k0 μ5 x ?_ (P4.tr P5) h53
            rw [← e]
            rcases hx with ⟨y1, y2⟩ | ⟨y1, y2⟩
            · rw [if_pos y1, y2]
            · rw [if_neg y1, y2]
          · rw [if_neg hN, hq] at e
            refine k_X12_readsAll_123 X (fun _ => ?_) (fun y => absurd y (by decide))
            obtain ⟨v1, v2⟩ := clP_ok T (qC P) (qL P) 4 _ 0 (fun _ => 0) q (fun c hc => absurd rfl hc) hq
            refine ih q.1 h _ μ5 (by rw [hqs]; omega) hq1 h52 (P4.tr P5) (by rw [h59]; exact h49) (hP.nev (by have := hP.2.2.2.2.1; omega) v1 v2) hg5 ?_
            rw [hqs]
            exact e
  have zero : ∀ (d i : Nat) (μ' : mM), i + d = 673 → PR μ μ' → μ' 132 2 = 0 → μ' 132 9 = 0 → (∀ j, j < i → μ' 136 j = 0) → Wm G mX12_readsAll E (bm G mX12_readsAll E (pI Q)) μ' 12 [(0, .ref (gb G + 132)), (1, .int (nI i))] [] := by
    intro d
    induction d with
    | zero =>
      intro i μ' hi hPR h2 h9 hz
      refine k_X12_readsAll_12 X (fun _ => ?_) (fun z => ?_) (fun z => ?_)
      · have hPR' : PR μ (ms μ' 136 1 2) := hPR.m6
        refine s_wordHere (ht.pr hPR') (Nat.zero_le _) (by rw [ms_ne (by decide)]; exact h2) fun μ1 C1 h12 => ?_
        obtain ⟨b1, b2, b3⟩ := sb_ge T 0
        have hb := b3 (Nat.zero_le _)
        have P1 : PR μ μ1 := hPR'.tr (C1.pr (by decide))
        have h19 : μ1 132 9 = 0 := by rw [C1.2 9 (by decide), ms_ne (by decide)]; exact h9
        have z1 : ∀ j, j < 673 → j ≠ 1 → μ1 136 j = 0 := fun j hj hj1 => by rw [C1.1 136 (by decide), ms_row, upd_at, if_neg hj1]; exact hz j (by omega)
        have z2 : μ1 136 1 = 2 := by rw [C1.1 136 (by decide), ms_row, upd_at, if_pos rfl]
        have hg1 : RdP (μ1 136) (0, 2, fun _ => 0, 0, fun _ _ => 0) := ⟨⟨z1 0 (by omega) (by omega), z2, z1 2 (by omega) (by omega), fun c hc => absurd hc (Nat.not_lt_zero c), fun c hc => absurd hc (Nat.not_lt_zero c)⟩, z1 3 (by omega) (by omega)⟩
        have e : prP T = if wdB T 0 (sb T 0) = true then (match lvP T 10 (sb T (sb T 0 + 6)) 0 (fun _ => 0) with | .inl x => .inl x | .inr q => lnP T (T.2 + 1) q.1 false (q.2.1, 2, q.2.2, 0, fun _ _ => 0)) else .inl (8 * sb T 0 + 1) := rfl
        generalize sb T 0 = b at *
        have other : wdB T 0 b = false → ∀ v : Int32, ¬ v = 0 → Wm G mX12_readsAll E (bm G mX12_readsAll E (pI Q)) μ1 43 [(0, .ref (gb G + 132))] [.int v] := fun y v hv => by
          rw [if_neg (by rw [y]; decide)] at e
          refine k_X12_readsAll_43 X (fun y => absurd y hv) (fun _ => ?_)
          refine k0 _ _ e (P1.m2 (by decide)) ?_
          rw [ms_row, upd_at, if_pos rfl, h12, show (8 : Int32) = nI 8 from rfl, pk_mul]
          exact nI_add _ 1
        refine ⟨fun w hw hwd hwo => ?_, fun hno => other (hno 0 (by omega)) (-1) (by decide)⟩
        by_cases w0 : w = 0
        · subst w0
          rw [if_pos hwd] at e
          refine k_X12_readsAll_43 X (fun _ => ?_) (fun y => absurd rfl y)
          refine s_readsLevels (ht.pr P1) hb h12 hwd hg1 (fun μ2 x hx P2 h29 h23 => ?_) (fun μ2 q hq P2 h29 hq1 hqs h22 hg2 => ?_)
          · rw [hx] at e
            exact k_X12_readsAll_60 X (fun y => absurd rfl y) (fun _ => k0 μ2 x e (P1.tr P2) h23)
          · rw [hq] at e
            refine k_X12_readsAll_60 X (fun _ => ?_) (fun y => absurd y (by decide))
            refine lines (T.2 + 1) q.1 false _ μ2 (by omega) hq1 h22 (P1.tr P2) (by rw [h29, h19]; rfl) (lvP_ok T 10 _ 0 _ q (by omega) (fun c hc => absurd hc (Nat.not_lt_zero c)) (fun _ _ => rfl) hq) hg2 ?_
            rw [hqs]
            exact e.symm
        · refine other (hwo 0 (by omega)) (nI w) (nI_ne0 (by omega) (by omega))
      all_goals
        exfalso
        revert z
        simp (disch := omega) only [ofNat_nI, nI_add, pk_mul, nI_clamp, nI_leI, nI_ltI, nI_eq, vp_in_nI_iff, nI_subr, nI_m1r, m1_eq, m1_eq2, m1_le, m1_le2, m1_lt, m1_lt2, m1_self, cv_sub, cv_add1, cv_eq, cv_eqI, cv_eqI2, cv_m1, cv_lt0, cv_leI, cv_Ile, cv_le, cv_lt, cv_Ilt, cv_ltI, not_true, not_false_iff, true_implies, false_implies, false_or, or_false, true_and, and_true, false_and, and_false, true_or, or_true]
        omega
    | succ d ih =>
      intro i μ' hi hPR h2 h9 hz
      refine k_X12_readsAll_12 X (fun z => ?_) (fun _ => ?_) (fun _ => ?_)
      · exfalso
        revert z
        simp (disch := omega) only [ofNat_nI, nI_add, pk_mul, nI_clamp, nI_leI, nI_ltI, nI_eq, vp_in_nI_iff, nI_subr, nI_m1r, m1_eq, m1_eq2, m1_le, m1_le2, m1_lt, m1_lt2, m1_self, cv_sub, cv_add1, cv_eq, cv_eqI, cv_eqI2, cv_m1, cv_lt0, cv_leI, cv_Ile, cv_le, cv_lt, cv_Ilt, cv_ltI, not_true, not_false_iff, true_implies, false_implies, false_or, or_false, true_and, and_true, false_and, and_false, true_or, or_true]
        omega
      · simp (disch := omega) only [ofNat_nI, nI_add, pk_mul, nI_clamp, nI_leI, nI_ltI, nI_eq, vp_in_nI_iff, nI_subr, nI_m1r, m1_eq, m1_eq2, m1_le, m1_le2, m1_lt, m1_lt2, m1_self, cv_sub, cv_add1, cv_eq, cv_eqI, cv_eqI2, cv_m1, cv_lt0, cv_leI, cv_Ile, cv_le, cv_lt, cv_Ilt, cv_ltI, not_true, not_false_iff, true_implies, false_implies, false_or, or_false, true_and, and_true, false_and, and_false, true_or, or_true]
        omega
      · rw [nI_clamp (by omega)]
        simp (disch := omega) only [ofNat_nI, nI_add, pk_mul, nI_clamp, nI_leI, nI_ltI, nI_eq, vp_in_nI_iff, nI_subr, nI_m1r, m1_eq, m1_eq2, m1_le, m1_le2, m1_lt, m1_lt2, m1_self, cv_sub, cv_add1, cv_eq, cv_eqI, cv_eqI2, cv_m1, cv_lt0, cv_leI, cv_Ile, cv_le, cv_lt, cv_Ilt, cv_ltI, not_true, not_false_iff, true_implies, false_implies, false_or, or_false, true_and, and_true, false_and, and_false, true_or, or_true]
        refine ih (i + 1) _ (by omega) hPR.m6 (by rw [ms_ne (by decide)]; exact h2) (by rw [ms_ne (by decide)]; exact h9) (fun j hj => ?_)
        rw [ms_row, upd_at]
        by_cases q : j = i
        · rw [if_pos q]; rfl
        · rw [if_neg q]; exact hz j (by omega)
  refine zero 673 0 _ (by omega) (((PR.rf μ).m2 (by decide)).m2 (by decide)) ?_ ?_ (fun j hj => absurd hj (Nat.not_lt_zero j))
  · rw [ms_row, upd_at, if_neg (by decide), ms_row, upd_at, if_pos rfl]
  · rw [ms_row, upd_at, if_pos rfl]

/-! THE CLASS: widen, plan, field -/
theorem x_widen {G : mG} {μ : mM} {σ : Sg} (ok : SgOk σ) (h : Cr σ μ) (x : Int32) : Kc G mX11_widen [.ref (gb G + 0), .int x] μ (o_widen σ x) := by
  intro Q k
  unfold o_widen at k
  have h8 := zC_le ok.2.2.1
  have e8 : 8 ≤ μ 15 0 ↔ zC (ys σ) = 8 := by
    rw [h.c]
    exact (nI_leI (a := 8) (by omega) (by omega)).trans (by omega)
  have h15 : sh 15 = (0, 3) := rfl
  refine e_X11_widen fun E C => k_X11_widen_0 C (fun p => ?_) (fun p1 p2 p3 p4 => ?_)
  · rw [noPlC ok h, e8] at p
    rw [if_pos (by
      rcases p with p | ⟨-, p | ⟨-, p | ⟨-, p⟩⟩⟩
      · exact Or.inl p
      · exact Or.inr (Or.inl p)
      · exact Or.inr (Or.inr (Or.inl p))
      · exact Or.inr (Or.inr (Or.inr p)))] at k
    exact k μ (fun _ _ => rfl) h
  · rw [noPlC ok h] at p1
    rw [e8] at p4
    rw [if_neg (by rintro (z | z | z | z); exact p1 z; exact p2 z; exact p3 z; exact p4 z)] at k
    obtain ⟨lv, hlv, ex⟩ := nI_of (x := x) (fun z => p2 (by
      rw [Int32.lt_iff_toInt_lt] at z ⊢
      have e0 : ((0 : Int32)).toInt = 0 := by decide
      have e2 : ((2 : Int32)).toInt = 2 := by decide
      omega))
    subst ex
    have l2 : 2 ≤ lv := Nat.le_of_not_lt fun z => p2 ((nI_ltI (b := 2) (by omega) (by omega)).mpr z)
    have l4 : lv ≤ 4 := Nat.le_of_not_lt fun z => p3 ((nI_ltI (a := 4) (by omega) (by omega)).mpr z)
    rw [nI_clamp hlv] at k
    obtain ⟨⟨hW, hM, -⟩, hrow⟩ := ok.2.2.1.2.2.2 p1
    have hC8 : qC (zP (ys σ)) < 8 := by
      have : zC (ys σ) = qC (zP (ys σ)) := rfl
      omega
    have hWd := hW.wd hC8 l2 l4
    have hMd := hWd.MM_le
    refine s_mixesIfWider h15 (by omega) hW hC8 ⟨l2, l4⟩ (h.rw p1).1 h.2.2.1.1 fun μ1 F1 e10 => ?_
    have h1 : Cr σ μ1 := h.fr (fun c hc => F1 c (by simp; omega)) e10 (by rw [F1 47 (by decide)]; exact h.2.2.1.2.2)
    have e12 : nI (MM (pWd (zP (ys σ)) lv)) ≤ 1200 ↔ MM (pWd (zP (ys σ)) lv) ≤ 1200 := nI_leI (b := 1200) (by omega) (by omega)
    refine k_X11_widen_47 C (fun z => ?_) (fun z => ?_)
    · rw [e12] at z
      rw [if_neg (by omega)] at k
      refine c_remember ok h1 fun μ2 F2 h2 => k_X11_widen_59 C ?_
      have hsW := ok.2.2.1.wd p1 (show zC (ys σ) < 8 by have : zC (ys σ) = qC (zP (ys σ)) := rfl; omega) l2 l4 z
      obtain ⟨hp, hr, hX⟩ := h2.rw (σ := kpS σ) p1
      refine s_addColumn (P := zP (ys σ)) h15 hp hC8 l4 hW.2.2.2.1 fun μ3 F3 hp3 => k_X11_widen_70 C ?_
      have S3 : StC 14 (sWd (ys σ) lv) μ3 := ⟨hp3, hr.of (F3 19 (by decide)) (F3 20 (by decide)) (F3 21 (by decide)), by rw [F3 14 (by decide)]; exact h2.2.1.1.2.2⟩
      have hCW : zC (sWd (ys σ) lv) ≠ 0 := Nat.succ_ne_zero _
      refine c_rebuild hsW hCW S3 (by rw [F3 25 (by decide)]; exact hX.f25) fun μ4 F4 N4 => ?_
      have X4 := N4.2 hCW
      obtain ⟨s1, s2⟩ := size_eq (P := zP (sWd (ys σ) lv)) z X4.1 (ns_pos hWd.ct).2
      refine k_X11_widen_74 C s1 ?_
      rw [s2]
      have e : ∀ c, (c < 15 ∨ 17 ≤ c) → (c < 22 ∨ 31 ≤ c) → μ4 c = μ2 c := fun c g1 g2 => by rw [F4 c (by simp; omega), F3 c (by simp; omega)]
      refine k μ4 (fun c hc => ?_) (h2.now (σ := kpS σ) (fun c hc => e c (by omega) (by omega)) N4 ⟨?_, X4.f25, ?_⟩)
      · rw [e c (by omega) (by omega), F2 c (by omega) (by omega), F1 c (by simp; omega)]
      · rw [e 10 (by omega) (by omega)]; exact h2.2.2.1.1
      · rw [e 47 (by omega) (by omega)]; exact h2.2.2.1.2.2
    · rw [e12] at z
      rw [if_pos (by omega)] at k
      exact k μ1 (fun c hc => F1 c (by simp; omega)) h1
theorem x_plan {G : mG} {μ : mM} {σ : Sg} (ok : SgOk σ) (h : Cr σ μ) : Kc G mX11_plan [.ref (gb G + 0)] μ (o_plan σ) := by
  intro Q k
  unfold o_plan at k
  have hT : TxOk (yT σ, yz σ) := ⟨ok.2.1, ok.1⟩
  have h15 : sh 15 = (0, 3) := rfl
  have h4 : sh 4 = (0, 3) := rfl
  have e1 : ∀ (ν : mM) c, c ≠ 1 → ms ν 1 1 0 c = ν c := fun ν c hc => ms_ne hc
  have fcr : ∀ ν, Fr cRd μ ν → ∀ c, c < 3 ∨ 13 ≤ c → ν c = μ c := fun ν F c hc => F c (by simp; omega)
  -- after a fault
  have bad : ∀ ν, Fr cRd μ ν → ν 10 0 = 0 → (∀ c, 132 ≤ c → ms ν 1 1 0 c = μ c) ∧ Cr (sT σ (yT σ) 0) (ms ν 1 1 0) := fun ν F e10 => by
    have f := fcr ν F
    refine ⟨fun c hc => by rw [e1 ν c (by omega), f c (by omega)], ⟨⟨by rw [ms_row, upd_at, if_pos rfl]; rfl, fun i hi => absurd hi (Nat.not_lt_zero i)⟩, h.2.1.of fun c g1 g2 => by rw [e1 ν c (by omega), f c (by omega)], ⟨?_, ?_, ?_⟩, h.2.2.2.1.of (by rw [e1 ν 0 (by omega), f 0 (by omega)]) (fun c g1 g2 => by rw [e1 ν c (by omega), f c (by omega)]), h.2.2.2.2.of fun c g1 g2 => by rw [e1 ν c (by omega), f c (by omega)]⟩⟩
    · rw [e1 ν 10 (by omega)]; exact e10
    · rw [e1 ν 25 (by omega), f 25 (by omega)]; exact h.2.2.1.2.1
    · rw [e1 ν 47 (by omega), f 47 (by omega)]; exact h.2.2.1.2.2
  refine e_X11_plan fun E C => k_X11_plan_0 C (s_read hT h.1.1 h.1.2 h.2.2.1.1 (fun f ν F e10 hf hh => ?_) (fun P ν F e10 hP hOk hp => ?_))
  · refine k_X11_plan_11 C (fun z => absurd z (noI_m' (by omega))) (fun _ => ?_)
    obtain ⟨b1, b2⟩ := bad ν F e10
    rcases hh with hh | ⟨P, hh, hb, ef⟩
    · rw [hh] at k
      exact k _ b1 b2
    · rw [hh] at k
      replace k : ∀ μ', (∀ c, 132 ≤ c → μ' c = μ c) → Cr (if 1200 < MM P ∨ canB P (fun _ => 0) = false then (-2 - nI (8 * yz σ + 4), sT σ (yT σ) 0) else (nI (MM P), sS (sU (sT σ (yT σ) 0) 0 (yA σ)) (sPl (ys σ) P))).2 μ' → Q (if 1200 < MM P ∨ canB P (fun _ => 0) = false then (-2 - nI (8 * yz σ + 4), sT σ (yT σ) 0) else (nI (MM P), sS (sU (sT σ (yT σ) 0) 0 (yA σ)) (sPl (ys σ) P))).1 μ' := k
      rw [if_pos hb] at k
      rw [ef]
      exact k _ b1 b2
  · rw [hP] at k
    obtain ⟨hW, hM, hc⟩ := id hOk
    replace k : ∀ μ', (∀ c, 132 ≤ c → μ' c = μ c) → Cr (if 1200 < MM P ∨ canB P (fun _ => 0) = false then (-2 - nI (8 * yz σ + 4), sT σ (yT σ) 0) else (nI (MM P), sS (sU (sT σ (yT σ) 0) 0 (yA σ)) (sPl (ys σ) P))).2 μ' → Q (if 1200 < MM P ∨ canB P (fun _ => 0) = false then (-2 - nI (8 * yz σ + 4), sT σ (yT σ) 0) else (nI (MM P), sS (sU (sT σ (yT σ) 0) 0 (yA σ)) (sPl (ys σ) P))).1 μ' := k
    rw [if_neg (by
      rintro (z | z)
      · omega
      · rw [hc] at z; cases z)] at k
    have f := fcr ν F
    refine k_X11_plan_11 C (fun _ => ?_) (fun z => absurd rfl z)
    refine s_copyPlan h15 h4 (by omega) hW.ct.2.2.2 hW.2.2.2.2.1 (hp.of (e1 ν _ (by decide)) (e1 ν _ (by decide)) (e1 ν _ (by decide)) (e1 ν _ (by decide))) fun μ1 F1 hp1 => k_X11_plan_47 C ?_
    have g1 : ∀ c, c ≠ 1 → (c < 15 ∨ 19 ≤ c) → μ1 c = ν c := fun c h1 h2 => by rw [F1 c (by simp; omega), e1 ν c h1]
    have g2 : ∀ c, c ≠ 19 → c ≠ 0 → ms (ms μ1 19 0 0) 0 9 0 c = μ1 c := fun c h1 h2 => by rw [ms_ne h2, ms_ne h1]
    have hs : PsOk (sPl (ys σ) P) := ⟨ok.2.2.1.1, Nat.zero_le _, fun z => (by
      exfalso
      have h2 : 2 ≤ qC P := hW.1
      have z' : qC P = 0 := z
      omega), fun _ => ⟨hOk, fun j hj => absurd hj (Nat.not_lt_zero j)⟩⟩
    have hCP : zC (sPl (ys σ) P) ≠ 0 := by
      have := hW.1
      show qC P ≠ 0
      omega
    have S1 : StC 14 (sPl (ys σ) P) (ms (ms μ1 19 0 0) 0 9 0) := by
      refine ⟨hp1.of (g2 _ (by decide) (by decide)) (g2 _ (by decide) (by decide)) (g2 _ (by decide) (by decide)) (g2 _ (by decide) (by decide)), ⟨?_, fun j hj => absurd hj (Nat.not_lt_zero j), fun j hj => absurd hj (Nat.not_lt_zero j)⟩, ?_⟩
      · rw [ms_ne (by decide), ms_row, upd_at, if_pos rfl]
        rfl
      · rw [g2 14 (by decide) (by decide), g1 14 (by decide) (by decide), f 14 (by omega)]
        exact h.2.1.1.2.2
    refine c_rebuild hs hCP S1 ?_ fun μ2 F2 N2 => ?_
    · rw [g2 25 (by decide) (by decide), g1 25 (by decide) (by decide), f 25 (by omega)]
      exact h.2.2.1.2.1
    · have X2 := N2.2 hCP
      obtain ⟨s1, s2⟩ := size_eq (P := P) hM X2.1 (ns_pos hW.ct).2
      refine k_X11_plan_67 C s1 ?_
      rw [s2]
      have e : ∀ c, c ≠ 1 → c ≠ 0 → (c < 3 ∨ 31 ≤ c) → μ2 c = μ c := fun c q1 q2 q3 => by rw [F2 c (by simp; omega), g2 c (by omega) q2, g1 c q1 (by omega), f c (by omega)]
      obtain ⟨ee, he, u8, u9, hA⟩ := h.2.2.2.1
      have e8 : μ2 0 8 = nI ee := by
        rw [F2 0 (by decide), ms_row, upd_at, if_neg (by decide), ms_ne (by decide), g1 0 (by decide) (by decide), f 0 (by omega)]
        exact u8
      have e9 : μ2 0 9 = nI 0 := by
        rw [F2 0 (by decide), ms_row, upd_at, if_pos rfl]
        rfl
      refine k μ2 (fun c hc => e c (by omega) (by omega) (by omega)) ⟨⟨?_, fun i hi => absurd hi (Nat.not_lt_zero i)⟩, N2, ⟨?_, X2.f25, ?_⟩, ⟨ee, he, e8, e9, fun i hi => absurd hi (Nat.not_lt_zero i)⟩, h.2.2.2.2.of fun c q1 q2 => e c (by omega) (by omega) (by omega)⟩
      · show μ2 1 1 = nI 0
        rw [F2 1 (by decide), g2 1 (by decide) (by decide), F1 1 (by decide), ms_row, upd_at, if_pos rfl]
        rfl
      · rw [F2 10 (by decide), g2 10 (by decide) (by decide), g1 10 (by decide) (by decide)]
        exact e10
      · rw [e 47 (by decide) (by decide) (by decide)]; exact h.2.2.1.2.2
theorem x_field {G : mG} {μ : mM} {σ : Sg} (ok : SgOk σ) (h : Cr σ μ) : Kc G mX11_field [.ref (gb G + 0)] μ (o_field σ) := by
  intro Q k
  unfold o_field at k
  have h15 : sh 15 = (0, 3) := rfl
  have h19 : sh 19 = (0, 6) := rfl
  refine e_X11_field fun E C => k_X11_field_0 C (fun p => ?_) (fun p => ?_)
  · rw [noPlC ok h] at p
    rw [if_pos p] at k
    exact k μ (fun _ _ => rfl) h
  · rw [noPlC ok h] at p
    rw [if_neg p] at k
    obtain ⟨⟨hW, hM, -⟩, hrow⟩ := ok.2.2.1.2.2.2 p
    obtain ⟨hp, hr, hX⟩ := h.rw p
    obtain ⟨hq, hqC, -⟩ := qF_is hW
    obtain ⟨t1, t3, -, hC8⟩ := hW.ct
    have hq7 : qF (zP (ys σ)) ≤ 7 ∧ 2 ≤ qF (zP (ys σ)) := by unfold isQ at hq; omega
    have hpow : qF (zP (ys σ)) ^ qT (zP (ys σ)) ≤ 343 := Nat.le_trans (Nat.pow_le_pow_left hq7.1 _) (Nat.le_trans (Nat.pow_le_pow_right (by omega) t3) (by decide))
    refine s_fieldSize h15 hW hp (k_X11_field_19 C ?_)
    rw [hp.2.1]
    refine s_powerC (by omega) (k_X11_field_34 C (fun z => ?_) (fun _ z => ?_))
    · have hno : ¬ qF (zP (ys σ)) ^ qT (zP (ys σ)) ≤ 64 := fun y => by
        rcases z with z | ⟨-, z⟩
        · exact (nI_ne0 (by omega) (by omega)) z
        · exact z ((nI_leI (b := 64) (by omega) (by omega)).mpr y)
      rw [if_neg (by
        unfold flB
        rw [decide_eq_false hno]
        exact Bool.false_ne_true)] at k
      exact k μ (fun _ _ => rfl) h
    · have hle : qF (zP (ys σ)) ^ qT (zP (ys σ)) ≤ 64 := (nI_leI (b := 64) (by omega) (by omega)).mp z
      have second : flB (zP (ys σ)) = true → ∀ μ1, (∀ c, c ≠ 0 → c < 52 ∨ 116 ≤ c → μ1 c = μ c) → Cr (kpS σ) μ1 → Wm G mX11_field E (bm G mX11_field E (pI Q)) μ1 93 [(0, .ref (gb G + 0)), (1, .int (nI (qF (zP (ys σ))))), (2, .int (nI (qF (zP (ys σ)) ^ qT (zP (ys σ)))))] [] := fun hb μ1 F1 h1 => by
        rw [if_pos hb] at k
        obtain ⟨hp1, hr1, hX1⟩ := h1.rw (σ := kpS σ) p
        refine k_X11_field_93 C ?_
        have loop : ∀ (d w : Nat) (μ' : mM), w + d = qF (zP (ys σ)) ^ qT (zP (ys σ)) → Fr [19, 20, 21] μ1 μ' → RowsC 19 w (fun w => polR (zP (ys σ)) (qF (zP (ys σ))) w) (fun _ => 0) μ' → Wm G mX11_field E (bm G mX11_field E (pI Q)) μ' 106 [(0, .ref (gb G + 0)), (1, .int (nI (qF (zP (ys σ))))), (2, .int (nI (qF (zP (ys σ)) ^ qT (zP (ys σ))))), (3, .int (nI w))] [] := by
          intro d
          induction d with
          | zero =>
            intro w μ' hw F hr'
            have hww : w = qF (zP (ys σ)) ^ qT (zP (ys σ)) := by omega
            rw [hww] at hr' ⊢
            have e : ∀ c, c < 19 ∨ 22 ≤ c → μ' c = μ1 c := fun c hc => F c (by simp; omega)
            have X' : MxC (zP (ys σ)) (fun m => rwN (zP (ys σ)) (zR (ys σ)) m (zn (ys σ))) μ' := MxC.of hX1 fun c hc => e c (by omega)
            refine k_X11_field_106 C (fun _ => s_recount h19 (by omega) hW hM X' hle hr' (fun j hj c => polR_le _ _ _ c) fun μ2 F2 X2 => k_X11_field_153 C ?_) (fun y => ?_)
            · refine k μ2 (fun c hc => by rw [F2 c (by simp; omega), e c (by omega), F1 c (by omega) (by omega)]) (h1.now (σ := kpS σ) (fun c hc => by rw [F2 c (by simp; omega), e c (by omega)]) ⟨⟨?_, ?_, ?_⟩, fun _ => X2⟩ ⟨?_, X2.f25, ?_⟩)
              · exact hp1.of ((F2 15 (by decide)).trans (e 15 (by decide))) ((F2 16 (by decide)).trans (e 16 (by decide))) ((F2 17 (by decide)).trans (e 17 (by decide))) ((F2 18 (by decide)).trans (e 18 (by decide)))
              · exact hr'.of (F2 19 (by decide)) (F2 20 (by decide)) (F2 21 (by decide))
              · rw [F2 14 (by decide), e 14 (by decide)]; exact h1.2.1.1.2.2
              · rw [F2 10 (by decide), e 10 (by decide)]; exact h1.2.2.1.1
              · rw [F2 47 (by decide), e 47 (by decide)]; exact h1.2.2.1.2.2
            · exfalso
              apply y
              exact (nI_leI (by omega) (by omega)).mpr (Nat.le_refl _)
          | succ d ih =>
            intro w μ' hw F hr'
            have hp' : PlC 15 (zP (ys σ)) μ' := PlC.of hp1 (F 15 (by decide)) (F 16 (by decide)) (F 17 (by decide)) (F 18 (by decide))
            refine k_X11_field_106 C (fun y => ?_) (fun _ => s_rowOfPolynomial h15 hW hp' hq hqC (by omega) (k_X11_field_130 C ?_))
            · exfalso
              rw [nI_leI (by omega) (by omega)] at y
              omega
            · refine s_append h19 (by omega) hr' fun μ2 F2 r2 => k_X11_field_133 C ?_
              rw [nI_1]
              have e1 : psh (fun w => polR (zP (ys σ)) (qF (zP (ys σ))) w) w (polR (zP (ys σ)) (qF (zP (ys σ))) w) = fun w => polR (zP (ys σ)) (qF (zP (ys σ))) w := psh_self (fun w => polR (zP (ys σ)) (qF (zP (ys σ))) w) w
              have e2 : psh (fun _ : Nat => 0) w 0 = fun _ => 0 := psh_self (fun _ : Nat => 0) w
              rw [e1, e2] at r2
              exact ih (w + 1) μ2 (by omega) (F.tr F2) r2
        refine loop _ 0 (ms μ1 19 0 0) (Nat.zero_add _) ((Fr.rf _ μ1).ms (by decide)) ⟨?_, fun j hj => absurd hj (Nat.not_lt_zero j), fun j hj => absurd hj (Nat.not_lt_zero j)⟩
        rw [ms_row, upd_at, if_pos rfl]
        rfl
      have first : ∀ (d w : Nat), w + d = qF (zP (ys σ)) ^ qT (zP (ys σ)) → (∀ w', w' < w → canB (zP (ys σ)) (polR (zP (ys σ)) (qF (zP (ys σ))) w') = true) → Wm G mX11_field E (bm G mX11_field E (pI Q)) μ 50 [(0, .ref (gb G + 0)), (1, .int (nI (qF (zP (ys σ))))), (2, .int (nI (qF (zP (ys σ)) ^ qT (zP (ys σ))))), (3, .int (nI w))] [] := by
        intro d
        induction d with
        | zero =>
          intro w hw hall
          have hb : flB (zP (ys σ)) = true := by
            unfold flB
            rw [decide_eq_true hle, decide_eq_true (fun w' hw' => hall w' (by omega))]
            rfl
          refine k_X11_field_50 C (fun _ => c_remember ok h fun μ1 F1 h1 => second hb μ1 F1 h1) (fun y => ?_)
          exfalso
          apply y
          exact (nI_leI (by omega) (by omega)).mpr (by omega)
        | succ d ih =>
          intro w hw hall
          refine k_X11_field_50 C (fun y => ?_) (fun _ => s_rowOfPolynomial h15 hW hp hq hqC (by omega) (k_X11_field_74 C (s_allows h15 hW hp (fun c => polR_le _ _ _ c) (k_X11_field_77 C (fun y => ?_) (fun y => ?_)))))
          · exfalso
            rw [nI_leI (by omega) (by omega)] at y
            omega
          · rw [nI_1]
            refine ih (w + 1) (by omega) (fun w' hw' => ?_)
            by_cases u : w' = w
            · rw [u]
              cases e : canB (zP (ys σ)) (polR (zP (ys σ)) (qF (zP (ys σ))) w) with
              | true => rfl
              | false => rw [e] at y; exact absurd rfl y
            · exact hall w' (by omega)
          · rw [if_neg (by
              unfold flB
              rw [Bool.and_eq_true, decide_eq_true_iff, decide_eq_true_iff]
              rintro ⟨-, u⟩
              have := u w (by omega)
              rw [(nI_b0 _).mp y] at this
              cases this)] at k
            exact k μ (fun _ _ => rfl) h
      exact first _ 0 (Nat.zero_add _) (fun w' hw' => absurd hw' (Nat.not_lt_zero w'))

/-! THE CLASS: cells are settled -/
theorem mor_op {P : Pl} {R : Nat → Nat → Nat} {n j c v : Nat} (hj : j < n) (h0 : R j c = 0) : sm (MM P) (fun m => (hasM P (up (R j) c (v + 1)) m && opB P (fun m => rwN P R m n) m).toNat) = morN P (openB P n R) (up (R j) c (v + 1)) c := sm_congr fun m hm => by
  show (hasM P (up (R j) c (v + 1)) m && opB P (fun m => rwN P R m n) m).toNat = (openB P n R m && hasM P (up (R j) c (v + 1)) m && decide (∃ k, k < qT P ∧ mcol P m k = c)).toNat
  have eo : opB P (fun m => rwN P R m n) m = openB P n R m := rfl
  rw [eo, Bool.and_comm]
  by_cases q : ∃ k, k < qT P ∧ mcol P m k = c
  · rw [decide_eq_true q, Bool.and_true]
  · rw [decide_eq_false q, Bool.and_false]
    have : (openB P n R m && hasM P (up (R j) c (v + 1)) m) = false := bnot fun z => by
      rw [Bool.and_eq_true] at z
      have hh : hasM P (R j) m = true := hasM_iff.mpr fun k hk => by
        have := (hasM_iff.mp z.2) k hk
        rw [up_at, if_neg (fun y => q ⟨k, hk, y⟩)] at this
        exact this
      have hp := has_pos hj hh
      have ho := z.1
      unfold openB at ho
      rw [Bool.and_eq_true, decide_eq_true_iff] at ho
      omega
    rw [this]
theorem c_settleCell {G : mG} {Q : mM → Prop} {σ : Sg} {μ : mM} {j c : Nat} (ok : SgOk σ) (h : Cr σ μ) (hj : j < zn (ys σ)) (hc : c < zC (ys σ)) (h0 : zR (ys σ) j c = 0) (k : ∀ μ', Fr [20, 30] μ μ' → Cr (sS σ (stS (ys σ) j c)) μ' → Q μ') : CtV G mX11_settleCell [.ref (gb G + 0), .int (nI j), .int (nI c)] μ Q := by
  have hC : zC (ys σ) ≠ 0 := by omega
  have hn := ok.2.2.1.2.1
  obtain ⟨⟨hW, hM, -⟩, hrow⟩ := ok.2.2.1.2.2.2 hC
  obtain ⟨hp, hr, hX⟩ := h.rw hC
  have hC8 := hW.ct.2.2.2
  have hcC : c < qC (zP (ys σ)) := hc
  obtain ⟨l2, l4⟩ := hW.lv hcC
  have hle := (hrow j hj).1.1
  have er : μ 20 (nI j).toNatClampNeg = rowI (zR (ys σ) j) := by rw [nI_clamp (by omega)]; exact hr.2.1 j hj
  have ixj : vp_in (nI j) 64 := by
    simp (disch := omega) only [ofNat_nI, nI_add, pk_mul, nI_clamp, nI_leI, nI_ltI, nI_eq, vp_in_nI_iff, nI_subr, nI_m1r, m1_eq, m1_eq2, m1_le, m1_le2, m1_lt, m1_lt2, m1_self, cv_sub, cv_add1, cv_eq, cv_eqI, cv_eqI2, cv_m1, cv_lt0, cv_leI, cv_Ile, cv_le, cv_lt, cv_Ilt, cv_ltI, not_true, not_false_iff, true_implies, false_implies, false_or, or_false, true_and, and_true, false_and, and_false, true_or, or_true]
    omega
  refine e_X11_settleCell fun E C => k_X11_settleCell_0 C ixj ?_
  rw [er]
  refine s_levelsLeft (by rfl) hW hp hle hcC h0 (k_X11_settleCell_25 C ?_)
  have hB : ∀ v, morN (zP (ys σ)) (openB (zP (ys σ)) (zn (ys σ)) (zR (ys σ))) (up (zR (ys σ) j) c (v + 1)) c ≤ 1200 := fun v => by
    have := sm_le (n := MM (zP (ys σ))) (B := 1) (f := fun m => (openB (zP (ys σ)) (zn (ys σ)) (zR (ys σ)) m && hasM (zP (ys σ)) (up (zR (ys σ) j) c (v + 1)) m && decide (∃ k, k < qT (zP (ys σ)) ∧ mcol (zP (ys σ)) m k = c)).toNat) (fun i _ => bool_lt _)
    unfold morN
    omega
  have loop : ∀ (d v b g : Nat), v + d = 4 → bst (fun v => canB (zP (ys σ)) (up (zR (ys σ) j) c (v + 1))) (fun v => morN (zP (ys σ)) (openB (zP (ys σ)) (zn (ys σ)) (zR (ys σ))) (up (zR (ys σ) j) c (v + 1)) c) (min v (qL (zP (ys σ)) c)) = (b, g) →
      Wm G mX11_settleCell E (bm G mX11_settleCell E (pV Q)) μ 36 [(0, .ref (gb G + 0)), (1, .int (nI j)), (2, .int (nI c)), (3, .int (rowI (zR (ys σ) j))), (4, .int (lfI (zP (ys σ)) (zR (ys σ) j) c (qL (zP (ys σ)) c))), (5, .int (rowI (up (zR (ys σ) j) c b))), (6, .int (cv g)), (7, .int (nI v))] [] := by
    intro d
    induction d with
    | zero =>
      intro v b g hv hb
      have hv4 : v = 4 := by omega
      rw [hv4, Nat.min_eq_right l4] at hb
      have eb : stl (zP (ys σ)) (openB (zP (ys σ)) (zn (ys σ)) (zR (ys σ))) (zR (ys σ) j) c = b := by
        unfold stl
        rw [hb]
      have hbl : b ≤ qL (zP (ys σ)) c := by rw [← eb]; exact bst_le _ _ _
      have h4 : (4 : Int32) ≤ nI v := by rw [hv4]; decide
      refine k_X11_settleCell_36 C (fun _ => ?_) (fun z => absurd h4 z) (fun z => absurd h4 z)
      refine c_setRow ok h hj (fun c' => ?_) fun μ1 F1 h1 => k_X11_settleCell_106 C ixj ?_
      · rw [up_at]
        split
        · rename_i u; rw [u]; exact hbl
        · exact hle c'
      · rw [nI_clamp (by omega)]
        refine k _ ((F1.mono (by simp)).ms (by decide)) ?_
        have e : stS (ys σ) j c = sR (ys σ) (zn (ys σ)) (psh (zR (ys σ)) j (up (zR (ys σ) j) c b)) (zt (ys σ)) := by
          unfold stS sCel
          rw [eb]
        rw [e]
        exact h1
    | succ d ih =>
      intro v b g hv hb
      have n4 : ¬ 4 ≤ nI v := by
        rw [show (4 : Int32) = nI 4 from rfl, nI_leI (by omega) (by omega)]
        omega
      have hbit : lfI (zP (ys σ)) (zR (ys σ) j) c (qL (zP (ys σ)) c) &&& 1 <<< (nI v &&& 31) = 0 ↔ ¬ (v < qL (zP (ys σ)) c ∧ canB (zP (ys σ)) (up (zR (ys σ) j) c (v + 1)) = true) := by
        rw [b_z]
        constructor
        · intro z ⟨y1, y2⟩
          have := z v (by omega)
          rw [b_and, b_lf (by omega), b_bit (by omega) (by omega), decide_eq_true rfl, Bool.and_true, decide_eq_true y1, y2] at this
          cases this
        · intro z i hi
          rw [b_and, b_lf hi, b_bit (by omega) hi]
          by_cases q : i = v
          · have : (decide (v < qL (zP (ys σ)) c) && canB (zP (ys σ)) (up (zR (ys σ) j) c (v + 1))) = false := bnot fun y => by
              rw [Bool.and_eq_true, decide_eq_true_iff] at y
              exact z y
            rw [q, this, Bool.false_and]
          · rw [decide_eq_false q, Bool.and_false]
      have hg := bst2_le (can := fun v => canB (zP (ys σ)) (up (zR (ys σ) j) c (v + 1))) (h := fun v => morN (zP (ys σ)) (openB (zP (ys σ)) (zn (ys σ)) (zR (ys σ))) (up (zR (ys σ) j) c (v + 1)) c) (n := min v (qL (zP (ys σ)) c)) (fun v _ => hB v)
      rw [hb] at hg
      replace hg : g ≤ 1201 := hg
      refine k_X11_settleCell_36 C (fun z => absurd z n4) (fun _ z => ?_) (fun _ z => ?_)
      · rw [hbit] at z
        rw [nI_1]
        refine ih (v + 1) b g (by omega) ?_
        by_cases q : v < qL (zP (ys σ)) c
        · have hc' : ¬ canB (zP (ys σ)) (up (zR (ys σ) j) c (v + 1)) = true := fun y => z ⟨q, y⟩
          rw [Nat.min_eq_left (by omega)] at hb
          rw [Nat.min_eq_left (by omega), bst, if_neg (fun y => hc' y.1)]
          exact hb
        · rw [Nat.min_eq_right (by omega)] at hb ⊢
          exact hb
      · obtain ⟨q, hcan⟩ : v < qL (zP (ys σ)) c ∧ canB (zP (ys σ)) (up (zR (ys σ) j) c (v + 1)) = true := Classical.byContradiction fun y => z (hbit.mpr y)
        rw [Nat.min_eq_left (by omega)] at hb
        rw [row_bit (by omega) (by omega) h0]
        refine s_openIn hW hM hX (rwN_b hn) (up_le hle q) ?_
        rw [mor_op hj h0]
        have hb0 := hB v
        refine k_X11_settleCell_73 C (fun y => ?_) (fun y => ?_)
        · rw [cv_Ile (by omega) (by omega)] at y
          rw [nI_1]
          refine ih (v + 1) b g (by omega) ?_
          rw [Nat.min_eq_left (by omega), bst, if_neg (fun w => by
            have := w.2
            rw [hb] at this
            replace this : g < _ := this
            omega)]
          exact hb
        · rw [cv_Ile (by omega) (by omega)] at y
          rw [nI_1, ← cv_s (morN (zP (ys σ)) (openB (zP (ys σ)) (zn (ys σ)) (zR (ys σ))) (up (zR (ys σ) j) c (v + 1)) c)]
          refine ih (v + 1) (v + 1) _ (by omega) ?_
          rw [Nat.min_eq_left (by omega), bst, if_pos ⟨hcan, by
            rw [hb]
            show g < _
            omega⟩]
  have := loop 4 0 0 0 (by omega) (by rw [Nat.zero_min]; rfl)
  rw [up_zero h0] at this
  exact this
theorem x_settle {G : mG} {μ : mM} {σ : Sg} (ok : SgOk σ) (h : Cr σ μ) : Kc G mX11_settle [.ref (gb G + 0)] μ (o_settle σ) := by
  intro Q k
  unfold o_settle at k
  refine e_X11_settle fun E C => k_X11_settle_0 C (fun p => ?_) (fun p => ?_)
  · rw [noPlC ok h] at p
    rw [if_pos p] at k
    exact k μ (fun _ _ => rfl) h
  · rw [noPlC ok h] at p
    rw [if_neg p] at k
    have ok2 := ok.kpS p
    have hn64 := ok.2.2.1.2.1
    have hC8 := zC_le ok.2.2.1
    have col : ∀ (j : Nat), j < zn (ys σ) → ∀ (d c : Nat) (q : Ps × Nat) (μ' : mM), c + d = zC (ys σ) → zn q.1 = zn (ys σ) → PsOk q.1 → zP q.1 = zP (ys σ) → (∀ c, 132 ≤ c → μ' c = μ c) → Cr (sS (kpS σ) q.1) μ' →
        (∀ μ2, zn (seC j d c q).1 = zn (ys σ) → PsOk (seC j d c q).1 → zP (seC j d c q).1 = zP (ys σ) → (∀ c, 132 ≤ c → μ2 c = μ c) → Cr (sS (kpS σ) (seC j d c q).1) μ2 → Wm G mX11_settle E (bm G mX11_settle E (pI Q)) μ2 17 [(0, .ref (gb G + 0)), (1, .int (nI (seC j d c q).2)), (2, .int (nI (j + 1)))] []) →
        Wm G mX11_settle E (bm G mX11_settle E (pI Q)) μ' 33 [(0, .ref (gb G + 0)), (1, .int (nI q.2)), (2, .int (nI j)), (3, .int (nI c))] [] := by
      intro j hj d
      induction d with
      | zero =>
        intro c q μ' hcd hnq hs hP F hms cont
        have e15 : μ' 15 0 = nI (zC q.1) := hms.c
        have hz : zC q.1 = zC (ys σ) := by rw [zC, zC, hP]
        refine k_X11_settle_33 C (fun _ => ?_) (fun z => ?_) (fun z => ?_) (fun z => ?_)
        · rw [nI_1]
          exact cont μ' hnq hs hP F hms
        all_goals
          exfalso
          revert z
          rw [e15, hz]
          simp (disch := omega) only [ofNat_nI, nI_add, pk_mul, nI_clamp, nI_leI, nI_ltI, nI_eq, vp_in_nI_iff, nI_subr, nI_m1r, m1_eq, m1_eq2, m1_le, m1_le2, m1_lt, m1_lt2, m1_self, cv_sub, cv_add1, cv_eq, cv_eqI, cv_eqI2, cv_m1, cv_lt0, cv_leI, cv_Ile, cv_le, cv_lt, cv_Ilt, cv_ltI, not_true, not_false_iff, true_implies, false_implies, false_or, or_false, true_and, and_true, false_and, and_false, true_or, or_true]
          omega
      | succ d ih =>
        intro c q μ' hcd hnq hs hP F hms cont
        have e15 : μ' 15 0 = nI (zC q.1) := hms.c
        have hz : zC q.1 = zC (ys σ) := by rw [zC, zC, hP]
        have hCs : zC q.1 ≠ 0 := by rw [hz]; exact p
        obtain ⟨⟨hW, hM, -⟩, hro⟩ := hs.2.2.2 hCs
        have oks : SgOk (sS (kpS σ) q.1) := ok2.sS hs
        have rl4 : zR q.1 j c ≤ 4 := RwOk.le4 hW (hro j (by omega)).1.1 c
        have er : μ' 20 (nI j).toNatClampNeg = rowI (zR q.1 j) := by rw [nI_clamp (by omega)]; exact hms.2.1.1.2.1.2.1 j (by show j < zn q.1; omega)
        obtain ⟨f1, f2⟩ := lv_read (r := zR q.1 j) (c := c) (by omega) rl4
        refine k_X11_settle_33 C (fun z => ?_) (fun _ => ?_) (fun _ z1 _ => ?_) (fun _ z => ?_)
        · exfalso
          revert z
          rw [e15, hz]
          simp (disch := omega) only [ofNat_nI, nI_add, pk_mul, nI_clamp, nI_leI, nI_ltI, nI_eq, vp_in_nI_iff, nI_subr, nI_m1r, m1_eq, m1_eq2, m1_le, m1_le2, m1_lt, m1_lt2, m1_self, cv_sub, cv_add1, cv_eq, cv_eqI, cv_eqI2, cv_m1, cv_lt0, cv_leI, cv_Ile, cv_le, cv_lt, cv_Ilt, cv_ltI, not_true, not_false_iff, true_implies, false_implies, false_or, or_false, true_and, and_true, false_and, and_false, true_or, or_true]
          omega
        · simp (disch := omega) only [ofNat_nI, nI_add, pk_mul, nI_clamp, nI_leI, nI_ltI, nI_eq, vp_in_nI_iff, nI_subr, nI_m1r, m1_eq, m1_eq2, m1_le, m1_le2, m1_lt, m1_lt2, m1_self, cv_sub, cv_add1, cv_eq, cv_eqI, cv_eqI2, cv_m1, cv_lt0, cv_leI, cv_Ile, cv_le, cv_lt, cv_Ilt, cv_ltI, not_true, not_false_iff, true_implies, false_implies, false_or, or_false, true_and, and_true, false_and, and_false, true_or, or_true]
          omega
        · rw [er, f1] at z1
          rw [nI_1]
          refine ih (c + 1) q μ' (by omega) hnq hs hP F hms ?_
          rw [seC, if_neg z1] at cont
          exact cont
        · have z0 : zR q.1 j c = 0 := by
            rw [er, f1] at z
            rcases z with ⟨z1, z2⟩ | z
            · rw [f2 z1, cv_pos z1] at z2
              exact absurd z2 (noI_m' (by omega))
            · exact z
          rw [seC, if_pos z0] at cont
          refine c_settleCell oks hms (show j < zn q.1 by omega) (show c < zC q.1 by omega) z0 fun μ2 F2 h2 => k_X11_settle_73 C ?_
          rw [nI_1, nI_1]
          exact ih (c + 1) (stS q.1 j c, q.2 + 1) μ2 (by omega) hnq (hs.st (by omega) (by omega) z0) hP (fun c hc => by rw [F2 c (by simp; omega)]; exact F c hc) h2 cont
    refine c_remember ok h fun μ1 F1 h1 => k_X11_settle_13 C ?_
    have rows : ∀ (d j : Nat) (q : Ps × Nat) (μ' : mM), j + d = zn (ys σ) → zn q.1 = zn (ys σ) → PsOk q.1 → zP q.1 = zP (ys σ) → (∀ c, 132 ≤ c → μ' c = μ c) → Cr (sS (kpS σ) q.1) μ' → seR d j q = seR (zn (ys σ)) 0 (ys σ, 0) →
        Wm G mX11_settle E (bm G mX11_settle E (pI Q)) μ' 17 [(0, .ref (gb G + 0)), (1, .int (nI q.2)), (2, .int (nI j))] [] := by
      intro d
      induction d with
      | zero =>
        intro j q μ' hjd hnq hs hP F hms e
        have e' : q = seR (zn (ys σ)) 0 (ys σ, 0) := e
        have e19 : μ' 19 0 = nI (zn q.1) := hms.n
        refine k_X11_settle_17 C (fun _ => ?_) (fun z => ?_)
        · rw [← e'] at k
          exact k μ' F hms
        · exfalso
          revert z
          rw [e19, hnq]
          simp (disch := omega) only [ofNat_nI, nI_add, pk_mul, nI_clamp, nI_leI, nI_ltI, nI_eq, vp_in_nI_iff, nI_subr, nI_m1r, m1_eq, m1_eq2, m1_le, m1_le2, m1_lt, m1_lt2, m1_self, cv_sub, cv_add1, cv_eq, cv_eqI, cv_eqI2, cv_m1, cv_lt0, cv_leI, cv_Ile, cv_le, cv_lt, cv_Ilt, cv_ltI, not_true, not_false_iff, true_implies, false_implies, false_or, or_false, true_and, and_true, false_and, and_false, true_or, or_true]
          omega
      | succ d ih =>
        intro j q μ' hjd hnq hs hP F hms e
        have e19 : μ' 19 0 = nI (zn q.1) := hms.n
        have hz : zC q.1 = zC (ys σ) := by rw [zC, zC, hP]
        refine k_X11_settle_17 C (fun z => ?_) (fun _ => ?_)
        · exfalso
          revert z
          rw [e19, hnq]
          simp (disch := omega) only [ofNat_nI, nI_add, pk_mul, nI_clamp, nI_leI, nI_ltI, nI_eq, vp_in_nI_iff, nI_subr, nI_m1r, m1_eq, m1_eq2, m1_le, m1_le2, m1_lt, m1_lt2, m1_self, cv_sub, cv_add1, cv_eq, cv_eqI, cv_eqI2, cv_m1, cv_lt0, cv_leI, cv_Ile, cv_le, cv_lt, cv_Ilt, cv_ltI, not_true, not_false_iff, true_implies, false_implies, false_or, or_false, true_and, and_true, false_and, and_false, true_or, or_true]
          omega
        · rw [seR, hz] at e
          exact col j (by omega) (zC (ys σ)) 0 q μ' (by omega) hnq hs hP F hms fun μ2 a1 a2 a3 a4 a5 => ih (j + 1) _ μ2 (by omega) a1 a2 a3 a4 a5 e
    exact rows (zn (ys σ)) 0 (ys σ, 0) μ1 (by omega) rfl ok.2.2.1 rfl (fun c hc => F1 c (by omega) (by omega)) h1 rfl

/-! THE MODEL: feed, thin, order, settle -/
def byt (v : Int32) (s : Nat) : Nat := v.toBitVec.toNat / 2 ^ s % 256
theorem byt_lt (v : Int32) (s : Nat) : byt v s < 256 := Nat.mod_lt _ (by decide)
theorem sh_smod : ∀ s, s < 25 → ((nI s).toBitVec.smod 32).toNat = s := by decide
theorem byt_m (v : Int32) {s : Nat} (hs : s ≤ 24) : (v >>> nI s).toInt8.toInt32 &&& 255 = nI (byt v s) := by
  rw [pk_and ((v >>> nI s).toInt8.toInt32) (m := 255) 8 (by decide)]
  congr 1
  unfold byt
  have e : (v >>> nI s).toInt8.toInt32.toBitVec = ((v.toBitVec.sshiftRight ((nI s).toBitVec.smod 32).toNat).signExtend 8).signExtend 32 := rfl
  rw [e, sh_smod s (by omega)]
  apply Nat.eq_of_testBit_eq
  intro i
  rw [show (256 : Nat) = 2 ^ 8 from rfl, Nat.testBit_mod_two_pow, Nat.testBit_mod_two_pow, BitVec.testBit_toNat, Nat.testBit_div_two_pow, BitVec.testBit_toNat]
  by_cases q : i < 8
  · rw [BitVec.getLsbD_signExtend, BitVec.getLsbD_signExtend, BitVec.getLsbD_sshiftRight]
    simp only [q, decide_true, Bool.true_and, if_true]
    rw [decide_eq_true (show i < 32 by omega), decide_eq_false (show ¬ 32 ≤ i by omega), if_pos (show s + i < 32 by omega), Nat.add_comm, if_pos (show i < 32 by omega)]
    rfl
  · simp [q]
def fw (a b c d e : Int32) (i : Nat) : Int32 := if i < 4 then a else if i < 8 then b else if i < 12 then c else if i < 16 then d else e
def feB (a b c d e : Int32) (i : Nat) : Nat := byt (fw a b c d e i) (24 - 8 * (i % 4))
def feT (σ : Sg) (a b c d e : Int32) : Nat → Nat := fun k => if yz σ ≤ k ∧ k < yz σ + 20 then feB a b c d e (k - yz σ) else yT σ k
def o_feed (σ : Sg) (a b c d e : Int32) : Int32 × Sg := if 180 < yz σ then (-1, σ) else (nI (yz σ + 20), sT σ (feT σ a b c d e) (yz σ + 20))
theorem fe_sh : ∀ i, i < 20 → (24 - 8 * (nI i - nI i / 4 * 4)) &&& 31 = nI (24 - 8 * (i % 4)) := by decide
theorem fe_pick (a b c d e : Int32) {i : Nat} (hi : i < 20) {v : Int32} (h : (4 ≤ nI i ∧ 8 ≤ nI i ∧ 12 ≤ nI i ∧ 16 ≤ nI i ∧ v = e) ∨ (4 ≤ nI i ∧ 8 ≤ nI i ∧ 12 ≤ nI i ∧ ¬ 16 ≤ nI i ∧ v = d) ∨ (4 ≤ nI i ∧ 8 ≤ nI i ∧ ¬ 12 ≤ nI i ∧ v = c) ∨ (4 ≤ nI i ∧ ¬ 8 ≤ nI i ∧ v = b) ∨ (¬ 4 ≤ nI i ∧ v = a)) : v = fw a b c d e i := by
  have h4 : 4 ≤ nI i ↔ 4 ≤ i := nI_leI (a := 4) (by omega) (by omega)
  have h8 : 8 ≤ nI i ↔ 8 ≤ i := nI_leI (a := 8) (by omega) (by omega)
  have h12 : 12 ≤ nI i ↔ 12 ≤ i := nI_leI (a := 12) (by omega) (by omega)
  have h16 : 16 ≤ nI i ↔ 16 ≤ i := nI_leI (a := 16) (by omega) (by omega)
  rw [h4, h8, h12, h16] at h
  unfold fw
  rcases h with ⟨h1, h2, h3, h4, rfl⟩ | ⟨h1, h2, h3, h4, rfl⟩ | ⟨h1, h2, h3, rfl⟩ | ⟨h1, h2, rfl⟩ | ⟨h1, rfl⟩
  · rw [if_neg (by omega), if_neg (by omega), if_neg (by omega), if_neg (by omega)]
  · rw [if_neg (by omega), if_neg (by omega), if_neg (by omega), if_pos (by omega)]
  · rw [if_neg (by omega), if_neg (by omega), if_pos (by omega)]
  · rw [if_neg (by omega), if_pos (by omega)]
  · rw [if_pos (by omega)]
theorem m_feed {G : mG} {μ : mM} {σ : Sg} (ok : SgOk σ) (hm : Mr σ μ) (a b c d e : Int32) : Km G mX12_feed [.ref (gb G + 132), .int a, .int b, .int c, .int d, .int e] μ (o_feed σ a b c d e) := by
  intro Q k
  unfold o_feed at k
  have hz := ok.2.1
  obtain ⟨hT, hN, hU, hK⟩ := id hm
  have e180 : μ 132 1 ≤ 180 ↔ ¬ 180 < yz σ := by
    rw [hT.1]
    exact (nI_leI (b := 180) (by omega) (by omega)).trans (by omega)
  refine e_X12_feed fun E C => k_X12_feed_0 C (fun p => ?_) (fun p => ?_)
  · rw [e180] at p
    rw [if_neg p] at k
    have loop : ∀ (n i : Nat) (g : Nat → Int32), i + n = 20 → (∀ j, j < yz σ → g j = μ 133 j) → (∀ j, j < i → g (yz σ + j) &&& 255 = nI (feB a b c d e j)) →
        Wm G mX12_feed E (bm G mX12_feed E (pI Q)) (mrw μ 133 g) 15 [(0, .ref (gb G + 132)), (1, .int a), (2, .int b), (3, .int c), (4, .int d), (5, .int e), (6, .int (nI i))] [] := by
      intro n
      induction n with
      | zero =>
        intro i g hi g1 g2
        have e1 : (mrw μ 133 g) 132 1 = nI (yz σ) := by rw [mrw_ne (by decide)]; exact hT.1
        refine k_X12_feed_15 C (fun _ => ?_) (fun z => ?_) (fun z => ?_)
        · rw [e1, show (20 : Int32) = nI 20 from rfl, nI_add]
          have r1 : ∀ j, j ≠ 1 → ms (mrw μ 133 g) 132 1 (nI (yz σ + 20)) 132 j = μ 132 j := fun j hj => by rw [ms_row, upd_at, if_neg hj, mrw_ne (by decide)]
          have r2 : ∀ c, c ≠ 132 → c ≠ 133 → ms (mrw μ 133 g) 132 1 (nI (yz σ + 20)) c = μ c := fun c a b => by rw [ms_ne a, mrw_ne b]
          refine k _ (((Fr.rf _ μ).mrw (by decide)).ms (by decide)) ⟨⟨by rw [ms_row, upd_at, if_pos rfl]; rfl, fun j hj => ?_, by rw [r2 _ (by decide) (by decide)]; exact hT.2.2⟩, hN.of (r2 _ (by decide) (by decide)) (r1 13 (by decide)) (r2 _ (by decide) (by decide)) (r2 _ (by decide) (by decide)) (r2 _ (by decide) (by decide)), hU.of (r1 26 (by decide)) (r2 _ (by decide) (by decide)), hK.of (r2 _ (by decide) (by decide)) (r2 _ (by decide) (by decide))⟩
          replace hj : j < yz σ + 20 := hj
          rw [ms_ne (by decide), mrw_at]
          show g j &&& 255 = nI (feT σ a b c d e j)
          unfold feT
          by_cases q : yz σ ≤ j ∧ j < yz σ + 20
          · rw [if_pos q, ← g2 (j - yz σ) (by omega), show yz σ + (j - yz σ) = j by omega]
          · rw [if_neg q, g1 j (by omega)]
            exact hT.2.1 j (by omega)
        all_goals
          exfalso
          revert z
          simp (disch := omega) only [ofNat_nI, nI_add, pk_mul, nI_clamp, nI_leI, nI_ltI, nI_eq, vp_in_nI_iff, nI_subr, nI_m1r, m1_eq, m1_eq2, m1_le, m1_le2, m1_lt, m1_lt2, m1_self, cv_sub, cv_add1, cv_eq, cv_eqI, cv_eqI2, cv_m1, cv_lt0, cv_leI, cv_Ile, cv_le, cv_lt, cv_Ilt, cv_ltI, not_true, not_false_iff, true_implies, false_implies, false_or, or_false, true_and, and_true, false_and, and_false, true_or, or_true]
          omega
      | succ n ih =>
        intro i g hi g1 g2
        have e1 : (mrw μ 133 g) 132 1 = nI (yz σ) := by rw [mrw_ne (by decide)]; exact hT.1
        refine k_X12_feed_15 C (fun z => ?_) (fun _ v hv => ?_) (fun _ v hv => ?_)
        · exfalso
          revert z
          simp (disch := omega) only [ofNat_nI, nI_add, pk_mul, nI_clamp, nI_leI, nI_ltI, nI_eq, vp_in_nI_iff, nI_subr, nI_m1r, m1_eq, m1_eq2, m1_le, m1_le2, m1_lt, m1_lt2, m1_self, cv_sub, cv_add1, cv_eq, cv_eqI, cv_eqI2, cv_m1, cv_lt0, cv_leI, cv_Ile, cv_le, cv_lt, cv_Ilt, cv_ltI, not_true, not_false_iff, true_implies, false_implies, false_or, or_false, true_and, and_true, false_and, and_false, true_or, or_true]
          omega
        · rw [e1]
          simp (disch := omega) only [ofNat_nI, nI_add, pk_mul, nI_clamp, nI_leI, nI_ltI, nI_eq, vp_in_nI_iff, nI_subr, nI_m1r, m1_eq, m1_eq2, m1_le, m1_le2, m1_lt, m1_lt2, m1_self, cv_sub, cv_add1, cv_eq, cv_eqI, cv_eqI2, cv_m1, cv_lt0, cv_leI, cv_Ile, cv_le, cv_lt, cv_Ilt, cv_ltI, not_true, not_false_iff, true_implies, false_implies, false_or, or_false, true_and, and_true, false_and, and_false, true_or, or_true]
          omega
        · have ev := fe_pick a b c d e (by omega) hv
          have e2 : (nI (yz σ) + nI i).toNatClampNeg = yz σ + i := by
            simp (disch := omega) only [ofNat_nI, nI_add, pk_mul, nI_clamp, nI_leI, nI_ltI, nI_eq, vp_in_nI_iff, nI_subr, nI_m1r, m1_eq, m1_eq2, m1_le, m1_le2, m1_lt, m1_lt2, m1_self, cv_sub, cv_add1, cv_eq, cv_eqI, cv_eqI2, cv_m1, cv_lt0, cv_leI, cv_Ile, cv_le, cv_lt, cv_Ilt, cv_ltI, not_true, not_false_iff, true_implies, false_implies, false_or, or_false, true_and, and_true, false_and, and_false, true_or, or_true]
          rw [e1, e2, fe_sh i (by omega), pk_vb, ms_mrw]
          simp (disch := omega) only [ofNat_nI, nI_add, pk_mul, nI_clamp, nI_leI, nI_ltI, nI_eq, vp_in_nI_iff, nI_subr, nI_m1r, m1_eq, m1_eq2, m1_le, m1_le2, m1_lt, m1_lt2, m1_self, cv_sub, cv_add1, cv_eq, cv_eqI, cv_eqI2, cv_m1, cv_lt0, cv_leI, cv_Ile, cv_le, cv_lt, cv_Ilt, cv_ltI, not_true, not_false_iff, true_implies, false_implies, false_or, or_false, true_and, and_true, false_and, and_false, true_or, or_true]
          refine ih (i + 1) _ (by omega) (fun j hj => ?_) (fun j hj => ?_)
          · rw [upd_at, if_neg (by omega)]; exact g1 j hj
          · rw [upd_at]
            by_cases q : j = i
            · rw [if_pos (by omega), q, ev]
              exact byt_m _ (by omega)
            · rw [if_neg (by omega)]; exact g2 j (by omega)
    have := loop 20 0 (μ 133) (by omega) (fun j _ => rfl) (fun j hj => absurd hj (Nat.not_lt_zero j))
    rw [mrw_self] at this
    exact this
  · rw [e180, Classical.not_not] at p
    rw [if_pos p] at k
    exact k μ (Fr.rf _ μ) hm
theorem ok_feed {σ : Sg} (ok : SgOk σ) (a b c d e : Int32) : SgOk (o_feed σ a b c d e).2 := by
  unfold o_feed
  by_cases q : 180 < yz σ
  · rw [if_pos q]; exact ok
  · rw [if_neg q]
    refine ok.sT (fun k => ?_) (by omega)
    unfold feT
    split
    · exact byt_lt _ _
    · exact ok.1 k
theorem cv_sub1 : ∀ n, nI n - 1 = cv n
  | 0 => rfl
  | n + 1 => by rw [cv_s]; exact nI_pred n
/-- rows that are not needed go, from the last one down -/
def thS : Nat → Ps → Ps
  | 0, s => s
  | r + 1, s => thS r (if needB (zP s) (zn s) (zR s) r = true then s else sDrop s r)
theorem thS_P : ∀ (r : Nat) (s : Ps), zP (thS r s) = zP s
  | 0, _ => rfl
  | r + 1, s => by
    rw [thS, thS_P r]
    split <;> rfl
theorem thS_ok : ∀ (r : Nat) (s : Ps), r ≤ zn s → PsOk s → PsOk (thS r s) ∧ zn (thS r s) ≤ zn s
  | 0, _, _, h => ⟨h, Nat.le_refl _⟩
  | r + 1, s, hr, h => by
    rw [thS]
    by_cases q : needB (zP s) (zn s) (zR s) r = true
    · rw [if_pos q]; exact thS_ok r s (by omega) h
    · rw [if_neg q]
      have hd : zn (sDrop s r) = zn s - 1 := rfl
      have := thS_ok r (sDrop s r) (by omega) (h.drop (by omega))
      exact ⟨this.1, by omega⟩
def o_thin (σ : Sg) : Int32 × Sg := if zC (ys σ) = 0 then (-1, σ) else (nI (zn (ys σ) - zn (thS (zn (ys σ)) (ys σ))), sS (kpS σ) (thS (zn (ys σ)) (ys σ)))
theorem m_thin {G : mG} {μ : mM} {σ : Sg} (ok : SgOk σ) (hm : Mr σ μ) : Km G mX12_thin [.ref (gb G + 132)] μ (o_thin σ) := by
  intro Q k
  unfold o_thin at k
  refine e_X12_thin fun E C => k_X12_thin_0 C (fun p => ?_) (fun p => ?_)
  · rw [noPl ok.2.2.1 hm.2.1.1] at p
    rw [if_pos p] at k
    exact k μ (Fr.rf _ μ) hm
  · rw [noPl ok.2.2.1 hm.2.1.1] at p
    rw [if_neg p] at k
    have ok2 := ok.kpS p
    have hn64 := ok.2.2.1.2.1
    have loop : ∀ (r : Nat) (s : Ps) (μ' : mM), r ≤ zn s → zn s ≤ zn (ys σ) → PsOk s → zP s = zP (ys σ) → Fr KM μ μ' → Mr (sS (kpS σ) s) μ' → thS r s = thS (zn (ys σ)) (ys σ) →
        Wm G mX12_thin E (bm G mX12_thin E (pI Q)) μ' 24 [(0, .ref (gb G + 132)), (1, .int (nI (zn (ys σ) - zn s))), (2, .int (cv r))] [] := by
      intro r
      induction r with
      | zero =>
        intro s μ' hr hle hs hP F hms e
        refine k_X12_thin_24 C (fun _ => ?_) (fun z => absurd (show cv 0 < 0 by decide) z)
        rw [← e] at k
        exact k μ' F hms
      | succ r ih =>
        intro s μ' hr hle hs hP F hms e
        have hCs : zC s ≠ 0 := by rw [zC, hP]; exact p
        obtain ⟨hP1, hr1, hX1⟩ : NowP (μ' 135) (zP s) ∧ RowsM (μ' 135) (zn s) (zR s) (zt s) ∧ MixM μ' (zP s) := MrN.row hms hCs
        obtain ⟨⟨hW, hM, -⟩, -⟩ := hs.2.2.2 hCs
        have oks : SgOk (sS (kpS σ) s) := ok2.sS hs
        rw [cv_s]
        refine k_X12_thin_24 C (fun z => absurd z (nI_pos (by omega))) (fun _ => ?_)
        refine s_isNeeded hW hP1.2.1 hM hX1 hr1 (show r < zn s by omega) (fun hh => ?_) (fun hh => ?_)
        · refine k_X12_thin_33 C (fun z => absurd z (by decide)) (fun _ => ?_)
          rw [show nI r + (-1) = cv r from cv_sub r]
          refine ih s μ' (by omega) hle hs hP F hms ?_
          rw [thS, if_pos (show needB (zP s) (zn s) (zR s) r = true from decide_eq_true hh)] at e
          exact e
        · refine k_X12_thin_33 C (fun _ => ?_) (fun z => absurd rfl z)
          refine m_drops oks hms (show r < zn s by omega) fun μ2 F2 hm2 => k_X12_thin_44 C ?_
          rw [show nI r + (-1) = cv r from cv_sub r]
          have hnd : zn (sDrop s r) = zn s - 1 := rfl
          have := ih (sDrop s r) μ2 (by omega) (by omega) (hs.drop (by omega)) hP (F.tr (F2.mono (by decide))) hm2 (by
            rw [thS, if_neg (by
              intro z
              obtain ⟨m, m1, m2, m3⟩ := of_decide_eq_true z
              exact hh m m1 m2 m3)] at e
            exact e)
          simp (disch := omega) only [ofNat_nI, nI_add, pk_mul, nI_clamp, nI_leI, nI_ltI, nI_eq, vp_in_nI_iff, nI_subr, nI_m1r, m1_eq, m1_eq2, m1_le, m1_le2, m1_lt, m1_lt2, m1_self, cv_sub, cv_add1, cv_eq, cv_eqI, cv_eqI2, cv_m1, cv_lt0, cv_leI, cv_Ile, cv_le, cv_lt, cv_Ilt, cv_ltI, not_true, not_false_iff, true_implies, false_implies, false_or, or_false, true_and, and_true, false_and, and_false, true_or, or_true]
          rw [show zn (ys σ) - zn s + 1 = zn (ys σ) - zn (sDrop s r) by omega]
          exact this
    refine m_keepsAct ok hm fun μ2 F2 e2 hm2 => k_X12_thin_13 C ?_
    have e3 : μ2 135 3 = nI (zn (ys σ)) := hm2.2.1.1.2.2.1
    have e4 : μ2 135 3 - 1 = cv (zn (ys σ)) := by
      rw [e3]
      exact cv_sub1 _
    rw [e4]
    have := loop (zn (ys σ)) (ys σ) μ2 (Nat.le_refl _) (Nat.le_refl _) ok.2.2.1 rfl (F2.mono (by decide)) hm2 rfl
    rw [Nat.sub_self] at this
    exact this
/-- the row that comes to place a: the first of the most new mixes -/
def orB (s : Ps) (a d : Nat) : Nat × Nat := bst (fun _ => true) (fun i => newN (zP s) (zR s) (a + i) a) d
def sOr (s : Ps) (a j : Nat) : Ps := sR s (zn s) (brg (zR s) j a) (brg (zt s) j a)
def orS : Nat → Nat → Ps × Nat → Ps × Nat
  | 0, _, p => p
  | d + 1, a, p => orS d (a + 1) (sOr p.1 a (a + ((orB p.1 a (d + 1)).1 - 1)), p.2 + (decide (0 < (orB p.1 a (d + 1)).2 - 1)).toNat)
theorem orB_1 (s : Ps) (a : Nat) : ∀ d, (orB s a (d + 1)).1 ≠ 0 ∧ (orB s a (d + 1)).1 ≤ d + 1 := fun d =>
  ⟨(bst_some (can := fun _ => true) (n := d + 1) ⟨0, by omega, rfl⟩).1, bst_le _ _ _⟩
theorem PsOk.or {s : Ps} (h : PsOk s) {a j : Nat} (hj : j < zn s) (ha : a ≤ j) : PsOk (sOr s a j) := by
  have hC := zn_C h (by omega)
  refine h.mk hC h.2.1 (fun i hi => ?_)
  have hh := (h.2.2.2 hC).2
  unfold brg
  split
  · exact hh j hj
  · split
    · exact hh (i - 1) (by omega)
    · exact hh i hi
theorem newN_le (P : Pl) (R : Nat → Nat → Nat) (j a : Nat) : newN P R j a ≤ MM P := by
  have := sm_le (n := MM P) (B := 1) (f := fun m => (hasM P (R j) m && decide (rwN P R m a = 0)).toNat) (fun i _ => bool_lt _)
  unfold newN
  omega
def o_order (σ : Sg) : Int32 × Sg := if zC (ys σ) = 0 then (-1, σ) else (nI (orS (zn (ys σ)) 0 (ys σ, 0)).2, sS (kpS σ) (orS (zn (ys σ)) 0 (ys σ, 0)).1)
theorem Mr.row2 {σ : Sg} {μ μ' : mM} (h : Mr σ μ) (F : Fr (135 :: scM) μ μ') {s : Ps} (hP : zP s = zP (ys σ)) (hg : NowS (μ' 135) s) : Mr (sS σ s) μ' := by
  obtain ⟨a, b, c, d⟩ := h
  have e132 := F 132 (by decide)
  refine ⟨a.of (by rw [e132]) (F 133 (by decide)) (F 134 (by decide)), ⟨hg, fun hC => ?_⟩, c.of (by rw [e132]) (F 149 (by decide)), d.of (F 150 (by decide)) (F 151 (by decide))⟩
  show MixM _ (zP s)
  rw [hP]
  exact (b.2 (by rw [zC, ← hP]; exact hC)).of (by rw [e132]) (F 140 (by decide)) (F 141 (by decide)) (F 142 (by decide))
theorem m_order {G : mG} {μ : mM} {σ : Sg} (ok : SgOk σ) (hm : Mr σ μ) : Km G mX12_order [.ref (gb G + 132)] μ (o_order σ) := by
  intro Q k
  unfold o_order at k
  refine e_X12_order fun E C => k_X12_order_0 C (fun p => ?_) (fun p => ?_)
  · rw [noPl ok.2.2.1 hm.2.1.1] at p
    rw [if_pos p] at k
    exact k μ (Fr.rf _ μ) hm
  · rw [noPl ok.2.2.1 hm.2.1.1] at p
    rw [if_neg p] at k
    have ok2 := ok.kpS p
    have hn64 := ok.2.2.1.2.1
    have loop : ∀ (d a : Nat) (q : Ps × Nat) (μ' : mM), a + d = zn (ys σ) → zn q.1 = zn (ys σ) → q.2 ≤ a → PsOk q.1 → zP q.1 = zP (ys σ) → Fr KM μ μ' → Mr (sS (kpS σ) q.1) μ' → orS d a q = orS (zn (ys σ)) 0 (ys σ, 0) →
        Wm G mX12_order E (bm G mX12_order E (pI Q)) μ' 17 [(0, .ref (gb G + 132)), (1, .int (nI q.2)), (2, .int (nI a))] [] := by
      intro d
      induction d with
      | zero =>
        intro a q μ' had hnq hqa hs hP F hms e
        have h3 : μ' 135 3 = nI (zn q.1) := hms.2.1.1.2.2.1
        refine k_X12_order_17 C (fun _ => ?_) (fun z => ?_)
        · rw [← e] at k
          exact k μ' F hms
        · exfalso
          revert z
          rw [h3]
          simp (disch := omega) only [ofNat_nI, nI_add, pk_mul, nI_clamp, nI_leI, nI_ltI, nI_eq, vp_in_nI_iff, nI_subr, nI_m1r, m1_eq, m1_eq2, m1_le, m1_le2, m1_lt, m1_lt2, m1_self, cv_sub, cv_add1, cv_eq, cv_eqI, cv_eqI2, cv_m1, cv_lt0, cv_leI, cv_Ile, cv_le, cv_lt, cv_Ilt, cv_ltI, not_true, not_false_iff, true_implies, false_implies, false_or, or_false, true_and, and_true, false_and, and_false, true_or, or_true]
          omega
      | succ d ih =>
        intro a q μ' had hnq hqa hs hP F hms e
        have hCs : zC q.1 ≠ 0 := by rw [zC, hP]; exact p
        obtain ⟨hP1, hr1, hX1⟩ : NowP (μ' 135) (zP q.1) ∧ RowsM (μ' 135) (zn q.1) (zR q.1) (zt q.1) ∧ MixM μ' (zP q.1) := MrN.row hms hCs
        obtain ⟨⟨hW, hM, -⟩, -⟩ := hs.2.2.2 hCs
        have oks : SgOk (sS (kpS σ) q.1) := ok2.sS hs
        have h3 : μ' 135 3 = nI (zn q.1) := hms.2.1.1.2.2.1
        have nl : ∀ j, newN (zP q.1) (zR q.1) j a ≤ 1200 := fun j => Nat.le_trans (newN_le _ _ _ _) hM
        have b2 : ∀ i, (orB q.1 a i).2 ≤ 1201 := fun i => bst2_le (fun v _ => nl _)
        have inner : ∀ (f i : Nat), 1 ≤ i → i + f = d + 1 → Wm G mX12_order E (bm G mX12_order E (pI Q)) μ' 42 [(0, .ref (gb G + 132)), (1, .int (nI q.2)), (2, .int (nI a)), (3, .int (nI (a + ((orB q.1 a i).1 - 1)))), (4, .int (nI ((orB q.1 a i).2 - 1))), (5, .int (nI (a + i)))] [] := by
          intro f
          induction f with
          | zero =>
            intro i hi1 hif
            have hid : i = d + 1 := by omega
            subst hid
            obtain ⟨o1, o2⟩ := orB_1 q.1 a d
            refine k_X12_order_42 C (fun _ => ?_) (fun z => ?_)
            · refine s_bringsTo hr1 (show a + ((orB q.1 a (d + 1)).1 - 1) < zn q.1 by omega) (by omega) fun g f' g1 g2 => k_X12_order_91 C (fun v hv => ?_)
              have ev : v = nI (decide (0 < (orB q.1 a (d + 1)).2 - 1)).toNat := by
                have hb := b2 (d + 1)
                rcases hv with ⟨y, z⟩ | ⟨y, z⟩
                · have := (nI_leI (b := 0) (by omega) (by omega)).mp y
                  rw [z, decide_eq_false (by omega)]; rfl
                · rw [z, decide_eq_true (Nat.pos_of_ne_zero fun w => y (by rw [w]; decide))]; rfl
              rw [ev]
              simp (disch := omega) only [ofNat_nI, nI_add, pk_mul, nI_clamp, nI_leI, nI_ltI, nI_eq, vp_in_nI_iff, nI_subr, nI_m1r, m1_eq, m1_eq2, m1_le, m1_le2, m1_lt, m1_lt2, m1_self, cv_sub, cv_add1, cv_eq, cv_eqI, cv_eqI2, cv_m1, cv_lt0, cv_leI, cv_Ile, cv_le, cv_lt, cv_Ilt, cv_ltI, not_true, not_false_iff, true_implies, false_implies, false_or, or_false, true_and, and_true, false_and, and_false, true_or, or_true]
              refine ih (a + 1) (sOr q.1 a (a + ((orB q.1 a (d + 1)).1 - 1)), q.2 + (decide (0 < (orB q.1 a (d + 1)).2 - 1)).toNat) _ (by omega) hnq (by
                have := bool_lt (decide (0 < (orB q.1 a (d + 1)).2 - 1))
                show q.2 + _ ≤ a + 1
                omega) (hs.or (by omega) (by omega)) hP ((F.mrw (by decide)).mrw (by decide)) ?_ e
              refine Mr.row2 hms (((Fr.rf _ μ').mrw (by decide)).mrw (by decide)) (by rfl) ?_
              rw [mrw_at]
              exact hms.2.1.1.row hs hCs rfl rfl (fun j hj _ => g1 j hj) g2
            · exfalso
              revert z
              rw [h3, hnq]
              simp (disch := omega) only [ofNat_nI, nI_add, pk_mul, nI_clamp, nI_leI, nI_ltI, nI_eq, vp_in_nI_iff, nI_subr, nI_m1r, m1_eq, m1_eq2, m1_le, m1_le2, m1_lt, m1_lt2, m1_self, cv_sub, cv_add1, cv_eq, cv_eqI, cv_eqI2, cv_m1, cv_lt0, cv_leI, cv_Ile, cv_le, cv_lt, cv_Ilt, cv_ltI, not_true, not_false_iff, true_implies, false_implies, false_or, or_false, true_and, and_true, false_and, and_false, true_or, or_true]
              omega
          | succ f ihf =>
            intro i hi1 hif
            obtain ⟨i', rfl⟩ : ∃ i', i = i' + 1 := ⟨i - 1, by omega⟩
            obtain ⟨o1, o2⟩ := orB_1 q.1 a i'
            have hb := b2 (i' + 1)
            have w2 : (orB q.1 a (i' + 1)).2 ≠ 0 := bst_12 o1
            refine k_X12_order_42 C (fun z => ?_) (fun _ => ?_)
            · exfalso
              revert z
              rw [h3, hnq]
              simp (disch := omega) only [ofNat_nI, nI_add, pk_mul, nI_clamp, nI_leI, nI_ltI, nI_eq, vp_in_nI_iff, nI_subr, nI_m1r, m1_eq, m1_eq2, m1_le, m1_le2, m1_lt, m1_lt2, m1_self, cv_sub, cv_add1, cv_eq, cv_eqI, cv_eqI2, cv_m1, cv_lt0, cv_leI, cv_Ile, cv_le, cv_lt, cv_Ilt, cv_ltI, not_true, not_false_iff, true_implies, false_implies, false_or, or_false, true_and, and_true, false_and, and_false, true_or, or_true]
              omega
            · have nx := ihf (i' + 1 + 1) (by omega) (by omega)
              have bb : orB q.1 a (i' + 1 + 1) = if true = true ∧ (orB q.1 a (i' + 1)).2 < newN (zP q.1) (zR q.1) (a + (i' + 1)) a + 1 then (i' + 1 + 1, newN (zP q.1) (zR q.1) (a + (i' + 1)) a + 1) else orB q.1 a (i' + 1) := rfl
              refine s_newIn hW hP1.2.1 hM hX1 hr1 (show a + (i' + 1) < zn q.1 by omega) (show a ≤ zn q.1 by omega) (k_X12_order_60 C (fun z => ?_) (fun z => ?_))
              · have hn' := nl (a + (i' + 1))
                revert z
                simp (disch := omega) only [ofNat_nI, nI_add, pk_mul, nI_clamp, nI_leI, nI_ltI, nI_eq, vp_in_nI_iff, nI_subr, nI_m1r, m1_eq, m1_eq2, m1_le, m1_le2, m1_lt, m1_lt2, m1_self, cv_sub, cv_add1, cv_eq, cv_eqI, cv_eqI2, cv_m1, cv_lt0, cv_leI, cv_Ile, cv_le, cv_lt, cv_Ilt, cv_ltI, not_true, not_false_iff, true_implies, false_implies, false_or, or_false, true_and, and_true, false_and, and_false, true_or, or_true]
                intro z
                rw [bb, if_pos ⟨rfl, by omega⟩] at nx
                exact nx
              · have hn' := nl (a + (i' + 1))
                revert z
                simp (disch := omega) only [ofNat_nI, nI_add, pk_mul, nI_clamp, nI_leI, nI_ltI, nI_eq, vp_in_nI_iff, nI_subr, nI_m1r, m1_eq, m1_eq2, m1_le, m1_le2, m1_lt, m1_lt2, m1_self, cv_sub, cv_add1, cv_eq, cv_eqI, cv_eqI2, cv_m1, cv_lt0, cv_leI, cv_Ile, cv_le, cv_lt, cv_Ilt, cv_ltI, not_true, not_false_iff, true_implies, false_implies, false_or, or_false, true_and, and_true, false_and, and_false, true_or, or_true]
                intro z
                rw [bb, if_neg (by rintro ⟨-, y⟩; omega)] at nx
                exact nx
        refine k_X12_order_17 C (fun z => ?_) (fun _ => ?_)
        · exfalso
          revert z
          rw [h3, hnq]
          simp (disch := omega) only [ofNat_nI, nI_add, pk_mul, nI_clamp, nI_leI, nI_ltI, nI_eq, vp_in_nI_iff, nI_subr, nI_m1r, m1_eq, m1_eq2, m1_le, m1_le2, m1_lt, m1_lt2, m1_self, cv_sub, cv_add1, cv_eq, cv_eqI, cv_eqI2, cv_m1, cv_lt0, cv_leI, cv_Ile, cv_le, cv_lt, cv_Ilt, cv_ltI, not_true, not_false_iff, true_implies, false_implies, false_or, or_false, true_and, and_true, false_and, and_false, true_or, or_true]
          omega
        · refine s_newIn hW hP1.2.1 hM hX1 hr1 (show a < zn q.1 by omega) (show a ≤ zn q.1 by omega) (k_X12_order_35 C ?_)
          have := inner d 1 (by omega) (by omega)
          have b1 : orB q.1 a 1 = (1, newN (zP q.1) (zR q.1) a a + 1) := by
            unfold orB
            rw [bst, bst, if_pos ⟨rfl, Nat.succ_pos _⟩]
            rfl
          rw [b1] at this
          simp (disch := omega) only [ofNat_nI, nI_add, pk_mul, nI_clamp, nI_leI, nI_ltI, nI_eq, vp_in_nI_iff, nI_subr, nI_m1r, m1_eq, m1_eq2, m1_le, m1_le2, m1_lt, m1_lt2, m1_self, cv_sub, cv_add1, cv_eq, cv_eqI, cv_eqI2, cv_m1, cv_lt0, cv_leI, cv_Ile, cv_le, cv_lt, cv_Ilt, cv_ltI, not_true, not_false_iff, true_implies, false_implies, false_or, or_false, true_and, and_true, false_and, and_false, true_or, or_true]
          exact this
    refine m_keepsAct ok hm fun μ2 F2 e2 hm2 => k_X12_order_13 C ?_
    exact loop (zn (ys σ)) 0 (ys σ, 0) μ2 (by omega) rfl (Nat.le_refl _) ok.2.2.1 rfl (F2.mono (by decide)) hm2 rfl

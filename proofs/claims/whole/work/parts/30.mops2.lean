/-! THE MODEL: rows by hand, told, taken away; draws; gain; hope; lawful rows -/
theorem nle0 (x : Int32) : 0 ≤ x ↔ ¬ x < 0 := by
  rw [Int32.le_iff_toInt_le, Int32.lt_iff_toInt_lt]
  omega
def sX (s : Ps) (x : Nat) : Ps := (zP s, zn s, zR s, zt s, x)
def sR (s : Ps) (n : Nat) (R : Nat → Nat → Nat) (t : Nat → Nat) : Ps := (zP s, n, R, t, zx s)
def o_draws (σ : Sg) (x : Int32) : Int32 × Sg := if x < 0 then (-1, σ) else (nI (zx (ys σ)), sS σ (sX (ys σ) x.toNatClampNeg))
theorem NowS.x {g : Nat → Int32} {s : Ps} (ok : PsOk s) (h : NowS g s) (x : Nat) : NowS (upd g 4 (nI x)) (sX s x) := by
  obtain ⟨a, b, c, d, e⟩ := h
  have o : ∀ j, j ≠ 4 → upd g 4 (nI x) j = g j := fun j hj => by rw [upd_at, if_neg hj]
  refine ⟨by rw [upd_at, if_pos rfl]; rfl, by rw [o _ (by decide)]; exact b, by rw [o _ (by decide)]; exact c, by rw [o _ (by decide)]; exact d, fun hC => ?_⟩
  obtain ⟨e1, r3, r64, rr, rt⟩ := e hC
  have hP := (ok.2.2.2 hC).1.1
  refine ⟨NowP.of hP.ct.2.2.2 hP.2.2.2.2.1 e1 (fun j hj h3 h4 => o j h4), by rw [o _ (by decide)]; exact r3, r64, fun j hj => (rr j hj).of (fun c hc => o _ (by omega)), fun j hj => ?_⟩
  rw [o _ (by omega)]
  exact rt j hj
theorem m_draws {G : mG} {μ : mM} {σ : Sg} (ok : SgOk σ) (hm : Mr σ μ) (x : Int32) : Km G mX12_draws [.ref (gb G + 132), .int x] μ (o_draws σ x) := by
  intro Q k
  unfold o_draws at k
  refine a_X12_draws (fun p => ?_) (fun p => ?_)
  · rw [nle0] at p
    rw [if_neg p, ← hm.2.1.1.1] at k
    obtain ⟨j, hj, rfl⟩ := nI_of p
    rw [nI_clamp hj] at k
    rw [ms_mrw0]
    exact k _ ((Fr.rf _ μ).mrw (by decide)) (hm.row (by rfl) (hm.2.1.1.x ok.2.2.1 j))
  · rw [nle0, Classical.not_not] at p
    rw [if_pos p] at k
    exact k μ (Fr.rf _ μ) hm
def o_gain (σ : Sg) (x : Int32) : Int32 × Sg := match ix x (zn (ys σ)) with | none => (-1, σ) | some j => (nI (newN (zP (ys σ)) (zR (ys σ)) j j), σ)
theorem zn_C {s : Ps} (ok : PsOk s) (h : 0 < zn s) : zC s ≠ 0 := fun z => by have := (ok.2.2.1 z).1; omega
theorem ix_or {x : Int32} {n : Nat} (p : x < 0 ∨ (¬ x < 0 ∧ nI n ≤ x)) : ix x n = none := by
  rcases p with p | ⟨p, q⟩
  · exact ix_n1 p
  · exact ix_n2 q
theorem m_gain {G : mG} {μ : mM} {σ : Sg} (ok : SgOk σ) (hm : Mr σ μ) (x : Int32) : Km G mX12_gain [.ref (gb G + 132), .int x] μ (o_gain σ x) := by
  intro Q k
  have hn := ok.2.2.1.2.1
  have h3 := hm.2.1.1.2.2.1
  unfold o_gain at k
  refine e_X12_gain fun E C => k_X12_gain_0 C (fun p => ?_) (fun p1 p2 => ?_)
  · rw [h3] at p
    rw [ix_or p] at k
    exact k μ (Fr.rf _ μ) hm
  · rw [h3] at p2
    obtain ⟨j, hj, rfl⟩ := ix_not (by omega) p1 p2
    rw [ix_s hj (by omega)] at k
    have hC := zn_C ok.2.2.1 (by omega)
    obtain ⟨hP, hr, hX⟩ := MrN.row hm hC
    obtain ⟨⟨hW, hM, -⟩, -⟩ := ok.2.2.1.2.2.2 hC
    exact s_gainOf hW hP.2.1 hM hX hr hj (k_X12_gain_13 C (k μ (Fr.rf _ μ) hm))
def o_lawful (σ : Sg) (x : Int32) : Int32 × Sg := match giv (zP (ys σ)) x with | none => (-1, σ) | some d => (nI (cnt (zP (ys σ)) (rowD (zC (ys σ)) d)), σ)
theorem m_lawful {G : mG} {μ : mM} {σ : Sg} (ok : SgOk σ) (hm : Mr σ μ) (x : Int32) : Km G mX12_lawful [.ref (gb G + 132), .int x] μ (o_lawful σ x) := by
  intro Q k
  unfold o_lawful at k
  refine e_X12_lawful fun E C => k_X12_lawful_0 C (s_given ok hm (fun g hg => ?_) (fun d g hC hg hd hrow => ?_))
  · rw [hg] at k
    exact k_X12_lawful_5 C (fun z => absurd rfl z) (fun _ => k _ ((Fr.rf _ μ).mrw (by decide)) (hm.fr ((Fr.rf _ μ).mrw (by decide))))
  · rw [hg] at k
    obtain ⟨hP, hr, hX⟩ := MrN.row hm hC
    obtain ⟨⟨hW, hM, -⟩, -⟩ := ok.2.2.1.2.2.2 hC
    refine k_X12_lawful_5 C (fun _ => ?_) (fun z => absurd z (by decide))
    refine s_probes (c1 := 145) (n1 := 8) rfl (by decide) (by decide) (by decide) hW.ct.2.2.2 (by rw [mrw_ne (by decide)]; exact hP.1) (fun c hc => by rw [mrw_at]; exact hrow c hc) fun g1 hg1 => k_X12_lawful_18 C ?_
    refine s_fillings (one := 0) (r := rowD (zC (ys σ)) d) hW (by rw [mrw_ne (by decide), mrw_ne (by decide)]; exact hP) (fun c hc => ⟨by rw [mrw_at]; exact hg1 c hc, rowD_le hd c⟩) (by omega) fun g2 => k_X12_lawful_23 C ?_
    rw [if_neg (by decide)]
    have F : Fr [138, 139, 145] μ (mrw (mrw (mrw μ 145 g) 138 g1) 139 g2) := (((Fr.rf _ μ).mrw (by decide)).mrw (by decide)).mrw (by decide)
    exact k _ (F.mono (by decide)) (hm.fr (F.mono (by decide)))
/-- the same with a long -/
def KmL (G : mG) (M : mMt) (av : List Value) (μ : mM) (o : Int64 × Sg) : Prop := ∀ Q : Int64 → mM → Prop, (∀ μ', Fr KM μ μ' → Mr o.2 μ' → Q o.1 μ') → CtL G M av μ Q
def o_hope (σ : Sg) (x : Int32) : Int64 × Sg := match giv (zP (ys σ)) x with | none => (-1, σ) | some d => (lN (hopN (zP (ys σ)) (openB (zP (ys σ)) (zn (ys σ)) (zR (ys σ))) (rowD (zC (ys σ)) d) (MM (zP (ys σ)))), σ)
theorem m_hope {G : mG} {μ : mM} {σ : Sg} (ok : SgOk σ) (hm : Mr σ μ) (x : Int32) : KmL G mX12_hope [.ref (gb G + 132), .int x] μ (o_hope σ x) := by
  intro Q k
  unfold o_hope at k
  refine e_X12_hope fun E C => k_X12_hope_0 C (s_given ok hm (fun g hg => ?_) (fun d g hC hg hd hrow => ?_))
  · rw [hg] at k
    exact k_X12_hope_5 C (fun z => absurd rfl z) (fun _ => k _ ((Fr.rf _ μ).mrw (by decide)) (hm.fr ((Fr.rf _ μ).mrw (by decide))))
  · rw [hg] at k
    obtain ⟨hP, hr, hX⟩ := MrN.row hm hC
    obtain ⟨⟨hW, hM, -⟩, -⟩ := ok.2.2.1.2.2.2 hC
    refine k_X12_hope_5 C (fun _ => ?_) (fun z => absurd z (by decide))
    have e5 : (mrw μ 145 g) 135 = μ 135 := mrw_ne (by decide)
    refine s_laysOpen hW (by rw [e5]; exact hP.2.1) hM (hX.of (by rw [mrw_ne (by decide)]) (mrw_ne (by decide)) (mrw_ne (by decide)) (mrw_ne (by decide))) (by rw [e5]; exact hr) fun g1 hg1 => k_X12_hope_16 C ?_
    have F : Fr [144, 145] μ (mrw (mrw μ 145 g) 144 g1) := ((Fr.rf _ μ).mrw (by decide)).mrw (by decide)
    refine s_hopeOf (c1 := 145) (n1 := 8) (r := rowD (zC (ys σ)) d) hW (by rw [F 135 (by decide)]; exact hP) hM (by rw [F 132 (by decide)]; exact hX.1) (hX.2.1.of (F 140 (by decide)) (F 141 (by decide))) rfl (by decide) (by decide) (by decide) (fun m hm' => by rw [mrw_at]; exact hg1 m hm') (fun c hc => ⟨by rw [mrw_ne (by decide), mrw_at]; exact hrow c hc, rowD_le hd c⟩) fun μ' F' => k_X12_hope_25 C ?_
    have F2 : Fr [138, 139, 144, 145] μ μ' := (F.mono (by decide)).tr (F'.mono (by decide))
    exact k _ (F2.mono (by decide)) (hm.fr (F2.mono (by decide)))
/-- a row that comes behind the others -/
def sAdd (s : Ps) (r : Nat → Nat) : Ps := sR s (zn s + 1) (psh (zR s) (zn s) r) (psh (zt s) (zn s) 0)
def o_add (σ : Sg) (x : Int32) : Int32 × Sg := match giv (zP (ys σ)) x with
  | none => (-1, σ)
  | some d => if zn (ys σ) = 64 then (-1, σ) else if canB (zP (ys σ)) (rowD (zC (ys σ)) d) = true then (nI (zn (ys σ) + 1), sS (kpS σ) (sAdd (ys σ) (rowD (zC (ys σ)) d))) else (-2, σ)
theorem m_comes {G : mG} {Q : mM → Prop} {μ : mM} {σ : Sg} (ok : SgOk σ) (hm : Mr σ μ) (hC : zC (ys σ) ≠ 0) (hn : zn (ys σ) < 64) {c1 n1 : Nat} {r : Nat → Nat} (h1 : sh c1 = (1, n1)) (hc1 : c1 ≠ 135) (hn1 : 8 ≤ n1) (hn2 : n1 < 10000)
    (hr : ∀ c, r c ≤ qL (zP (ys σ)) c) (hg : ∀ c, c < zC (ys σ) → μ c1 c = cv (r c)) (k : ∀ μ', Fr [135] μ μ' → Mr (sS σ (sAdd (ys σ) r)) μ' → Q μ') : CtV G mX12_comes [.ref (gb G + 132), .ref (gb G + c1)] μ Q := by
  obtain ⟨hP, hrw, hX⟩ := MrN.row hm hC
  obtain ⟨⟨hW, hM, -⟩, -⟩ := ok.2.2.1.2.2.2 hC
  refine s_comes h1 hc1 hn1 hn2 hW.ct.2.2.2 hP.1 hrw hn (fun c hc => ⟨hg c hc, Nat.le_trans (hr c) (hW.lv hc).2⟩) (fun c hc => by
    have := hr c
    rw [hW.2.2.2.1 c hc] at this
    omega) fun g g1 g2 => k _ ((Fr.rf _ μ).mrw (by decide)) (hm.row (by rfl) (hm.2.1.1.row ok.2.2.1 hC rfl rfl g1 g2))
theorem m_add {G : mG} {μ : mM} {σ : Sg} (ok : SgOk σ) (hm : Mr σ μ) (x : Int32) : Km G mX12_add [.ref (gb G + 132), .int x] μ (o_add σ x) := by
  intro Q k
  unfold o_add at k
  have hn := ok.2.2.1.2.1
  refine e_X12_add fun E C => k_X12_add_0 C (s_given ok hm (fun g hg => ?_) (fun d g hC hg hd hrow => ?_))
  · rw [hg] at k
    exact k_X12_add_5 C (fun _ => k _ ((Fr.rf _ μ).mrw (by decide)) (hm.fr ((Fr.rf _ μ).mrw (by decide)))) (fun z => absurd rfl z)
  · rw [hg] at k
    obtain ⟨hP, hr, hX⟩ := MrN.row hm hC
    obtain ⟨⟨hW, hM, -⟩, -⟩ := ok.2.2.1.2.2.2 hC
    have e3 : (mrw μ 145 g) 135 3 = nI (zn (ys σ)) := by rw [mrw_ne (by decide)]; exact hr.1
    have e64 : nI (zn (ys σ)) = 64 ↔ zn (ys σ) = 64 := nI_eq (b := 64) (by omega) (by omega)
    simp only [] at k
    refine k_X12_add_5 C (fun p => ?_) (fun _ p => ?_)
    · rw [e3, e64] at p
      have : zn (ys σ) = 64 := by
        rcases p with p | p
        · exact absurd p (by decide)
        · exact p.2
      rw [if_pos this] at k
      exact k _ ((Fr.rf _ μ).mrw (by decide)) (hm.fr ((Fr.rf _ μ).mrw (by decide)))
    · rw [e3, e64] at p
      rw [if_neg p] at k
      refine s_probes (c1 := 145) (n1 := 8) rfl (by decide) (by decide) (by decide) hW.ct.2.2.2 (by rw [mrw_ne (by decide)]; exact hP.1) (fun c hc => by rw [mrw_at]; exact hrow c hc) fun g1 hg1 => k_X12_add_29 C ?_
      refine s_canProbe (r := rowD (zC (ys σ)) d) hW (by rw [mrw_ne (by decide), mrw_ne (by decide)]; exact hP) (fun c hc => ⟨by rw [mrw_at]; exact hg1 c hc, rowD_le hd c⟩) fun g2 => ?_
      have F : Fr [138, 139, 145] μ (mrw (mrw (mrw μ 145 g) 138 g1) 139 g2) := (((Fr.rf _ μ).mrw (by decide)).mrw (by decide)).mrw (by decide)
      have hm1 := hm.fr (F.mono (by decide))
      have h145 : ∀ c, c < zC (ys σ) → (mrw (mrw (mrw μ 145 g) 138 g1) 139 g2) 145 c = cv (rowD (zC (ys σ)) d c) := fun c hc => by rw [mrw_ne (by decide), mrw_ne (by decide), mrw_at]; exact hrow c hc
      generalize (mrw (mrw (mrw μ 145 g) 138 g1) 139 g2) = μ1 at F hm1 h145
      refine k_X12_add_33 C (fun q => ?_) (fun q => ?_)
      · rw [nI_b0] at q
        rw [if_pos (by cases z : canB (zP (ys σ)) (rowD (zC (ys σ)) d) with | true => rfl | false => exact absurd z q)] at k
        refine m_keepsAct ok hm1 fun μ2 F2 e2 hm2 => k_X12_add_43 C ?_
        refine m_comes (ok.kpS hC) hm2 hC (show zn (ys σ) < 64 by omega) (c1 := 145) (n1 := 8) (r := rowD (zC (ys σ)) d) rfl (by decide) (by decide) (by decide) (fun c => rowD_le hd c) (fun c hc => by rw [F2 145 (by decide)]; exact h145 c hc) fun μ3 F3 hm3 => k_X12_add_51 C ?_
        rw [hm3.2.1.1.2.2.1]
        exact k μ3 (((F.mono (by decide)).tr (F2.mono (by decide))).tr (F3.mono (by decide))) hm3
      · rw [nI_b0] at q
        rw [if_neg (by rw [q]; decide)] at k
        exact k _ (F.mono (by decide)) hm1
/-- a cell of a row is told -/
def sCel (s : Ps) (j c v : Nat) : Ps := sR s (zn s) (psh (zR s) j (up (zR s j) c v)) (zt s)
theorem RowsM.set {g : Nat → Int32} {n j c v : Nat} {R : Nat → Nat → Nat} {t : Nat → Nat} (h : RowsM g n R t) (hj : j < n) (hc : c < 8) (hv : v ≤ 4) : RowsM (upd g (161 + 8 * j + c) (cv v)) n (psh R j (up (R j) c v)) t := by
  obtain ⟨r3, r64, rr, rt⟩ := h
  refine ⟨by rw [upd_at, if_neg (by omega)]; exact r3, r64, fun i hi => ?_, fun i hi => by rw [upd_at, if_neg (by omega)]; exact rt i hi⟩
  unfold psh
  by_cases q : i = j
  · rw [if_pos q]
    subst q
    intro c' hc'
    rw [upd_at, up_at]
    by_cases z : c' = c
    · rw [if_pos (by omega), if_pos z]; exact ⟨rfl, hv⟩
    · rw [if_neg (by omega), if_neg z]; exact rr i hi c' hc'
  · rw [if_neg q]
    exact (rr i hi).of (fun c' hc' => by rw [upd_at, if_neg (by omega)])
def o_tell (σ : Sg) (x y z : Int32) : Int32 × Sg := match ix x (zn (ys σ)), ix y (zC (ys σ)) with
  | some j, some c => (match ix (z + 1) (qL (zP (ys σ)) c + 1) with
    | none => (-4, σ)
    | some v => if zR (ys σ) j c = v then (-3, σ) else if canB (zP (ys σ)) (up (zR (ys σ) j) c v) = true then (cv (zR (ys σ) j c), sS (kpS σ) (sCel (ys σ) j c v)) else (-2, σ))
  | _, _ => (-4, σ)
theorem m_tell {G : mG} {μ : mM} {σ : Sg} (ok : SgOk σ) (hm : Mr σ μ) (x y z : Int32) : Km G mX12_tell [.ref (gb G + 132), .int x, .int y, .int z] μ (o_tell σ x y z) := by
  intro Q k
  unfold o_tell at k
  have h8 := zC_le ok.2.2.1
  have hn := ok.2.2.1.2.1
  have h0 := hm.2.1.1.2.1
  have h3 := hm.2.1.1.2.2.1
  by_cases px : x < 0 ∨ (¬ x < 0 ∧ nI (zn (ys σ)) ≤ x)
  · rw [ix_or px] at k
    refine e_X12_tell fun E C => k_X12_tell_0 C (fun _ => k μ (Fr.rf _ μ) hm) (fun a b => ?_) (fun a b => ?_) (fun a b => ?_) (fun a b => ?_)
    all_goals
      exfalso
      rw [h3] at b
      rcases px with px | px
      · exact a px
      · exact b px.2
  obtain ⟨j, hj, rfl⟩ := ix_not (x := x) (n := zn (ys σ)) (by omega) (fun q => px (Or.inl q)) (fun q => px (by by_cases y : x < 0; exact Or.inl y; exact Or.inr ⟨y, q⟩))
  have hC := zn_C ok.2.2.1 (by omega)
  obtain ⟨hP, hr, hX⟩ := MrN.row hm hC
  obtain ⟨⟨hW, hM, -⟩, hrow⟩ := ok.2.2.1.2.2.2 hC
  rw [ix_s hj (by omega)] at k
  by_cases py : y < 0 ∨ (¬ y < 0 ∧ nI (zC (ys σ)) ≤ y)
  · rw [ix_or py] at k
    refine e_X12_tell fun E C => k_X12_tell_0 C (fun _ => k μ (Fr.rf _ μ) hm) (fun _ _ a b => ?_) (fun _ _ a b => ?_) (fun _ _ a b => ?_) (fun _ _ a b => ?_)
    all_goals
      exfalso
      rw [h0] at b
      rcases py with py | py
      · exact a py
      · exact b py.2
  obtain ⟨c, hc, rfl⟩ := ix_not (x := y) (n := zC (ys σ)) (by omega) (fun q => py (Or.inl q)) (fun q => py (by by_cases z : y < 0; exact Or.inl z; exact Or.inr ⟨z, q⟩))
  rw [ix_s hc (by omega)] at k
  have l4 := (hW.lv hc).2
  have l2 := (hW.lv hc).1
  have eL : μ 135 (5 + nI c).toNatClampNeg = nI (qL (zP (ys σ)) c) := by
    simp (disch := omega) only [ofNat_nI, nI_add, pk_mul, nI_clamp, nI_leI, nI_ltI, nI_eq, vp_in_nI_iff, nI_subr, nI_m1r, m1_eq, m1_eq2, m1_le, m1_le2, m1_lt, m1_lt2, m1_self, cv_sub, cv_add1, cv_eq, cv_eqI, cv_eqI2, cv_m1, cv_lt0, cv_leI, cv_Ile, cv_le, cv_lt, cv_Ilt, cv_ltI, not_true, not_false_iff, true_implies, false_implies, false_or, or_false, true_and, and_true, false_and, and_false, true_or, or_true]
    exact hP.2.2.2.1 c hc
  have eR := (hr.2.2.1 j hj c (by omega)).1
  have rl := (hrow j hj).1.1
  have eRc : μ 135 (161 + 8 * nI j + nI c).toNatClampNeg = cv (zR (ys σ) j c) := by
    simp (disch := omega) only [ofNat_nI, nI_add, pk_mul, nI_clamp, nI_leI, nI_ltI, nI_eq, vp_in_nI_iff, nI_subr, nI_m1r, m1_eq, m1_eq2, m1_le, m1_le2, m1_lt, m1_lt2, m1_self, cv_sub, cv_add1, cv_eq, cv_eqI, cv_eqI2, cv_m1, cv_lt0, cv_leI, cv_Ile, cv_le, cv_lt, cv_Ilt, cv_ltI, not_true, not_false_iff, true_implies, false_implies, false_or, or_false, true_and, and_true, false_and, and_false, true_or, or_true]
    exact eR
  have ein : vp_in (161 + 8 * nI j + nI c) 673 := by
    simp (disch := omega) only [ofNat_nI, nI_add, pk_mul, nI_clamp, nI_leI, nI_ltI, nI_eq, vp_in_nI_iff, nI_subr, nI_m1r, m1_eq, m1_eq2, m1_le, m1_le2, m1_lt, m1_lt2, m1_self, cv_sub, cv_add1, cv_eq, cv_eqI, cv_eqI2, cv_m1, cv_lt0, cv_leI, cv_Ile, cv_le, cv_lt, cv_Ilt, cv_ltI, not_true, not_false_iff, true_implies, false_implies, false_or, or_false, true_and, and_true, false_and, and_false, true_or, or_true]
    omega
  by_cases pz : z < -1 ∨ nI (qL (zP (ys σ)) c) ≤ z
  · simp only [ixm_n (n := qL (zP (ys σ)) c) (by omega) pz] at k
    have pz' : lg_cmp z.toInt64 (-1) < 0 ∨ 0 < lg_cmp z.toInt64 ((μ 135 (5 + nI c).toNatClampNeg) - 1).toInt64 := by
      rw [lgm_lt, eL, lgi_gt]
      rcases pz with pz | pz
      · exact Or.inl pz
      · right
        have e1 : nI (qL (zP (ys σ)) c) - 1 = nI (qL (zP (ys σ)) c - 1) := by
          have : (1 : Int32) = nI 1 := rfl
          rw [this, nI_subr (by omega)]
        rw [e1]
        have := nI_toInt (n := qL (zP (ys σ)) c) (by omega)
        have := nI_toInt (n := qL (zP (ys σ)) c - 1) (by omega)
        rw [Int32.le_iff_toInt_le] at pz
        rw [Int32.lt_iff_toInt_lt]
        omega
    refine e_X12_tell fun E C => k_X12_tell_0 C (fun _ => k μ (Fr.rf _ μ) hm) (fun _ _ _ _ => ?_) (fun _ _ _ _ a b => ?_) (fun _ _ _ _ a b => ?_) (fun _ _ _ _ a b => ?_)
    · simp (disch := omega) only [ofNat_nI, nI_add, pk_mul, nI_clamp, nI_leI, nI_ltI, nI_eq, vp_in_nI_iff, nI_subr, nI_m1r, m1_eq, m1_eq2, m1_le, m1_le2, m1_lt, m1_lt2, m1_self, cv_sub, cv_add1, cv_eq, cv_eqI, cv_eqI2, cv_m1, cv_lt0, cv_leI, cv_Ile, cv_le, cv_lt, cv_Ilt, cv_ltI, not_true, not_false_iff, true_implies, false_implies, false_or, or_false, true_and, and_true, false_and, and_false, true_or, or_true]
      omega
    all_goals
      exfalso
      rcases pz' with pz | pz
      · exact a pz
      · exact b pz
  obtain ⟨v, hv, rfl⟩ := ixm_not (x := z) (n := qL (zP (ys σ)) c) (by omega) (fun q => pz (Or.inl q)) (fun q => pz (Or.inr q))
  simp only [ixm_s hv (show qL (zP (ys σ)) c + 1 < 2 ^ 31 by omega)] at k
  refine e_X12_tell fun E C => k_X12_tell_0 C (fun p => ?_) (fun _ _ _ _ => ?_) (fun _ _ _ _ _ _ => ein) (fun _ _ _ _ _ _ p => ?_) (fun _ _ _ _ _ _ p => ?_)
  · exfalso
    rw [h3, h0, lgm_lt, eL, lgi_gt] at p
    have e1 : nI (qL (zP (ys σ)) c) - 1 = nI (qL (zP (ys σ)) c - 1) := by
      have : (1 : Int32) = nI 1 := rfl
      rw [this, nI_subr (by omega)]
    have e2 : ¬ cv v < -1 := by
      rw [Int32.lt_iff_toInt_lt, cv_toInt (by omega)]
      have em : ((-1 : Int32)).toInt = -1 := by decide
      omega
    have e3 : ¬ nI (qL (zP (ys σ)) c - 1) < cv v := by
      rw [cv_Ilt (by omega) (by omega)]
      omega
    rw [e1] at p
    rcases p with (p | ⟨-, p⟩) | ⟨-, -, (p | ⟨-, p⟩) | ⟨-, -, p | ⟨-, p⟩⟩⟩
    · exact nI_pos (by omega) p
    · exact nI_ge hj (by omega) p
    · exact nI_pos (by omega) p
    · exact nI_ge hc (by omega) p
    · exact e2 p
    · exact e3 p
  · simp (disch := omega) only [ofNat_nI, nI_add, pk_mul, nI_clamp, nI_leI, nI_ltI, nI_eq, vp_in_nI_iff, nI_subr, nI_m1r, m1_eq, m1_eq2, m1_le, m1_le2, m1_lt, m1_lt2, m1_self, cv_sub, cv_add1, cv_eq, cv_eqI, cv_eqI2, cv_m1, cv_lt0, cv_leI, cv_Ile, cv_le, cv_lt, cv_Ilt, cv_ltI, not_true, not_false_iff, true_implies, false_implies, false_or, or_false, true_and, and_true, false_and, and_false, true_or, or_true]
    omega
  · rw [eRc, cv_eq (by have := rl c; omega) (by omega)] at p
    rw [if_neg p] at k
    refine s_probesRow hW.ct.2.2.2 hP.1 (by omega) (hr.2.2.1 j hj) fun g1 hg1 => k_X12_tell_63 C ?_ ?_
    · simp (disch := omega) only [ofNat_nI, nI_add, pk_mul, nI_clamp, nI_leI, nI_ltI, nI_eq, vp_in_nI_iff, nI_subr, nI_m1r, m1_eq, m1_eq2, m1_le, m1_le2, m1_lt, m1_lt2, m1_self, cv_sub, cv_add1, cv_eq, cv_eqI, cv_eqI2, cv_m1, cv_lt0, cv_leI, cv_Ile, cv_le, cv_lt, cv_Ilt, cv_ltI, not_true, not_false_iff, true_implies, false_implies, false_or, or_false, true_and, and_true, false_and, and_false, true_or, or_true]
      omega
    · rw [nI_clamp (by omega), ms_mrw]
      refine s_canProbe (r := up (zR (ys σ) j) c v) hW (by rw [mrw_ne (by decide)]; exact hP) (fun c' hc' => ?_) fun g2 => ?_
      · rw [mrw_at, upd_at, up_at]
        by_cases q : c' = c
        · rw [if_pos q, if_pos q, q]; exact ⟨rfl, by omega⟩
        · rw [if_neg q, if_neg q]; exact ⟨hg1 c' hc', rl c'⟩
      · have F : Fr [138, 139] μ (mrw (mrw μ 138 (upd g1 c (cv v))) 139 g2) := ((Fr.rf _ μ).mrw (by decide)).mrw (by decide)
        generalize mrw (mrw μ 138 (upd g1 c (cv v))) 139 g2 = μ1 at F
        have hm1 := hm.fr (F.mono (by decide))
        refine k_X12_tell_74 C (fun q => ?_) (fun q => ?_)
        · rw [nI_b0] at q
          rw [if_pos (by cases z : canB (zP (ys σ)) (up (zR (ys σ) j) c v) with | true => rfl | false => exact absurd z q)] at k
          refine m_keepsAct ok hm1 fun μ2 F2 e2 hm2 => k_X12_tell_84 C ein ?_
          have e4 : (161 + 8 * nI j + nI c).toNatClampNeg = 161 + 8 * j + c := by
            simp (disch := omega) only [ofNat_nI, nI_add, pk_mul, nI_clamp, nI_leI, nI_ltI, nI_eq, vp_in_nI_iff, nI_subr, nI_m1r, m1_eq, m1_eq2, m1_le, m1_le2, m1_lt, m1_lt2, m1_self, cv_sub, cv_add1, cv_eq, cv_eqI, cv_eqI2, cv_m1, cv_lt0, cv_leI, cv_Ile, cv_le, cv_lt, cv_Ilt, cv_ltI, not_true, not_false_iff, true_implies, false_implies, false_or, or_false, true_and, and_true, false_and, and_false, true_or, or_true]
          rw [eRc, e4, ms_mrw0]
          refine k _ (((F.mono (by decide)).tr (F2.mono (by decide))).mrw (by decide)) (hm2.row (by rfl) ?_)
          have hr2 := (MrN.row hm2 hC).2.1
          exact hm2.2.1.1.row (ok.kpS hC).2.2.1 hC rfl rfl (fun i hi _ => by rw [upd_at, if_neg (by omega)]) (hr2.set hj (by omega) (by omega))
        · rw [nI_b0] at q
          rw [if_neg (by rw [q]; decide)] at k
          exact k _ (F.mono (by decide)) hm1
  · rw [eRc, cv_eq (by have := rl c; omega) (by omega)] at p
    rw [if_pos p] at k
    exact k μ (Fr.rf _ μ) hm
def sDrop (s : Ps) (j : Nat) : Ps := sR s (zn s - 1) (rmv (zR s) j) (rmv (zt s) j)
def o_drop (σ : Sg) (x : Int32) : Int32 × Sg := match ix x (zn (ys σ)) with | none => (-1, σ) | some j => (nI (zn (ys σ) - 1), sS (kpS σ) (sDrop (ys σ) j))
theorem m_drops {G : mG} {Q : mM → Prop} {μ : mM} {σ : Sg} (ok : SgOk σ) (hm : Mr σ μ) {j : Nat} (hj : j < zn (ys σ)) (k : ∀ μ', Fr [135] μ μ' → Mr (sS σ (sDrop (ys σ) j)) μ' → Q μ') : CtV G mX12_drops [.ref (gb G + 132), .int (nI j)] μ Q := by
  have hC := zn_C ok.2.2.1 (by omega)
  obtain ⟨hP, hr, hX⟩ := MrN.row hm hC
  exact s_drops hr hj fun g g1 g2 => k _ ((Fr.rf _ μ).mrw (by decide)) (hm.row (by rfl) (hm.2.1.1.row ok.2.2.1 hC rfl rfl g1 g2))
theorem m_drop {G : mG} {μ : mM} {σ : Sg} (ok : SgOk σ) (hm : Mr σ μ) (x : Int32) : Km G mX12_drop [.ref (gb G + 132), .int x] μ (o_drop σ x) := by
  intro Q k
  have hn := ok.2.2.1.2.1
  have h3 := hm.2.1.1.2.2.1
  unfold o_drop at k
  refine e_X12_drop fun E C => k_X12_drop_0 C (fun p => ?_) (fun p1 p2 => ?_)
  · rw [h3] at p
    rw [ix_or p] at k
    exact k μ (Fr.rf _ μ) hm
  · rw [h3] at p2
    obtain ⟨j, hj, rfl⟩ := ix_not (by omega) p1 p2
    rw [ix_s hj (by omega)] at k
    have hC := zn_C ok.2.2.1 (by omega)
    refine m_keepsAct ok hm fun μ2 F2 e2 hm2 => k_X12_drop_14 C (m_drops (ok.kpS hC) hm2 hj fun μ3 F3 hm3 => k_X12_drop_19 C ?_)
    rw [hm3.2.1.1.2.2.1]
    exact k μ3 ((F2.mono (by decide)).tr (F3.mono (by decide))) hm3
def sTold (s : Ps) (j v : Nat) : Ps := sR s (zn s) (zR s) (up (zt s) j v)
def o_result (σ : Sg) (x y : Int32) : Int32 × Sg := match ix x (zn (ys σ)), ix y 3 with
  | some j, some v => if zt (ys σ) j = v then (-2, σ) else (nI (zt (ys σ) j), sS (kpS σ) (sTold (ys σ) j v))
  | _, _ => (-1, σ)
theorem RowsM.told {g : Nat → Int32} {n j v : Nat} {R : Nat → Nat → Nat} {t : Nat → Nat} (h : RowsM g n R t) (hj : j < n) (hv : v ≤ 2) : RowsM (upd g (97 + j) (nI v)) n R (up t j v) := by
  obtain ⟨r3, r64, rr, rt⟩ := h
  refine ⟨by rw [upd_at, if_neg (by omega)]; exact r3, r64, fun i hi => (rr i hi).of (fun c' hc' => by rw [upd_at, if_neg (by omega)]), fun i hi => ?_⟩
  rw [upd_at, up_at]
  by_cases q : i = j
  · rw [if_pos (by omega), if_pos q]; exact ⟨rfl, hv⟩
  · rw [if_neg (by omega), if_neg q]; exact rt i hi
theorem m_result {G : mG} {μ : mM} {σ : Sg} (ok : SgOk σ) (hm : Mr σ μ) (x y : Int32) : Km G mX12_result [.ref (gb G + 132), .int x, .int y] μ (o_result σ x y) := by
  intro Q k
  unfold o_result at k
  have hn := ok.2.2.1.2.1
  have h3 := hm.2.1.1.2.2.1
  by_cases px : x < 0 ∨ (¬ x < 0 ∧ nI (zn (ys σ)) ≤ x)
  · rw [ix_or px] at k
    refine e_X12_result fun E C => k_X12_result_0 C (fun _ => k μ (Fr.rf _ μ) hm) (fun a b => ?_) (fun a b => ?_) (fun a b => ?_)
    all_goals
      exfalso
      rw [h3] at b
      rcases px with px | px
      · exact a px
      · exact b px.2
  obtain ⟨j, hj, rfl⟩ := ix_not (x := x) (n := zn (ys σ)) (by omega) (fun q => px (Or.inl q)) (fun q => px (by by_cases y : x < 0; exact Or.inl y; exact Or.inr ⟨y, q⟩))
  have hC := zn_C ok.2.2.1 (by omega)
  obtain ⟨hP, hr, hX⟩ := MrN.row hm hC
  rw [ix_s hj (by omega)] at k
  have et := hr.2.2.2 j hj
  have e1 : μ 135 (97 + nI j).toNatClampNeg = nI (zt (ys σ) j) := by
    simp (disch := omega) only [ofNat_nI, nI_add, pk_mul, nI_clamp, nI_leI, nI_ltI, nI_eq, vp_in_nI_iff, nI_subr, nI_m1r, m1_eq, m1_eq2, m1_le, m1_le2, m1_lt, m1_lt2, m1_self, cv_sub, cv_add1, cv_eq, cv_eqI, cv_eqI2, cv_m1, cv_lt0, cv_leI, cv_Ile, cv_le, cv_lt, cv_Ilt, cv_ltI, not_true, not_false_iff, true_implies, false_implies, false_or, or_false, true_and, and_true, false_and, and_false, true_or, or_true]
    exact et.1
  have ein : vp_in (97 + nI j) 673 := by
    simp (disch := omega) only [ofNat_nI, nI_add, pk_mul, nI_clamp, nI_leI, nI_ltI, nI_eq, vp_in_nI_iff, nI_subr, nI_m1r, m1_eq, m1_eq2, m1_le, m1_le2, m1_lt, m1_lt2, m1_self, cv_sub, cv_add1, cv_eq, cv_eqI, cv_eqI2, cv_m1, cv_lt0, cv_leI, cv_Ile, cv_le, cv_lt, cv_Ilt, cv_ltI, not_true, not_false_iff, true_implies, false_implies, false_or, or_false, true_and, and_true, false_and, and_false, true_or, or_true]
    omega
  by_cases py : y < 0 ∨ nI 3 ≤ y
  · have e : ix y 3 = none := if_pos py
    rw [e] at k
    have p2 : ∀ y : Int32, nI 3 ≤ y → 2 < y := fun y h => by
      rw [Int32.le_iff_toInt_le] at h
      rw [Int32.lt_iff_toInt_lt]
      have a : (nI 3).toInt = 3 := by decide
      have b : ((2 : Int32)).toInt = 2 := by decide
      omega
    refine e_X12_result fun E C => k_X12_result_0 C (fun _ => k μ (Fr.rf _ μ) hm) (fun _ _ a b => ?_) (fun _ _ a b => ?_) (fun _ _ a b => ?_)
    all_goals
      exfalso
      rw [lg0_lt] at a
      rw [lg2_gt] at b
      rcases py with py | py
      · exact a py
      · exact b (p2 y py)
  obtain ⟨v, hv, rfl⟩ := ix_not (x := y) (n := 3) (by omega) (fun q => py (Or.inl q)) (fun q => py (Or.inr q))
  rw [ix_s hv (by omega)] at k
  simp only [] at k
  refine e_X12_result fun E C => k_X12_result_0 C (fun p => ?_) (fun _ _ _ _ => ein) (fun _ _ _ _ p => ?_) (fun _ _ _ _ p => ?_)
  · exfalso
    rw [h3, lg0_lt, lg2_gt] at p
    rcases p with (p | ⟨-, p⟩) | ⟨-, -, p | ⟨-, p⟩⟩
    · exact nI_pos (by omega) p
    · exact nI_ge hj (by omega) p
    · exact nI_pos (by omega) p
    · exact absurd ((nI_ltI (a := 2) (by omega) (by omega)).mp p) (by omega)
  · rw [e1, nI_eq (by omega) (by omega)] at p
    rw [if_neg p] at k
    refine m_keepsAct ok hm fun μ2 F2 e2 hm2 => k_X12_result_44 C ein ?_
    have e4 : (97 + nI j).toNatClampNeg = 97 + j := by
      simp (disch := omega) only [ofNat_nI, nI_add, pk_mul, nI_clamp, nI_leI, nI_ltI, nI_eq, vp_in_nI_iff, nI_subr, nI_m1r, m1_eq, m1_eq2, m1_le, m1_le2, m1_lt, m1_lt2, m1_self, cv_sub, cv_add1, cv_eq, cv_eqI, cv_eqI2, cv_m1, cv_lt0, cv_leI, cv_Ile, cv_le, cv_lt, cv_Ilt, cv_ltI, not_true, not_false_iff, true_implies, false_implies, false_or, or_false, true_and, and_true, false_and, and_false, true_or, or_true]
    rw [e1, e4, ms_mrw0]
    refine k _ ((F2.mono (by decide)).mrw (by decide)) (hm2.row (by rfl) ?_)
    have hr2 := (MrN.row hm2 hC).2.1
    have hP2 := (MrN.row hm2 hC).1
    have okk := (ok.kpS hC).2.2.1
    obtain ⟨a, b, c, d, e⟩ := hm2.2.1.1
    have hW := (ok.2.2.1.2.2.2 hC).1.1
    refine ⟨by rw [upd_at, if_neg (by omega)]; exact a, by rw [upd_at, if_neg (by omega)]; exact b, by rw [upd_at, if_neg (by omega)]; exact c, by rw [upd_at, if_neg (by omega)]; exact d, fun _ => ⟨?_, hr2.told hj (by omega)⟩⟩
    exact NowP.of hW.ct.2.2.2 hW.2.2.2.2.1 hP2 (fun i hi _ _ => by rw [upd_at, if_neg (by omega)])
  · rw [e1, nI_eq (by omega) (by omega)] at p
    rw [if_pos p] at k
    exact k μ (Fr.rf _ μ) hm

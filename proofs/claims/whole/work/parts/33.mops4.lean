/-! THE MODEL: undone, kept, back, count, least -/
theorem m_lays {G : mG} {Q : mM → Prop} {μ : mM} {σ : Sg} (ok : PsOk (ys σ)) (hC : zC (ys σ) ≠ 0) (hT : MrT (yT σ) (yz σ) μ) (hS : NowS (μ 135) (ys σ)) (hU : MrU (yu σ) (yA σ) μ) (hK : MrK (yK σ) μ)
    (k : ∀ μ', Fr kM μ μ' → Mr σ μ' → Q μ') : CtV G mX12_laysMixes [.ref (gb G + 132)] μ Q := by
  obtain ⟨⟨hW, hM, -⟩, -⟩ := ok.2.2.2 hC
  refine s_laysMixes hW (hS.2.2.2.2 hC).1 hM fun μ' F h1 hX => k μ' F ⟨?_, ⟨?_, fun _ => hX⟩, ?_, ?_⟩
  · exact hT.of (h1 1 (by decide)) (F 133 (by decide)) (F 134 (by decide))
  · rw [F 135 (by decide)]; exact hS
  · exact hU.of (h1 26 (by decide)) (F 149 (by decide))
  · exact hK.of (F 150 (by decide)) (F 151 (by decide))
def o_undo (σ : Sg) : Int32 × Sg := if yu σ = 0 then (-1, σ) else (nI (yu σ - 1), sS (sU σ (yu σ - 1) (yA σ)) (yA σ (yu σ - 1)))
theorem m_undo {G : mG} {μ : mM} {σ : Sg} (ok : SgOk σ) (hm : Mr σ μ) : Km G mX12_undo [.ref (gb G + 132)] μ (o_undo σ) := by
  intro Q k
  unfold o_undo at k
  have hu := ok.2.2.2.1
  obtain ⟨hT, hN, hU, hK⟩ := hm
  refine e_X12_undo fun E C => k_X12_undo_0 C (fun p => ?_) (fun p => ?_)
  · have p' : yu σ ≠ 0 := fun z => p (by rw [hU.1, z]; rfl)
    rw [if_neg p'] at k
    obtain ⟨o1, o2⟩ := ok.2.2.2.2.1 (yu σ - 1) (by omega)
    have e : μ 132 26 - 1 = nI (yu σ - 1) := by
      rw [hU.1, show (1 : Int32) = nI 1 from rfl, nI_subr (by omega)]
    rw [e, show (673 : Int32) = nI 673 from rfl, pk_mul]
    refine s_copies (a := 673 * (yu σ - 1)) (b := 0) (n0 := 5384) (n2 := 673) rfl rfl (by decide) (by omega) (by decide) (by decide) (by decide) fun g g1 g2 => k_X12_undo_39 C ?_
    have q1 : ∀ j, j ≠ 26 → mrw (ms μ 132 26 (nI (yu σ - 1))) 135 g 132 j = μ 132 j := fun j hj => by rw [mrw_ne (by decide), ms_row, upd_at, if_neg hj]
    have q26 : mrw (ms μ 132 26 (nI (yu σ - 1))) 135 g 132 26 = nI (yu σ - 1) := by rw [mrw_ne (by decide), ms_row, upd_at, if_pos rfl]
    have q2 : ∀ c, c ≠ 135 → c ≠ 132 → mrw (ms μ 132 26 (nI (yu σ - 1))) 135 g c = μ c := fun c a b => by rw [mrw_ne a, ms_ne b]
    have q3 : mrw (ms μ 132 26 (nI (yu σ - 1))) 135 g 135 = g := mrw_at _ _ _
    have FF : Fr [132, 135] μ (mrw (ms μ 132 26 (nI (yu σ - 1))) 135 g) := ((Fr.rf _ μ).ms (by decide)).mrw (by decide)
    generalize mrw (ms μ 132 26 (nI (yu σ - 1))) 135 g = μ1 at q1 q26 q2 q3 FF
    refine m_lays (σ := sS (sU σ (yu σ - 1) (yA σ)) (yA σ (yu σ - 1))) o1 o2 ?_ ?_ ?_ ?_ fun μ2 F2 hm2 => k_X12_undo_43 C ?_
    · exact hT.of (q1 1 (by decide)) (q2 _ (by decide) (by decide)) (q2 _ (by decide) (by decide))
    · rw [q3]
      exact (hU.2 (yu σ - 1) (by omega)).of o1 (fun j hj => by
        have := g1 j hj
        rw [Nat.zero_add, ms_ne (by decide)] at this
        exact this)
    · refine ⟨q26, fun i hi => ?_⟩
      rw [q2 _ (by decide) (by decide)]
      replace hi : i < yu σ - 1 := hi
      exact hU.2 i (by omega)
    · exact hK.of (q2 _ (by decide) (by decide)) (q2 _ (by decide) (by decide))
    · rw [hm2.2.2.1.1]
      exact k μ2 ((FF.mono (by decide)).tr (F2.mono (by decide))) hm2
  · rw [hU.1] at p
    have p' : yu σ = 0 := (nI_eq (b := 0) (by omega) (by omega)).mp p
    rw [if_pos p'] at k
    exact k μ (Fr.rf _ μ) ⟨hT, hN, hU, hK⟩
def o_keep (σ : Sg) (x : Int32) : Int32 × Sg := if zC (ys σ) = 0 then (-1, σ) else match ix x 2 with
  | none => (-1, σ)
  | some i => (nI (zn (ys σ)), sK σ (fun j => if j = i then some (ys σ) else yK σ j))
theorem m_keep {G : mG} {μ : mM} {σ : Sg} (ok : SgOk σ) (hm : Mr σ μ) (x : Int32) : Km G mX12_keep [.ref (gb G + 132), .int x] μ (o_keep σ x) := by
  intro Q k
  unfold o_keep at k
  refine e_X12_keep fun E C => k_X12_keep_0 C (fun p => ?_) (fun p p1 p2 => ?_)
  · rw [noPl ok.2.2.1 hm.2.1.1, lg0_lt, lg1_gt] at p
    by_cases hC : zC (ys σ) = 0
    · rw [if_pos hC] at k
      exact k μ (Fr.rf _ μ) hm
    · rw [if_neg hC, ix2_n (by
        rcases p with p | ⟨-, p | ⟨-, p⟩⟩
        · exact absurd p hC
        · exact Or.inl p
        · exact Or.inr p)] at k
      exact k μ (Fr.rf _ μ) hm
  · rw [noPl ok.2.2.1 hm.2.1.1] at p
    rw [lg0_lt] at p1
    rw [lg1_gt] at p2
    rw [if_neg p] at k
    obtain ⟨i, hi, rfl⟩ : ∃ i, i < 2 ∧ x = nI i := by
      rcases in2 p1 p2 with rfl | rfl
      · exact ⟨0, by omega, rfl⟩
      · exact ⟨1, by omega, rfl⟩
    rw [ix_s hi (by omega)] at k
    obtain ⟨hT, hN, hU, hK⟩ := hm
    rw [show (673 : Int32) = nI 673 from rfl, pk_mul]
    refine s_copies (a := 0) (b := 673 * i) (n0 := 673) (n2 := 1346) rfl rfl (by decide) (by omega) (by omega) (by decide) (by decide) fun g g1 g2 => k_X12_keep_36 C ?_ ?_
    · simp (disch := omega) only [ofNat_nI, nI_add, pk_mul, nI_clamp, nI_leI, nI_ltI, nI_eq, vp_in_nI_iff, nI_subr, nI_m1r, m1_eq, m1_eq2, m1_le, m1_le2, m1_lt, m1_lt2, m1_self, cv_sub, cv_add1, cv_eq, cv_eqI, cv_eqI2, cv_m1, cv_lt0, cv_leI, cv_Ile, cv_le, cv_lt, cv_Ilt, cv_ltI, not_true, not_false_iff, true_implies, false_implies, false_or, or_false, true_and, and_true, false_and, and_false, true_or, or_true]
      omega
    · rw [mrw_ne (by decide), hN.1.2.2.1, nI_clamp (by omega)]
      refine k _ (((Fr.rf _ μ).mrw (by decide)).ms (by decide)) ⟨hT.of (by rw [ms_ne (by decide), mrw_ne (by decide)]) (by rw [ms_ne (by decide), mrw_ne (by decide)]) (by rw [ms_ne (by decide), mrw_ne (by decide)]), hN.of (by rw [ms_ne (by decide), mrw_ne (by decide)]) (by rw [ms_ne (by decide), mrw_ne (by decide)]) (by rw [ms_ne (by decide), mrw_ne (by decide)]) (by rw [ms_ne (by decide), mrw_ne (by decide)]) (by rw [ms_ne (by decide), mrw_ne (by decide)]), hU.of (by rw [ms_ne (by decide), mrw_ne (by decide)]) (by rw [ms_ne (by decide), mrw_ne (by decide)]), fun j hj => ?_⟩
      rw [ms_row, ms_ne (by decide), mrw_ne (by decide), mrw_at, upd_at]
      show (if j = i then (1 : Int32) else μ 151 j) = nI (if j = i then some (ys σ) else yK σ j).isSome.toNat ∧ ∀ s, (if j = i then some (ys σ) else yK σ j) = some s → NowS (fun j' => g (673 * j + j')) s
      by_cases q : j = i
      · rw [if_pos q, if_pos q]
        refine ⟨rfl, fun s hs => ?_⟩
        cases hs
        subst q
        exact hN.1.of ok.2.2.1 (fun j' hj' => by rw [g1 j' hj', Nat.zero_add])
      · rw [if_neg q, if_neg q]
        refine ⟨(hK j hj).1, fun s hs => ((hK j hj).2 s hs).of (ok.2.2.2.2.2 j s hs).1 (fun j' hj' => ?_)⟩
        exact g2 _ (by omega)
def o_back (σ : Sg) (x : Int32) : Int32 × Sg := match ix x 2 with
  | none => (-1, σ)
  | some i => match yK σ i with
    | none => (-2, σ)
    | some s => (nI (zn s), sS (sU σ 0 (yA σ)) s)
theorem m_back {G : mG} {μ : mM} {σ : Sg} (ok : SgOk σ) (hm : Mr σ μ) (x : Int32) : Km G mX12_back [.ref (gb G + 132), .int x] μ (o_back σ x) := by
  intro Q k
  unfold o_back at k
  by_cases px : x < 0 ∨ 1 < x
  · rw [ix2_n px] at k
    refine e_X12_back fun E C => k_X12_back_0 C (fun _ => k μ (Fr.rf _ μ) hm) (fun a b => ?_) (fun a b => ?_) (fun a b => ?_)
    all_goals
      exfalso
      rw [lg0_lt] at a
      rw [lg1_gt] at b
      rcases px with px | px
      · exact a px
      · exact b px
  obtain ⟨i, hi, rfl⟩ : ∃ i, i < 2 ∧ x = nI i := by
    rcases in2 (fun z => px (Or.inl z)) (fun z => px (Or.inr z)) with rfl | rfl
    · exact ⟨0, by omega, rfl⟩
    · exact ⟨1, by omega, rfl⟩
  rw [ix_s hi (by omega)] at k
  obtain ⟨hT, hN, hU, hK⟩ := hm
  obtain ⟨k1, k2⟩ := hK i hi
  have ek : μ 151 (nI i).toNatClampNeg = nI (yK σ i).isSome.toNat := by rw [nI_clamp (by omega)]; exact k1
  simp only [] at k
  refine e_X12_back fun E C => k_X12_back_0 C (fun p => ?_) (fun _ _ => ?_) (fun _ _ p => ?_) (fun _ _ p => ?_)
  · exfalso
    rw [lg0_lt, lg1_gt] at p
    rcases p with p | ⟨-, p⟩
    · exact px (Or.inl p)
    · exact px (Or.inr p)
  · simp (disch := omega) only [ofNat_nI, nI_add, pk_mul, nI_clamp, nI_leI, nI_ltI, nI_eq, vp_in_nI_iff, nI_subr, nI_m1r, m1_eq, m1_eq2, m1_le, m1_le2, m1_lt, m1_lt2, m1_self, cv_sub, cv_add1, cv_eq, cv_eqI, cv_eqI2, cv_m1, cv_lt0, cv_leI, cv_Ile, cv_le, cv_lt, cv_Ilt, cv_ltI, not_true, not_false_iff, true_implies, false_implies, false_or, or_false, true_and, and_true, false_and, and_false, true_or, or_true]
    omega
  · rw [ek] at p
    cases hs : yK σ i with
    | none => rw [hs] at p; exact absurd rfl p
    | some s =>
      rw [hs] at k
      obtain ⟨o1, o2⟩ := ok.2.2.2.2.2 i s hs
      rw [show (673 : Int32) = nI 673 from rfl, pk_mul]
      refine s_copies (a := 673 * i) (b := 0) (n0 := 1346) (n2 := 673) rfl rfl (by decide) (by omega) (by decide) (by decide) (by decide) fun g g1 g2 => k_X12_back_41 C ?_
      have n2 : ∀ c, c ≠ 135 → mrw μ 135 g c = μ c := fun c a => mrw_ne a
      refine m_lays (σ := sS σ s) o1 o2 (hT.of (by rw [n2 _ (by decide)]) (n2 _ (by decide)) (n2 _ (by decide))) (by
        rw [mrw_at]
        exact (k2 s hs).of o1 (fun j hj => by rw [← g1 j hj, Nat.zero_add])) (hU.of (by rw [n2 _ (by decide)]) (n2 _ (by decide))) (hK.of (n2 _ (by decide)) (n2 _ (by decide))) fun μ2 F2 hm2 => k_X12_back_45 C ?_
      obtain ⟨hT2, hN2, hU2, hK2⟩ := hm2
      rw [hN2.1.2.2.1]
      have r1 : ∀ j, j ≠ 26 → ms μ2 132 26 0 132 j = μ2 132 j := fun j hj => by rw [ms_row, upd_at, if_neg hj]
      have r2 : ∀ c, c ≠ 132 → ms μ2 132 26 0 c = μ2 c := fun c a => ms_ne a
      have FF : Fr KM μ (ms μ2 132 26 0) := (((Fr.rf KM μ).mrw (c := 135) (f := g) (by decide)).tr (F2.mono (by decide))).ms (by decide)
      exact k _ FF ⟨hT2.of (r1 1 (by decide)) (r2 _ (by decide)) (r2 _ (by decide)), hN2.of (r2 _ (by decide)) (r1 13 (by decide)) (r2 _ (by decide)) (r2 _ (by decide)) (r2 _ (by decide)), ⟨by rw [ms_row, upd_at, if_pos rfl]; rfl, fun j hj => absurd hj (Nat.not_lt_zero j)⟩, hK2.of (r2 _ (by decide)) (r2 _ (by decide))⟩
  · rw [ek] at p
    cases hs : yK σ i with
    | some s => rw [hs] at p; exact absurd p (show ¬ nI 1 = 0 by decide)
    | none =>
      rw [hs] at k
      exact k μ (Fr.rf _ μ) ⟨hT, hN, hU, hK⟩
def cntA (σ : Sg) (i : Nat) : Int32 :=
  if i < 10 ∧ zC (ys σ) = 0 then 0 else
  if i = 0 then nI (zC (ys σ)) else if i = 1 then nI (qT (zP (ys σ))) else if i = 2 then nI (MM (zP (ys σ))) else if i = 3 then nI (canN (zP (ys σ))) else
  if i = 4 then nI (qN (zP (ys σ))) else if i = 5 then nI (zn (ys σ)) else if i = 6 then nI (whN (zP (ys σ)) (zn (ys σ)) (zR (ys σ))) else if i = 7 then nI (fcN (zP (ys σ)) (zn (ys σ)) (zR (ys σ))) else
  if i = 8 then nI (toN (zn (ys σ)) (zt (ys σ)) 1) else if i = 9 then nI (toN (zn (ys σ)) (zt (ys σ)) 2) else if i = 10 then nI (yu σ) else if i = 11 then nI (zx (ys σ)) else nI (yz σ)
def o_count (σ : Sg) (x : Int32) : Int32 × Sg := match ix x 13 with
  | none => (-1, σ)
  | some i => (cntA σ i, σ)
theorem ix_big {x : Int32} {n : Nat} (hn : n < 2 ^ 31) (h : ∀ i, i < n → x ≠ nI i) : ix x n = none := by
  rcases pk_ix x hn with p | p | ⟨i, hi, e⟩
  · exact ix_n1 p
  · exact ix_n2 p
  · exact absurd e (h i hi)
theorem ix_ofs {x : Int32} {n i : Nat} (hx : x = nI i) (hi : i < n) (hn : n < 2 ^ 31) : ix x n = some i := by rw [hx]; exact ix_s hi hn

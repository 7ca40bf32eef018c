/-! WHAT THE CALLS DO, and the model's: the simple ones -/
theorem lgi_lt (x y : Int32) : (lg_cmp x.toInt64 y.toInt64 < 0) ↔ x < y := by
  rw [lg_cmp_lt, Int64.lt_iff_toInt_lt, Int32.toInt_toInt64, Int32.toInt_toInt64, Int32.lt_iff_toInt_lt]
theorem lgi_gt (x y : Int32) : (0 < lg_cmp x.toInt64 y.toInt64) ↔ y < x := by
  rw [lg_cmp_gt, Int64.lt_iff_toInt_lt, Int32.toInt_toInt64, Int32.toInt_toInt64, Int32.lt_iff_toInt_lt]
theorem lg0_lt (x : Int32) : (lg_cmp x.toInt64 0 < 0) ↔ x < 0 := lgi_lt x 0
theorem lg1_lt (x : Int32) : (lg_cmp x.toInt64 1 < 0) ↔ x < 1 := lgi_lt x 1
theorem lg2_lt (x : Int32) : (lg_cmp x.toInt64 2 < 0) ↔ x < 2 := lgi_lt x 2
theorem lgm_lt (x : Int32) : (lg_cmp x.toInt64 (-1) < 0) ↔ x < -1 := lgi_lt x (-1)
theorem lg1_gt (x : Int32) : (0 < lg_cmp x.toInt64 1) ↔ 1 < x := lgi_gt x 1
theorem lg2_gt (x : Int32) : (0 < lg_cmp x.toInt64 2) ↔ 2 < x := lgi_gt x 2
theorem lg4_gt (x : Int32) : (0 < lg_cmp x.toInt64 4) ↔ 4 < x := lgi_gt x 4
theorem lg8_gt (x : Int32) : (0 < lg_cmp x.toInt64 8) ↔ 8 < x := lgi_gt x 8
theorem lg9_gt (x : Int32) : (0 < lg_cmp x.toInt64 9) ↔ 9 < x := lgi_gt x 9
def ix (x : Int32) (n : Nat) : Option Nat := if x < 0 ∨ nI n ≤ x then none else some x.toNatClampNeg
theorem ix_n1 {x : Int32} {n : Nat} (h : x < 0) : ix x n = none := if_pos (Or.inl h)
theorem ix_n2 {x : Int32} {n : Nat} (h : nI n ≤ x) : ix x n = none := if_pos (Or.inr h)
theorem ix_s {j n : Nat} (h : j < n) (hn : n < 2 ^ 31) : ix (nI j) n = some j := by
  unfold ix
  rw [if_neg (by
    rintro (z | z)
    · exact nI_pos (by omega) z
    · rw [nI_leI hn (by omega)] at z; omega), nI_clamp (by omega)]
theorem ix_not {x : Int32} {n : Nat} (hn : n < 2 ^ 31) (h1 : ¬ x < 0) (h2 : ¬ nI n ≤ x) : ∃ j, j < n ∧ x = nI j := by
  rcases pk_ix x hn with z | z | z
  · exact absurd z h1
  · exact absurd z h2
  · exact z
/-- a number from -1 on is told by one more -/
theorem ixm_n {x : Int32} {n : Nat} (hn : n + 1 < 2 ^ 31) (h : x < -1 ∨ nI n ≤ x) : ix (x + 1) (n + 1) = none := by
  have e1 : x.toInt < 2 ^ 31 := Int32.toInt_lt x
  have e0 : -2 ^ 31 ≤ x.toInt := Int32.le_toInt x
  have em : ((-1 : Int32)).toInt = -1 := by decide
  have eo : ((1 : Int32)).toInt = 1 := by decide
  have ez : ((0 : Int32)).toInt = 0 := by decide
  refine if_pos ?_
  rw [Int32.lt_iff_toInt_lt, em, Int32.le_iff_toInt_le, nI_toInt (by omega)] at h
  rw [Int32.lt_iff_toInt_lt, ez, Int32.le_iff_toInt_le, nI_toInt hn, Int32.toInt_add, eo]
  rcases h with h | h
  · rw [Int.bmod_eq_of_le (by omega) (by omega)]
    omega
  · by_cases q : x.toInt = 2147483647
    · left
      rw [q]
      decide
    · right
      rw [Int.bmod_eq_of_le (by omega) (by omega)]
      omega
theorem ixm_s {l n : Nat} (h : l < n + 1) (hn : n + 1 < 2 ^ 31) : ix (cv l + 1) (n + 1) = some l := by
  have e : cv l + 1 = nI l := cv_add1 l
  rw [e]
  exact ix_s h hn
theorem ixm_not {x : Int32} {n : Nat} (hn : n < 2 ^ 31) (h1 : ¬ x < -1) (h2 : ¬ nI n ≤ x) : ∃ l, l < n + 1 ∧ x = cv l := by
  by_cases q : x < 0
  · refine ⟨0, by omega, ?_⟩
    have em : ((-1 : Int32)).toInt = -1 := by decide
    have ez : ((0 : Int32)).toInt = 0 := by decide
    rw [Int32.lt_iff_toInt_lt, em] at h1
    rw [Int32.lt_iff_toInt_lt, ez] at q
    show x = -1
    rw [i32_eq, em]
    omega
  · obtain ⟨j, hj, rfl⟩ := ix_not hn q h2
    exact ⟨j + 1, by omega, (cv_s j).symm⟩
/-- a row by digits -/
def okDB (C : Nat) (L : Nat → Nat) (d : Nat) : Bool := decide (d / 10 ^ C = 0) && decide (∀ c, c < C → d / 10 ^ (C - 1 - c) % 10 = 9 ∨ d / 10 ^ (C - 1 - c) % 10 < L c)
theorem okDB_iff {C : Nat} {L : Nat → Nat} {d : Nat} : okDB C L d = true ↔ okD C L d := by
  unfold okDB okD
  rw [Bool.and_eq_true, decide_eq_true_iff, decide_eq_true_iff]
def giv (P : Pl) (x : Int32) : Option Nat := if qC P = 0 ∨ x < 0 then none else if okDB (qC P) (qL P) x.toNatClampNeg then some x.toNatClampNeg else none
theorem rowD_le {P : Pl} {d : Nat} (h : okD (qC P) (qL P) d) (c : Nat) : rowD (qC P) d c ≤ qL P c := by
  unfold rowD
  by_cases q : c < qC P
  · rw [if_pos q]
    rcases h.2 c q with z | z
    · rw [if_pos z]; exact Nat.zero_le _
    · split <;> omega
  · rw [if_neg q]; exact Nat.zero_le _
/-- a call's contract on the model's side -/
def Km (G : mG) (M : mMt) (av : List Value) (μ : mM) (o : Int32 × Sg) : Prop := ∀ Q : Int32 → mM → Prop, (∀ μ', Fr KM μ μ' → Mr o.2 μ' → Q o.1 μ') → CtI G M av μ Q
theorem MrN.row {σ : Sg} {μ : mM} (h : Mr σ μ) (hC : zC (ys σ) ≠ 0) : NowP (μ 135) (zP (ys σ)) ∧ RowsM (μ 135) (zn (ys σ)) (zR (ys σ)) (zt (ys σ)) ∧ MixM μ (zP (ys σ)) := ⟨(h.2.1.1.2.2.2.2 hC).1, (h.2.1.1.2.2.2.2 hC).2, h.2.1.2 hC⟩
theorem s_given {G : mG} {Q : Int32 → mM → Prop} {μ : mM} {σ : Sg} (ok : SgOk σ) (hm : Mr σ μ) {x : Int32}
    (k0 : ∀ g, giv (zP (ys σ)) x = none → Q 0 (mrw μ 145 g))
    (k1 : ∀ (d : Nat) (g : Nat → Int32), zC (ys σ) ≠ 0 → giv (zP (ys σ)) x = some d → okD (zC (ys σ)) (qL (zP (ys σ))) d → (∀ c, c < zC (ys σ) → g c = cv (rowD (zC (ys σ)) d c)) → Q 1 (mrw μ 145 g)) : CtI G mX12_isGiven [.ref (gb G + 132), .int x] μ Q := by
  by_cases hC : zC (ys σ) = 0
  · refine e_X12_isGiven fun E C => k_X12_isGiven_0 C (fun p => ?_) (fun p hx => ?_)
    · have := k0 (μ 145) (if_pos (Or.inl hC))
      rw [mrw_self] at this
      exact this
    · exfalso
      apply p
      rw [hm.2.1.1.2.1, hC]
      decide
  · obtain ⟨hn, hr, hX⟩ := MrN.row hm hC
    have hP := (ok.2.2.1.2.2.2 hC).1.1
    refine s_isGiven hP hn (fun g hk => k0 g ?_) (fun d g hd hx hk hg => k1 d g hC ?_ hk hg)
    · unfold giv
      by_cases q : x < 0
      · exact if_pos (Or.inr q)
      · rw [if_neg (by rintro (z | z); exact hC z; exact q z), if_neg (fun z => hk q (okDB_iff.mp z))]
    · unfold giv
      rw [hx, nI_clamp hd, if_neg (by rintro (z | z); exact hC z; exact nI_pos hd z), if_pos (okDB_iff.mpr hk)]
def o_end (σ : Sg) (x : Int32) : Int32 × Sg := match ix x (yz σ + 1) with | none => (-1, σ) | some n => (nI n, sT σ (yT σ) n)
theorem m_end {G : mG} {μ : mM} {σ : Sg} (ok : SgOk σ) (hm : Mr σ μ) (x : Int32) : Km G mX12_end [.ref (gb G + 132), .int x] μ (o_end σ x) := by
  intro Q k
  have hz := ok.2.1
  have ht := hm.1
  unfold o_end at k
  refine a_X12_end (fun p => ?_) (fun p1 p2 => ?_)
  · rw [lg0_lt, ht.1, lgi_gt] at p
    have e : ix x (yz σ + 1) = none := by
      rcases p with p | ⟨p, q⟩
      · exact ix_n1 p
      · obtain ⟨j, hj, rfl⟩ := nI_of p
        rw [nI_ltI (by omega) hj] at q
        exact ix_n2 (nI_le (by omega) hj)
    rw [e] at k
    exact k μ (Fr.rf _ μ) hm
  · rw [lg0_lt] at p1
    rw [ht.1, lgi_gt] at p2
    obtain ⟨j, hj, rfl⟩ := nI_of p1
    rw [nI_ltI (by omega) hj] at p2
    rw [ix_s (by omega) (by omega)] at k
    have e1 : ∀ i, i ≠ 1 → ms μ 132 1 (nI j) 132 i = μ 132 i := fun i hi => by rw [ms_row, upd_at, if_neg hi]
    have e2 : ∀ c, c ≠ 132 → ms μ 132 1 (nI j) c = μ c := fun c hc => ms_ne hc
    refine k _ ((Fr.rf _ μ).ms (by decide)) ⟨⟨by rw [ms_row, upd_at, if_pos rfl]; rfl, fun i hi => ?_, fun i hi => ?_⟩, hm.2.1.of (e2 _ (by decide)) (e1 _ (by decide)) (e2 _ (by decide)) (e2 _ (by decide)) (e2 _ (by decide)), hm.2.2.1.of (e1 _ (by decide)) (e2 _ (by decide)), hm.2.2.2.of (e2 _ (by decide)) (e2 _ (by decide))⟩
    · rw [e2 _ (by decide)]
      exact ht.2.1 i (by have : i < j := hi; omega)
    · rw [e2 _ (by decide)]
      exact ht.2.2 i hi
def o_levels (σ : Sg) (x : Int32) : Int32 × Sg := match ix x (zC (ys σ)) with | none => (-1, σ) | some c => (nI (qL (zP (ys σ)) c), σ)
theorem zC_le {s : Ps} (ok : PsOk s) : zC s ≤ 8 := by
  by_cases q : zC s = 0
  · omega
  · exact (ok.2.2.2 q).1.1.ct.2.2.2
theorem m_levels {G : mG} {μ : mM} {σ : Sg} (ok : SgOk σ) (hm : Mr σ μ) (x : Int32) : Km G mX12_levels [.ref (gb G + 132), .int x] μ (o_levels σ x) := by
  intro Q k
  have h8 := zC_le ok.2.2.1
  have h0 := hm.2.1.1.2.1
  unfold o_levels at k
  refine a_X12_levels (fun p => ?_) (fun p1 p2 => ?_) (fun p1 p2 => ?_)
  · rw [h0] at p
    have e : ix x (zC (ys σ)) = none := by
      rcases p with p | ⟨p, q⟩
      · exact ix_n1 p
      · exact ix_n2 q
    rw [e] at k
    exact k μ (Fr.rf _ μ) hm
  · rw [h0] at p2
    obtain ⟨j, hj, rfl⟩ := ix_not (by omega) p1 p2
    simp (disch := omega) only [ofNat_nI, nI_add, pk_mul, nI_clamp, nI_leI, nI_ltI, nI_eq, vp_in_nI_iff, nI_subr, nI_m1r, m1_eq, m1_eq2, m1_le, m1_le2, m1_lt, m1_lt2, m1_self, cv_sub, cv_add1, cv_eq, cv_eqI, cv_eqI2, cv_m1, cv_lt0, cv_leI, cv_Ile, cv_le, cv_lt, cv_Ilt, cv_ltI, not_true, not_false_iff, true_implies, false_implies, false_or, or_false, true_and, and_true, false_and, and_false, true_or, or_true]
    omega
  · rw [h0] at p2
    obtain ⟨j, hj, rfl⟩ := ix_not (by omega) p1 p2
    rw [ix_s hj (by omega)] at k
    simp (disch := omega) only [ofNat_nI, nI_add, pk_mul, nI_clamp, nI_leI, nI_ltI, nI_eq, vp_in_nI_iff, nI_subr, nI_m1r, m1_eq, m1_eq2, m1_le, m1_le2, m1_lt, m1_lt2, m1_self, cv_sub, cv_add1, cv_eq, cv_eqI, cv_eqI2, cv_m1, cv_lt0, cv_leI, cv_Ile, cv_le, cv_lt, cv_Ilt, cv_ltI, not_true, not_false_iff, true_implies, false_implies, false_or, or_false, true_and, and_true, false_and, and_false, true_or, or_true]
    rw [(MrN.row hm (by omega)).1.2.2.2.1 j hj]
    exact k μ (Fr.rf _ μ) hm
def o_cell (σ : Sg) (x y : Int32) : Int32 × Sg := match ix x (zn (ys σ)), ix y (zC (ys σ)) with | some j, some c => (cv (zR (ys σ) j c), σ) | _, _ => (-2, σ)
theorem m_cell {G : mG} {μ : mM} {σ : Sg} (ok : SgOk σ) (hm : Mr σ μ) (x y : Int32) : Km G mX12_cell [.ref (gb G + 132), .int x, .int y] μ (o_cell σ x y) := by
  intro Q k
  have h8 := zC_le ok.2.2.1
  have hn := ok.2.2.1.2.1
  have h0 := hm.2.1.1.2.1
  have h3 := hm.2.1.1.2.2.1
  unfold o_cell at k
  refine a_X12_cell (fun p => ?_) (fun p1 p2 p3 p4 => ?_) (fun p1 p2 p3 p4 => ?_)
  · rw [h0, h3] at p
    have e : ix x (zn (ys σ)) = none ∨ ix y (zC (ys σ)) = none := by
      rcases p with (p | ⟨p, q⟩) | ⟨-, -, p | ⟨p, q⟩⟩
      · exact Or.inl (ix_n1 p)
      · exact Or.inl (ix_n2 q)
      · exact Or.inr (ix_n1 p)
      · exact Or.inr (ix_n2 q)
    rcases e with e | e
    · rw [e] at k
      exact k μ (Fr.rf _ μ) hm
    · rw [e] at k
      cases e2 : ix x (zn (ys σ)) with
      | none => rw [e2] at k; exact k μ (Fr.rf _ μ) hm
      | some j => rw [e2] at k; exact k μ (Fr.rf _ μ) hm
  · rw [h3] at p2
    rw [h0] at p4
    obtain ⟨j, hj, rfl⟩ := ix_not (by omega) p1 p2
    obtain ⟨c, hc, rfl⟩ := ix_not (by omega) p3 p4
    simp (disch := omega) only [ofNat_nI, nI_add, pk_mul, nI_clamp, nI_leI, nI_ltI, nI_eq, vp_in_nI_iff, nI_subr, nI_m1r, m1_eq, m1_eq2, m1_le, m1_le2, m1_lt, m1_lt2, m1_self, cv_sub, cv_add1, cv_eq, cv_eqI, cv_eqI2, cv_m1, cv_lt0, cv_leI, cv_Ile, cv_le, cv_lt, cv_Ilt, cv_ltI, not_true, not_false_iff, true_implies, false_implies, false_or, or_false, true_and, and_true, false_and, and_false, true_or, or_true]
    omega
  · rw [h3] at p2
    rw [h0] at p4
    obtain ⟨j, hj, rfl⟩ := ix_not (by omega) p1 p2
    obtain ⟨c, hc, rfl⟩ := ix_not (by omega) p3 p4
    rw [ix_s hj (by omega), ix_s hc (by omega)] at k
    simp (disch := omega) only [ofNat_nI, nI_add, pk_mul, nI_clamp, nI_leI, nI_ltI, nI_eq, vp_in_nI_iff, nI_subr, nI_m1r, m1_eq, m1_eq2, m1_le, m1_le2, m1_lt, m1_lt2, m1_self, cv_sub, cv_add1, cv_eq, cv_eqI, cv_eqI2, cv_m1, cv_lt0, cv_leI, cv_Ile, cv_le, cv_lt, cv_Ilt, cv_ltI, not_true, not_false_iff, true_implies, false_implies, false_or, or_false, true_and, and_true, false_and, and_false, true_or, or_true]
    rw [((MrN.row hm (by omega)).2.1.2.2.1 j hj c (by omega)).1]
    exact k μ (Fr.rf _ μ) hm
def o_open (σ : Sg) : Int32 × Sg := if zC (ys σ) = 0 then (-1, σ) else (nI (opN (zP (ys σ)) (zn (ys σ)) (zR (ys σ))), σ)
theorem noPl {g : Nat → Int32} {s : Ps} (ok : PsOk s) (h : NowS g s) : g 0 ≤ 0 ↔ zC s = 0 := by
  have := zC_le ok
  rw [h.2.1]
  exact (nI_leI (b := 0) (by omega) (by omega)).trans (by omega)
theorem m_open {G : mG} {μ : mM} {σ : Sg} (ok : SgOk σ) (hm : Mr σ μ) : Km G mX12_open [.ref (gb G + 132)] μ (o_open σ) := by
  intro Q k
  unfold o_open at k
  refine e_X12_open fun E C => k_X12_open_0 C (fun p => ?_) (fun p => ?_)
  · rw [noPl ok.2.2.1 hm.2.1.1] at p
    rw [if_pos p] at k
    exact k μ (Fr.rf _ μ) hm
  · rw [noPl ok.2.2.1 hm.2.1.1] at p
    rw [if_neg p] at k
    obtain ⟨hn, hr, hX⟩ := MrN.row hm p
    obtain ⟨⟨hP, hM, -⟩, -⟩ := ok.2.2.1.2.2.2 p
    refine s_laysOpen hP hn.2.1 hM hX hr fun g hg => k_X12_open_11 C (k _ ((Fr.rf _ μ).mrw (by decide)) (hm.fr ((Fr.rf _ μ).mrw (by decide))))
def o_openMix (σ : Sg) (x : Int32) : Int32 × Sg := if zC (ys σ) = 0 ∨ x < 0 then (-1, σ) else (kth (openB (zP (ys σ)) (zn (ys σ)) (zR (ys σ))) x.toNatClampNeg (MM (zP (ys σ))) 0 0, σ)
theorem m_openMix {G : mG} {μ : mM} {σ : Sg} (ok : SgOk σ) (hm : Mr σ μ) (x : Int32) : Km G mX12_openMix [.ref (gb G + 132), .int x] μ (o_openMix σ x) := by
  intro Q k
  unfold o_openMix at k
  have nle : ∀ x : Int32, 0 ≤ x ↔ ¬ x < 0 := fun x => by
    rw [Int32.le_iff_toInt_le, Int32.lt_iff_toInt_lt]
    omega
  refine e_X12_openMix fun E C => k_X12_openMix_0 C (fun p => ?_) (fun p q => ?_)
  · rw [noPl ok.2.2.1 hm.2.1.1, nle] at p
    rw [if_pos (by
      rcases p with p | p
      · exact Or.inl p
      · exact Or.inr (Classical.byContradiction fun z => p.2 z))] at k
    exact k μ (Fr.rf _ μ) hm
  · rw [noPl ok.2.2.1 hm.2.1.1] at p
    rw [nle] at q
    rw [if_neg (by rintro (z | z); exact p z; exact q z)] at k
    obtain ⟨hn, hr, hX⟩ := MrN.row hm p
    obtain ⟨⟨hP, hM, -⟩, -⟩ := ok.2.2.1.2.2.2 p
    obtain ⟨j, hj, rfl⟩ := nI_of q
    rw [nI_clamp hj] at k
    refine s_laysOpen hP hn.2.1 hM hX hr fun g hg => k_X12_openMix_17 C ?_
    have k' := k _ ((Fr.rf _ μ).mrw (c := 144) (f := g) (by decide)) (hm.fr ((Fr.rf _ μ).mrw (by decide)))
    have h13 : (mrw μ 144 g) 132 13 = nI (MM (zP (ys σ))) := by rw [mrw_ne (by decide)]; exact hX.1
    have loop : ∀ (d m f : Nat), m + d = MM (zP (ys σ)) → f ≤ m → kth (openB (zP (ys σ)) (zn (ys σ)) (zR (ys σ))) j d m f = kth (openB (zP (ys σ)) (zn (ys σ)) (zR (ys σ))) j (MM (zP (ys σ))) 0 0 →
        Wm G mX12_openMix E (bm G mX12_openMix E (pI Q)) (mrw μ 144 g) 23 [(0, .ref (gb G + 132)), (1, .int (nI j)), (3, .int (nI f)), (4, .int (nI m))] [] := by
      intro d
      induction d with
      | zero =>
        intro m f hm2 hf e
        rw [kth] at e
        rw [← e] at k'
        refine k_X12_openMix_23 C (fun _ => k') (fun z => ?_) (fun z => ?_) (fun z => ?_) (fun z => ?_)
        all_goals
          exfalso
          revert z
          rw [h13]
          simp (disch := omega) only [ofNat_nI, nI_add, pk_mul, nI_clamp, nI_leI, nI_ltI, nI_eq, vp_in_nI_iff, nI_subr, nI_m1r, m1_eq, m1_eq2, m1_le, m1_le2, m1_lt, m1_lt2, m1_self, cv_sub, cv_add1, cv_eq, cv_eqI, cv_eqI2, cv_m1, cv_lt0, cv_leI, cv_Ile, cv_le, cv_lt, cv_Ilt, cv_ltI, not_true, not_false_iff, true_implies, false_implies, false_or, or_false, true_and, and_true, false_and, and_false, true_or, or_true]
          omega
      | succ d ih =>
        intro m f hm2 hf e
        have hg' := hg m (by omega)
        have e144 : (mrw μ 144 g) 144 m = nI (openB (zP (ys σ)) (zn (ys σ)) (zR (ys σ)) m).toNat := by rw [mrw_at]; exact hg'
        rw [kth] at e
        refine k_X12_openMix_23 C (fun z => ?_) (fun _ => ?_) (fun _ z1 z2 => ?_) (fun _ z1 z2 => ?_) (fun _ z1 => ?_)
        · exfalso
          revert z
          rw [h13]
          simp (disch := omega) only [ofNat_nI, nI_add, pk_mul, nI_clamp, nI_leI, nI_ltI, nI_eq, vp_in_nI_iff, nI_subr, nI_m1r, m1_eq, m1_eq2, m1_le, m1_le2, m1_lt, m1_lt2, m1_self, cv_sub, cv_add1, cv_eq, cv_eqI, cv_eqI2, cv_m1, cv_lt0, cv_leI, cv_Ile, cv_le, cv_lt, cv_Ilt, cv_ltI, not_true, not_false_iff, true_implies, false_implies, false_or, or_false, true_and, and_true, false_and, and_false, true_or, or_true]
          omega
        · simp (disch := omega) only [ofNat_nI, nI_add, pk_mul, nI_clamp, nI_leI, nI_ltI, nI_eq, vp_in_nI_iff, nI_subr, nI_m1r, m1_eq, m1_eq2, m1_le, m1_le2, m1_lt, m1_lt2, m1_self, cv_sub, cv_add1, cv_eq, cv_eqI, cv_eqI2, cv_m1, cv_lt0, cv_leI, cv_Ile, cv_le, cv_lt, cv_Ilt, cv_ltI, not_true, not_false_iff, true_implies, false_implies, false_or, or_false, true_and, and_true, false_and, and_false, true_or, or_true]
          omega
        · revert z1 z2
          simp (disch := omega) only [ofNat_nI, nI_add, pk_mul, nI_clamp, nI_leI, nI_ltI, nI_eq, vp_in_nI_iff, nI_subr, nI_m1r, m1_eq, m1_eq2, m1_le, m1_le2, m1_lt, m1_lt2, m1_self, cv_sub, cv_add1, cv_eq, cv_eqI, cv_eqI2, cv_m1, cv_lt0, cv_leI, cv_Ile, cv_le, cv_lt, cv_Ilt, cv_ltI, not_true, not_false_iff, true_implies, false_implies, false_or, or_false, true_and, and_true, false_and, and_false, true_or, or_true, e144]
          intro z1 z2
          rw [if_pos (by cases q : openB (zP (ys σ)) (zn (ys σ)) (zR (ys σ)) m with | true => rfl | false => exact absurd (by rw [q]; rfl) z1), if_neg z2] at e
          exact ih (m + 1) (f + 1) (by omega) (by omega) e
        · revert z1 z2
          simp (disch := omega) only [ofNat_nI, nI_add, pk_mul, nI_clamp, nI_leI, nI_ltI, nI_eq, vp_in_nI_iff, nI_subr, nI_m1r, m1_eq, m1_eq2, m1_le, m1_le2, m1_lt, m1_lt2, m1_self, cv_sub, cv_add1, cv_eq, cv_eqI, cv_eqI2, cv_m1, cv_lt0, cv_leI, cv_Ile, cv_le, cv_lt, cv_Ilt, cv_ltI, not_true, not_false_iff, true_implies, false_implies, false_or, or_false, true_and, and_true, false_and, and_false, true_or, or_true, e144]
          intro z1 z2
          rw [if_pos (by cases q : openB (zP (ys σ)) (zn (ys σ)) (zR (ys σ)) m with | true => rfl | false => exact absurd (by rw [q]; rfl) z1), if_pos z2] at e
          rw [← e] at k'
          exact k'
        · revert z1
          simp (disch := omega) only [ofNat_nI, nI_add, pk_mul, nI_clamp, nI_leI, nI_ltI, nI_eq, vp_in_nI_iff, nI_subr, nI_m1r, m1_eq, m1_eq2, m1_le, m1_le2, m1_lt, m1_lt2, m1_self, cv_sub, cv_add1, cv_eq, cv_eqI, cv_eqI2, cv_m1, cv_lt0, cv_leI, cv_Ile, cv_le, cv_lt, cv_Ilt, cv_ltI, not_true, not_false_iff, true_implies, false_implies, false_or, or_false, true_and, and_true, false_and, and_false, true_or, or_true, e144]
          intro z1
          rw [if_neg (by intro z; rw [z] at z1; exact absurd z1 (by decide))] at e
          exact ih (m + 1) f (by omega) (by omega) e
    exact loop _ 0 0 (by omega) (Nat.le_refl _) rfl

/-! THE MODEL: greed, to fill, guilty, ask; undone, kept, back -/
def sGr (s : Ps) : Ps := sAdd s (grR (zP s) (openB (zP s) (zn s) (zR s)) (zC s))
theorem PsOk.gr {s : Ps} (h : PsOk s) (hC : zC s ≠ 0) (hn : zn s < 64) : PsOk (sGr s) :=
  h.add hC hn (grR_ok (h.2.2.2 hC).1.1 (h.2.2.2 hC).1.2.2 _ _ (Nat.le_refl _))
def zo (s : Ps) : Nat := opN (zP s) (zn s) (zR s)
theorem opN_le (P : Pl) (n : Nat) (R : Nat → Nat → Nat) : opN P n R ≤ MM P := by
  have := sm_le (n := MM P) (B := 1) (f := fun m => (openB P n R m).toNat) (fun i _ => bool_lt _)
  unfold opN
  omega
def o_greed (σ : Sg) : Int32 × Sg := if zC (ys σ) = 0 ∨ zn (ys σ) = 64 then (-1, σ) else if zo (ys σ) = 0 then (-2, σ) else (nI (newN (zP (ys σ)) (zR (sGr (ys σ))) (zn (ys σ)) (zn (ys σ))), sS (kpS σ) (sGr (ys σ)))
theorem m_laysGreedy {G : mG} {Q : mM → Prop} {μ : mM} {σ : Sg} (ok : SgOk σ) (hm : Mr σ μ) (hC : zC (ys σ) ≠ 0) (ho : ∀ m, m < MM (zP (ys σ)) → μ 144 m = nI (openB (zP (ys σ)) (zn (ys σ)) (zR (ys σ)) m).toNat)
    (k : ∀ μ', Fr [138, 139, 146] μ μ' → (∀ c, c < zC (ys σ) → μ' 146 c = cv (grR (zP (ys σ)) (openB (zP (ys σ)) (zn (ys σ)) (zR (ys σ))) (zC (ys σ)) c)) → Mr σ μ' → Q μ') : CtV G mX12_laysGreedy [.ref (gb G + 132)] μ Q := by
  obtain ⟨hP, hr, hX⟩ := MrN.row hm hC
  obtain ⟨⟨hW, hM, -⟩, -⟩ := ok.2.2.1.2.2.2 hC
  exact s_laysGreedy hW hP hM hX.1 hX.2.1 ho fun μ' F hg => k μ' F hg (hm.fr (F.mono (by decide)))
theorem m_laysOpen {G : mG} {Q : Int32 → mM → Prop} {μ : mM} {σ : Sg} (ok : SgOk σ) (hm : Mr σ μ) (hC : zC (ys σ) ≠ 0)
    (k : ∀ μ', Fr [144] μ μ' → (∀ m, m < MM (zP (ys σ)) → μ' 144 m = nI (openB (zP (ys σ)) (zn (ys σ)) (zR (ys σ)) m).toNat) → Mr σ μ' → Q (nI (zo (ys σ))) μ') : CtI G mX12_laysOpen [.ref (gb G + 132)] μ Q := by
  obtain ⟨hP, hr, hX⟩ := MrN.row hm hC
  obtain ⟨⟨hW, hM, -⟩, -⟩ := ok.2.2.1.2.2.2 hC
  exact s_laysOpen hW hP.2.1 hM hX hr fun g hg => k _ ((Fr.rf _ μ).mrw (by decide)) (fun m hm' => by rw [mrw_at]; exact hg m hm') (hm.fr ((Fr.rf _ μ).mrw (by decide)))
theorem m_greed {G : mG} {μ : mM} {σ : Sg} (ok : SgOk σ) (hm : Mr σ μ) : Km G mX12_greed [.ref (gb G + 132)] μ (o_greed σ) := by
  intro Q k
  unfold o_greed at k
  have hn := ok.2.2.1.2.1
  have h3 := hm.2.1.1.2.2.1
  have e64 : nI (zn (ys σ)) = 64 ↔ zn (ys σ) = 64 := nI_eq (b := 64) (by omega) (by omega)
  refine e_X12_greed fun E C => k_X12_greed_0 C (fun p => ?_) (fun p q => ?_)
  · rw [noPl ok.2.2.1 hm.2.1.1, h3, e64] at p
    rw [if_pos (by rcases p with p | p; exact Or.inl p; exact Or.inr p.2)] at k
    exact k μ (Fr.rf _ μ) hm
  · rw [noPl ok.2.2.1 hm.2.1.1] at p
    rw [h3, e64] at q
    rw [if_neg (by rintro (z | z); exact p z; exact q z)] at k
    have hM := (ok.2.2.1.2.2.2 p).1.2.1
    have hol : zo (ys σ) ≤ MM (zP (ys σ)) := opN_le _ _ _
    refine m_laysOpen ok hm p fun μ1 F1 ho hm1 => k_X12_greed_24 C (fun z => ?_) (fun z => ?_)
    · have z' : zo (ys σ) ≠ 0 := fun y => z (by rw [y]; rfl)
      rw [if_neg z'] at k
      have ok2 := ok.kpS p
      refine m_keepsAct ok hm1 fun μ2 F2 e2 hm2 => k_X12_greed_34 C (m_laysGreedy ok2 hm2 p (fun m hm' => by rw [F2 144 (by decide)]; exact ho m hm') fun μ3 F3 hg3 hm3 => k_X12_greed_38 C ?_)
      refine m_comes ok2 hm3 p (show zn (ys σ) < 64 by omega) (c1 := 146) (n1 := 8) rfl (by decide) (by decide) (by decide) (fun c => grR_le _ _) hg3 fun μ4 F4 hm4 => k_X12_greed_46 C ?_
      have e5 : μ4 135 3 - 1 = nI (zn (ys σ)) := by
        have e6 : μ4 135 3 = nI (zn (ys σ) + 1) := hm4.2.1.1.2.2.1
        rw [e6]
        exact nI_pred _
      rw [e5]
      obtain ⟨hP4, hr4, hX4⟩ := MrN.row hm4 p
      refine s_gainOf (ok.2.2.1.2.2.2 p).1.1 hP4.2.1 hM hX4 hr4 (show zn (ys σ) < zn (ys σ) + 1 by omega) (k_X12_greed_58 C ?_)
      exact k μ4 ((((F1.mono (by decide)).tr (F2.mono (by decide))).tr (F3.mono (by decide))).tr (F4.mono (by decide))) hm4
    · have z' : zo (ys σ) = 0 := (nI_eq (b := 0) (by omega) (by omega)).mp z
      rw [if_pos z'] at k
      exact k μ1 (F1.mono (by decide)) hm1
/-- greed again and again -/
def flS : Nat → Ps → Ps
  | 0, s => s
  | f + 1, s => if zn s < 64 ∧ zo s ≠ 0 then flS f (sGr s) else s
def o_fill (σ : Sg) : Int32 × Sg := if zC (ys σ) = 0 then (-1, σ) else if zn (ys σ) = 64 ∨ zo (ys σ) = 0 then (0, σ) else (nI (zn (flS 64 (ys σ)) - zn (ys σ)), sS (kpS σ) (flS 64 (ys σ)))
theorem sS_kp (σ : Sg) : sS (kpS σ) (ys σ) = kpS σ := rfl
theorem m_fill {G : mG} {μ : mM} {σ : Sg} (ok : SgOk σ) (hm : Mr σ μ) : Km G mX12_fill [.ref (gb G + 132)] μ (o_fill σ) := by
  intro Q k
  unfold o_fill at k
  have hn := ok.2.2.1.2.1
  have h3 := hm.2.1.1.2.2.1
  have e64 : nI (zn (ys σ)) = 64 ↔ zn (ys σ) = 64 := nI_eq (b := 64) (by omega) (by omega)
  refine e_X12_fill fun E C => k_X12_fill_0 C (fun p => ?_) (fun p q => ?_) (fun p q => ?_)
  · rw [noPl ok.2.2.1 hm.2.1.1] at p
    rw [if_pos p] at k
    exact k μ (Fr.rf _ μ) hm
  · rw [noPl ok.2.2.1 hm.2.1.1] at p
    rw [h3, e64] at q
    rw [if_neg p, if_pos (Or.inl q)] at k
    exact k μ (Fr.rf _ μ) hm
  · rw [noPl ok.2.2.1 hm.2.1.1] at p
    rw [h3, e64] at q
    rw [if_neg p] at k
    have hM := (ok.2.2.1.2.2.2 p).1.2.1
    have hol : zo (ys σ) ≤ MM (zP (ys σ)) := opN_le _ _ _
    refine m_laysOpen ok hm p fun μ1 F1 ho hm1 => k_X12_fill_24 C (fun z => ?_) (fun z => ?_)
    · have z' : zo (ys σ) ≠ 0 := fun y => z (by rw [y]; rfl)
      rw [if_neg (by rintro (y | y); exact q y; exact z' y)] at k
      have ok2 := ok.kpS p
      have loop : ∀ (f : Nat) (s : Ps) (μ' : mM), 64 ≤ zn s + f → PsOk s → zP s = zP (ys σ) → zn (ys σ) ≤ zn s → Fr KM μ μ' → Mr (sS (kpS σ) s) μ' → flS f s = flS 64 (ys σ) →
          Wm G mX12_fill E (bm G mX12_fill E (pI Q)) μ' 35 [(0, .ref (gb G + 132)), (1, .int (nI (zn s - zn (ys σ))))] [] := by
        intro f
        induction f with
        | zero =>
          intro s μ' hf hs hP hge F hms e
          have h3' : μ' 135 3 = nI (zn s) := hms.2.1.1.2.2.1
          refine k_X12_fill_35 C (fun _ => ?_) (fun y => ?_)
          · rw [← e] at k
            exact k μ' F hms
          · exfalso
            revert y
            rw [h3']
            have := hs.2.1
            simp (disch := omega) only [ofNat_nI, nI_add, pk_mul, nI_clamp, nI_leI, nI_ltI, nI_eq, vp_in_nI_iff, nI_subr, nI_m1r, m1_eq, m1_eq2, m1_le, m1_le2, m1_lt, m1_lt2, m1_self, cv_sub, cv_add1, cv_eq, cv_eqI, cv_eqI2, cv_m1, cv_lt0, cv_leI, cv_Ile, cv_le, cv_lt, cv_Ilt, cv_ltI, not_true, not_false_iff, true_implies, false_implies, false_or, or_false, true_and, and_true, false_and, and_false, true_or, or_true]
            omega
        | succ f ih =>
          intro s μ' hf hs hP hge F hms e
          have h3' : μ' 135 3 = nI (zn s) := hms.2.1.1.2.2.1
          have hs64 := hs.2.1
          have hCs : zC s ≠ 0 := by rw [zC, hP]; exact p
          have oks : SgOk (sS (kpS σ) s) := ok2.sS hs
          refine k_X12_fill_35 C (fun y => ?_) (fun y => ?_)
          · revert y
            rw [h3']
            simp (disch := omega) only [ofNat_nI, nI_add, pk_mul, nI_clamp, nI_leI, nI_ltI, nI_eq, vp_in_nI_iff, nI_subr, nI_m1r, m1_eq, m1_eq2, m1_le, m1_le2, m1_lt, m1_lt2, m1_self, cv_sub, cv_add1, cv_eq, cv_eqI, cv_eqI2, cv_m1, cv_lt0, cv_leI, cv_Ile, cv_le, cv_lt, cv_Ilt, cv_ltI, not_true, not_false_iff, true_implies, false_implies, false_or, or_false, true_and, and_true, false_and, and_false, true_or, or_true]
            intro y
            rw [flS, if_neg (by omega)] at e
            rw [← e] at k
            exact k μ' F hms
          · revert y
            rw [h3']
            simp (disch := omega) only [ofNat_nI, nI_add, pk_mul, nI_clamp, nI_leI, nI_ltI, nI_eq, vp_in_nI_iff, nI_subr, nI_m1r, m1_eq, m1_eq2, m1_le, m1_le2, m1_lt, m1_lt2, m1_self, cv_sub, cv_add1, cv_eq, cv_eqI, cv_eqI2, cv_m1, cv_lt0, cv_leI, cv_Ile, cv_le, cv_lt, cv_Ilt, cv_ltI, not_true, not_false_iff, true_implies, false_implies, false_or, or_false, true_and, and_true, false_and, and_false, true_or, or_true]
            intro y
            have hol2 : zo s ≤ MM (zP (ys σ)) := by rw [← hP]; exact opN_le _ _ _
            refine m_laysOpen oks hms hCs fun μ2 F2 ho2 hm2 => k_X12_fill_50 C (fun w => ?_) (fun w => ?_)
            · have w' : zo s = 0 := by
                have := (nI_leI (a := zo s) (b := 0) (by omega) (by omega)).mp w
                omega
              rw [flS, if_neg (by omega)] at e
              rw [← e] at k
              exact k μ2 (F.tr (F2.mono (by decide))) hm2
            · have w' : zo s ≠ 0 := fun v => w (by rw [show zo (ys (sS (kpS σ) s)) = 0 from v]; decide)
              rw [flS, if_pos ⟨by omega, w'⟩] at e
              refine m_laysGreedy oks hm2 hCs ho2 fun μ3 F3 hg3 hm3 => k_X12_fill_57 C ?_
              refine m_comes oks hm3 hCs (show zn s < 64 by omega) (c1 := 146) (n1 := 8) rfl (by decide) (by decide) (by decide) (fun c => grR_le _ _) hg3 fun μ4 F4 hm4 => k_X12_fill_65 C ?_
              have := ih (sGr s) μ4 (by show 64 ≤ zn s + 1 + f; omega) (hs.gr hCs (by omega)) hP (by show zn (ys σ) ≤ zn s + 1; omega) (((F.tr (F2.mono (by decide))).tr (F3.mono (by decide))).tr (F4.mono (by decide))) hm4 e
              simp (disch := omega) only [ofNat_nI, nI_add, pk_mul, nI_clamp, nI_leI, nI_ltI, nI_eq, vp_in_nI_iff, nI_subr, nI_m1r, m1_eq, m1_eq2, m1_le, m1_le2, m1_lt, m1_lt2, m1_self, cv_sub, cv_add1, cv_eq, cv_eqI, cv_eqI2, cv_m1, cv_lt0, cv_leI, cv_Ile, cv_le, cv_lt, cv_Ilt, cv_ltI, not_true, not_false_iff, true_implies, false_implies, false_or, or_false, true_and, and_true, false_and, and_false, true_or, or_true]
              rw [show zn s - zn (ys σ) + 1 = zn (sGr s) - zn (ys σ) by show _ = zn s + 1 - zn (ys σ); omega]
              exact this
      refine m_keepsAct ok hm1 fun μ2 F2 e2 hm2 => k_X12_fill_33 C ?_
      have := loop 64 (ys σ) μ2 (by omega) ok.2.2.1 rfl (Nat.le_refl _) ((F1.mono (by decide)).tr (F2.mono (by decide))) hm2 rfl
      rw [Nat.sub_self] at this
      exact this
    · have z' : zo (ys σ) = 0 := (nI_eq (b := 0) (by omega) (by omega)).mp z
      rw [if_pos (Or.inr z')] at k
      exact k μ1 (F1.mono (by decide)) hm1
def o_guilty (σ : Sg) (x y : Int32) : Int32 × Sg := if zC (ys σ) = 0 then (-1, σ) else match ix x (qT (zP (ys σ)) + 1) with
  | none => (-1, σ)
  | some t => if t = 0 ∨ y < -1 then (-1, σ) else (guA (qw (zP (ys σ)) t) (zn (ys σ)) (zR (ys σ)) (zt (ys σ)) (if y = -1 then 0 else y.toNatClampNeg + 1), σ)
theorem m_guilty {G : mG} {μ : mM} {σ : Sg} (ok : SgOk σ) (hm : Mr σ μ) (x y : Int32) : Km G mX12_guilty [.ref (gb G + 132), .int x, .int y] μ (o_guilty σ x y) := by
  intro Q k
  unfold o_guilty at k
  have n1y : ∀ y : Int32, -1 ≤ y ↔ ¬ y < -1 := fun y => by
    rw [Int32.le_iff_toInt_le, Int32.lt_iff_toInt_lt]
    omega
  refine e_X12_guilty fun E C => k_X12_guilty_0 C (fun p => ?_) (fun p p1 p2 p3 => ?_)
  · rw [noPl ok.2.2.1 hm.2.1.1] at p
    by_cases hC : zC (ys σ) = 0
    · rw [if_pos hC] at k
      exact k μ (Fr.rf _ μ) hm
    · rw [if_neg hC] at k
      obtain ⟨hP, hr, hX⟩ := MrN.row hm hC
      have hT := (ok.2.2.1.2.2.2 hC).1.1.ct
      rw [hP.2.1, lg1_lt, lgi_gt, n1y, Classical.not_not] at p
      cases e : ix x (qT (zP (ys σ)) + 1) with
      | none => rw [e] at k; exact k μ (Fr.rf _ μ) hm
      | some t =>
        rw [e] at k
        have ht := ix_lt (by have := hT.2.1; omega) e
        have ex : x = nI t := by
          unfold ix at e
          by_cases q : x < 0 ∨ nI (qT (zP (ys σ)) + 1) ≤ x
          · rw [if_pos q] at e; cases e
          · obtain ⟨i, hi, rfl⟩ := ix_not (x := x) (n := qT (zP (ys σ)) + 1) (by have := hT.2.1; omega) (fun z => q (Or.inl z)) (fun z => q (Or.inr z))
            rw [if_neg q, nI_clamp (by have := hT.2.1; omega)] at e
            cases e
            rfl
        subst ex
        have hT3 := hT.2.1
        simp only [] at k
        rw [if_pos (by
          rcases p with p | ⟨-, (p | ⟨-, p⟩) | ⟨-, -, p⟩⟩
          · exact absurd p hC
          · left
            have := (nI_ltI (b := 1) (by omega) (by omega)).mp p
            omega
          · have := (nI_ltI (by omega) (by omega)).mp p
            omega
          · exact Or.inr p)] at k
        exact k μ (Fr.rf _ μ) hm
  · rw [noPl ok.2.2.1 hm.2.1.1] at p
    obtain ⟨hP, hr, hX⟩ := MrN.row hm p
    have hW := (ok.2.2.1.2.2.2 p).1.1
    have hT := hW.ct
    have hT3 := hT.2.1
    rw [lg1_lt] at p1
    rw [hP.2.1, lgi_gt] at p2
    rw [n1y] at p3
    rw [if_neg p] at k
    obtain ⟨t, ht, rfl⟩ := nI_of (x := x) (fun z => p1 (by
      rw [Int32.lt_iff_toInt_lt] at z ⊢
      have a : ((0 : Int32)).toInt = 0 := by decide
      have b : ((1 : Int32)).toInt = 1 := by decide
      omega))
    have t1 : 1 ≤ t := by
      refine Nat.pos_of_ne_zero fun z => p1 ?_
      rw [z]
      decide
    rw [nI_ltI (by omega) ht] at p2
    rw [ix_s (by omega) (by omega)] at k
    simp only [] at k
    rw [if_neg (by rintro (z | z); omega; exact p3 z)] at k
    refine s_beginsSet (by omega) fun g hg => k_X12_guilty_40 C ?_
    have e135 : (mrw μ 143 g) 135 = μ 135 := mrw_ne (by decide)
    have hW' := hW.qw t1 (by omega : t ≤ qT (zP (ys σ)))
    have em : ((-1 : Int32)).toInt = -1 := by decide
    refine s_guiltyLoop (P := qw (zP (ys σ)) t) (n := zn (ys σ)) (R := zR (ys σ)) (told := zt (ys σ)) (kk := if y = -1 then 0 else y.toNatClampNeg + 1) (Q := Q) C hW' hP.1 hP.2.2.2.1 hr ?_ (fun f hf => ?_) (fun μ' F' => k μ' (F'.mono (by decide)) (hm.fr (F'.mono (by decide)))) (ns (zC (ys σ)) t - 1) 0 _ ?_ ((Fr.rf _ μ).mrw (by decide)) (fun j hj => ?_) (Or.inr rfl)
    · by_cases z : y = -1
      · rw [if_pos z]; simp [z]
      · rw [if_neg z]; simp [z]
    · by_cases z : y = -1
      · rw [if_pos z, z]
        constructor
        · intro w
          rw [i32_eq, nI_toInt (by omega), em] at w
          omega
        · intro w; omega
      · rw [if_neg z]
        obtain ⟨i, hi, rfl⟩ := nI_of (x := y) (fun w => z (by
          rw [i32_eq, em]
          rw [Int32.lt_iff_toInt_lt] at w p3
          rw [em] at p3
          have a : ((0 : Int32)).toInt = 0 := by decide
          omega))
        rw [nI_clamp hi, nI_eq (by omega) hi]
        omega
    · have := (ns_pos hW'.ct).1
      show 0 + (ns (zC (ys σ)) t - 1) + 1 = ns (zC (ys σ)) t
      have : 1 ≤ ns (zC (ys σ)) t := this
      omega
    · rw [mrw_at, st_0 hW'.ct hj]
      exact hg j hj
/-- the row to ask, and how much it parts -/
def akB (s : Ps) (j : Nat) : Nat × Nat := bst (fun i => decide (zt s i = 0)) (fun i => min (guR (zP s) (zn s) (zR s) (zt s) (zR s i)) (guN (zP s) (zn s) (zR s) (zt s) - guR (zP s) (zn s) (zR s) (zt s) (zR s i))) j
def akA (g : Nat) (b : Nat × Nat) (w : Nat) : Int32 := if g = 0 ∨ b.1 = 0 then -2 else if w = 0 then nI (b.1 - 1) else nI (b.2 - 1)
theorem bst_12 {can : Nat → Bool} {h : Nat → Nat} : ∀ {n}, (bst can h n).1 ≠ 0 → (bst can h n).2 ≠ 0
  | 0, e => absurd rfl e
  | n + 1, e => by
    rw [bst] at e ⊢
    by_cases q : can n = true ∧ (bst can h n).2 < h n + 1
    · rw [if_pos q]; exact Nat.succ_ne_zero _
    · rw [if_neg q] at e ⊢; exact bst_12 e
theorem cv_pos {a : Nat} (h : a ≠ 0) : cv a = nI (a - 1) := if_neg h
def o_ask (σ : Sg) (x : Int32) : Int32 × Sg := if zC (ys σ) = 0 then (-1, σ) else match ix x 2 with
  | none => (-1, σ)
  | some w => (akA (guN (zP (ys σ)) (zn (ys σ)) (zR (ys σ)) (zt (ys σ))) (akB (ys σ) (zn (ys σ))) w, σ)
theorem in2 {x : Int32} (p : ¬ x < 0) (q : ¬ 1 < x) : x = nI 0 ∨ x = nI 1 := by
  obtain ⟨i, hi, rfl⟩ := nI_of p
  have : i ≤ 1 := Nat.le_of_not_lt fun z => q ((nI_ltI (a := 1) (by omega) hi).mpr z)
  have : i = 0 ∨ i = 1 := by omega
  rcases this with rfl | rfl
  · exact Or.inl rfl
  · exact Or.inr rfl
theorem ix2_n {x : Int32} (p : x < 0 ∨ 1 < x) : ix x 2 = none := by
  refine if_pos ?_
  rcases p with p | p
  · exact Or.inl p
  · right
    rw [Int32.lt_iff_toInt_lt] at p
    rw [Int32.le_iff_toInt_le]
    have a : (nI 2).toInt = 2 := by decide
    have b : ((1 : Int32)).toInt = 1 := by decide
    omega
theorem m_ask {G : mG} {μ : mM} {σ : Sg} (ok : SgOk σ) (hm : Mr σ μ) (x : Int32) : Km G mX12_ask [.ref (gb G + 132), .int x] μ (o_ask σ x) := by
  intro Q k
  unfold o_ask at k
  refine e_X12_ask fun E C => k_X12_ask_0 C (fun p => ?_) (fun p p1 p2 => ?_)
  · rw [noPl ok.2.2.1 hm.2.1.1, lg0_lt, lg1_gt] at p
    by_cases hC : zC (ys σ) = 0
    · rw [if_pos hC] at k
      exact k μ (Fr.rf _ μ) hm
    · rw [if_neg hC, ix2_n (by
        rcases p with p | ⟨-, p | ⟨-, p⟩⟩
        · exact absurd p hC
        · exact Or.inl p
        · exact Or.inr p)] at k
      exact k μ (Fr.rf _ μ) hm
  · rw [noPl ok.2.2.1 hm.2.1.1] at p
    rw [lg0_lt] at p1
    rw [lg1_gt] at p2
    rw [if_neg p] at k
    obtain ⟨hP, hr, hX⟩ := MrN.row hm p
    have hW := (ok.2.2.1.2.2.2 p).1.1
    have hMM := hW.MM_le
    have h64 := ok.2.2.1.2.1
    have rt := hr.2.2.2
    generalize hs : ys σ = s at *
    have gR : ∀ j, guR (zP s) (zn s) (zR s) (zt s) (zR s j) ≤ guN (zP s) (zn s) (zR s) (zt s) := fun j => sm_mono fun i _ => by
      cases guiB (zP s) (zn s) (zR s) (zt s) i <;> cases hasM (zP s) (zR s j) i <;> decide
    have gN : guN (zP s) (zn s) (zR s) (zt s) ≤ MM (zP s) := by
      have := sm_le (n := MM (zP s)) (B := 1) (f := fun m => (guiB (zP s) (zn s) (zR s) (zt s) m).toNat) (fun i _ => bool_lt _)
      unfold guN
      omega
    have aB1 : ∀ j, (akB s j).1 ≤ j := fun j => bst_le _ _ _
    have aB2 : ∀ j, (akB s j).2 ≤ 3585 := fun j => by
      have := bst2_le (can := fun i => decide (zt s i = 0)) (h := fun i => min (guR (zP s) (zn s) (zR s) (zt s) (zR s i)) (guN (zP s) (zn s) (zR s) (zt s) - guR (zP s) (zn s) (zR s) (zt s) (zR s i))) (B := 3584) (n := j) (fun v _ => by have := gR v; omega)
      exact this
    have fin : ∀ μ', Fr [143] μ μ' → ∀ j, j ≤ zn s → (guN (zP s) (zn s) (zR s) (zt s) = 0 → j = 0) → (guN (zP s) (zn s) (zR s) (zt s) ≠ 0 → j = zn s) → Wm G mX12_ask E (bm G mX12_ask E (pI Q)) μ' 115 [(1, .int x), (3, .int (cv (akB s j).1)), (4, .int (cv (akB s j).2))] [] := by
      intro μ' F' j hjn hj0 hj1
      have a1 := aB1 j
      have a2 := aB2 j
      have kk : ∀ w, ix x 2 = some w → Q (akA (guN (zP s) (zn s) (zR s) (zt s)) (akB s (zn s)) w) μ' := fun w hw => by
        rw [hw] at k
        exact k μ' (F'.mono (by decide)) (hm.fr (F'.mono (by decide)))
      by_cases g0 : guN (zP s) (zn s) (zR s) (zt s) = 0
      · have hj := hj0 g0
        subst hj
        have n0 : ¬ 0 ≤ cv (akB s 0).1 := show ¬ 0 ≤ cv 0 by decide
        refine k_X12_ask_115 C (fun z => absurd z n0) (fun z => absurd z n0) (fun _ => ?_)
        rcases in2 p1 p2 with rfl | rfl
        · have := kk 0 (ix_s (by omega) (by omega))
          unfold akA at this
          rw [if_pos (Or.inl g0)] at this
          exact this
        · have := kk 1 (ix_s (by omega) (by omega))
          unfold akA at this
          rw [if_pos (Or.inl g0)] at this
          exact this
      · have hj := hj1 g0
        subst hj
        unfold akA at kk
        by_cases w : (akB s (zn s)).1 = 0
        · rw [w]
          refine k_X12_ask_115 C (fun z => absurd z (by decide)) (fun z => absurd z (by decide)) (fun _ => ?_)
          rcases in2 p1 p2 with rfl | rfl
          · have := kk 0 (ix_s (by omega) (by omega))
            rw [if_pos (Or.inr w)] at this
            exact this
          · have := kk 1 (ix_s (by omega) (by omega))
            rw [if_pos (Or.inr w)] at this
            exact this
        · have w2 := bst_12 w
          have e1 := cv_pos w
          have e2 : cv (akB s (zn s)).2 = nI ((akB s (zn s)).2 - 1) := cv_pos w2
          rw [e1, e2]
          have hn : ¬ (guN (zP s) (zn s) (zR s) (zt s) = 0 ∨ (akB s (zn s)).1 = 0) := by rintro (z | z); exact g0 z; exact w z
          rcases in2 p1 p2 with rfl | rfl
          · refine k_X12_ask_115 C (fun _ z => absurd rfl z) (fun _ _ => ?_) (fun z => absurd (nI_pos' (by omega)) z)
            have := kk 0 (ix_s (by omega) (by omega))
            rw [if_neg hn, if_pos rfl] at this
            exact this
          · refine k_X12_ask_115 C (fun _ _ => ?_) (fun _ z => absurd z (by decide)) (fun z => absurd (nI_pos' (by omega)) z)
            have := kk 1 (ix_s (by omega) (by omega))
            rw [if_neg hn, if_neg (by omega)] at this
            exact this
    have loop : ∀ (d j : Nat) (μ' : mM), j + d = zn s → Fr [143] μ μ' → (guN (zP s) (zn s) (zR s) (zt s) = 0 → j = 0) →
        Wm G mX12_ask E (bm G mX12_ask E (pI Q)) μ' 33 [(0, .ref (gb G + 132)), (1, .int x), (2, .int (nI (guN (zP s) (zn s) (zR s) (zt s)))), (3, .int (cv (akB s j).1)), (4, .int (cv (akB s j).2)), (5, .int (nI j))] [] := by
      intro d
      induction d with
      | zero =>
        intro j μ' hj F' h0
        have e3 : μ' 135 3 = nI (zn s) := by rw [F' 135 (by decide)]; exact hr.1
        refine k_X12_ask_33 C (fun _ => fin μ' F' j (by omega) h0 (fun _ => by omega)) (fun z => ?_) (fun z => ?_) (fun z => ?_)
        all_goals
          exfalso
          revert z
          rw [e3]
          simp (disch := omega) only [ofNat_nI, nI_add, pk_mul, nI_clamp, nI_leI, nI_ltI, nI_eq, vp_in_nI_iff, nI_subr, nI_m1r, m1_eq, m1_eq2, m1_le, m1_le2, m1_lt, m1_lt2, m1_self, cv_sub, cv_add1, cv_eq, cv_eqI, cv_eqI2, cv_m1, cv_lt0, cv_leI, cv_Ile, cv_le, cv_lt, cv_Ilt, cv_ltI, not_true, not_false_iff, true_implies, false_implies, false_or, or_false, true_and, and_true, false_and, and_false, true_or, or_true]
          omega
      | succ d ih =>
        intro j μ' hj F' h0
        have e3 : μ' 135 3 = nI (zn s) := by rw [F' 135 (by decide)]; exact hr.1
        have et : μ' 135 (97 + j) = nI (zt s j) := by rw [F' 135 (by decide)]; exact (rt j (by omega)).1
        have et2 := (rt j (by omega)).2
        have eg : nI (guN (zP s) (zn s) (zR s) (zt s)) ≤ 0 ↔ guN (zP s) (zn s) (zR s) (zt s) = 0 := (nI_leI (b := 0) (by omega) (by omega)).trans (by omega)
        refine k_X12_ask_33 C (fun z => ?_) (fun _ _ => ?_) (fun _ z w => ?_) (fun _ z w => ?_)
        · rw [e3, eg] at z
          have g0 : guN (zP s) (zn s) (zR s) (zt s) = 0 := by
            rcases z with z | z
            · rw [nI_leI (by omega) (by omega)] at z; omega
            · exact z.2
          exact fin μ' F' j (by omega) h0 (fun y => absurd g0 y)
        · simp (disch := omega) only [ofNat_nI, nI_add, pk_mul, nI_clamp, nI_leI, nI_ltI, nI_eq, vp_in_nI_iff, nI_subr, nI_m1r, m1_eq, m1_eq2, m1_le, m1_le2, m1_lt, m1_lt2, m1_self, cv_sub, cv_add1, cv_eq, cv_eqI, cv_eqI2, cv_m1, cv_lt0, cv_leI, cv_Ile, cv_le, cv_lt, cv_Ilt, cv_ltI, not_true, not_false_iff, true_implies, false_implies, false_or, or_false, true_and, and_true, false_and, and_false, true_or, or_true]
          omega
        · rw [eg] at z
          revert w
          simp (disch := omega) only [ofNat_nI, nI_add, pk_mul, nI_clamp, nI_leI, nI_ltI, nI_eq, vp_in_nI_iff, nI_subr, nI_m1r, m1_eq, m1_eq2, m1_le, m1_le2, m1_lt, m1_lt2, m1_self, cv_sub, cv_add1, cv_eq, cv_eqI, cv_eqI2, cv_m1, cv_lt0, cv_leI, cv_Ile, cv_le, cv_lt, cv_Ilt, cv_ltI, not_true, not_false_iff, true_implies, false_implies, false_or, or_false, true_and, and_true, false_and, and_false, true_or, or_true, et]
          intro w
          have gj := gR j
          refine s_guiltyIn (P := zP s) (n := zn s) (R := zR s) (told := zt s) (t := fun m => hasM (zP s) (zR s j) m) hW (by rw [F' 135 (by decide)]; exact hP) (by rw [F' 135 (by decide)]; exact hr) (Or.inr ⟨j, by omega, rfl, fun _ => rfl⟩) fun μ2 F2 => ?_
          have bb : akB s (j + 1) = if decide (zt s j = 0) = true ∧ (akB s j).2 < min (guR (zP s) (zn s) (zR s) (zt s) (zR s j)) (guN (zP s) (zn s) (zR s) (zt s) - guR (zP s) (zn s) (zR s) (zt s) (zR s j)) + 1 then (j + 1, min (guR (zP s) (zn s) (zR s) (zt s) (zR s j)) (guN (zP s) (zn s) (zR s) (zt s) - guR (zP s) (zn s) (zR s) (zt s) (zR s j)) + 1) else akB s j := rfl
          have nx := ih (j + 1) μ2 (by omega) (F'.tr F2) (fun y => absurd y z)
          have a2 := aB2 j
          show Wm G mX12_ask E (bm G mX12_ask E (pI Q)) μ2 70 _ [.int (nI (guR (zP s) (zn s) (zR s) (zt s) (zR s j)))]
          generalize guR (zP s) (zn s) (zR s) (zt s) (zR s j) = a at *
          generalize guN (zP s) (zn s) (zR s) (zt s) = b at *
          have ev : ∀ v : Int32, ((nI b - nI a ≤ nI a ∧ v = nI b - nI a) ∨ (¬ nI b - nI a ≤ nI a ∧ v = nI a)) → v = nI (min a (b - a)) := fun v hv => by
            revert hv
            simp (disch := omega) only [ofNat_nI, nI_add, pk_mul, nI_clamp, nI_leI, nI_ltI, nI_eq, vp_in_nI_iff, nI_subr, nI_m1r, m1_eq, m1_eq2, m1_le, m1_le2, m1_lt, m1_lt2, m1_self, cv_sub, cv_add1, cv_eq, cv_eqI, cv_eqI2, cv_m1, cv_lt0, cv_leI, cv_Ile, cv_le, cv_lt, cv_Ilt, cv_ltI, not_true, not_false_iff, true_implies, false_implies, false_or, or_false, true_and, and_true, false_and, and_false, true_or, or_true]
            rintro (⟨y, rfl⟩ | ⟨y, rfl⟩)
            · congr 1; omega
            · congr 1; omega
          refine k_X12_ask_70 C (fun v hv y => ?_) (fun v hv y => ?_)
          · rw [ev v hv] at y ⊢
            rw [cv_ltI (by omega) (by omega)] at y
            rw [bb, if_pos ⟨decide_eq_true w, y⟩, cv_s, cv_s] at nx
            simp (disch := omega) only [ofNat_nI, nI_add, pk_mul, nI_clamp, nI_leI, nI_ltI, nI_eq, vp_in_nI_iff, nI_subr, nI_m1r, m1_eq, m1_eq2, m1_le, m1_le2, m1_lt, m1_lt2, m1_self, cv_sub, cv_add1, cv_eq, cv_eqI, cv_eqI2, cv_m1, cv_lt0, cv_leI, cv_Ile, cv_le, cv_lt, cv_Ilt, cv_ltI, not_true, not_false_iff, true_implies, false_implies, false_or, or_false, true_and, and_true, false_and, and_false, true_or, or_true]
            exact nx
          · rw [ev v hv, cv_ltI (by omega) (by omega)] at y
            rw [bb, if_neg (fun q => y q.2)] at nx
            simp (disch := omega) only [ofNat_nI, nI_add, pk_mul, nI_clamp, nI_leI, nI_ltI, nI_eq, vp_in_nI_iff, nI_subr, nI_m1r, m1_eq, m1_eq2, m1_le, m1_le2, m1_lt, m1_lt2, m1_self, cv_sub, cv_add1, cv_eq, cv_eqI, cv_eqI2, cv_m1, cv_lt0, cv_leI, cv_Ile, cv_le, cv_lt, cv_Ilt, cv_ltI, not_true, not_false_iff, true_implies, false_implies, false_or, or_false, true_and, and_true, false_and, and_false, true_or, or_true]
            exact nx
        · revert w
          simp (disch := omega) only [ofNat_nI, nI_add, pk_mul, nI_clamp, nI_leI, nI_ltI, nI_eq, vp_in_nI_iff, nI_subr, nI_m1r, m1_eq, m1_eq2, m1_le, m1_le2, m1_lt, m1_lt2, m1_self, cv_sub, cv_add1, cv_eq, cv_eqI, cv_eqI2, cv_m1, cv_lt0, cv_leI, cv_Ile, cv_le, cv_lt, cv_Ilt, cv_ltI, not_true, not_false_iff, true_implies, false_implies, false_or, or_false, true_and, and_true, false_and, and_false, true_or, or_true, et]
          intro w
          have bb : akB s (j + 1) = akB s j := by
            show bst _ _ (j + 1) = _
            rw [bst, if_neg (fun q => w (of_decide_eq_true q.1))]
            rfl
          have nx := ih (j + 1) μ' (by omega) F' (fun y => absurd y (by
            intro y2
            apply z
            rw [eg]
            exact y2))
          rw [bb] at nx
          exact nx
    refine s_guiltyIn (P := zP s) (n := zn s) (R := zR s) (told := zt s) (t := fun _ => true) hW hP hr (Or.inl ⟨by decide, fun _ => rfl⟩) fun μ2 F2 => k_X12_ask_24 C ?_
    have e : sm (MM (zP s)) (fun m => (guiB (zP s) (zn s) (zR s) (zt s) m && true).toNat) = guN (zP s) (zn s) (zR s) (zt s) := sm_congr fun m _ => by rw [Bool.and_true]
    show Wm G mX12_ask E (bm G mX12_ask E (pI Q)) μ2 33 [_, _, (2, .int (nI (sm (MM (zP s)) (fun m => (guiB (zP s) (zn s) (zR s) (zt s) m && true).toNat)))), _, _, _] []
    rw [e]
    exact loop (zn s) 0 μ2 (by omega) F2 (fun _ => rfl)

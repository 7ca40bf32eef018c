/-! THE CLASS: mixes, and by how many rows each is had -/
def MxC (P : Pl) (h : Nat → Nat) (μ : mM) : Prop := SetC 23 P μ ∧ (∀ m, m < MM P → μ 28 m = rowI (mrow P m)) ∧ (∀ m, m < MM P → LawR P (leftI P (rowI (mrow P m))) (μ 29 m)) ∧ (∀ m, m < MM P → μ 30 m = nI (h m)) ∧ μ 22 4 = nI (canN P)
theorem MxC.of {P : Pl} {h : Nat → Nat} {μ μ' : mM} (H : MxC P h μ) (e : ∀ c, c = 22 ∨ c = 23 ∨ c = 24 ∨ c = 25 ∨ c = 27 ∨ c = 28 ∨ c = 29 ∨ c = 30 → μ' c = μ c) : MxC P h μ' := by
  obtain ⟨a, b, c, d, f⟩ := H
  refine ⟨a.of (e 23 (by simp)) (e 24 (by simp)) (e 25 (by simp)) (e 27 (by simp)), ?_, ?_, ?_, ?_⟩
  · rw [e 28 (by simp)]; exact b
  · rw [e 29 (by simp)]; exact c
  · rw [e 30 (by simp)]; exact d
  · rw [e 22 (by simp)]; exact f
theorem MxC.had {P : Pl} {h h' : Nat → Nat} {μ : mM} (H : MxC P h μ) (e : ∀ m, m < MM P → h m = h' m) : MxC P h' μ :=
  ⟨H.1, H.2.1, H.2.2.1, fun m hm => by rw [← e m hm]; exact H.2.2.2.1 m hm, H.2.2.2.2⟩
/-- a sum over all mixes that a row has, set by set -/
theorem set_sum {P : Pl} (h : PW P) {r : Nat → Nat} (hr : ∀ c, r c ≤ qL P c) (p : Nat → Bool) : sm (MM P) (fun m => (hasM P r m && p m).toNat) = sm (ns (qC P) (qT P)) (fun i => match numO P i r with | none => 0 | some m => (p m).toNat) := by
  have e : sm (MM P) (fun m => (hasM P r m && p m).toNat) = sm (ns (qC P) (qT P)) (fun i => sm (pp P i) (fun w => (hasM P r (fi P i + w) && p (fi P i + w)).toNat)) := sm_blocks (pp P) _ _
  rw [e]
  refine sm_congr fun i hi => ?_
  cases q : numO P i r with
  | none =>
    refine sm_zero fun w hw => ?_
    have : hasM P r (fi P i + w) = false := bnot fun z => by
      have := (numO_has h hr hi hw).mp z
      rw [q] at this
      cases this
    rw [this]
    rfl
  | some m =>
    obtain ⟨⟨w, hw, rfl⟩, hm, hh⟩ := numO_some h hr hi q
    rw [sm_one hw (fun w' hw' hne => by
      have : hasM P r (fi P i + w') = false := bnot fun z => by
        have := (numO_has h hr hi hw').mp z
        rw [q] at this
        have := Option.some.inj this
        omega
      rw [this]
      rfl), hh]
    rfl
theorem m_in {P : Pl} {m : Nat} (hm : m < MM P) : ∃ i w, i < ns (qC P) (qT P) ∧ w < pp P i ∧ m = fi P i + w := ⟨_, _, (mix_spec hm).1, (mix_spec hm).2.2, (mix_spec hm).2.1⟩
theorem row0 {r : Nat → Nat} {P : Pl} (h : PW P) (hr : ∀ c, r c ≤ qL P c) (h0 : rowI r = 0) : ∀ c, r c = 0 := fun c => by
  by_cases q : c < 8
  · have := rowI_eq (r := r) (r' := fun _ => 0) (fun c _ => RwOk.le4 h hr c) (fun c _ => Nat.zero_le _) (by rw [h0, rowI_0]) c q
    exact this
  · have := hr c
    have h8 := h.ct.2.2.2
    rw [h.2.2.2.1 c (by omega)] at this
    omega
theorem numO_0 {P : Pl} (h : PW P) {i : Nat} {r : Nat → Nat} (h0 : ∀ c, r c = 0) : numO P i r = none := if_neg fun z => z 0 (by have := h.ct.1; omega) (h0 _)
def hdS (P : Pl) (h : Nat → Nat) (a b : Nat → Nat) : Nat → Nat := fun m => h m - (hasM P a m).toNat + (hasM P b m).toNat
theorem s_change {G : mG} {Q : mM → Prop} {μ : mM} {P : Pl} {h : Nat → Nat} {a b : Nat → Nat} (hW : PW P) (hM : MM P ≤ 1200) (H : MxC P h μ) (ha : ∀ c, a c ≤ qL P c) (hb : ∀ c, b c ≤ qL P c) (hle : ∀ m, m < MM P → hasM P a m = true → 0 < h m) (k : ∀ μ', Fr [30] μ μ' → MxC P (hdS P h a b) μ' → Q μ') :
    CtV G mX2_change [.ref (gb G + 22), .int (rowI a), .int (rowI b)] μ Q := by
  have n56 := (ns_pos hW.ct).2
  obtain ⟨hS, hB, hL, hH, hN⟩ := H
  refine e_X2_change fun E C => k_X2_change_0 C ?_
  have loop : ∀ (d i : Nat) (g : Nat → Int32), i + d = ns (qC P) (qT P) → (∀ m, m < MM P → g m = nI (if m < fi P i then hdS P h a b m else h m)) →
      Wm G mX2_change E (bm G mX2_change E (pV Q)) (mrw μ 30 g) 2 [(0, .ref (gb G + 22)), (1, .int (rowI a)), (2, .int (rowI b)), (3, .int (nI i))] [] := by
    intro d
    induction d with
    | zero =>
      intro i g hi hg
      have hin : i = ns (qC P) (qT P) := by omega
      subst hin
      have es : (mrw μ 30 g) 23 0 = nI (ns (qC P) (qT P)) := by rw [mrw_ne (by decide)]; exact hS.1
      refine k_X2_change_2 C (fun _ => ?_) (fun z => ?_) (fun z => ?_)
      · refine k _ ((Fr.rf _ μ).mrw (by decide)) ⟨hS.of (mrw_ne (by decide)) (mrw_ne (by decide)) (mrw_ne (by decide)) (mrw_ne (by decide)), ?_, ?_, fun m hm => ?_, ?_⟩
        · rw [mrw_ne (by decide)]; exact hB
        · rw [mrw_ne (by decide)]; exact hL
        · rw [mrw_at, hg m hm, if_pos (show m < fi P (ns (qC P) (qT P)) from hm)]
        · rw [mrw_ne (by decide)]; exact hN
      all_goals
        exfalso
        revert z
        rw [es]
        simp (disch := omega) only [ofNat_nI, nI_add, pk_mul, nI_clamp, nI_leI, nI_ltI, nI_eq, vp_in_nI_iff, nI_subr, nI_m1r, m1_eq, m1_eq2, m1_le, m1_le2, m1_lt, m1_lt2, m1_self, cv_sub, cv_add1, cv_eq, cv_eqI, cv_eqI2, cv_m1, cv_lt0, cv_leI, cv_Ile, cv_le, cv_lt, cv_Ilt, cv_ltI, not_true, not_false_iff, true_implies, false_implies, false_or, or_false, true_and, and_true, false_and, and_false, true_or, or_true]
        omega
    | succ d ih =>
      intro i g hi hg
      have hin : i < ns (qC P) (qT P) := by omega
      have es : (mrw μ 30 g) 23 0 = nI (ns (qC P) (qT P)) := by rw [mrw_ne (by decide)]; exact hS.1
      have hS' : ∀ g, SetC 23 P (mrw μ 30 g) := fun g => hS.of (mrw_ne (by decide)) (mrw_ne (by decide)) (mrw_ne (by decide)) (mrw_ne (by decide))
      have em1 : ∀ m, m < MM P → ¬ nI m = -1 := fun m hm z => by
        have := congrArg Int32.toInt z
        rw [nI_toInt (by omega)] at this
        have em : ((-1 : Int32)).toInt = -1 := by decide
        omega
      -- behind both numbers
      have tail : Wm G mX2_change E (bm G mX2_change E (pV Q)) (mrw μ 30 g) 49 [(0, .ref (gb G + 22)), (1, .int (rowI a)), (2, .int (rowI b)), (3, .int (nI i)), (4, .int (noI (numO P i a)))] [.int (noI (numO P i b))] := by
        -- what the first step makes
        have g1 : ∃ g1 : Nat → Int32, (∀ m, m < MM P → g1 m = nI (if m < fi P i then hdS P h a b m else if m < fi P (i + 1) then h m - (hasM P a m).toNat else h m)) ∧ (Wm G mX2_change E (bm G mX2_change E (pV Q)) (mrw μ 30 g1) 68 [(0, .ref (gb G + 22)), (1, .int (rowI a)), (2, .int (rowI b)), (3, .int (nI i)), (5, .int (noI (numO P i b)))] [] → Wm G mX2_change E (bm G mX2_change E (pV Q)) (mrw μ 30 g) 49 [(0, .ref (gb G + 22)), (1, .int (rowI a)), (2, .int (rowI b)), (3, .int (nI i)), (4, .int (noI (numO P i a)))] [.int (noI (numO P i b))]) := by
          cases q : numO P i a with
          | none =>
            refine ⟨g, fun m hm => ?_, fun w => k_X2_change_49 C (fun _ => w) (fun z => absurd rfl z) (fun z => absurd rfl z)⟩
            rw [hg m hm]
            by_cases q1 : m < fi P i
            · rw [if_pos q1, if_pos q1]
            · rw [if_neg q1, if_neg q1]
              by_cases q2 : m < fi P (i + 1)
              · rw [if_pos q2]
                have : hasM P a m = false := bnot fun z => by
                  rw [fi_s] at q2
                  have := (numO_has hW ha hin (w := m - fi P i) (by omega)).mp (by rw [show fi P i + (m - fi P i) = m by omega]; exact z)
                  rw [q] at this
                  cases this
                rw [this]
                rfl
              · rw [if_neg q2]
          | some m0 =>
            obtain ⟨⟨w0, hw0, e0⟩, hm0, hh0⟩ := numO_some hW ha hin q
            have hlt := fi_s P i
            refine ⟨upd g m0 (nI (h m0 - 1)), fun m hm => ?_, fun w => k_X2_change_49 C (fun z => absurd z (em1 m0 hm0)) (fun _ => ?_) (fun _ => ?_)⟩
            · rw [upd_at]
              by_cases q0 : m = m0
              · rw [if_pos q0, q0, if_neg (by omega), if_pos (by omega), hh0]
                rfl
              · rw [if_neg q0, hg m hm]
                by_cases q1 : m < fi P i
                · rw [if_pos q1, if_pos q1]
                · rw [if_neg q1, if_neg q1]
                  by_cases q2 : m < fi P (i + 1)
                  · rw [if_pos q2]
                    have : hasM P a m = false := bnot fun z => by
                      have := (numO_has hW ha hin (w := m - fi P i) (by omega)).mp (by rw [show fi P i + (m - fi P i) = m by omega]; exact z)
                      rw [q] at this
                      have := Option.some.inj this
                      omega
                    rw [this]
                    rfl
                  · rw [if_neg q2]
            · show vp_in (nI m0) 1200
              simp (disch := omega) only [ofNat_nI, nI_add, pk_mul, nI_clamp, nI_leI, nI_ltI, nI_eq, vp_in_nI_iff, nI_subr, nI_m1r, m1_eq, m1_eq2, m1_le, m1_le2, m1_lt, m1_lt2, m1_self, cv_sub, cv_add1, cv_eq, cv_eqI, cv_eqI2, cv_m1, cv_lt0, cv_leI, cv_Ile, cv_le, cv_lt, cv_Ilt, cv_ltI, not_true, not_false_iff, true_implies, false_implies, false_or, or_false, true_and, and_true, false_and, and_false, true_or, or_true]
              omega
            · have eg : g m0 = nI (h m0) := by rw [hg m0 hm0, if_neg (by omega)]
              have hp := hle m0 hm0 hh0
              show Wm G mX2_change E _ (ms (mrw μ 30 g) 30 (nI m0).toNatClampNeg ((mrw μ 30 g) 30 (nI m0).toNatClampNeg - 1)) 68 _ _
              rw [nI_clamp (by omega), mrw_at, eg, show nI (h m0) - 1 = nI (h m0 - 1) by rw [show (1 : Int32) = nI 1 from rfl, nI_subr (by omega)], ms_mrw]
              exact w
        obtain ⟨g1, hg1, hw1⟩ := g1
        refine hw1 ?_
        clear hw1
        have ei : nI i + 1 = nI (i + 1) := nI_1 i
        cases q : numO P i b with
        | none =>
          refine k_X2_change_68 C (fun _ => ?_) (fun z => absurd rfl z) (fun z => absurd rfl z)
          rw [ei]
          refine ih (i + 1) g1 (by omega) (fun m hm => ?_)
          rw [hg1 m hm]
          by_cases q1 : m < fi P i
          · rw [if_pos q1, if_pos (by rw [fi_s]; omega)]
          · rw [if_neg q1]
            by_cases q2 : m < fi P (i + 1)
            · rw [if_pos q2, if_pos q2]
              have : hasM P b m = false := bnot fun z => by
                rw [fi_s] at q2
                have := (numO_has hW hb hin (w := m - fi P i) (by omega)).mp (by rw [show fi P i + (m - fi P i) = m by omega]; exact z)
                rw [q] at this
                cases this
              unfold hdS
              rw [this]
              rfl
            · rw [if_neg q2, if_neg q2]
        | some m1 =>
          obtain ⟨⟨w0, hw0, e0⟩, hm1, hh1⟩ := numO_some hW hb hin q
          have hlt := fi_s P i
          refine k_X2_change_68 C (fun z => absurd z (em1 m1 hm1)) (fun _ => ?_) (fun _ => ?_)
          · show vp_in (nI m1) 1200
            simp (disch := omega) only [ofNat_nI, nI_add, pk_mul, nI_clamp, nI_leI, nI_ltI, nI_eq, vp_in_nI_iff, nI_subr, nI_m1r, m1_eq, m1_eq2, m1_le, m1_le2, m1_lt, m1_lt2, m1_self, cv_sub, cv_add1, cv_eq, cv_eqI, cv_eqI2, cv_m1, cv_lt0, cv_leI, cv_Ile, cv_le, cv_lt, cv_Ilt, cv_ltI, not_true, not_false_iff, true_implies, false_implies, false_or, or_false, true_and, and_true, false_and, and_false, true_or, or_true]
            omega
          · have eg : g1 m1 = nI (h m1 - (hasM P a m1).toNat) := by rw [hg1 m1 hm1, if_neg (by omega), if_pos (by omega)]
            show Wm G mX2_change E _ (ms (mrw μ 30 g1) 30 (nI m1).toNatClampNeg ((mrw μ 30 g1) 30 (nI m1).toNatClampNeg + 1)) 2 _ _
            rw [nI_clamp (by omega), mrw_at, eg, show nI (h m1 - (hasM P a m1).toNat) + 1 = nI (h m1 - (hasM P a m1).toNat + 1) from nI_1 _, ms_mrw, ei]
            refine ih (i + 1) _ (by omega) (fun m hm => ?_)
            rw [upd_at]
            by_cases q0 : m = m1
            · rw [if_pos q0, q0, if_pos (by omega)]
              unfold hdS
              rw [hh1]
              rfl
            · rw [if_neg q0, hg1 m hm]
              by_cases q1 : m < fi P i
              · rw [if_pos q1, if_pos (by omega)]
              · rw [if_neg q1]
                by_cases q2 : m < fi P (i + 1)
                · rw [if_pos q2, if_pos q2]
                  have : hasM P b m = false := bnot fun z => by
                    have := (numO_has hW hb hin (w := m - fi P i) (by omega)).mp (by rw [show fi P i + (m - fi P i) = m by omega]; exact z)
                    rw [q] at this
                    have := Option.some.inj this
                    omega
                  unfold hdS
                  rw [this]
                  rfl
                · rw [if_neg q2, if_neg q2]
      have mid : Wm G mX2_change E (bm G mX2_change E (pV Q)) (mrw μ 30 g) 30 [(0, .ref (gb G + 22)), (1, .int (rowI a)), (2, .int (rowI b)), (3, .int (nI i))] [.int (noI (numO P i a))] := by
        refine k_X2_change_30 C (fun _ => s_numberIn (by rfl) hW (hS' g) hb hin tail) (fun z => ?_)
        have := tail
        rw [numO_0 hW (row0 hW hb z)] at this
        exact this
      refine k_X2_change_2 C (fun z => ?_) (fun _ _ => s_numberIn (by rfl) hW (hS' g) ha hin mid) (fun _ z => ?_)
      · exfalso
        revert z
        rw [es]
        simp (disch := omega) only [ofNat_nI, nI_add, pk_mul, nI_clamp, nI_leI, nI_ltI, nI_eq, vp_in_nI_iff, nI_subr, nI_m1r, m1_eq, m1_eq2, m1_le, m1_le2, m1_lt, m1_lt2, m1_self, cv_sub, cv_add1, cv_eq, cv_eqI, cv_eqI2, cv_m1, cv_lt0, cv_leI, cv_Ile, cv_le, cv_lt, cv_Ilt, cv_ltI, not_true, not_false_iff, true_implies, false_implies, false_or, or_false, true_and, and_true, false_and, and_false, true_or, or_true]
        omega
      · have := mid
        rw [numO_0 hW (row0 hW ha z)] at this
        exact this
  have := loop (ns (qC P) (qT P)) 0 (μ 30) (by omega) (fun m hm => by
    rw [if_neg (by show ¬ m < fi P 0; exact Nat.not_lt_zero m)]
    exact hH m hm)
  rw [mrw_self] at this
  exact this
theorem size_eq {P : Pl} {μ : mM} (hM : MM P ≤ 1200) (hS : SetC 23 P μ) (h56 : ns (qC P) (qT P) ≤ 56) : vp_in (μ 23 0) 57 ∧ (if 1200 < μ 25 (μ 23 0).toNatClampNeg then 1200 else μ 25 (μ 23 0).toNatClampNeg) = nI (MM P) := by
  rw [hS.1, nI_clamp (by omega)]
  have e : μ 25 (ns (qC P) (qT P)) = nI (MM P) := hS.2.2.2.1 _ (Nat.le_refl _)
  rw [e]
  refine ⟨by
    simp (disch := omega) only [ofNat_nI, nI_add, pk_mul, nI_clamp, nI_leI, nI_ltI, nI_eq, vp_in_nI_iff, nI_subr, nI_m1r, m1_eq, m1_eq2, m1_le, m1_le2, m1_lt, m1_lt2, m1_self, cv_sub, cv_add1, cv_eq, cv_eqI, cv_eqI2, cv_m1, cv_lt0, cv_leI, cv_Ile, cv_le, cv_lt, cv_Ilt, cv_ltI, not_true, not_false_iff, true_implies, false_implies, false_or, or_false, true_and, and_true, false_and, and_false, true_or, or_true]
    omega, ?_⟩
  rw [if_neg (fun z => by
    have := (nI_ltI (a := 1200) (by omega) (by omega)).mp z
    omega)]
theorem s_recount {G : mG} {Q : mM → Prop} {μ : mM} {P : Pl} {h : Nat → Nat} {c1 n : Nat} {R : Nat → Nat → Nat} {t : Nat → Nat} (h1 : sh c1 = (0, 6)) (hc1 : c1 ≠ 30 ∧ c1 + 1 ≠ 30 ∧ c1 + 2 ≠ 30) (hW : PW P) (hM : MM P ≤ 1200) (H : MxC P h μ) (hn : n ≤ 64) (hr : RowsC c1 n R t μ) (hR : ∀ j, j < n → ∀ c, R j c ≤ qL P c)
    (k : ∀ μ', Fr [30] μ μ' → MxC P (fun m => rwN P R m n) μ' → Q μ') : CtV G mX2_recount [.ref (gb G + 22), .ref (gb G + c1)] μ Q := by
  have n56 := (ns_pos hW.ct).2
  obtain ⟨z1, z2⟩ := size_eq hM H.1 n56
  refine e_X2_recount h1 fun E C => k_X2_recount_0 C h1 z1 ?_
  rw [z2]
  have rows : ∀ (d j : Nat) (μ' : mM), j + d = n → Fr [30] μ μ' → MxC P (fun m => rwN P R m j) μ' → Wm G mX2_recount E (bm G mX2_recount E (pV Q)) μ' 27 [(0, .ref (gb G + 22)), (1, .ref (gb G + c1)), (3, .int (nI j))] [] := by
    intro d
    induction d with
    | zero =>
      intro j μ' hj F H'
      have hjn : j = n := by omega
      subst hjn
      have e0 : μ' c1 0 = nI j := by rw [F c1 (by simp; omega)]; exact hr.1
      refine k_X2_recount_27 C h1 (fun _ => k μ' F H') (fun z => ?_) (fun z => ?_)
      all_goals
        exfalso
        revert z
        rw [e0]
        simp (disch := omega) only [ofNat_nI, nI_add, pk_mul, nI_clamp, nI_leI, nI_ltI, nI_eq, vp_in_nI_iff, nI_subr, nI_m1r, m1_eq, m1_eq2, m1_le, m1_le2, m1_lt, m1_lt2, m1_self, cv_sub, cv_add1, cv_eq, cv_eqI, cv_eqI2, cv_m1, cv_lt0, cv_leI, cv_Ile, cv_le, cv_lt, cv_Ilt, cv_ltI, not_true, not_false_iff, true_implies, false_implies, false_or, or_false, true_and, and_true, false_and, and_false, true_or, or_true]
        omega
    | succ d ih =>
      intro j μ' hj F H'
      have e0 : μ' c1 0 = nI n := by rw [F c1 (by simp; omega)]; exact hr.1
      have e1 : μ' (c1 + 1) (nI j).toNatClampNeg = rowI (R j) := by rw [nI_clamp (by omega), F (c1 + 1) (by simp; omega)]; exact hr.2.1 j (by omega)
      refine k_X2_recount_27 C h1 (fun z => ?_) (fun _ => ?_) (fun _ => ?_)
      · exfalso
        revert z
        rw [e0]
        simp (disch := omega) only [ofNat_nI, nI_add, pk_mul, nI_clamp, nI_leI, nI_ltI, nI_eq, vp_in_nI_iff, nI_subr, nI_m1r, m1_eq, m1_eq2, m1_le, m1_le2, m1_lt, m1_lt2, m1_self, cv_sub, cv_add1, cv_eq, cv_eqI, cv_eqI2, cv_m1, cv_lt0, cv_leI, cv_Ile, cv_le, cv_lt, cv_Ilt, cv_ltI, not_true, not_false_iff, true_implies, false_implies, false_or, or_false, true_and, and_true, false_and, and_false, true_or, or_true]
        omega
      · simp (disch := omega) only [ofNat_nI, nI_add, pk_mul, nI_clamp, nI_leI, nI_ltI, nI_eq, vp_in_nI_iff, nI_subr, nI_m1r, m1_eq, m1_eq2, m1_le, m1_le2, m1_lt, m1_lt2, m1_self, cv_sub, cv_add1, cv_eq, cv_eqI, cv_eqI2, cv_m1, cv_lt0, cv_leI, cv_Ile, cv_le, cv_lt, cv_Ilt, cv_ltI, not_true, not_false_iff, true_implies, false_implies, false_or, or_false, true_and, and_true, false_and, and_false, true_or, or_true]
        omega
      · rw [e1, ← rowI_0]
        refine s_change hW hM H' (fun c => Nat.zero_le _) (hR j (by omega)) (fun m hm z => ?_) fun μ2 F2 H2 => k_X2_recount_46 C h1 ?_
        · exfalso
          have := (hasM_iff.mp z) 0 (by have := hW.ct.1; omega)
          omega
        · simp (disch := omega) only [ofNat_nI, nI_add, pk_mul, nI_clamp, nI_leI, nI_ltI, nI_eq, vp_in_nI_iff, nI_subr, nI_m1r, m1_eq, m1_eq2, m1_le, m1_le2, m1_lt, m1_lt2, m1_self, cv_sub, cv_add1, cv_eq, cv_eqI, cv_eqI2, cv_m1, cv_lt0, cv_leI, cv_Ile, cv_le, cv_lt, cv_Ilt, cv_ltI, not_true, not_false_iff, true_implies, false_implies, false_or, or_false, true_and, and_true, false_and, and_false, true_or, or_true]
          refine ih (j + 1) μ2 (by omega) (F.tr F2) (H2.had fun m hm => ?_)
          have : hasM P (fun _ => 0) m = false := bnot fun z => by
            have := (hasM_iff.mp z) 0 (by have := hW.ct.1; omega)
            omega
          show rwN P R m j - (hasM P (fun _ => 0) m).toNat + (hasM P (R j) m).toNat = rwN P R m (j + 1)
          rw [this]
          rfl
  have clear : ∀ (d m : Nat) (g : Nat → Int32), m + d = MM P → (∀ m', m' < m → g m' = 0) → Wm G mX2_recount E (bm G mX2_recount E (pV Q)) (mrw μ 30 g) 7 [(0, .ref (gb G + 22)), (1, .ref (gb G + c1)), (2, .int (nI (MM P))), (3, .int (nI m))] [] := by
    intro d
    induction d with
    | zero =>
      intro m g hm hg
      refine k_X2_recount_7 C h1 (fun _ => ?_) (fun z => ?_) (fun z => ?_)
      · refine rows n 0 _ (by omega) ((Fr.rf _ μ).mrw (by decide)) ?_
        have H2 : MxC P (fun m => rwN P R m 0) (mrw μ 30 g) := by
          obtain ⟨a, b, c, d, f⟩ := H
          refine ⟨a.of (mrw_ne (by decide)) (mrw_ne (by decide)) (mrw_ne (by decide)) (mrw_ne (by decide)), ?_, ?_, fun m' hm' => ?_, ?_⟩
          · rw [mrw_ne (by decide)]; exact b
          · rw [mrw_ne (by decide)]; exact c
          · rw [mrw_at, hg m' (by omega)]; rfl
          · rw [mrw_ne (by decide)]; exact f
        exact H2
      all_goals
        exfalso
        revert z
        simp (disch := omega) only [ofNat_nI, nI_add, pk_mul, nI_clamp, nI_leI, nI_ltI, nI_eq, vp_in_nI_iff, nI_subr, nI_m1r, m1_eq, m1_eq2, m1_le, m1_le2, m1_lt, m1_lt2, m1_self, cv_sub, cv_add1, cv_eq, cv_eqI, cv_eqI2, cv_m1, cv_lt0, cv_leI, cv_Ile, cv_le, cv_lt, cv_Ilt, cv_ltI, not_true, not_false_iff, true_implies, false_implies, false_or, or_false, true_and, and_true, false_and, and_false, true_or, or_true]
        omega
    | succ d ih =>
      intro m g hm hg
      refine k_X2_recount_7 C h1 (fun z => ?_) (fun _ => ?_) (fun _ => ?_)
      · exfalso
        revert z
        simp (disch := omega) only [ofNat_nI, nI_add, pk_mul, nI_clamp, nI_leI, nI_ltI, nI_eq, vp_in_nI_iff, nI_subr, nI_m1r, m1_eq, m1_eq2, m1_le, m1_le2, m1_lt, m1_lt2, m1_self, cv_sub, cv_add1, cv_eq, cv_eqI, cv_eqI2, cv_m1, cv_lt0, cv_leI, cv_Ile, cv_le, cv_lt, cv_Ilt, cv_ltI, not_true, not_false_iff, true_implies, false_implies, false_or, or_false, true_and, and_true, false_and, and_false, true_or, or_true]
        omega
      · simp (disch := omega) only [ofNat_nI, nI_add, pk_mul, nI_clamp, nI_leI, nI_ltI, nI_eq, vp_in_nI_iff, nI_subr, nI_m1r, m1_eq, m1_eq2, m1_le, m1_le2, m1_lt, m1_lt2, m1_self, cv_sub, cv_add1, cv_eq, cv_eqI, cv_eqI2, cv_m1, cv_lt0, cv_leI, cv_Ile, cv_le, cv_lt, cv_Ilt, cv_ltI, not_true, not_false_iff, true_implies, false_implies, false_or, or_false, true_and, and_true, false_and, and_false, true_or, or_true]
        omega
      · rw [nI_clamp (by omega), ms_mrw]
        simp (disch := omega) only [ofNat_nI, nI_add, pk_mul, nI_clamp, nI_leI, nI_ltI, nI_eq, vp_in_nI_iff, nI_subr, nI_m1r, m1_eq, m1_eq2, m1_le, m1_le2, m1_lt, m1_lt2, m1_self, cv_sub, cv_add1, cv_eq, cv_eqI, cv_eqI2, cv_m1, cv_lt0, cv_leI, cv_Ile, cv_le, cv_lt, cv_Ilt, cv_ltI, not_true, not_false_iff, true_implies, false_implies, false_or, or_false, true_and, and_true, false_and, and_false, true_or, or_true]
        refine ih (m + 1) _ (by omega) (fun m' hm' => ?_)
        rw [upd_at]
        by_cases q : m' = m
        · rw [if_pos q]; rfl
        · rw [if_neg q]; exact hg m' (by omega)
  have := clear (MM P) 0 (μ 30) (by omega) (fun m' hm' => absurd hm' (Nat.not_lt_zero m'))
  rw [mrw_self] at this
  exact this

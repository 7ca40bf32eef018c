/-! THE CLASS: suspects -/
theorem noI_m' {m : Nat} (hm : m < 2 ^ 31) : ¬ nI m = -1 := fun z => by
  have := congrArg Int32.toInt z
  rw [nI_toInt hm] at this
  have em : ((-1 : Int32)).toInt = -1 := by decide
  omega
def gnN (P : Pl) (n : Nat) (R : Nat → Nat → Nat) (t : Nat → Nat) (k : Nat) : Nat := sm k (fun m => (guiB P n R t m).toNat)
theorem gn_1 {P : Pl} {n : Nat} {R : Nat → Nat → Nat} {t : Nat → Nat} {k : Nat} (h : guiB P n R t k = true) : gnN P n R t (k + 1) = gnN P n R t k + 1 := by
  show sm k _ + (guiB P n R t k).toNat = _
  rw [h]
  rfl
theorem gn_0 {P : Pl} {n : Nat} {R : Nat → Nat → Nat} {t : Nat → Nat} {k : Nat} (h : guiB P n R t k = false) : gnN P n R t (k + 1) = gnN P n R t k := by
  show sm k _ + (guiB P n R t k).toNat = _
  rw [h]
  rfl
theorem gn_mono {P : Pl} {n : Nat} {R : Nat → Nat → Nat} {t : Nat → Nat} {a b : Nat} (h : a ≤ b) : gnN P n R t a ≤ gnN P n R t b := sm_part _ h
theorem guiB_iff {P : Pl} {n : Nat} {R : Nat → Nat → Nat} {t : Nat → Nat} {m : Nat} (ht : ∀ j, j < n → t j ≤ 2) : guiB P n R t m = true ↔ (∃ j, j < n ∧ t j = 2) ∧ (∀ j, j < n → t j = 2 → hasM P (R j) m = true) ∧ ¬ ∃ j, j < n ∧ t j = 1 ∧ hasM P (R j) m = true := by
  unfold guiB
  rw [Bool.and_eq_true, decide_eq_true_iff, decide_eq_true_iff]
  constructor
  · rintro ⟨a, b⟩
    refine ⟨a, fun j hj e => (b j hj (by omega)).mpr e, ?_⟩
    rintro ⟨j, hj, e1, e2⟩
    have := (b j hj (by omega)).mp e2
    omega
  · rintro ⟨a, b, c⟩
    refine ⟨a, fun j hj hn => ⟨fun e => ?_, b j hj⟩⟩
    have := ht j hj
    refine Classical.byContradiction fun z => c ⟨j, hj, by omega, e⟩
/-- what all failed rows have -/
def cmI (R : Nat → Nat → Nat) (t : Nat → Nat) (a : Nat) : Int32 := mkI (fun i => decide (∀ j, j < a → t j = 2 → R j (i / 4) = i % 4 + 1))
def cmR (R : Nat → Nat → Nat) (t : Nat → Nat) (n j0 : Nat) : Nat → Nat := fun c => if ∀ j, j < n → t j = 2 → R j c = R j0 c then R j0 c else 0
theorem cm_row {R : Nat → Nat → Nat} {t : Nat → Nat} {n j0 : Nat} (hj : j0 < n) (ht : t j0 = 2) : cmI R t n = rowI (cmR R t n j0) := b_ext fun i hi => by
  rw [b_row _ hi]
  show bt (mkI _) i = _
  rw [b_mk _ hi]
  unfold cmR
  by_cases q : ∀ j, j < n → t j = 2 → R j (i / 4) = R j0 (i / 4)
  · rw [if_pos q]
    by_cases z : R j0 (i / 4) = i % 4 + 1
    · rw [decide_eq_true z, decide_eq_true (fun j h1 h2 => by rw [q j h1 h2]; exact z)]
    · rw [decide_eq_false z, decide_eq_false (fun y => z (y j0 hj ht))]
  · rw [if_neg q, decide_eq_false (show ¬ 0 = i % 4 + 1 by omega), decide_eq_false (fun y => q fun j h1 h2 => by rw [y j h1 h2, y j0 hj ht])]
theorem cm_le {P : Pl} {R : Nat → Nat → Nat} {t : Nat → Nat} {n j0 : Nat} (hR : ∀ c, R j0 c ≤ qL P c) : ∀ c, cmR R t n j0 c ≤ qL P c := fun c => by
  unfold cmR
  split
  · exact hR c
  · exact Nat.zero_le _
theorem cm_has {P : Pl} {R : Nat → Nat → Nat} {t : Nat → Nat} {n j0 m : Nat} (hj : j0 < n) (ht : t j0 = 2) : hasM P (cmR R t n j0) m = true ↔ ∀ j, j < n → t j = 2 → hasM P (R j) m = true := by
  rw [hasM_iff]
  constructor
  · intro z j h1 h2
    rw [hasM_iff]
    intro k hk
    have := z k hk
    unfold cmR at this
    by_cases q : ∀ j, j < n → t j = 2 → R j (mcol P m k) = R j0 (mcol P m k)
    · rw [if_pos q] at this
      rw [q j h1 h2]; exact this
    · rw [if_neg q] at this
      omega
  · intro z k hk
    unfold cmR
    rw [if_pos fun j h1 h2 => by rw [hasM_iff.mp (z j h1 h2) k hk, hasM_iff.mp (z j0 hj ht) k hk]]
    exact hasM_iff.mp (z j0 hj ht) k hk
theorem rwS_mrow {P : Pl} (h : PW P) {i m : Nat} {r : Nat → Nat} (hr : ∀ c, r c ≤ qL P c) (hi : i < ns (qC P) (qT P)) (e : numO P i r = some m) : rowI (rwS P i (qT P) r) = rowI (mrow P m) := rowI_congr fun c _ => by
  obtain ⟨⟨w, hw, e1⟩, hm, hh⟩ := numO_some h hr hi e
  rw [hasM_iff] at hh
  unfold rwS
  by_cases q : ∃ k, k < qT P ∧ st (qC P) (qT P) i k = c
  · obtain ⟨k, hk, e2⟩ := id q
    rw [if_pos q]
    have e3 : mcol P m k = c := by rw [e1, mcol_of hi hw]; exact e2
    rw [← e3, hh k hk, mrow_at h hm hk]
  · rw [if_neg q]
    refine (mrow_0 fun k hk e2 => q ⟨k, hk, ?_⟩).symm
    rw [← e2, e1, mcol_of hi hw]
theorem s_passed {G : mG} {Q : Int32 → mM → Prop} {μ : mM} {P : Pl} {c1 n m : Nat} {R : Nat → Nat → Nat} {t : Nat → Nat} (h1 : sh c1 = (0, 6)) (hW : PW P) (hn : n ≤ 64) (hm : m < MM P) (hr : RowsC c1 n R t μ) (ht : ∀ j, j < n → t j ≤ 2) (k1 : (∃ j, j < n ∧ t j = 1 ∧ hasM P (R j) m = true) → Q 1 μ) (k0 : (¬ ∃ j, j < n ∧ t j = 1 ∧ hasM P (R j) m = true) → Q 0 μ) :
    CtI G mX9_passed [.ref (gb G + 42), .ref (gb G + c1), .int (rowI (mrow P m))] μ Q := by
  refine e_X9_passed h1 fun E C => k_X9_passed_0 C h1 ?_
  have loop : ∀ (d j : Nat), j + d = n → (¬ ∃ i, i < j ∧ t i = 1 ∧ hasM P (R i) m = true) → Wm G mX9_passed E (bm G mX9_passed E (pI Q)) μ 2 [(1, .ref (gb G + c1)), (2, .int (rowI (mrow P m))), (3, .int (nI j))] [] := by
    intro d
    induction d with
    | zero =>
      intro j hj hall
      have hjn : j = n := by omega
      subst hjn
      refine k_X9_passed_2 C h1 (fun _ => k0 hall) (fun z => ?_) (fun z => ?_) (fun z => ?_)
      all_goals
        exfalso
        revert z
        rw [hr.1]
        simp (disch := omega) only [ofNat_nI, nI_add, pk_mul, nI_clamp, nI_leI, nI_ltI, nI_eq, vp_in_nI_iff, nI_subr, nI_m1r, m1_eq, m1_eq2, m1_le, m1_le2, m1_lt, m1_lt2, m1_self, cv_sub, cv_add1, cv_eq, cv_eqI, cv_eqI2, cv_m1, cv_lt0, cv_leI, cv_Ile, cv_le, cv_lt, cv_Ilt, cv_ltI, not_true, not_false_iff, true_implies, false_implies, false_or, or_false, true_and, and_true, false_and, and_false, true_or, or_true]
        omega
    | succ d ih =>
      intro j hj hall
      have hjn : j < n := by omega
      have e1 : μ (c1 + 1) (nI j).toNatClampNeg = rowI (R j) := by rw [nI_clamp (by omega)]; exact hr.2.1 j hjn
      have e2 : μ (c1 + 2) (nI j).toNatClampNeg = nI (t j) := by rw [nI_clamp (by omega)]; exact hr.2.2 j hjn
      have htj := ht j hjn
      have et : μ (c1 + 2) (nI j).toNatClampNeg = 1 ↔ t j = 1 := by rw [e2]; exact nI_eq (b := 1) (by omega) (by omega)
      refine k_X9_passed_2 C h1 (fun z => ?_) (fun _ => ?_) (fun _ z => ?_) (fun _ z1 z2 => ?_)
      · exfalso
        revert z
        rw [hr.1]
        simp (disch := omega) only [ofNat_nI, nI_add, pk_mul, nI_clamp, nI_leI, nI_ltI, nI_eq, vp_in_nI_iff, nI_subr, nI_m1r, m1_eq, m1_eq2, m1_le, m1_le2, m1_lt, m1_lt2, m1_self, cv_sub, cv_add1, cv_eq, cv_eqI, cv_eqI2, cv_m1, cv_lt0, cv_leI, cv_Ile, cv_le, cv_lt, cv_Ilt, cv_ltI, not_true, not_false_iff, true_implies, false_implies, false_or, or_false, true_and, and_true, false_and, and_false, true_or, or_true]
        omega
      · simp (disch := omega) only [ofNat_nI, nI_add, pk_mul, nI_clamp, nI_leI, nI_ltI, nI_eq, vp_in_nI_iff, nI_subr, nI_m1r, m1_eq, m1_eq2, m1_le, m1_le2, m1_lt, m1_lt2, m1_self, cv_sub, cv_add1, cv_eq, cv_eqI, cv_eqI2, cv_m1, cv_lt0, cv_leI, cv_Ile, cv_le, cv_lt, cv_Ilt, cv_ltI, not_true, not_false_iff, true_implies, false_implies, false_or, or_false, true_and, and_true, false_and, and_false, true_or, or_true]
        omega
      · rw [et, e1, mrow_sub hW hm] at z
        rw [nI_1]
        refine ih (j + 1) (by omega) ?_
        rintro ⟨i, hi, a, b⟩
        by_cases q : i = j
        · rw [q] at a b
          rcases z with z | z
          · exact z a
          · exact z.2 b
        · exact hall ⟨i, by omega, a, b⟩
      · rw [et] at z1
        rw [e1, mrow_sub hW hm] at z2
        exact k1 ⟨j, hjn, z1, z2⟩
  exact loop n 0 (by omega) (fun ⟨i, hi, _⟩ => absurd hi (Nat.not_lt_zero i))
def SuC (P : Pl) (n : Nat) (R : Nat → Nat → Nat) (t : Nat → Nat) (μ : mM) : Prop := μ 42 3 = nI (gnN P n R t (MM P)) ∧ gnN P n R t (MM P) ≤ 56 ∧ ∀ m, m < MM P → guiB P n R t m = true → μ 43 (gnN P n R t m) = nI m ∧ μ 44 (gnN P n R t m) = rowI (mrow P m)
theorem qw_C (P : Pl) (t : Nat) : qC (qw P t) = qC P ∧ qL (qw P t) = qL P ∧ qT (qw P t) = t := ⟨rfl, rfl, rfl⟩
theorem s_find {G : mG} {Q : mM → Prop} {μ : mM} {P : Pl} {c1 c2 n tt : Nat} {R : Nat → Nat → Nat} {t : Nat → Nat} (h1 : sh c1 = (0, 3)) (h2 : sh c2 = (0, 6)) (hc1 : c1 < 30) (hc2 : c2 < 30) (hW : PW (qw P tt)) (hp0 : μ c1 0 = nI (qC P)) (hp1 : ∀ c, c < qC P → μ (c1 + 1) c = nI (qL P c)) (hn : n ≤ 64) (hr : RowsC c2 n R t μ) (hR : ∀ j, j < n → ∀ c, R j c ≤ qL P c) (ht : ∀ j, j < n → t j ≤ 2) (hf : μ 47 0 = 0)
    (k : ∀ μ', Fr [42, 43, 44, 45, 46, 47, 48, 49] μ μ' → μ' 47 0 = 0 → SuC (qw P tt) n R t μ' → Q μ') : CtV G mX9_find [.ref (gb G + 42), .ref (gb G + c1), .ref (gb G + c2), .int (nI tt)] μ Q := by
  have hMM := hW.MM_le
  have n56 := (ns_pos hW.ct).2
  have h45 : sh 45 = (0, 0) := rfl
  have F0 : Fr [42, 43, 44, 45, 46, 47, 48, 49] μ (ms μ 42 3 0) := (Fr.rf _ μ).ms (by decide)
  have hr0 : RowsC c2 n R t (ms μ 42 3 0) := hr.of (F0 _ (by simp; omega)) (F0 _ (by simp; omega)) (F0 _ (by simp; omega))
  refine e_X9_find h1 h2 fun E C => k_X9_find_0 C h1 h2 ?_
  refine s_toldAs (how := 2) h2 hn (by omega) hr0 ht (k_X9_find_10 C h1 h2 (fun z => ?_) (fun z => ?_))
  · obtain ⟨j0, hj0, ht0⟩ : ∃ j, j < n ∧ t j = 2 := by
      refine Classical.byContradiction fun y => z ?_
      have : toN n t 2 = 0 := sm_zero fun j hj => by
        show (decide (t j = 2)).toNat = 0
        rw [decide_eq_false (fun w => y ⟨j, hj, w⟩)]
        rfl
      rw [this]
      rfl
    let B := cmR R t n j0
    have hB : ∀ c, B c ≤ qL (qw P tt) c := cm_le (P := qw P tt) (hR j0 hj0)
    have hgi : ∀ m, guiB (qw P tt) n R t m = true ↔ hasM (qw P tt) B m = true ∧ ¬ ∃ j, j < n ∧ t j = 1 ∧ hasM (qw P tt) (R j) m = true := fun m => by
      rw [guiB_iff ht, cm_has hj0 ht0]
      exact ⟨fun w => w.2, fun w => ⟨⟨j0, hj0, ht0⟩, w⟩⟩
    -- over the sets
    have sets : ∀ (d i : Nat) (μ' : mM), i + d = ns (qC (qw P tt)) (qT (qw P tt)) → Fr [42, 43, 44, 45, 46, 47, 48, 49] μ μ' → SetC 45 (qw P tt) μ' → μ' 42 3 = nI (gnN (qw P tt) n R t (fi (qw P tt) i)) → gnN (qw P tt) n R t (fi (qw P tt) i) ≤ i → (∀ m, m < fi (qw P tt) i → guiB (qw P tt) n R t m = true → μ' 43 (gnN (qw P tt) n R t m) = nI m ∧ μ' 44 (gnN (qw P tt) n R t m) = rowI (mrow (qw P tt) m)) →
        Wm G mX9_find E (bm G mX9_find E (pV Q)) μ' 70 [(0, .ref (gb G + 42)), (2, .ref (gb G + c2)), (4, .int (rowI B)), (5, .int (nI i))] [] := by
      intro d
      induction d with
      | zero =>
        intro i μ' hi F hS e3 hle hall
        have hin : i = ns (qC (qw P tt)) (qT (qw P tt)) := by omega
        subst hin
        refine k_X9_find_70 C h2 (fun _ => k μ' F (hS.2.2.2.1 0 (Nat.zero_le _)) ⟨e3, Nat.le_trans hle n56, hall⟩) (fun z => ?_)
        exfalso
        revert z
        rw [hS.1]
        simp (disch := omega) only [ofNat_nI, nI_add, pk_mul, nI_clamp, nI_leI, nI_ltI, nI_eq, vp_in_nI_iff, nI_subr, nI_m1r, m1_eq, m1_eq2, m1_le, m1_le2, m1_lt, m1_lt2, m1_self, cv_sub, cv_add1, cv_eq, cv_eqI, cv_eqI2, cv_m1, cv_lt0, cv_leI, cv_Ile, cv_le, cv_lt, cv_Ilt, cv_ltI, not_true, not_false_iff, true_implies, false_implies, false_or, or_false, true_and, and_true, false_and, and_false, true_or, or_true]
        omega
      | succ d ih =>
        intro i μ' hi F hS e3 hle hall
        have hin : i < ns (qC (qw P tt)) (qT (qw P tt)) := by omega
        have hfs := fi_s (qw P tt) i
        have hfl := fi_le (P := qw P tt) (i := i + 1) (by omega)
        have hr' : RowsC c2 n R t μ' := hr.of (F _ (by simp; omega)) (F _ (by simp; omega)) (F _ (by simp; omega))
        refine k_X9_find_70 C h2 (fun z => ?_) (fun _ => s_numberIn h45 hW hS hB hin (k_X9_find_93 C h2 (s_cellsIn h45 hW hS hin (k_X9_find_106 C h2 (fun z => ?_) (fun z => ?_)))))
        · exfalso
          revert z
          rw [hS.1]
          simp (disch := omega) only [ofNat_nI, nI_add, pk_mul, nI_clamp, nI_leI, nI_ltI, nI_eq, vp_in_nI_iff, nI_subr, nI_m1r, m1_eq, m1_eq2, m1_le, m1_le2, m1_lt, m1_lt2, m1_self, cv_sub, cv_add1, cv_eq, cv_eqI, cv_eqI2, cv_m1, cv_lt0, cv_leI, cv_Ile, cv_le, cv_lt, cv_Ilt, cv_ltI, not_true, not_false_iff, true_implies, false_implies, false_or, or_false, true_and, and_true, false_and, and_false, true_or, or_true]
          omega
        · -- none
          have hno : ∀ w, w ≤ pp (qw P tt) i → gnN (qw P tt) n R t (fi (qw P tt) i + w) = gnN (qw P tt) n R t (fi (qw P tt) i) := by
            intro w
            induction w with
            | zero => intro _; rfl
            | succ w ihw =>
              intro hw
              have : guiB (qw P tt) n R t (fi (qw P tt) i + w) = false := bnot fun y => by
                have := (numO_has hW hB hin (w := w) (by omega)).mp ((hgi _).mp y).1
                rw [this] at z
                exact noI_m' (by have := fi_lt hin (show w < pp (qw P tt) i by omega); omega) z
              rw [show fi (qw P tt) i + (w + 1) = fi (qw P tt) i + w + 1 by omega, gn_0 this]
              exact ihw (by omega)
          have hgf : gnN (qw P tt) n R t (fi (qw P tt) (i + 1)) = gnN (qw P tt) n R t (fi (qw P tt) i) := by rw [hfs]; exact hno _ (Nat.le_refl _)
          rw [nI_1]
          refine ih (i + 1) μ' (by omega) F hS (by rw [hgf]; exact e3) (by omega) (fun m hm hg => ?_)
          by_cases q : m < fi (qw P tt) i
          · exact hall m q hg
          · exfalso
            have h3 := hno (m - fi (qw P tt) i) (by omega)
            have h4 := hno (m - fi (qw P tt) i + 1) (by omega)
            rw [show fi (qw P tt) i + (m - fi (qw P tt) i) = m by omega] at h3
            rw [show fi (qw P tt) i + (m - fi (qw P tt) i + 1) = m + 1 by omega, gn_1 hg] at h4
            omega
        · cases q : numO (qw P tt) i B with
          | none => rw [q] at z; exact absurd rfl z
          | some m0 =>
            obtain ⟨⟨w0, hw0, e0⟩, hm0, hh0⟩ := numO_some hW hB hin q
            rw [rwS_mrow hW hB hin q]
            have hother : ∀ w, w < pp (qw P tt) i → w ≠ w0 → guiB (qw P tt) n R t (fi (qw P tt) i + w) = false := fun w hw hne => bnot fun y => by
              have := (numO_has hW hB hin hw).mp ((hgi _).mp y).1
              rw [q] at this
              have := Option.some.inj this
              omega
            have hg1 : ∀ w, w ≤ pp (qw P tt) i → gnN (qw P tt) n R t (fi (qw P tt) i + w) = gnN (qw P tt) n R t (fi (qw P tt) i) + if w0 < w then (guiB (qw P tt) n R t m0).toNat else 0 := by
              intro w
              induction w with
              | zero => intro _; rfl
              | succ w ihw =>
                intro hw
                have ihw' := ihw (by omega)
                by_cases y : w = w0
                · subst y
                  rw [if_neg (Nat.lt_irrefl _)] at ihw'
                  rw [if_pos (by omega), show fi (qw P tt) i + (w + 1) = fi (qw P tt) i + w + 1 by omega]
                  show gnN (qw P tt) n R t (fi (qw P tt) i + w) + (guiB (qw P tt) n R t (fi (qw P tt) i + w)).toNat = _
                  rw [ihw', ← e0]
                  rfl
                · rw [show fi (qw P tt) i + (w + 1) = fi (qw P tt) i + w + 1 by omega, gn_0 (hother w (by omega) y), ihw']
                  congr 1
                  by_cases u : w0 < w
                  · rw [if_pos u, if_pos (by omega)]
                  · rw [if_neg u, if_neg (by omega)]
            have hgf : gnN (qw P tt) n R t (fi (qw P tt) (i + 1)) = gnN (qw P tt) n R t (fi (qw P tt) i) + (guiB (qw P tt) n R t m0).toNat := by
              rw [hfs, hg1 _ (Nat.le_refl _), if_pos hw0]
            have hgm : gnN (qw P tt) n R t m0 = gnN (qw P tt) n R t (fi (qw P tt) i) := by
              rw [e0, hg1 w0 (by omega), if_neg (Nat.lt_irrefl _)]
              rfl
            refine s_passed h2 hW hn hm0 hr' ht (fun y => k_X9_find_121 C h2 (fun _ => ?_) (fun u => absurd u (by decide)) (fun u => absurd u (by decide))) (fun y => k_X9_find_121 C h2 (fun u => absurd rfl u) (fun _ => ?_) (fun _ => ?_))
            · have eg : guiB (qw P tt) n R t m0 = false := bnot fun u => ((hgi _).mp u).2 y
              rw [eg] at hgf
              rw [nI_1]
              refine ih (i + 1) μ' (by omega) F hS (by rw [hgf]; exact e3) (by rw [hgf]; show _ + 0 ≤ _; omega) (fun m hm hg => ?_)
              by_cases u : m < fi (qw P tt) i
              · exact hall m u hg
              · exfalso
                have := hother (m - fi (qw P tt) i) (by omega) (fun v => by
                  have : m = m0 := by omega
                  rw [this, eg] at hg
                  cases hg)
                rw [show fi (qw P tt) i + (m - fi (qw P tt) i) = m by omega, hg] at this
                cases this
            · rw [e3]
              simp (disch := omega) only [ofNat_nI, nI_add, pk_mul, nI_clamp, nI_leI, nI_ltI, nI_eq, vp_in_nI_iff, nI_subr, nI_m1r, m1_eq, m1_eq2, m1_le, m1_le2, m1_lt, m1_lt2, m1_self, cv_sub, cv_add1, cv_eq, cv_eqI, cv_eqI2, cv_m1, cv_lt0, cv_leI, cv_Ile, cv_le, cv_lt, cv_Ilt, cv_ltI, not_true, not_false_iff, true_implies, false_implies, false_or, or_false, true_and, and_true, false_and, and_false, true_or, or_true]
              omega
            · have eg : guiB (qw P tt) n R t m0 = true := (hgi _).mpr ⟨hh0, y⟩
              rw [eg] at hgf
              have hgf' : gnN (qw P tt) n R t (fi (qw P tt) (i + 1)) = gnN (qw P tt) n R t (fi (qw P tt) i) + 1 := hgf
              rw [e3, nI_clamp (by omega), nI_1, nI_1]
              refine ih (i + 1) _ (by omega) (((F.ms (by decide)).ms (by decide)).ms (by decide)) (hS.of ?_ ?_ ?_ ?_) ?_ (by omega) (fun m hm hg => ?_)
              all_goals (try rw [ms_ne (by decide), ms_ne (by decide), ms_ne (by decide)])
              · rw [ms_row, upd_at, if_pos rfl, hgf']
              · rw [ms_ne (by decide), ms_ne (by decide), ms_row, upd_at, ms_ne (by decide), ms_row, upd_at, ms_ne (by decide)]
                by_cases u : m < fi (qw P tt) i
                · have := gn_mono (P := qw P tt) (n := n) (R := R) (t := t) (show m + 1 ≤ fi (qw P tt) i by omega)
                  rw [gn_1 hg] at this
                  rw [if_neg (by omega), if_neg (by omega)]
                  exact hall m u hg
                · have em : m = m0 := Classical.byContradiction fun v => by
                    have := hother (m - fi (qw P tt) i) (by omega) (by omega)
                    rw [show fi (qw P tt) i + (m - fi (qw P tt) i) = m by omega, hg] at this
                    cases this
                  rw [em, hgm, if_pos rfl, if_pos rfl]
                  exact ⟨rfl, rfl⟩
    -- over the rows
    have rows : ∀ (d a : Nat), a + d = n → Wm G mX9_find E (bm G mX9_find E (pV Q)) (ms μ 42 3 0) 20 [(0, .ref (gb G + 42)), (1, .ref (gb G + c1)), (2, .ref (gb G + c2)), (3, .int (nI tt)), (4, .int (cmI R t a)), (5, .int (nI a))] [] := by
      intro d
      induction d with
      | zero =>
        intro a ha
        have han : a = n := by omega
        rw [han, cm_row hj0 ht0]
        refine k_X9_find_20 C h1 h2 (fun _ => s_buildSets (P := P) h45 h1 (by omega) hW ?_ ?_ ?_ fun ν F hS => k_X9_find_67 C h2 ?_) (fun z => ?_) (fun z => ?_)
        · rw [F0 _ (by simp; omega)]; exact hp0
        · rw [F0 _ (by simp; omega)]; exact hp1
        · rw [ms_ne (by decide)]; exact hf
        · refine sets _ 0 ν (Nat.zero_add _) (F0.tr (F.mono (by simp))) hS ?_ (Nat.le_refl _) (fun m hm => absurd hm (Nat.not_lt_zero m))
          rw [F 42 (by decide), ms_row, upd_at, if_pos rfl]
          rfl
        all_goals
          exfalso
          revert z
          rw [hr0.1]
          simp (disch := omega) only [ofNat_nI, nI_add, pk_mul, nI_clamp, nI_leI, nI_ltI, nI_eq, vp_in_nI_iff, nI_subr, nI_m1r, m1_eq, m1_eq2, m1_le, m1_le2, m1_lt, m1_lt2, m1_self, cv_sub, cv_add1, cv_eq, cv_eqI, cv_eqI2, cv_m1, cv_lt0, cv_leI, cv_Ile, cv_le, cv_lt, cv_Ilt, cv_ltI, not_true, not_false_iff, true_implies, false_implies, false_or, or_false, true_and, and_true, false_and, and_false, true_or, or_true]
          omega
      | succ d ih =>
        intro a ha
        have han : a < n := by omega
        have e1 : ms μ 42 3 0 (c2 + 1) (nI a).toNatClampNeg = rowI (R a) := by rw [nI_clamp (by omega)]; exact hr0.2.1 a han
        have e2 : ms μ 42 3 0 (c2 + 2) (nI a).toNatClampNeg = nI (t a) := by rw [nI_clamp (by omega)]; exact hr0.2.2 a han
        have hta := ht a han
        refine k_X9_find_20 C h1 h2 (fun z => ?_) (fun _ => ?_) (fun _ v hv => ?_)
        · exfalso
          revert z
          rw [hr0.1]
          simp (disch := omega) only [ofNat_nI, nI_add, pk_mul, nI_clamp, nI_leI, nI_ltI, nI_eq, vp_in_nI_iff, nI_subr, nI_m1r, m1_eq, m1_eq2, m1_le, m1_le2, m1_lt, m1_lt2, m1_self, cv_sub, cv_add1, cv_eq, cv_eqI, cv_eqI2, cv_m1, cv_lt0, cv_leI, cv_Ile, cv_le, cv_lt, cv_Ilt, cv_ltI, not_true, not_false_iff, true_implies, false_implies, false_or, or_false, true_and, and_true, false_and, and_false, true_or, or_true]
          omega
        · simp (disch := omega) only [ofNat_nI, nI_add, pk_mul, nI_clamp, nI_leI, nI_ltI, nI_eq, vp_in_nI_iff, nI_subr, nI_m1r, m1_eq, m1_eq2, m1_le, m1_le2, m1_lt, m1_lt2, m1_self, cv_sub, cv_add1, cv_eq, cv_eqI, cv_eqI2, cv_m1, cv_lt0, cv_leI, cv_Ile, cv_le, cv_lt, cv_Ilt, cv_ltI, not_true, not_false_iff, true_implies, false_implies, false_or, or_false, true_and, and_true, false_and, and_false, true_or, or_true]
          omega
        · have ev : v = cmI R t (a + 1) := b_ext fun i hi => by
            rw [e1, e2, show (2 : Int32) = nI 2 from rfl, nI_eq (by omega) (by omega)] at hv
            have em : ∀ x, bt (cmI R t x) i = decide (∀ j, j < x → t j = 2 → R j (i / 4) = i % 4 + 1) := fun x => b_mk _ hi
            rw [em]
            rcases hv with ⟨y, e⟩ | ⟨y, e⟩
            · rw [e, em]
              refine decide_eq_decide.mpr ⟨fun u j hj hj2 => ?_, fun u j hj hj2 => u j (by omega) hj2⟩
              by_cases w : j = a
              · rw [w] at hj2; exact absurd hj2 y
              · exact u j (by omega) hj2
            · rw [e, b_and, em, b_row _ hi, ← Bool.decide_and]
              refine decide_eq_decide.mpr ⟨fun u j hj hj2 => ?_, fun u => ⟨fun j hj hj2 => u j (by omega) hj2, u a (by omega) y⟩⟩
              by_cases w : j = a
              · rw [w]; exact u.2
              · exact u.1 j (by omega) hj2
          rw [ev, nI_1]
          exact ih (a + 1) (by omega)
    have := rows n 0 (by omega)
    have e0 : cmI R t 0 = -1 := b_ext fun i hi => by
      rw [b_m1 i hi]
      show bt (mkI _) i = _
      rw [b_mk _ hi]
      exact decide_eq_true (fun j hj => absurd hj (Nat.not_lt_zero j))
    rw [e0] at this
    exact this
  · have hnf : ¬ ∃ j, j < n ∧ t j = 2 := by
      rintro ⟨j, hj, e⟩
      have h0 : 0 < toN n t 2 := sm_pos.mpr ⟨j, hj, by show 0 < (decide (t j = 2)).toNat; rw [decide_eq_true e]; decide⟩
      have hle : toN n t 2 ≤ n := by
        have := sm_le (n := n) (B := 1) (f := fun j => (decide (t j = 2)).toNat) (fun i _ => bool_lt _)
        unfold toN
        omega
      have := (nI_eq (b := 0) (by omega) (by omega)).mp z
      omega
    have hg : ∀ m, guiB (qw P tt) n R t m = false := fun m => bnot fun y => hnf ((guiB_iff ht).mp y).1
    have e0 : gnN (qw P tt) n R t (MM (qw P tt)) = 0 := sm_zero fun m _ => by rw [hg m]; rfl
    refine k _ F0 (by rw [ms_ne (by decide)]; exact hf) ⟨?_, by omega, fun m _ y => by rw [hg m] at y; cases y⟩
    rw [ms_row, upd_at, if_pos rfl, e0]
    rfl

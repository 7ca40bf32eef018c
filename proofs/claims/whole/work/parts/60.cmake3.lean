/-! THE CLASS: a row tried with one cell more -/
def nrN (P : Pl) (x : Int32) (n : Nat) : Nat := sm n (fun i => (decide (¬ rowI (qV P i) &&& x = 0)).toNat)
theorem nr_1 {P : Pl} {x : Int32} {n : Nat} (h : ¬ rowI (qV P n) &&& x = 0) : nrN P x (n + 1) = nrN P x n + 1 := by
  show sm n _ + (decide (¬ rowI (qV P n) &&& x = 0)).toNat = _
  rw [decide_eq_true h]
  rfl
theorem nr_0 {P : Pl} {x : Int32} {n : Nat} (h : rowI (qV P n) &&& x = 0) : nrN P x (n + 1) = nrN P x n := by
  show sm n _ + (decide (¬ rowI (qV P n) &&& x = 0)).toNat = _
  rw [decide_eq_false (fun z => z h)]
  rfl
theorem nr_le (P : Pl) (x : Int32) (n : Nat) : nrN P x n ≤ n := by
  have := sm_le (n := n) (B := 1) (f := fun i => (decide (¬ rowI (qV P i) &&& x = 0)).toNat) (fun i _ => bool_lt _)
  unfold nrN
  omega
theorem nr_mono {P : Pl} {x : Int32} {m n : Nat} (h : m ≤ n) : nrN P x m ≤ nrN P x n := sm_part _ h
def NeC (P : Pl) (x : Int32) (μ : mM) : Prop := μ 31 5 = nI (nrN P x (qN P)) ∧ ∀ i, i < qN P → ¬ rowI (qV P i) &&& x = 0 → μ 35 (nrN P x i) = rowI (qV P i)
theorem s_findNear {G : mG} {Q : mM → Prop} {μ : mM} {P : Pl} {c1 : Nat} {x : Int32} (h1 : sh c1 = (0, 3)) (hc : c1 < 28) (hW : PW P) (hp : PlC c1 P μ) (k : ∀ μ', Fr [31, 35] μ μ' → μ' 31 3 = μ 31 3 → NeC P x μ' → Q μ') : CtV G mX6_findNear [.ref (gb G + 31), .ref (gb G + c1), .int x] μ Q := by
  have hN := hW.2.2.2.2.1
  obtain ⟨p0, p1, p2, p3, p4, p5⟩ := id hp
  refine e_X6_findNear h1 fun E C => k_X6_findNear_0 C h1 ?_
  have loop : ∀ (d i : Nat) (μ' : mM), i + d = qN P → Fr [31, 35] μ μ' → μ' 31 3 = μ 31 3 → μ' 31 5 = nI (nrN P x i) → (∀ i', i' < i → ¬ rowI (qV P i') &&& x = 0 → μ' 35 (nrN P x i') = rowI (qV P i')) →
      Wm G mX6_findNear E (bm G mX6_findNear E (pV Q)) μ' 7 [(0, .ref (gb G + 31)), (1, .ref (gb G + c1)), (2, .int x), (3, .int (nI i))] [] := by
    intro d
    induction d with
    | zero =>
      intro i μ' hi F a b e
      have hin : i = qN P := by omega
      subst hin
      have e2 : μ' c1 2 = nI (qN P) := by rw [F c1 (by simp; omega)]; exact p2
      refine k_X6_findNear_7 C h1 (fun _ => k μ' F a ⟨b, e⟩) (fun z => ?_) (fun z => ?_) (fun z => ?_) (fun z => ?_)
      all_goals
        exfalso
        revert z
        rw [e2]
        simp (disch := omega) only [ofNat_nI, nI_add, pk_mul, nI_clamp, nI_leI, nI_ltI, nI_eq, vp_in_nI_iff, nI_subr, nI_m1r, m1_eq, m1_eq2, m1_le, m1_le2, m1_lt, m1_lt2, m1_self, cv_sub, cv_add1, cv_eq, cv_eqI, cv_eqI2, cv_m1, cv_lt0, cv_leI, cv_Ile, cv_le, cv_lt, cv_Ilt, cv_ltI, not_true, not_false_iff, true_implies, false_implies, false_or, or_false, true_and, and_true, false_and, and_false, true_or, or_true]
        omega
    | succ d ih =>
      intro i μ' hi F a b e
      have hin : i < qN P := by omega
      have e2 : μ' c1 2 = nI (qN P) := by rw [F c1 (by simp; omega)]; exact p2
      have en : μ' (c1 + 2) (nI i).toNatClampNeg = rowI (qV P i) := by rw [nI_clamp (by omega), F (c1 + 2) (by simp; omega)]; exact (p5 i hin).1
      have hnl := nr_le P x i
      refine k_X6_findNear_7 C h1 (fun z => ?_) (fun _ => ?_) (fun _ z => ?_) (fun _ _ => ?_) (fun _ z => ?_)
      · exfalso
        revert z
        rw [e2]
        simp (disch := omega) only [ofNat_nI, nI_add, pk_mul, nI_clamp, nI_leI, nI_ltI, nI_eq, vp_in_nI_iff, nI_subr, nI_m1r, m1_eq, m1_eq2, m1_le, m1_le2, m1_lt, m1_lt2, m1_self, cv_sub, cv_add1, cv_eq, cv_eqI, cv_eqI2, cv_m1, cv_lt0, cv_leI, cv_Ile, cv_le, cv_lt, cv_Ilt, cv_ltI, not_true, not_false_iff, true_implies, false_implies, false_or, or_false, true_and, and_true, false_and, and_false, true_or, or_true]
        omega
      · simp (disch := omega) only [ofNat_nI, nI_add, pk_mul, nI_clamp, nI_leI, nI_ltI, nI_eq, vp_in_nI_iff, nI_subr, nI_m1r, m1_eq, m1_eq2, m1_le, m1_le2, m1_lt, m1_lt2, m1_self, cv_sub, cv_add1, cv_eq, cv_eqI, cv_eqI2, cv_m1, cv_lt0, cv_leI, cv_Ile, cv_le, cv_lt, cv_Ilt, cv_ltI, not_true, not_false_iff, true_implies, false_implies, false_or, or_false, true_and, and_true, false_and, and_false, true_or, or_true]
        omega
      · rw [en] at z
        rw [nI_1]
        refine ih (i + 1) μ' (by omega) F a (by rw [nr_0 z]; exact b) (fun i' hi' hn => ?_)
        by_cases q : i' = i
        · rw [q] at hn; exact absurd z hn
        · exact e i' (by omega) hn
      · rw [b]
        simp (disch := omega) only [ofNat_nI, nI_add, pk_mul, nI_clamp, nI_leI, nI_ltI, nI_eq, vp_in_nI_iff, nI_subr, nI_m1r, m1_eq, m1_eq2, m1_le, m1_le2, m1_lt, m1_lt2, m1_self, cv_sub, cv_add1, cv_eq, cv_eqI, cv_eqI2, cv_m1, cv_lt0, cv_leI, cv_Ile, cv_le, cv_lt, cv_Ilt, cv_ltI, not_true, not_false_iff, true_implies, false_implies, false_or, or_false, true_and, and_true, false_and, and_false, true_or, or_true]
        omega
      · rw [en] at z
        rw [en, b, nI_clamp (by omega), nI_1, nI_1]
        refine ih (i + 1) _ (by omega) ((F.ms (by decide)).ms (by decide)) ?_ ?_ (fun i' hi' hn => ?_)
        · rw [ms_mrw0, mrw_at, upd_at, if_neg (by decide), ms_mrw0, mrw_ne (by decide)]
          exact a
        · rw [ms_mrw0, mrw_at, upd_at, if_pos rfl, nr_1 z]
        · rw [ms_mrw0, mrw_ne (by decide), ms_mrw0, mrw_at, upd_at]
          by_cases q : i' = i
          · rw [q, if_pos rfl]
          · have := nr_mono (P := P) (x := x) (show i' + 1 ≤ i by omega)
            rw [nr_1 hn] at this
            rw [if_neg (by omega)]
            exact e i' (by omega) hn
  refine loop (qN P) 0 (ms μ 31 5 0) (by omega) ((Fr.rf _ μ).ms (by decide)) ?_ ?_ (fun i hi => absurd hi (Nat.not_lt_zero i))
  · rw [ms_mrw0, mrw_at, upd_at, if_neg (by decide)]
  · rw [ms_mrw0, mrw_at, upd_at, if_pos rfl]
    rfl
def ceI (c v : Nat) : Int32 := 1 <<< ((4 * nI c + nI v) &&& 31)
theorem b_ce {c v c' l : Nat} (hc : c < 8) (hv : v < 4) (hc' : c' < 8) (hl : l < 4) : bt (ceI c v) (4 * c' + l) = decide (c' = c ∧ l = v) := by
  unfold ceI
  rw [show (4 * nI c + nI v : Int32) = nI (4 * c + v) by rw [show (4 : Int32) = nI 4 from rfl, pk_mul, nI_add], b_bit (by omega) (by omega)]
  by_cases q : c' = c ∧ l = v
  · rw [decide_eq_true q, decide_eq_true (by omega)]
  · rw [decide_eq_false q, decide_eq_false (by omega)]
theorem ce_row {c v : Nat} (hc : c < 8) (hv : v < 4) : ceI c v = rowI (up (fun _ => 0) c (v + 1)) := c_ext fun c' l hc' hl => by
  rw [b_ce hc hv hc' hl, b_rowc _ hc' hl, up_at]
  by_cases q : c' = c
  · rw [if_pos q]
    by_cases z : l = v
    · rw [decide_eq_true ⟨q, z⟩, decide_eq_true (by omega)]
    · rw [decide_eq_false (fun y => z y.2), decide_eq_false (by omega)]
  · rw [if_neg q, decide_eq_false (fun y => q y.1), decide_eq_false (by omega)]
theorem and_row {r : Nat → Nat} {c v : Nat} (hc : c < 8) (hv : v < 4) (hr : r c ≤ 4) : rowI r &&& ceI c v = 0 ↔ r c ≠ v + 1 := by
  rw [b_z]
  constructor
  · intro z e
    have := z (4 * c + v) (by omega)
    rw [b_and, b_ce hc hv hc hv, b_rowc _ hc hv, decide_eq_true e, decide_eq_true ⟨rfl, rfl⟩] at this
    cases this
  · intro z i hi
    have hi' : i = 4 * (i / 4) + i % 4 := by omega
    rw [hi', b_and, b_ce hc hv (by omega) (by omega), b_rowc _ (by omega) (by omega)]
    by_cases q : i / 4 = c ∧ i % 4 = v
    · rw [q.1, q.2, decide_eq_false z]; rfl
    · rw [decide_eq_false q, Bool.and_false]
theorem here_row {r : Nat → Nat} {c : Nat} (hc : c < 8) (hr : ∀ c, c < 8 → r c ≤ 4) : rowI r &&& 15 <<< ((4 * nI c) &&& 31) = 0 ↔ r c = 0 := by
  rw [b_z]
  constructor
  · intro z
    refine Classical.byContradiction fun y => ?_
    have h4 := hr c hc
    have := z (4 * c + (r c - 1)) (by omega)
    rw [b_and, b_15s hc hc (by omega), b_rowc _ hc (by omega), decide_eq_true rfl, decide_eq_true (by omega)] at this
    cases this
  · intro z i hi
    have hi' : i = 4 * (i / 4) + i % 4 := by omega
    rw [hi', b_and, b_15s hc (by omega) (by omega), b_rowc _ (by omega) (by omega)]
    by_cases q : i / 4 = c
    · rw [q, z, decide_eq_false (show ¬ 0 = i % 4 + 1 by omega)]; rfl
    · rw [decide_eq_false q, Bool.and_false]
/-- a lawful row changed in one cell -/
theorem chg_row {P : Pl} (h : PW P) {f : Nat → Nat} {c v : Nat} (hc : c < qC P) (hv : v < 4) (hf : ∀ c, c < qC P → f c < 4) : (rowI (rowF (qC P) f) &&& (colI (ceI c v) ^^^ (-1))) ||| ceI c v = rowI (rowF (qC P) (up f c v)) := by
  have hC8 := h.ct.2.2.2
  rw [ce_row (by omega) hv, mg_row h (fun c' _ => by rw [up_at]; split <;> omega) hf]
  refine rowI_congr fun c' _ => ?_
  unfold mgR rowF
  rw [up_at, up_at]
  by_cases q : c' = c
  · simp only [if_pos q]
    rw [if_neg (by omega), if_pos (by omega)]
  · simp only [if_neg q]
    rw [if_pos trivial]
theorem chg_law {P : Pl} (h : PW P) {f : Nat → Nat} {c v : Nat} (hc : c < qC P) (hv : v < 4) (hf : ∀ c, c < qC P → f c < 4) (hl : lawX P f) (hn : ∀ i, i < qN P → ¬ rowI (qV P i) &&& ceI c v = 0 → ¬ rowI (qV P i) &&& (rowI (rowF (qC P) (up f c v)) ^^^ (-1)) = 0) : lawX P (up f c v) := fun i hi => by
  have hC8 := h.ct.2.2.2
  have v4 := fun c => h.v4 i c
  by_cases q : rowI (qV P i) &&& ceI c v = 0
  · rw [and_row (by omega) hv (v4 c)] at q
    obtain ⟨c', hc', a, b⟩ := hl i hi
    by_cases z : c' = c
    · rw [z] at a
      refine ⟨c, hc, a, ?_⟩
      rw [up_at, if_pos rfl]
      exact q
    · refine ⟨c', hc', a, ?_⟩
      rw [up_at, if_neg z]
      exact b
  · have := hn i hi q
    refine Classical.byContradiction fun y => this ((nv_sub h).mpr fun c' hc' hne => ?_)
    have e : qV P i c' = up f c v c' + 1 := Classical.byContradiction fun w => y ⟨c', hc', hne, w⟩
    have h4 := v4 c'
    rw [b_rowc _ (by omega) (by omega)]
    refine decide_eq_true ?_
    unfold rowF
    rw [if_pos hc']
    omega
theorem chg_fit {P : Pl} (h : PW P) {r f : Nat → Nat} {m c v : Nat} (hr : ∀ c, r c ≤ qL P c) (hm : m < MM P) (hc : c < qC P) (hv : v < qL P c) (hr0 : r c = 0) (hmc : mrow P m c = 0 ∨ mrow P m c = v + 1) (hf : fitX (qC P) (leftI P (rowI (wth P r m))) f) : fitX (qC P) (leftI P (rowI (wth P (up r c (v + 1)) m))) (up f c v) := by
  have hr' : ∀ c', up r c (v + 1) c' ≤ qL P c' := fun c' => by
    rw [up_at]
    split
    · rename_i q; rw [q]; omega
    · exact hr c'
  obtain ⟨a, b⟩ := (left_fit h (wth_le h hr hm)).mp hf
  refine (left_fit h (wth_le h hr' hm)).mpr ⟨fun c' hc' => ?_, fun c' hc' hn => ?_⟩
  · rw [up_at]
    split
    · rename_i q; rw [q]; exact hv
    · exact a c' hc'
  · by_cases q : c' = c
    · rw [q] at hn ⊢
      rw [up_at, if_pos rfl]
      unfold wth
      by_cases z : mrow P m c = 0
      · rw [if_pos z, up_at, if_pos rfl]
      · rw [if_neg z]; omega
    · have e : wth P (up r c (v + 1)) m c' = wth P r m c' := by
        unfold wth
        rw [up_at, if_neg q]
      rw [up_at, if_neg q, e]
      rw [e] at hn
      exact b c' hc' hn
theorem up_le {P : Pl} {r : Nat → Nat} {c v : Nat} (hr : ∀ c, r c ≤ qL P c) (hv : v < qL P c) : ∀ c', up r c (v + 1) c' ≤ qL P c' := fun c' => by
  rw [up_at]
  split
  · rename_i q; rw [q]; omega
  · exact hr c'
theorem wth_ce {P : Pl} (h : PW P) {r : Nat → Nat} {m c v : Nat} (hm : m < MM P) (hc : c < qC P) (hv : v < 4) (hr0 : r c = 0) (ha : ¬ apt P r m) (hmc : mrow P m c = 0 ∨ mrow P m c = v + 1) : (rowI r ||| rowI (mrow P m)) ||| ceI c v = rowI (wth P (up r c (v + 1)) m) := by
  have hC8 := h.ct.2.2.2
  rw [wth_row h hm ha, ce_row (by omega) hv]
  refine c_ext fun c' l hc' hl => ?_
  rw [b_or, b_rowc _ hc' hl, b_rowc _ hc' hl, b_rowc _ hc' hl]
  unfold wth
  rw [up_at, up_at]
  by_cases q : c' = c
  · rw [if_pos q, if_pos q, q]
    rcases hmc with z | z
    · rw [if_pos z, if_pos z, hr0, decide_eq_false (show ¬ 0 = l + 1 by omega), Bool.false_or]
    · rw [if_neg (by omega), if_neg (by omega), z, Bool.or_self]
  · rw [if_neg q, if_neg q, decide_eq_false (show ¬ 0 = l + 1 by omega), Bool.or_false]
theorem s_sampleWith {G : mG} {Q : Int32 → mM → Prop} {μ : mM} {P : Pl} {r : Nat → Nat} {c1 m p c v : Nat} (h1 : sh c1 = (0, 3)) (hW : PW P) (hp : PlC c1 P μ) (hr : ∀ c, r c ≤ qL P c) (hm : m < MM P) (hpp : p < 1200) (hc : c < qC P) (hv : v < qL P c) (hr0 : r c = 0) (ha : ¬ apt P r m) (hmc : mrow P m c = 0 ∨ mrow P m c = v + 1) (he : EnC P r m μ p) (hne : NeC P (ceI c v) μ)
    (k : ∀ w, LawR P (leftI P (rowI (wth P (up r c (v + 1)) m))) w → Q w μ) : CtI G mX6_sampleWith [.ref (gb G + 31), .ref (gb G + c1), .int (nI p), .int (rowI r), .int (ceI c v)] μ Q := by
  have hC8 := hW.ct.2.2.2
  have hN := hW.2.2.2.2.1
  have l4 := (hW.lv hc).2
  obtain ⟨p0, p1, p2, p3, p4, p5⟩ := id hp
  obtain ⟨en1, -, f, f1, f2, f3⟩ := he
  obtain ⟨ne1, ne2⟩ := hne
  have hf4 : ∀ c, c < qC P → f c < 4 := fun c hc => (f1 c hc).1
  have ep : (nI p).toNatClampNeg = p := nI_clamp (by omega)
  refine e_X6_sampleWith h1 fun E C => k_X6_sampleWith_0 C h1 ?_ ?_
  · simp (disch := omega) only [ofNat_nI, nI_add, pk_mul, nI_clamp, nI_leI, nI_ltI, nI_eq, vp_in_nI_iff, nI_subr, nI_m1r, m1_eq, m1_eq2, m1_le, m1_le2, m1_lt, m1_lt2, m1_self, cv_sub, cv_add1, cv_eq, cv_eqI, cv_eqI2, cv_m1, cv_lt0, cv_leI, cv_Ile, cv_le, cv_lt, cv_Ilt, cv_ltI, not_true, not_false_iff, true_implies, false_implies, false_or, or_false, true_and, and_true, false_and, and_false, true_or, or_true]
    omega
  · rw [ep, f3]
    show Wm G mX6_sampleWith E (bm G mX6_sampleWith E (pI Q)) μ 22 [(0, .ref (gb G + 31)), (1, .ref (gb G + c1)), (2, .int (nI p)), (3, .int (rowI r)), (4, .int (ceI c v)), (5, .int ((rowI (rowF (qC P) f) &&& (colI (ceI c v) ^^^ (-1))) ||| ceI c v)), (6, .int 0)] []
    rw [chg_row hW hc (by omega) hf4]
    have loop : ∀ (d i : Nat), i + d = qN P → (∀ i', i' < i → ¬ rowI (qV P i') &&& ceI c v = 0 → ¬ rowI (qV P i') &&& (rowI (rowF (qC P) (up f c v)) ^^^ (-1)) = 0) →
        Wm G mX6_sampleWith E (bm G mX6_sampleWith E (pI Q)) μ 22 [(0, .ref (gb G + 31)), (1, .ref (gb G + c1)), (2, .int (nI p)), (3, .int (rowI r)), (4, .int (ceI c v)), (5, .int (rowI (rowF (qC P) (up f c v)))), (6, .int (nI (nrN P (ceI c v) i)))] [] := by
      intro d
      induction d with
      | zero =>
        intro i hi hall
        have hin : i = qN P := by omega
        subst hin
        have hnl := nr_le P (ceI c v) (qN P)
        refine k_X6_sampleWith_22 C h1 (fun _ => k _ (Or.inr ⟨up f c v, chg_fit hW hr hm hc hv hr0 hmc f1, chg_law hW hc (by omega) hf4 f2 hall, rfl⟩)) (fun z => ?_) (fun z => ?_) (fun z => ?_) (fun z => ?_)
        all_goals
          exfalso
          revert z
          rw [ne1]
          simp (disch := omega) only [ofNat_nI, nI_add, pk_mul, nI_clamp, nI_leI, nI_ltI, nI_eq, vp_in_nI_iff, nI_subr, nI_m1r, m1_eq, m1_eq2, m1_le, m1_le2, m1_lt, m1_lt2, m1_self, cv_sub, cv_add1, cv_eq, cv_eqI, cv_eqI2, cv_m1, cv_lt0, cv_leI, cv_Ile, cv_le, cv_lt, cv_Ilt, cv_ltI, not_true, not_false_iff, true_implies, false_implies, false_or, or_false, true_and, and_true, false_and, and_false, true_or, or_true]
          omega
      | succ d ih =>
        intro i hi hall
        have hin : i < qN P := by omega
        by_cases q : rowI (qV P i) &&& ceI c v = 0
        · have := ih (i + 1) (by omega) (fun i' hi' hn => by
            by_cases z : i' = i
            · rw [z] at hn; exact absurd q hn
            · exact hall i' (by omega) hn)
          rw [nr_0 q] at this
          exact this
        · have hnl := nr_le P (ceI c v) i
          have hnm := nr_mono (P := P) (x := ceI c v) (show i + 1 ≤ qN P by omega)
          rw [nr_1 q] at hnm
          have hnq := nr_le P (ceI c v) (qN P)
          have en : μ 35 (nI (nrN P (ceI c v) i)).toNatClampNeg = rowI (qV P i) := by rw [nI_clamp (by omega)]; exact ne2 i hin q
          refine k_X6_sampleWith_22 C h1 (fun z => ?_) (fun _ => ?_) (fun _ z => ?_) (fun _ _ => ?_) (fun _ z => ?_)
          · exfalso
            revert z
            rw [ne1]
            simp (disch := omega) only [ofNat_nI, nI_add, pk_mul, nI_clamp, nI_leI, nI_ltI, nI_eq, vp_in_nI_iff, nI_subr, nI_m1r, m1_eq, m1_eq2, m1_le, m1_le2, m1_lt, m1_lt2, m1_self, cv_sub, cv_add1, cv_eq, cv_eqI, cv_eqI2, cv_m1, cv_lt0, cv_leI, cv_Ile, cv_le, cv_lt, cv_Ilt, cv_ltI, not_true, not_false_iff, true_implies, false_implies, false_or, or_false, true_and, and_true, false_and, and_false, true_or, or_true]
            omega
          · simp (disch := omega) only [ofNat_nI, nI_add, pk_mul, nI_clamp, nI_leI, nI_ltI, nI_eq, vp_in_nI_iff, nI_subr, nI_m1r, m1_eq, m1_eq2, m1_le, m1_le2, m1_lt, m1_lt2, m1_self, cv_sub, cv_add1, cv_eq, cv_eqI, cv_eqI2, cv_m1, cv_lt0, cv_leI, cv_Ile, cv_le, cv_lt, cv_Ilt, cv_ltI, not_true, not_false_iff, true_implies, false_implies, false_or, or_false, true_and, and_true, false_and, and_false, true_or, or_true]
            omega
          · rw [en] at z
            have := ih (i + 1) (by omega) (fun i' hi' hn => by
              by_cases y : i' = i
              · rw [y]; exact z
              · exact hall i' (by omega) hn)
            rw [nr_1 q] at this
            rw [nI_1]
            exact this
          · simp (disch := omega) only [ofNat_nI, nI_add, pk_mul, nI_clamp, nI_leI, nI_ltI, nI_eq, vp_in_nI_iff, nI_subr, nI_m1r, m1_eq, m1_eq2, m1_le, m1_le2, m1_lt, m1_lt2, m1_self, cv_sub, cv_add1, cv_eq, cv_eqI, cv_eqI2, cv_m1, cv_lt0, cv_leI, cv_Ile, cv_le, cv_lt, cv_Ilt, cv_ltI, not_true, not_false_iff, true_implies, false_implies, false_or, or_false, true_and, and_true, false_and, and_false, true_or, or_true]
            omega
          · rw [ep, en1, wth_ce hW hm hc (by omega) hr0 ha hmc, p3]
            exact s_lawTop h1 hW hp (left_Lf hW (wth_le hW (up_le hr hv) hm)) fun w hw => k_X6_sampleWith_66 C (k w hw)
    exact loop (qN P) 0 (by omega) (fun i' hi' => absurd hi' (Nat.not_lt_zero i'))

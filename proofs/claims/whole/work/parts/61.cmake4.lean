/-! THE CLASS: the best cell -/
theorem apt_up {P : Pl} {r : Nat → Nat} {m c v : Nat} (hr0 : r c = 0) (h : apt P r m) : apt P (up r c v) m := by
  obtain ⟨k, hk, a, b⟩ := h
  have q : mcol P m k ≠ c := fun z => by rw [z] at a; exact a hr0
  refine ⟨k, hk, ?_, ?_⟩
  · rw [up_at, if_neg q]; exact a
  · rw [up_at, if_neg q]; exact b
theorem apt_up_iff {P : Pl} (h : PW P) {r : Nat → Nat} {m c v : Nat} (hm : m < MM P) (hc : c < qC P) (ha : ¬ apt P r m) : apt P (up r c (v + 1)) m ↔ mrow P m c ≠ 0 ∧ mrow P m c ≠ v + 1 := by
  rw [apt_row h hm] at ha ⊢
  constructor
  · rintro ⟨c', hc', a, b, e⟩
    by_cases q : c' = c
    · rw [q] at a e
      rw [up_at, if_pos rfl] at e
      exact ⟨a, fun z => e z.symm⟩
    · rw [up_at, if_neg q] at b e
      exact absurd ⟨c', hc', a, b, e⟩ ha
  · rintro ⟨a, b⟩
    refine ⟨c, hc, a, ?_, ?_⟩
    · rw [up_at, if_pos rfl]; omega
    · rw [up_at, if_pos rfl]; exact fun z => b z.symm
theorem wth_up1 {P : Pl} {r : Nat → Nat} {m c v : Nat} (hmc : mrow P m c ≠ 0) : wth P (up r c v) m = wth P r m := funext fun c' => by
  unfold wth
  rw [up_at]
  by_cases q : c' = c
  · rw [q, if_neg hmc, if_neg hmc]
  · rw [if_neg q]
theorem wth_mono {P : Pl} (h : PW P) {r : Nat → Nat} {m c v : Nat} (hr0 : r c = 0) (hc : canB P (wth P (up r c v) m) = true) : canB P (wth P r m) = true := canB_mono h (fun c' _ hn => by
  unfold wth at hn ⊢
  rw [up_at]
  by_cases q : c' = c
  · rw [q] at hn ⊢
    by_cases z : mrow P m c = 0
    · rw [if_pos z, hr0] at hn; exact absurd rfl hn
    · rw [if_neg z, if_neg z]
  · rw [if_neg q]) hc
def ctb (P : Pl) (o : Nat → Bool) (r : Nat → Nat) (m : Nat) : Nat := if (o m && canB P (wth P r m)) = true then wgt P r m else 0
theorem hop_c (P : Pl) (o : Nat → Bool) (r : Nat → Nat) (m : Nat) : hopN P o r (m + 1) = hopN P o r m + ctb P o r m := rfl
theorem ctb_out {P : Pl} (h : PW P) {o : Nat → Bool} {r : Nat → Nat} {m c v : Nat} (hr0 : r c = 0) (hk : keB P o r m = false) : ctb P o (up r c v) m = 0 := by
  unfold ctb
  by_cases q : (o m && canB P (wth P (up r c v) m)) = true
  · rw [if_pos q]
    rw [Bool.and_eq_true] at q
    refine wgt_apt (Classical.byContradiction fun na => ?_)
    have : keB P o r m = true := keB_iff.mpr ⟨q.1, fun z => na (apt_up hr0 z), wth_mono h hr0 q.2⟩
    rw [hk] at this
    cases this
  · rw [if_neg q]
theorem ke_out {P : Pl} (h : PW P) {o : Nat → Bool} {r : Nat → Nat} {m c v : Nat} (hr0 : r c = 0) (hk : keB P o r m = false) : keB P o (up r c v) m = false := bnot fun z => by
  obtain ⟨a, b, d⟩ := keB_iff.mp z
  have : keB P o r m = true := keB_iff.mpr ⟨a, fun z => b (apt_up hr0 z), wth_mono h hr0 d⟩
  rw [hk] at this
  cases this
theorem pd_mul {n k a : Nat} {f g : Nat → Nat} (hk : k < n) (h1 : g k = f k * a) (h2 : ∀ j, j < n → j ≠ k → g j = f j) : pd n g = pd n f * a := by
  induction n with
  | zero => omega
  | succ n ih =>
    show pd n g * g n = pd n f * f n * a
    by_cases q : k = n
    · rw [← q, h1, pd_congr (f := g) (g := f) (fun j hj => h2 j (by omega) (by omega)), Nat.mul_assoc]
    · rw [ih (by omega) (fun j hj hn => h2 j (by omega) hn), h2 n (by omega) (fun z => q z.symm), Nat.mul_right_comm]
theorem d60n {L : Nat} (h0 : 2 ≤ L) (h1 : L ≤ 4) : 60 = 60 / L * L := by
  have : L = 2 ∨ L = 3 ∨ L = 4 := by omega
  rcases this with rfl | rfl | rfl <;> decide
theorem wgt_no {P : Pl} {r : Nat → Nat} {m : Nat} (h : ¬ apt P r m) : wgt P r m = pd (qT P) (fun k => if r (mcol P m k) = 0 then 60 / qL P (mcol P m k) else 60) := if_neg h
theorem wgt_up0 {P : Pl} (h : PW P) {r : Nat → Nat} {m c v : Nat} (hm : m < MM P) (hc : c < qC P) (ha : ¬ apt P r m) (hmc : mrow P m c = 0) : wgt P (up r c (v + 1)) m = wgt P r m := by
  have na : ¬ apt P (up r c (v + 1)) m := fun z => ((apt_up_iff h hm hc ha).mp z).1 hmc
  rw [wgt_no na, wgt_no ha]
  refine pd_congr fun k hk => ?_
  have q : mcol P m k ≠ c := fun z => by
    have := mrow_at h hm hk
    rw [z, hmc] at this
    omega
  show (if up r c (v + 1) (mcol P m k) = 0 then _ else _) = _
  rw [up_at, if_neg q]
theorem wgt_up1 {P : Pl} (h : PW P) {r : Nat → Nat} {m c v : Nat} (hm : m < MM P) (hc : c < qC P) (ha : ¬ apt P r m) (hr0 : r c = 0) (hmc : mrow P m c = v + 1) : wgt P (up r c (v + 1)) m = wgt P r m * qL P c := by
  have na : ¬ apt P (up r c (v + 1)) m := fun z => ((apt_up_iff h hm hc ha).mp z).2 hmc
  rw [wgt_no na, wgt_no ha]
  obtain ⟨k, hk, e⟩ := mrow_ne (show mrow P m c ≠ 0 by omega)
  obtain ⟨l2, l4⟩ := h.lv hc
  refine pd_mul hk ?_ (fun j hj hne => ?_)
  · show (if up r c (v + 1) (mcol P m k) = 0 then _ else _) = (if r (mcol P m k) = 0 then _ else _) * _
    rw [e, up_at, if_pos rfl, if_neg (by omega), if_pos hr0]
    exact d60n l2 l4
  · have q : mcol P m j ≠ c := fun z => hne (mcol_inj h hm hj hk (z.trans e.symm))
    show (if up r c (v + 1) (mcol P m j) = 0 then _ else _) = _
    rw [up_at, if_neg q]
theorem s_hopeWith {G : mG} {Q : Int64 → mM → Prop} {μ : mM} {P : Pl} {o : Nat → Bool} {r : Nat → Nat} {c1 c v : Nat} (h1 : sh c1 = (0, 3)) (hc1 : c1 < 28) (hW : PW P) (hM : MM P ≤ 1200) (hp : PlC c1 P μ) (hg : GaC P o r μ) (hr : ∀ c, r c ≤ qL P c) (hc : c < qC P) (hv : v < qL P c) (hr0 : r c = 0)
    (k : ∀ μ', Fr [31, 35] μ μ' → μ' 31 3 = μ 31 3 → Q (lN (hopN P o (up r c (v + 1)) (MM P))) μ') : CtL G mX6_hopeWith [.ref (gb G + 31), .ref (gb G + c1), .int (rowI r), .int (nI c), .int (ceI c v)] μ Q := by
  have hC8 := hW.ct.2.2.2
  obtain ⟨l2, l4⟩ := hW.lv hc
  refine e_X6_hopeWith h1 fun E C => k_X6_hopeWith_0 C h1 ?_
  refine s_findNear h1 hc1 hW hp fun ν F e31 hne => k_X6_hopeWith_7 C h1 ?_
  replace k := k ν F e31
  replace hg : GaC P o r ν := hg.of e31 (F 32 (by decide)) (F 33 (by decide)) (F 34 (by decide))
  replace hp : PlC c1 P ν := hp.of (F _ (by simp; omega)) (F _ (by simp; omega)) (F _ (by simp; omega)) (F _ (by simp; omega))
  obtain ⟨g1, g2⟩ := id hg
  have hkN := kn_le P o r (MM P)
  have eL : ν (c1 + 1) (nI c).toNatClampNeg = nI (qL P c) := by rw [nI_clamp (by omega)]; exact hp.2.2.2.2.1 c hc
  refine lp_up (W := fun m => Wm G mX6_hopeWith E (bm G mX6_hopeWith E (pL Q)) ν 21 [(0, .ref (gb G + 31)), (1, .ref (gb G + c1)), (2, .int (rowI r)), (3, .int (nI c)), (4, .int (ceI c v)), (5, .int (15 <<< ((4 * nI c) &&& 31))), (6, .long (lN (hopN P o (up r c (v + 1)) m))), (8, .int (nI (kn P o r m)))] []) (MM P) ?_ (fun m hm ih => ?_)
  · refine k_X6_hopeWith_21 C h1 (fun _ => k) (fun z => ?_) (fun z => ?_) (fun z => ?_) (fun z => ?_) (fun z => ?_) (fun z => ?_)
    all_goals
      exfalso
      revert z
      rw [g1]
      simp (disch := omega) only [ofNat_nI, nI_add, pk_mul, nI_clamp, nI_leI, nI_ltI, nI_eq, vp_in_nI_iff, nI_subr, nI_m1r, m1_eq, m1_eq2, m1_le, m1_le2, m1_lt, m1_lt2, m1_self, cv_sub, cv_add1, cv_eq, cv_eqI, cv_eqI2, cv_m1, cv_lt0, cv_leI, cv_Ile, cv_le, cv_lt, cv_Ilt, cv_ltI, not_true, not_false_iff, true_implies, false_implies, false_or, or_false, true_and, and_true, false_and, and_false, true_or, or_true]
      omega
  · rw [hop_c] at ih
    cases ek : keB P o r m with
    | false =>
      rw [ctb_out hW hr0 ek, kn_0 ek] at ih
      exact ih
    | true =>
      rw [kn_1 ek] at ih
      obtain ⟨k1, k2, k3⟩ := keB_iff.mp ek
      have hkm := kn_mono (P := P) (o := o) (r := r) (show m + 1 ≤ MM P by omega)
      rw [kn_1 ek] at hkm
      obtain ⟨en1, en2, en3⟩ := g2 m hm ek
      have ep : (nI (kn P o r m)).toNatClampNeg = kn P o r m := nI_clamp (by omega)
      have ix : vp_in (nI (kn P o r m)) 1200 := by
        simp (disch := omega) only [ofNat_nI, nI_add, pk_mul, nI_clamp, nI_leI, nI_ltI, nI_eq, vp_in_nI_iff, nI_subr, nI_m1r, m1_eq, m1_eq2, m1_le, m1_le2, m1_lt, m1_lt2, m1_self, cv_sub, cv_add1, cv_eq, cv_eqI, cv_eqI2, cv_m1, cv_lt0, cv_leI, cv_Ile, cv_le, cv_lt, cv_Ilt, cv_ltI, not_true, not_false_iff, true_implies, false_implies, false_or, or_false, true_and, and_true, false_and, and_false, true_or, or_true]
        omega
      have m4 := fun c => RwOk.le4 hW (mrow_le hW hm) c
      have hh : rowI (mrow P m) &&& 15 <<< ((4 * nI c) &&& 31) = 0 ↔ mrow P m c = 0 := here_row (by omega) (fun c _ => m4 c)
      have hcl : rowI (mrow P m) &&& ceI c v = 0 ↔ mrow P m c ≠ v + 1 := and_row (by omega) (by omega) (m4 c)
      have hw' := wgt_le P hW r m
      have hwl := wth_le hW (up_le hr hv) hm
      refine k_X6_hopeWith_21 C h1 (fun z => ?_) (fun _ => ix) (fun _ z1 z2 => ?_) (fun _ _ _ => ?_) (fun _ z1 z2 => ?_) (fun _ z1 z2 => ?_) (fun _ z1 z2 => ?_)
      · exfalso
        revert z
        rw [g1]
        simp (disch := omega) only [ofNat_nI, nI_add, pk_mul, nI_clamp, nI_leI, nI_ltI, nI_eq, vp_in_nI_iff, nI_subr, nI_m1r, m1_eq, m1_eq2, m1_le, m1_le2, m1_lt, m1_lt2, m1_self, cv_sub, cv_add1, cv_eq, cv_eqI, cv_eqI2, cv_m1, cv_lt0, cv_leI, cv_Ile, cv_le, cv_lt, cv_Ilt, cv_ltI, not_true, not_false_iff, true_implies, false_implies, false_or, or_false, true_and, and_true, false_and, and_false, true_or, or_true]
        omega
      · rw [ep, en1] at z1 z2
        rw [hh] at z1
        rw [hcl] at z2
        have e0 : ctb P o (up r c (v + 1)) m = 0 := by
          unfold ctb
          rw [wgt_apt ((apt_up_iff hW hm hc k2).mpr ⟨z1, z2⟩)]
          split <;> rfl
        rw [e0] at ih
        rw [nI_1]
        exact ih
      · simp (disch := omega) only [ofNat_nI, nI_add, pk_mul, nI_clamp, nI_leI, nI_ltI, nI_eq, vp_in_nI_iff, nI_subr, nI_m1r, m1_eq, m1_eq2, m1_le, m1_le2, m1_lt, m1_lt2, m1_self, cv_sub, cv_add1, cv_eq, cv_eqI, cv_eqI2, cv_m1, cv_lt0, cv_leI, cv_Ile, cv_le, cv_lt, cv_Ilt, cv_ltI, not_true, not_false_iff, true_implies, false_implies, false_or, or_false, true_and, and_true, false_and, and_false, true_or, or_true]
        omega
      · rw [ep, en1] at z1 z2
        rw [hh] at z1
        have z2' : mrow P m c = v + 1 := Classical.byContradiction fun y => z2 (hcl.mpr y)
        have e0 : ctb P o (up r c (v + 1)) m = wgt P r m * qL P c := by
          unfold ctb
          rw [wth_up1 z1, k1, k3, if_pos (by decide), wgt_up1 hW hm hc k2 hr0 z2']
        have hb : wgt P r m * qL P c ≤ 216000 * 4 := Nat.mul_le_mul hw' l4
        rw [e0, ← lN_add] at ih
        rw [ep, en2, eL, pk_mul, nI_l (by omega), nI_1]
        exact ih
      · rw [ep, en1] at z1
        rw [hh] at z1
        have hn0 : ∀ i, i < qN P → ¬ rowI (qV P i) &&& ceI c v = 0 → ¬ rowI (qV P i) &&& (rowI (rowF (qC P) (up (Classical.choose en3) c v)) ^^^ (-1)) = 0 := fun i hi hn => by
          exfalso
          have hnm := nr_mono (P := P) (x := ceI c v) (show i + 1 ≤ qN P by omega)
          rw [nr_1 hn] at hnm
          have hq := nr_le P (ceI c v) (qN P)
          have hN := hW.2.2.2.2.1
          rw [hne.1, show (0 : Int32) = nI 0 from rfl, nI_eq (by omega) (by omega)] at z2
          omega
        obtain ⟨f1, f2, f3⟩ := Classical.choose_spec en3
        have hcan : canB P (wth P (up r c (v + 1)) m) = true := (left_can hW hwl).mp ⟨_, chg_fit hW hr hm hc hv hr0 (Or.inl z1) f1, chg_law hW hc (by omega) (fun c hc => (f1 c hc).1) f2 hn0⟩
        have e0 : ctb P o (up r c (v + 1)) m = wgt P r m := by
          unfold ctb
          rw [k1, hcan, if_pos (by decide), wgt_up0 hW hm hc k2 z1]
        rw [e0, ← lN_add] at ih
        rw [ep, en2, nI_l (by omega), nI_1]
        exact ih
      · rw [ep, en1] at z1
        rw [hh] at z1
        refine s_sampleWith h1 hW hp hr hm (by omega) hc hv hr0 k2 (Or.inl z1) (g2 m hm ek) hne fun w hw => ?_
        have hiff := hw.iff hW
        rw [left_can hW hwl] at hiff
        refine k_X6_hopeWith_60 C h1 (fun v1 hv1 hz => ?_) (fun _ _ _ => ix) (fun v1 hv1 hz => ?_)
        · have w0 : w = 0 := by
            rcases hv1 with ⟨a, -⟩ | ⟨-, a⟩
            · exact a
            · rw [hz] at a; exact absurd a (by decide)
          have hcan : canB P (wth P (up r c (v + 1)) m) = false := bnot fun q => hiff.mpr q w0
          have e0 : ctb P o (up r c (v + 1)) m = 0 := by
            unfold ctb
            rw [hcan, Bool.and_false, if_neg (by decide)]
          rw [e0, ← lN_add] at ih
          rw [nI_1]
          exact ih
        · have w0 : w ≠ 0 := by
            rcases hv1 with ⟨-, a⟩ | ⟨a, -⟩
            · exact absurd a hz
            · exact a
          have hcan : canB P (wth P (up r c (v + 1)) m) = true := hiff.mp w0
          have e0 : ctb P o (up r c (v + 1)) m = wgt P r m := by
            unfold ctb
            rw [k1, hcan, if_pos (by decide), wgt_up0 hW hm hc k2 z1]
          rw [e0, ← lN_add] at ih
          rw [ep, en2, nI_l (by omega), nI_1]
          exact ih
theorem cvL_ge {a h : Nat} (ha : a < 2 ^ 31) (hh : h < 2 ^ 31) : lN h ≤ cvL a ↔ ¬ a < h + 1 := by
  rw [← cvL_lt ha hh, Int64.le_iff_toInt_le, Int64.lt_iff_toInt_lt]
  omega
theorem s_bestCell {G : mG} {Q : Int32 → mM → Prop} {μ : mM} {P : Pl} {o : Nat → Bool} {r : Nat → Nat} {c1 c : Nat} (h1 : sh c1 = (0, 3)) (hc1 : c1 < 28) (hW : PW P) (hM : MM P ≤ 1200) (hp : PlC c1 P μ) (hg : GaC P o r μ) (hr : ∀ c, r c ≤ qL P c) (hc : c < qC P) (hr0 : r c = 0)
    (k : ∀ μ' b, Fr [31, 35] μ μ' → μ' 31 3 = μ 31 3 → b = (bst (fun v => canB P (up r c (v + 1))) (fun v => hopN P o (up r c (v + 1)) (MM P)) (qL P c)).1 → Q (if b = 0 then 0 else ceI c (b - 1)) μ') : CtI G mX6_bestCell [.ref (gb G + 31), .ref (gb G + c1), .int (rowI r), .int (nI c)] μ Q := by
  have hC8 := hW.ct.2.2.2
  obtain ⟨l2, l4⟩ := hW.lv hc
  refine e_X6_bestCell h1 fun E C => k_X6_bestCell_0 C h1 ?_
  refine s_levelsLeft h1 hW hp hr hc hr0 (k_X6_bestCell_6 C h1 ?_)
  have hB : ∀ v, hopN P o (up r c (v + 1)) (MM P) ≤ 259200000 := fun v => Nat.le_trans (hopN_le P hW o _ _) (by omega)
  have loop : ∀ (d v : Nat) (μ' : mM) (b h : Nat), v + d = qL P c → Fr [31, 35] μ μ' → μ' 31 3 = μ 31 3 → bst (fun v => canB P (up r c (v + 1))) (fun v => hopN P o (up r c (v + 1)) (MM P)) v = (b, h) →
      Wm G mX6_bestCell E (bm G mX6_bestCell E (pI Q)) μ' 19 [(0, .ref (gb G + 31)), (1, .ref (gb G + c1)), (2, .int (rowI r)), (3, .int (nI c)), (4, .int (lfI P r c (qL P c))), (5, .int (if b = 0 then 0 else ceI c (b - 1))), (6, .long (cvL h)), (8, .int (nI v))] [] := by
    intro d
    induction d with
    | zero =>
      intro v μ' b h hv F e31 hb
      have hvl : v = qL P c := by omega
      have eL : μ' (c1 + 1) (nI c).toNatClampNeg = nI (qL P c) := by rw [nI_clamp (by omega), F (c1 + 1) (by simp; omega)]; exact hp.2.2.2.2.1 c hc
      rw [hvl] at hb ⊢
      refine k_X6_bestCell_19 C h1 ?_ (fun _ => k μ' b F e31 (by rw [hb])) (fun z => ?_) (fun z => ?_)
      · simp (disch := omega) only [ofNat_nI, nI_add, pk_mul, nI_clamp, nI_leI, nI_ltI, nI_eq, vp_in_nI_iff, nI_subr, nI_m1r, m1_eq, m1_eq2, m1_le, m1_le2, m1_lt, m1_lt2, m1_self, cv_sub, cv_add1, cv_eq, cv_eqI, cv_eqI2, cv_m1, cv_lt0, cv_leI, cv_Ile, cv_le, cv_lt, cv_Ilt, cv_ltI, not_true, not_false_iff, true_implies, false_implies, false_or, or_false, true_and, and_true, false_and, and_false, true_or, or_true]
        omega
      all_goals
        exfalso
        revert z
        rw [eL]
        simp (disch := omega) only [ofNat_nI, nI_add, pk_mul, nI_clamp, nI_leI, nI_ltI, nI_eq, vp_in_nI_iff, nI_subr, nI_m1r, m1_eq, m1_eq2, m1_le, m1_le2, m1_lt, m1_lt2, m1_self, cv_sub, cv_add1, cv_eq, cv_eqI, cv_eqI2, cv_m1, cv_lt0, cv_leI, cv_Ile, cv_le, cv_lt, cv_Ilt, cv_ltI, not_true, not_false_iff, true_implies, false_implies, false_or, or_false, true_and, and_true, false_and, and_false, true_or, or_true]
        omega
    | succ d ih =>
      intro v μ' b h hv F e31 hb
      have hvL : v < qL P c := by omega
      have eL : μ' (c1 + 1) (nI c).toNatClampNeg = nI (qL P c) := by rw [nI_clamp (by omega), F (c1 + 1) (by simp; omega)]; exact hp.2.2.2.2.1 c hc
      have hbit : lfI P r c (qL P c) &&& 1 <<< (nI v &&& 31) = 0 ↔ canB P (up r c (v + 1)) = false := by
        rw [b_z]
        constructor
        · intro z
          have := z v (by omega)
          rw [b_and, b_lf (by omega), b_bit (by omega) (by omega), decide_eq_true rfl, Bool.and_true, decide_eq_true hvL, Bool.true_and] at this
          exact this
        · intro z i hi
          rw [b_and, b_lf hi, b_bit (by omega) hi]
          by_cases q : i = v
          · rw [q, z, Bool.and_false, Bool.false_and]
          · rw [decide_eq_false q, Bool.and_false]
      have hb2 := bst2_le (can := fun v => canB P (up r c (v + 1))) (h := fun v => hopN P o (up r c (v + 1)) (MM P)) (n := v) (fun v _ => hB v)
      rw [hb] at hb2
      replace hb2 : h ≤ 259200001 := hb2
      refine k_X6_bestCell_19 C h1 ?_ (fun z => ?_) (fun _ z => ?_) (fun _ z => ?_)
      · simp (disch := omega) only [ofNat_nI, nI_add, pk_mul, nI_clamp, nI_leI, nI_ltI, nI_eq, vp_in_nI_iff, nI_subr, nI_m1r, m1_eq, m1_eq2, m1_le, m1_le2, m1_lt, m1_lt2, m1_self, cv_sub, cv_add1, cv_eq, cv_eqI, cv_eqI2, cv_m1, cv_lt0, cv_leI, cv_Ile, cv_le, cv_lt, cv_Ilt, cv_ltI, not_true, not_false_iff, true_implies, false_implies, false_or, or_false, true_and, and_true, false_and, and_false, true_or, or_true]
        omega
      · exfalso
        revert z
        rw [eL]
        simp (disch := omega) only [ofNat_nI, nI_add, pk_mul, nI_clamp, nI_leI, nI_ltI, nI_eq, vp_in_nI_iff, nI_subr, nI_m1r, m1_eq, m1_eq2, m1_le, m1_le2, m1_lt, m1_lt2, m1_self, cv_sub, cv_add1, cv_eq, cv_eqI, cv_eqI2, cv_m1, cv_lt0, cv_leI, cv_Ile, cv_le, cv_lt, cv_Ilt, cv_ltI, not_true, not_false_iff, true_implies, false_implies, false_or, or_false, true_and, and_true, false_and, and_false, true_or, or_true]
        omega
      · rw [hbit] at z
        rw [nI_1]
        refine ih (v + 1) μ' b h (by omega) F e31 ?_
        rw [bst, if_neg (fun y => by rw [z] at y; cases y.1)]
        exact hb
      · have z' : canB P (up r c (v + 1)) = true := by cases q : canB P (up r c (v + 1)) with | true => rfl | false => exact absurd (hbit.mpr q) z
        refine s_hopeWith (o := o) h1 hc1 hW hM (hp.of (F _ (by simp; omega)) (F _ (by simp; omega)) (F _ (by simp; omega)) (F _ (by simp; omega))) (hg.of e31 (F 32 (by decide)) (F 33 (by decide)) (F 34 (by decide))) hr hc hvL hr0 fun ν F2 e2 => ?_
        have hv0 := hB v
        refine k_X6_bestCell_59 C h1 (fun p => ?_) (fun p => ?_)
        · rw [lg_cmp_le, cvL_ge (by omega) (by omega)] at p
          rw [nI_1]
          refine ih (v + 1) ν b h (by omega) (F.tr F2) (e2.trans e31) ?_
          rw [bst, if_neg (fun y => p (by have := y.2; rw [hb] at this; exact this))]
          exact hb
        · rw [lg_cmp_le, cvL_ge (by omega) (by omega), Classical.not_not] at p
          rw [nI_1]
          refine ih (v + 1) ν (v + 1) (hopN P o (up r c (v + 1)) (MM P) + 1) (by omega) (F.tr F2) (e2.trans e31) ?_
          rw [bst, if_pos ⟨z', by rw [hb]; exact p⟩]
  exact loop (qL P c) 0 μ 0 0 (by omega) (Fr.rf _ _) rfl rfl

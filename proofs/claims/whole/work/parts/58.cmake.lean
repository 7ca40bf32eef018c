/-! THE CLASS: weights; hope; open mixes gathered -/
def apt (P : Pl) (r : Nat → Nat) (m : Nat) : Prop := ∃ k, k < qT P ∧ r (mcol P m k) ≠ 0 ∧ r (mcol P m k) ≠ mlev P m k + 1
def wSet (P : Pl) (r : Nat → Nat) (i n : Nat) : Nat := pd n (fun k => if r (st (qC P) (qT P) i k) = 0 then 60 / qL P (st (qC P) (qT P) i k) else 60)
theorem wgt_apt {P : Pl} {r : Nat → Nat} {m : Nat} (h : apt P r m) : wgt P r m = 0 := if_pos h
theorem wgt_set {P : Pl} {r : Nat → Nat} {i w : Nat} (hi : i < ns (qC P) (qT P)) (hw : w < pp P i) (h : ¬ apt P r (fi P i + w)) : wgt P r (fi P i + w) = wSet P r i (qT P) := by
  have e : wgt P r (fi P i + w) = pd (qT P) (fun k => if r (mcol P (fi P i + w) k) = 0 then 60 / qL P (mcol P (fi P i + w) k) else 60) := if_neg h
  rw [e]
  refine pd_congr fun k hk => ?_
  show (if r (mcol P (fi P i + w) k) = 0 then 60 / qL P (mcol P (fi P i + w) k) else 60) = _
  rw [mcol_of hi hw]
theorem wSet_le {P : Pl} (h : PW P) (r : Nat → Nat) (i : Nat) : wSet P r i (qT P) ≤ 216000 := by
  have := pd_le (n := qT P) (B := 60) (f := fun k => if r (st (qC P) (qT P) i k) = 0 then 60 / qL P (st (qC P) (qT P) i k) else 60) (fun k hk => by
    show (if r (st (qC P) (qT P) i k) = 0 then 60 / qL P (st (qC P) (qT P) i k) else 60) ≤ 60
    split
    · exact Nat.div_le_self _ _
    · exact Nat.le_refl _)
  have h3 : qT P ≤ 3 := h.ct.2.1
  exact Nat.le_trans this (Nat.le_trans (Nat.pow_le_pow_right (by omega) h3) (by decide))
theorem apt_row {P : Pl} (h : PW P) {r : Nat → Nat} {m : Nat} (hm : m < MM P) : apt P r m ↔ ∃ c, c < qC P ∧ mrow P m c ≠ 0 ∧ r c ≠ 0 ∧ r c ≠ mrow P m c := by
  constructor
  · rintro ⟨k, hk, a, b⟩
    refine ⟨mcol P m k, mcol_lt h hm hk, ?_, a, ?_⟩
    · rw [mrow_at h hm hk]; omega
    · rw [mrow_at h hm hk]; exact b
  · rintro ⟨c, hc, a, b, e⟩
    obtain ⟨k, hk, rfl⟩ := mrow_ne a
    rw [mrow_at h hm hk] at e
    exact ⟨k, hk, b, e⟩
theorem apt_bits {P : Pl} (h : PW P) {r : Nat → Nat} (hr : ∀ c, r c ≤ qL P c) {m : Nat} (hm : m < MM P) : (rowI r &&& colI (rowI (mrow P m))) &&& (rowI (mrow P m) ^^^ (-1)) = 0 ↔ ¬ apt P r m := by
  have hC8 := h.ct.2.2.2
  have r4 := fun c => RwOk.le4 h hr c
  have m4 := fun c => RwOk.le4 h (mrow_le h hm) c
  rw [apt_row h hm, b_z]
  constructor
  · rintro z ⟨c, hc, a, b, e⟩
    have h4 := r4 c
    have := z (4 * c + (r c - 1)) (by omega)
    rw [b_and, b_and, b_rowc _ (by omega) (by omega), b_colc _ (by omega) (by omega), any_row (by omega) (m4 c), b_nc _ (by omega) (by omega), b_rowc _ (by omega) (by omega), decide_eq_true (show r c = r c - 1 + 1 by omega), decide_eq_true a, decide_eq_false (show ¬ mrow P m c = r c - 1 + 1 by omega)] at this
    cases this
  · intro z i hi
    refine bnot fun y => z ⟨i / 4, ?_, ?_⟩
    · refine Nat.lt_of_not_le fun q => ?_
      rw [b_and, b_and, b_row _ hi] at y
      have := hr (i / 4)
      rw [h.2.2.2.1 _ q] at this
      rw [decide_eq_false (by omega)] at y
      cases y
    · have hi' : i = 4 * (i / 4) + i % 4 := by omega
      rw [hi', b_and, b_and, b_rowc _ (by omega) (by omega), b_colc _ (by omega) (by omega), any_row (by omega) (m4 _), b_nc _ (by omega) (by omega), b_rowc _ (by omega) (by omega), Bool.and_eq_true, Bool.and_eq_true, Bool.not_eq_true', decide_eq_true_iff, decide_eq_true_iff, decide_eq_false_iff_not] at y
      obtain ⟨⟨y1, y2⟩, y3⟩ := y
      exact ⟨y2, by omega, fun z => y3 (by omega)⟩
theorem wth_row {P : Pl} (h : PW P) {r : Nat → Nat} {m : Nat} (hm : m < MM P) (ha : ¬ apt P r m) : rowI r ||| rowI (mrow P m) = rowI (wth P r m) := c_ext fun c l hc hl => by
  rw [apt_row h hm] at ha
  rw [b_or, b_rowc _ hc hl, b_rowc _ hc hl, b_rowc _ hc hl]
  unfold wth
  by_cases q : mrow P m c = 0
  · rw [if_pos q, decide_eq_false (show ¬ mrow P m c = l + 1 by omega), Bool.or_false]
  · rw [if_neg q]
    by_cases z : r c = 0
    · rw [decide_eq_false (show ¬ r c = l + 1 by omega), Bool.false_or]
    · have hcC : c < qC P := by
        obtain ⟨k, hk, e⟩ := mrow_ne q
        rw [← e]
        exact mcol_lt h hm hk
      have : r c = mrow P m c := Classical.byContradiction fun y => ha ⟨c, hcC, q, z, y⟩
      rw [this, Bool.or_self]
theorem wth_le {P : Pl} (h : PW P) {r : Nat → Nat} (hr : ∀ c, r c ≤ qL P c) {m : Nat} (hm : m < MM P) (c : Nat) : wth P r m c ≤ qL P c := by
  unfold wth
  split
  · exact hr c
  · exact mrow_le h hm c
theorem canB_mono {P : Pl} (h : PW P) {r r' : Nat → Nat} (he : ∀ c, c < qC P → r c ≠ 0 → r' c = r c) (hc : canB P r' = true) : canB P r = true := by
  rw [canB_iff h] at hc ⊢
  obtain ⟨f, a, b, d⟩ := hc
  exact ⟨f, a, fun c hc hn => by rw [← he c hc hn]; exact b c hc (by rw [he c hc hn]; exact hn), d⟩
theorem wth_ext {P : Pl} (h : PW P) {r : Nat → Nat} {m : Nat} (hm : m < MM P) (ha : ¬ apt P r m) : ∀ c, c < qC P → r c ≠ 0 → wth P r m c = r c := fun c hc hn => by
  rw [apt_row h hm] at ha
  unfold wth
  by_cases q : mrow P m c = 0
  · rw [if_pos q]
  · rw [if_neg q]
    exact (Classical.byContradiction fun y => ha ⟨c, hc, q, hn, fun e => y e.symm⟩)
theorem d60 {L : Nat} (h0 : 2 ≤ L) (h1 : L ≤ 4) : ¬ (if 1 < nI L then nI L else 1) = 0 ∧ (60 : Int32) / (if 1 < nI L then nI L else 1) = nI (60 / L) := by
  have : L = 2 ∨ L = 3 ∨ L = 4 := by omega
  rcases this with rfl | rfl | rfl <;> decide
theorem s_weightOf {G : mG} {Q : Int32 → mM → Prop} {μ : mM} {P : Pl} {r : Nat → Nat} {i : Nat} (h : PW P) (hs : SetC 23 P μ) (hr : ∀ c, r c ≤ 4) (hi : i < ns (qC P) (qT P)) (k : Q (nI (wSet P r i (qT P))) μ) : CtI G mX6_weightOf [.ref (gb G + 31), .ref (gb G + 23), .int (nI i), .int (rowI r)] μ Q := by
  obtain ⟨t1, t3, tC, hC8⟩ := h.ct
  obtain ⟨n1, n56⟩ := ns_pos h.ct
  obtain ⟨s0, s1, s2, s3, s4⟩ := hs
  have h0 : sh 23 = (0, 0) := rfl
  refine e_X6_weightOf h0 fun E C => k_X6_weightOf_0 C h0 ?_
  have key := lp_up (W := fun j => Wm G mX6_weightOf E (bm G mX6_weightOf E (pI Q)) μ 6 [(1, .ref (gb G + 23)), (2, .int (nI i)), (3, .int (rowI r)), (4, .int (nI (wSet P r i j))), (5, .int (nI j))] []) (qT P) ?_ (fun j hj ih => ?_)
  · exact key
  · refine k_X6_weightOf_6 C h0 (fun _ => k) (fun z => ?_) (fun z => ?_) (fun z => ?_) (fun z => ?_) (fun z => ?_) (fun z => ?_) (fun z => ?_) (fun z => ?_) (fun z => ?_)
    all_goals
      exfalso
      revert z
      rw [s1]
      simp (disch := omega) only [ofNat_nI, nI_add, pk_mul, nI_clamp, nI_leI, nI_ltI, nI_eq, vp_in_nI_iff, nI_subr, nI_m1r, m1_eq, m1_eq2, m1_le, m1_le2, m1_lt, m1_lt2, m1_self, cv_sub, cv_add1, cv_eq, cv_eqI, cv_eqI2, cv_m1, cv_lt0, cv_leI, cv_Ile, cv_le, cv_lt, cv_Ilt, cv_ltI, not_true, not_false_iff, true_implies, false_implies, false_or, or_false, true_and, and_true, false_and, and_false, true_or, or_true]
      omega
  · obtain ⟨l1, l2, l3⟩ := st_lt h.ct hi hj
    have ei : (nI i * 3 + nI j : Int32) = nI (3 * i + j) := by
      rw [show (3 : Int32) = nI 3 from rfl, pk_mul, nI_add, Nat.mul_comm]
    have ec : μ (23 + 1) (nI i * 3 + nI j).toNatClampNeg = nI (st (qC P) (qT P) i j) := by
      rw [ei, nI_clamp (by omega)]
      exact s2 i hi j hj
    have hr4 := hr (st (qC P) (qT P) i j)
    have en := nib_row (r := r) (c := st (qC P) (qT P) i j) (by omega) hr4
    have eL : μ (23 + 4) (nI (st (qC P) (qT P) i j)).toNatClampNeg = nI (qL P (st (qC P) (qT P) i j)) := by rw [nI_clamp (by omega)]; exact s4 _ l1
    obtain ⟨lv1, lv2⟩ := h.lv l1
    obtain ⟨d1, d2⟩ := d60 lv1 lv2
    have ws : wSet P r i (j + 1) = wSet P r i j * (if r (st (qC P) (qT P) i j) = 0 then 60 / qL P (st (qC P) (qT P) i j) else 60) := rfl
    rw [ws] at ih
    have ix : vp_in (nI i * 3 + nI j) 168 := by
      rw [ei]
      simp (disch := omega) only [ofNat_nI, nI_add, pk_mul, nI_clamp, nI_leI, nI_ltI, nI_eq, vp_in_nI_iff, nI_subr, nI_m1r, m1_eq, m1_eq2, m1_le, m1_le2, m1_lt, m1_lt2, m1_self, cv_sub, cv_add1, cv_eq, cv_eqI, cv_eqI2, cv_m1, cv_lt0, cv_leI, cv_Ile, cv_le, cv_lt, cv_Ilt, cv_ltI, not_true, not_false_iff, true_implies, false_implies, false_or, or_false, true_and, and_true, false_and, and_false, true_or, or_true]
      omega
    have ix2 : vp_in (μ (23 + 1) (nI i * 3 + nI j).toNatClampNeg) 8 := by
      rw [ec]
      simp (disch := omega) only [ofNat_nI, nI_add, pk_mul, nI_clamp, nI_leI, nI_ltI, nI_eq, vp_in_nI_iff, nI_subr, nI_m1r, m1_eq, m1_eq2, m1_le, m1_le2, m1_lt, m1_lt2, m1_self, cv_sub, cv_add1, cv_eq, cv_eqI, cv_eqI2, cv_m1, cv_lt0, cv_leI, cv_Ile, cv_le, cv_lt, cv_Ilt, cv_ltI, not_true, not_false_iff, true_implies, false_implies, false_or, or_false, true_and, and_true, false_and, and_false, true_or, or_true]
      omega
    refine k_X6_weightOf_6 C h0 (fun z => ?_) (fun _ => ix) (fun _ _ _ _ _ => ix) (fun _ _ => ix) (fun _ _ _ _ _ => ix2) (fun _ _ => ix2) (fun _ _ _ _ _ => ?_) (fun _ _ => ?_) (fun _ z v1 hv1 v2 hv2 => ?_) (fun _ z => ?_)
    · exfalso
      revert z
      rw [s1]
      simp (disch := omega) only [ofNat_nI, nI_add, pk_mul, nI_clamp, nI_leI, nI_ltI, nI_eq, vp_in_nI_iff, nI_subr, nI_m1r, m1_eq, m1_eq2, m1_le, m1_le2, m1_lt, m1_lt2, m1_self, cv_sub, cv_add1, cv_eq, cv_eqI, cv_eqI2, cv_m1, cv_lt0, cv_leI, cv_Ile, cv_le, cv_lt, cv_Ilt, cv_ltI, not_true, not_false_iff, true_implies, false_implies, false_or, or_false, true_and, and_true, false_and, and_false, true_or, or_true]
      omega
    · rw [ec, eL]; exact d1
    · rw [ec, eL]; exact d1
    · rw [ec, en, pw_0 _ (by omega)] at z
      rw [ec, en, pw_v _ (by omega) z] at hv1
      rw [if_neg z] at ih
      have e1 : v1 = 1 := by
        rcases hv1 with ⟨y, -⟩ | ⟨-, y⟩
        · rw [cv_pos z] at y
          exfalso
          have := congrArg Int32.toInt y
          rw [nI_toInt (by omega)] at this
          have em : ((-1 : Int32)).toInt = -1 := by decide
          omega
        · exact y
      have e2 : v2 = nI 60 := by
        rcases hv2 with ⟨y, -⟩ | ⟨-, y⟩
        · rw [e1] at y; exact absurd y (by decide)
        · exact y
      rw [e2, pk_mul]
      simp (disch := omega) only [ofNat_nI, nI_add, pk_mul, nI_clamp, nI_leI, nI_ltI, nI_eq, vp_in_nI_iff, nI_subr, nI_m1r, m1_eq, m1_eq2, m1_le, m1_le2, m1_lt, m1_lt2, m1_self, cv_sub, cv_add1, cv_eq, cv_eqI, cv_eqI2, cv_m1, cv_lt0, cv_leI, cv_Ile, cv_le, cv_lt, cv_Ilt, cv_ltI, not_true, not_false_iff, true_implies, false_implies, false_or, or_false, true_and, and_true, false_and, and_false, true_or, or_true]
      exact ih
    · rw [ec, en, pw_0 _ (by omega)] at z
      rw [if_pos z] at ih
      rw [ec, eL, d2, pk_mul]
      simp (disch := omega) only [ofNat_nI, nI_add, pk_mul, nI_clamp, nI_leI, nI_ltI, nI_eq, vp_in_nI_iff, nI_subr, nI_m1r, m1_eq, m1_eq2, m1_le, m1_le2, m1_lt, m1_lt2, m1_self, cv_sub, cv_add1, cv_eq, cv_eqI, cv_eqI2, cv_m1, cv_lt0, cv_leI, cv_Ile, cv_le, cv_lt, cv_Ilt, cv_ltI, not_true, not_false_iff, true_implies, false_implies, false_or, or_false, true_and, and_true, false_and, and_false, true_or, or_true]
      exact ih
theorem hop_s (P : Pl) (o : Nat → Bool) (r : Nat → Nat) (m : Nat) : hopN P o r (m + 1) = hopN P o r m + if (o m && canB P (wth P r m)) = true then wgt P r m else 0 := rfl
theorem s_hopeOfC {G : mG} {Q : Int64 → mM → Prop} {μ : mM} {P : Pl} {h r : Nat → Nat} {c2 : Nat} (h2 : sh c2 = (0, 3)) (hW : PW P) (hM : MM P ≤ 1200) (H : MxC P h μ) (hp : PlC c2 P μ) (hb : ∀ m, m < MM P → h m < 2 ^ 31) (hr : ∀ c, r c ≤ qL P c) (k : Q (lN (hopN P (opB P h) r (MM P))) μ) :
    CtL G mX6_hopeOf [.ref (gb G + 31), .int (rowI r), .ref (gb G + c2), .ref (gb G + 22)] μ Q := by
  have n56 := (ns_pos hW.ct).2
  obtain ⟨p0, p1, p2, p3, p4, p5⟩ := id hp
  refine e_X6_hopeOf h2 fun E C => k_X6_hopeOf_0 C h2 ?_
  rw [p3]
  refine s_lawTop h2 hW hp (left_Lf hW hr) fun w hw => k_X6_hopeOf_10 C h2 (fun z => ?_) (fun z => ?_)
  · obtain ⟨f, f1, f2, f3⟩ : ∃ f, fitX (qC P) (leftI P (rowI r)) f ∧ lawX P f ∧ w = rowI (rowF (qC P) f) := by
      rcases hw with ⟨a, -⟩ | a
      · exact absurd a z
      · exact a
    rw [f3]
    refine lp_up (W := fun i => Wm G mX6_hopeOf E (bm G mX6_hopeOf E (pL Q)) μ 25 [(0, .ref (gb G + 31)), (1, .int (rowI r)), (2, .ref (gb G + c2)), (3, .ref (gb G + 22)), (4, .int (rowI (rowF (qC P) f))), (5, .long (lN (hopN P (opB P h) r (fi P i)))), (7, .int (nI i))] []) (ns (qC P) (qT P)) ?_ (fun i hi ih => ?_)
    · refine k_X6_hopeOf_25 C h2 (fun _ => k) (fun z => ?_)
      exfalso
      revert z
      rw [H.1.1]
      simp (disch := omega) only [ofNat_nI, nI_add, pk_mul, nI_clamp, nI_leI, nI_ltI, nI_eq, vp_in_nI_iff, nI_subr, nI_m1r, m1_eq, m1_eq2, m1_le, m1_le2, m1_lt, m1_lt2, m1_self, cv_sub, cv_add1, cv_eq, cv_eqI, cv_eqI2, cv_m1, cv_lt0, cv_leI, cv_Ile, cv_le, cv_lt, cv_Ilt, cv_ltI, not_true, not_false_iff, true_implies, false_implies, false_or, or_false, true_and, and_true, false_and, and_false, true_or, or_true]
      omega
    · have hfs := fi_s P i
      have hfl := fi_le (P := P) (i := i + 1) (by omega)
      have ef0 : μ 25 (nI i).toNatClampNeg = nI (fi P i) := by rw [nI_clamp (by omega)]; exact H.1.2.2.2.1 _ (by omega)
      have ef : μ 25 (nI i + 1).toNatClampNeg = nI (fi P (i + 1)) := by rw [nI_1, nI_clamp (by omega)]; exact H.1.2.2.2.1 _ (by omega)
      refine k_X6_hopeOf_25 C h2 (fun z => ?_) (fun _ => s_weightOf hW H.1 (fun c => RwOk.le4 hW hr c) hi (k_X6_hopeOf_48 C h2 ?_ ?_))
      · exfalso
        revert z
        rw [H.1.1]
        simp (disch := omega) only [ofNat_nI, nI_add, pk_mul, nI_clamp, nI_leI, nI_ltI, nI_eq, vp_in_nI_iff, nI_subr, nI_m1r, m1_eq, m1_eq2, m1_le, m1_le2, m1_lt, m1_lt2, m1_self, cv_sub, cv_add1, cv_eq, cv_eqI, cv_eqI2, cv_m1, cv_lt0, cv_leI, cv_Ile, cv_le, cv_lt, cv_Ilt, cv_ltI, not_true, not_false_iff, true_implies, false_implies, false_or, or_false, true_and, and_true, false_and, and_false, true_or, or_true]
        omega
      · simp (disch := omega) only [ofNat_nI, nI_add, pk_mul, nI_clamp, nI_leI, nI_ltI, nI_eq, vp_in_nI_iff, nI_subr, nI_m1r, m1_eq, m1_eq2, m1_le, m1_le2, m1_lt, m1_lt2, m1_self, cv_sub, cv_add1, cv_eq, cv_eqI, cv_eqI2, cv_m1, cv_lt0, cv_leI, cv_Ile, cv_le, cv_lt, cv_Ilt, cv_ltI, not_true, not_false_iff, true_implies, false_implies, false_or, or_false, true_and, and_true, false_and, and_false, true_or, or_true]
        omega
      · rw [ef0]
        have key := lp_up (W := fun u => Wm G mX6_hopeOf E (bm G mX6_hopeOf E (pL Q)) μ 62 [(0, .ref (gb G + 31)), (1, .int (rowI r)), (2, .ref (gb G + c2)), (3, .ref (gb G + 22)), (4, .int (rowI (rowF (qC P) f))), (5, .long (lN (hopN P (opB P h) r (fi P i + u)))), (7, .int (nI i)), (8, .int (nI (wSet P r i (qT P)))), (9, .int (nI (fi P i + u)))] []) (pp P i) ?_ (fun u hu ihu => ?_)
        · exact key
        · rw [← fi_s]
          refine k_X6_hopeOf_62 C h2 ?_ (fun _ => ?_) (fun z => ?_) (fun z => ?_) (fun z => ?_) (fun z => ?_)
          · simp (disch := omega) only [ofNat_nI, nI_add, pk_mul, nI_clamp, nI_leI, nI_ltI, nI_eq, vp_in_nI_iff, nI_subr, nI_m1r, m1_eq, m1_eq2, m1_le, m1_le2, m1_lt, m1_lt2, m1_self, cv_sub, cv_add1, cv_eq, cv_eqI, cv_eqI2, cv_m1, cv_lt0, cv_leI, cv_Ile, cv_le, cv_lt, cv_Ilt, cv_ltI, not_true, not_false_iff, true_implies, false_implies, false_or, or_false, true_and, and_true, false_and, and_false, true_or, or_true]
            omega
          · simp (disch := omega) only [ofNat_nI, nI_add, pk_mul, nI_clamp, nI_leI, nI_ltI, nI_eq, vp_in_nI_iff, nI_subr, nI_m1r, m1_eq, m1_eq2, m1_le, m1_le2, m1_lt, m1_lt2, m1_self, cv_sub, cv_add1, cv_eq, cv_eqI, cv_eqI2, cv_m1, cv_lt0, cv_leI, cv_Ile, cv_le, cv_lt, cv_Ilt, cv_ltI, not_true, not_false_iff, true_implies, false_implies, false_or, or_false, true_and, and_true, false_and, and_false, true_or, or_true]
            exact ih
          all_goals
            exfalso
            rw [ef] at z
            revert z
            simp (disch := omega) only [ofNat_nI, nI_add, pk_mul, nI_clamp, nI_leI, nI_ltI, nI_eq, vp_in_nI_iff, nI_subr, nI_m1r, m1_eq, m1_eq2, m1_le, m1_le2, m1_lt, m1_lt2, m1_self, cv_sub, cv_add1, cv_eq, cv_eqI, cv_eqI2, cv_m1, cv_lt0, cv_leI, cv_Ile, cv_le, cv_lt, cv_Ilt, cv_ltI, not_true, not_false_iff, true_implies, false_implies, false_or, or_false, true_and, and_true, false_and, and_false, true_or, or_true]
            omega
        · have hlt := fi_lt hi hu
          have ec : (nI (fi P i + u)).toNatClampNeg = fi P i + u := nI_clamp (by omega)
          obtain ⟨o1, o2⟩ := mx_op hW H hlt (hb _ hlt)
          have eb : μ 28 (nI (fi P i + u)).toNatClampNeg = rowI (mrow P (fi P i + u)) := by rw [ec]; exact H.2.1 _ hlt
          have e1 : nI (fi P i + u) + 1 = nI (fi P i + (u + 1)) := nI_1 _
          have hs := hop_s P (opB P h) r (fi P i + u)
          rw [show fi P i + u + 1 = fi P i + (u + 1) by omega] at hs
          have ix : vp_in (nI (fi P i + u)) 1200 := by
            simp (disch := omega) only [ofNat_nI, nI_add, pk_mul, nI_clamp, nI_leI, nI_ltI, nI_eq, vp_in_nI_iff, nI_subr, nI_m1r, m1_eq, m1_eq2, m1_le, m1_le2, m1_lt, m1_lt2, m1_self, cv_sub, cv_add1, cv_eq, cv_eqI, cv_eqI2, cv_m1, cv_lt0, cv_leI, cv_Ile, cv_le, cv_lt, cv_Ilt, cv_ltI, not_true, not_false_iff, true_implies, false_implies, false_or, or_false, true_and, and_true, false_and, and_false, true_or, or_true]
            omega
          have hbits : (rowI r &&& colI (μ 28 (nI (fi P i + u)).toNatClampNeg)) &&& ((μ 28 (nI (fi P i + u)).toNatClampNeg) ^^^ (-1)) = 0 ↔ ¬ apt P r (fi P i + u) := by
            rw [eb]; exact apt_bits hW hr hlt
          refine k_X6_hopeOf_62 C h2 ?_ (fun z => ?_) (fun _ => ix) (fun _ _ _ _ => ix) (fun _ v hv y => ?_) (fun _ v hv y0 y1 y2 => ?_)
          · simp (disch := omega) only [ofNat_nI, nI_add, pk_mul, nI_clamp, nI_leI, nI_ltI, nI_eq, vp_in_nI_iff, nI_subr, nI_m1r, m1_eq, m1_eq2, m1_le, m1_le2, m1_lt, m1_lt2, m1_self, cv_sub, cv_add1, cv_eq, cv_eqI, cv_eqI2, cv_m1, cv_lt0, cv_leI, cv_Ile, cv_le, cv_lt, cv_Ilt, cv_ltI, not_true, not_false_iff, true_implies, false_implies, false_or, or_false, true_and, and_true, false_and, and_false, true_or, or_true]
            omega
          · exfalso
            rw [ef] at z
            revert z
            simp (disch := omega) only [ofNat_nI, nI_add, pk_mul, nI_clamp, nI_leI, nI_ltI, nI_eq, vp_in_nI_iff, nI_subr, nI_m1r, m1_eq, m1_eq2, m1_le, m1_le2, m1_lt, m1_lt2, m1_self, cv_sub, cv_add1, cv_eq, cv_eqI, cv_eqI2, cv_m1, cv_lt0, cv_leI, cv_Ile, cv_le, cv_lt, cv_Ilt, cv_ltI, not_true, not_false_iff, true_implies, false_implies, false_or, or_false, true_and, and_true, false_and, and_false, true_or, or_true]
            omega
          · have hv' : ((rowI r &&& colI (μ 28 (nI (fi P i + u)).toNatClampNeg)) &&& ((μ 28 (nI (fi P i + u)).toNatClampNeg) ^^^ (-1)) = 0 ∧ v = 0) ∨ (¬ (rowI r &&& colI (μ 28 (nI (fi P i + u)).toNatClampNeg)) &&& ((μ 28 (nI (fi P i + u)).toNatClampNeg) ^^^ (-1)) = 0 ∧ v = 1) := hv
            rw [hbits] at hv'
            have e0 : hopN P (opB P h) r (fi P i + (u + 1)) = hopN P (opB P h) r (fi P i + u) := by
              rw [hs]
              rcases hv' with ⟨-, v0⟩ | ⟨v0, -⟩
              · rcases y with y | ⟨-, y⟩
                · exact absurd v0 y
                · rw [ec] at y
                  rw [o1 y, Bool.false_and, if_neg (by decide)]
                  rfl
              · rw [wgt_apt (Classical.byContradiction v0)]
                split <;> rfl
            rw [e0] at ihu
            rw [e1]
            exact ihu
          · have hv' : ((rowI r &&& colI (μ 28 (nI (fi P i + u)).toNatClampNeg)) &&& ((μ 28 (nI (fi P i + u)).toNatClampNeg) ^^^ (-1)) = 0 ∧ v = 0) ∨ (¬ (rowI r &&& colI (μ 28 (nI (fi P i + u)).toNatClampNeg)) &&& ((μ 28 (nI (fi P i + u)).toNatClampNeg) ^^^ (-1)) = 0 ∧ v = 1) := hv
            rw [hbits] at hv'
            have na : ¬ apt P r (fi P i + u) := by
              rcases hv' with ⟨a, -⟩ | ⟨-, a⟩
              · exact a
              · rw [a] at y0; exact absurd y0 (by decide)
            rw [ec] at y1 y2
            rw [o2 y1 y2, Bool.true_and] at hs
            rw [eb, wth_row hW hlt na]
            have hwl := wth_le hW hr hlt
            have hw3 := wSet_le hW r i
            refine s_lawfulNear h2 hW hp hwl (fun c hc => ((left_fit hW hr).mp f1).1 c hc) fun w2 hw2 => k_X6_hopeOf_134 C h2 (fun y => ?_) (fun y => ?_)
            · have ecan : canB P (wth P r (fi P i + u)) = false := bnot fun q => by
                have := hw2.iff hW
                rw [left_can hW hwl, q] at this
                exact this.mpr rfl y
              rw [ecan, if_neg (by decide)] at hs
              have e0 : hopN P (opB P h) r (fi P i + (u + 1)) = hopN P (opB P h) r (fi P i + u) := hs
              rw [e0] at ihu
              rw [e1]
              exact ihu
            · have ecan : canB P (wth P r (fi P i + u)) = true := (left_can hW hwl).mp ((hw2.iff hW).mp y)
              rw [ecan, if_pos rfl, wgt_set hi hu na] at hs
              rw [hs, ← lN_add] at ihu
              rw [e1, nI_l (by omega)]
              exact ihu
  · have ecan : canB P r = false := bnot fun q => by
      have := LawR.iff (x := leftI P (rowI r)) hW hw
      rw [left_can hW hr, q] at this
      exact this.mpr rfl z
    have e0 : hopN P (opB P h) r (MM P) = 0 := sm_zero fun m hm => by
      show (if (opB P h m && canB P (wth P r m)) = true then wgt P r m else 0) = 0
      by_cases q : apt P r m
      · rw [wgt_apt q]; split <;> rfl
      · have : canB P (wth P r m) = false := bnot fun y => by
          rw [canB_mono hW (wth_ext hW hm q) y] at ecan
          cases ecan
        rw [this, Bool.and_false, if_neg (by decide)]
    rw [e0] at k
    exact k

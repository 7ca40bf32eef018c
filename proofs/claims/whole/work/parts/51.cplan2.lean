/-! THE CLASS: plans copied, held against one another, made; rows by digits and by polynomials -/
theorem cpy_at {μ : mM} {c0 c1 n j : Nat} (hj : j < n) (hn : n < 2 ^ 31) : cpy μ c0 c1 0 0 (nI n) c1 j = μ c0 j := by
  unfold cpy
  rw [if_pos rfl, nI_clamp hn, show ((0 : Int32)).toNatClampNeg = 0 from rfl, pk_cpy_in (by omega) (by omega), Nat.zero_add, Nat.sub_zero]
theorem cpy_ne {μ : mM} {c0 c1 c : Nat} {a b n : Int32} (h : c ≠ c1) : cpy μ c0 c1 a b n c = μ c := by
  unfold cpy
  rw [if_neg h]
theorem Fr.cpy {K : List Nat} {μ μ' : mM} {c0 c1 : Nat} {a b n : Int32} (h : Fr K μ μ') (hc : c1 ∈ K) : Fr K μ (cpy μ' c0 c1 a b n) := fun c hcc => by
  rw [cpy_ne (fun e => hcc (by rw [e]; exact hc))]
  exact h c hcc
theorem cpy8 : cpyOk 0 0 8 8 8 := by unfold cpyOk; decide
theorem cpy12 : cpyOk 0 0 12 12 12 := by unfold cpyOk; decide
theorem s_copyPlan {G : mG} {Q : mM → Prop} {μ : mM} {a b : Nat} {P : Pl} (h0 : sh a = (0, 3)) (h1 : sh b = (0, 3)) (hab : a + 4 ≤ b ∨ b + 4 ≤ a) (hC8 : qC P ≤ 8) (hN : qN P ≤ 12) (hp : PlC b P μ) (k : ∀ μ', Fr [a, a + 1, a + 2, a + 3] μ μ' → PlC a P μ' → Q μ') : CtV G mX4_copyFrom [.ref (gb G + a), .ref (gb G + b)] μ Q := by
  refine a_X4_copyFrom h0 h1 cpy8 cpy12 (k _ ((((((((Fr.rf _ μ).ms (by simp)).ms (by simp)).ms (by simp)).ms (by simp)).cpy (by simp)).cpy (by simp)).cpy (by simp)) ?_)
  have nb : ∀ (μ' : mM) (j : Nat) (v : Int32), ms μ' a j v b = μ' b := fun μ' j v => ms_ne (by omega)
  simp only [nb]
  have nr : ∀ c, c ≠ a → ∀ (μ' : mM) (j : Nat) (v : Int32), ms μ' a j v c = μ' c := fun c hc μ' j v => ms_ne hc
  obtain ⟨p0, p1, p2, p3, p4, p5⟩ := hp
  have e8 : (8 : Int32) = nI 8 := rfl
  have e12 : (12 : Int32) = nI 12 := rfl
  refine ⟨?_, ?_, ?_, ?_, fun c hc => ?_, fun i hi => ⟨?_, ?_⟩⟩
  · rw [cpy_ne (by omega), cpy_ne (by omega), cpy_ne (by omega), ms_row, upd_at, if_neg (by decide), ms_row, upd_at, if_neg (by decide), ms_row, upd_at, if_neg (by decide), ms_row, upd_at, if_pos rfl]; exact p0
  · rw [cpy_ne (by omega), cpy_ne (by omega), cpy_ne (by omega), ms_row, upd_at, if_neg (by decide), ms_row, upd_at, if_neg (by decide), ms_row, upd_at, if_pos rfl]; exact p1
  · rw [cpy_ne (by omega), cpy_ne (by omega), cpy_ne (by omega), ms_row, upd_at, if_neg (by decide), ms_row, upd_at, if_pos rfl]; exact p2
  · rw [cpy_ne (by omega), cpy_ne (by omega), cpy_ne (by omega), ms_row, upd_at, if_pos rfl]; exact p3
  · rw [cpy_ne (by omega), cpy_ne (by omega), e8, cpy_at (by omega) (by omega), nr _ (by omega), nr _ (by omega), nr _ (by omega), nr _ (by omega)]; exact p4 c hc
  · rw [cpy_ne (by omega), e12, cpy_at (by omega) (by omega), cpy_ne (by omega), nr _ (by omega), nr _ (by omega), nr _ (by omega), nr _ (by omega)]; exact (p5 i hi).1
  · rw [e12, cpy_at (by omega) (by omega), cpy_ne (by omega), cpy_ne (by omega), nr _ (by omega), nr _ (by omega), nr _ (by omega), nr _ (by omega)]; exact (p5 i hi).2
theorem allI_eq {P P' : Pl} (hL : ∀ c, c < 8 → qL P c ≤ 4) (hL' : ∀ c, c < 8 → qL P' c ≤ 4) (h : allI P = allI P') : ∀ c, c < 8 → qL P c = qL P' c := fun c hc => by
  have f : ∀ l, l < 4 → (l < qL P c ↔ l < qL P' c) := fun l hl => by
    have := congrArg (fun x => bt x (4 * c + l)) h
    simp only [b_all P hc hl, b_all P' hc hl, decide_eq_decide] at this
    exact this
  have h1 := hL c hc
  have h2 := hL' c hc
  rcases Nat.lt_trichotomy (qL P c) (qL P' c) with q | q | q
  · have := (f (qL P c) (by omega)).mpr q; omega
  · exact q
  · have := (f (qL P' c) (by omega)).mp q; omega
theorem PW.l4 {P : Pl} (h : PW P) (c : Nat) : qL P c ≤ 4 := by
  by_cases q : c < qC P
  · exact (h.lv q).2
  · rw [h.2.2.2.1 c (by omega)]; omega
theorem plan_eq {P P' : Pl} (h : PW P) (h' : PW P') (e1 : qC P = qC P') (e2 : qT P = qT P') (e3 : qN P = qN P') (e4 : allI P = allI P') (e5 : ∀ i, i < qN P → rowI (qV P i) = rowI (qV P' i)) : P = P' := by
  have hC8 := h.ct.2.2.2
  have hL : qL P = qL P' := funext fun c => by
    by_cases q : c < 8
    · exact allI_eq (fun c _ => h.l4 c) (fun c _ => h'.l4 c) e4 c q
    · rw [h.2.2.2.1 c (by omega), h'.2.2.2.1 c (by omega)]
  have z : ∀ {P : Pl}, PW P → ∀ i c, qN P ≤ i ∨ qC P ≤ c → qV P i c = 0 := fun hP i c hic => by
    refine Classical.byContradiction fun q => ?_
    obtain ⟨a, b, _⟩ := hP.2.2.2.2.2.1 i c q
    omega
  have hV : qV P = qV P' := funext fun i => funext fun c => by
    by_cases q : i < qN P
    · by_cases w : c < 8
      · exact rowI_eq (fun c _ => h.v4 i c) (fun c _ => h'.v4 i c) (e5 i q) c w
      · rw [z h i c (by omega), z h' i c (by omega)]
    · rw [z h i c (by omega), z h' i c (by omega)]
  obtain ⟨C, T, L, N, V⟩ := P
  obtain ⟨C', T', L', N', V'⟩ := P'
  simp only [qC, qT, qL, qN, qV] at e1 e2 e3 hL hV
  subst e1 e2 e3 hL hV
  rfl
theorem s_sameAs {G : mG} {Q : Int32 → mM → Prop} {μ : mM} {a b : Nat} {P P' : Pl} (h0 : sh a = (0, 3)) (h1 : sh b = (0, 3)) (hp : PlC a P μ) (hp' : PlC b P' μ) (hP : qC P = 0 ∨ PW P) (hP' : PW P')
    (k : ∀ v : Int32, (v = 0 ∨ v = 1) → (v ≠ 0 → P = P') → Q v μ) : CtI G mX4_sameAs [.ref (gb G + a), .ref (gb G + b)] μ Q := by
  obtain ⟨p0, p1, p2, p3, p4, p5⟩ := hp
  obtain ⟨r0, r1, r2, r3, r4, r5⟩ := hp'
  have hC8' := hP'.ct.2.2.2
  have hC2' := hP'.1
  have hN' := hP'.2.2.2.2.1
  have hT' := hP'.ct.2.1
  refine e_X4_sameAs h0 h1 fun E C => k_X4_sameAs_0 C h0 h1 fun v hv => ?_
  -- what is known when it is still the same
  have eqs : v ≠ 0 → PW P ∧ qC P = qC P' ∧ qT P = qT P' ∧ qN P = qN P' ∧ allI P = allI P' := fun hne => by
    rcases hv with ⟨-, z⟩ | ⟨z1, z2, z3, z4, -⟩
    · exact absurd z hne
    · rw [p0, r0] at z1
      rw [p1, r1] at z2
      rw [p2, r2] at z3
      rw [p3, r3] at z4
      rcases hP with hP | hP
      · exfalso
        rw [hP, nI_eq (by omega) (by omega)] at z1
        omega
      · have hC8 := hP.ct.2.2.2
        have hN := hP.2.2.2.2.1
        have hT := hP.ct.2.1
        exact ⟨hP, (nI_eq (by omega) (by omega)).mp z1, (nI_eq (by omega) (by omega)).mp z2, (nI_eq (by omega) (by omega)).mp z3, z4⟩
  have v01 : v = 0 ∨ v = 1 := by
    rcases hv with z | z
    · exact Or.inl z.2
    · exact Or.inr z.2.2.2.2
  have loop : ∀ (d i : Nat) (v : Int32), (v = 0 ∨ v = 1) → (v ≠ 0 → (PW P ∧ qC P = qC P' ∧ qT P = qT P' ∧ qN P = qN P' ∧ allI P = allI P') ∧ i + d = qN P ∧ ∀ j, j < i → rowI (qV P j) = rowI (qV P' j)) →
      Wm G mX4_sameAs E (bm G mX4_sameAs E (pI Q)) μ 52 [(0, .ref (gb G + a)), (1, .ref (gb G + b)), (2, .int v), (3, .int (nI i))] [] := by
    intro d
    induction d with
    | zero =>
      intro i v hv hk
      have fin : Q v μ := k v hv fun hne => by
        obtain ⟨⟨a1, a2, a3, a4, a5⟩, hi, hall⟩ := hk hne
        exact plan_eq a1 hP' a2 a3 a4 a5 (fun j hj => hall j (by omega))
      refine k_X4_sameAs_52 C h0 h1 (fun _ => hv) (fun _ => fin) (fun z1 z2 => ?_) (fun z1 z2 => ?_)
      all_goals
        exfalso
        obtain ⟨⟨a1, a2, a3, a4, a5⟩, hi, hall⟩ := hk z1
        have hN := a1.2.2.2.2.1
        rw [p2] at z2
        revert z2
        simp (disch := omega) only [ofNat_nI, nI_add, pk_mul, nI_clamp, nI_leI, nI_ltI, nI_eq, vp_in_nI_iff, nI_subr, nI_m1r, m1_eq, m1_eq2, m1_le, m1_le2, m1_lt, m1_lt2, m1_self, cv_sub, cv_add1, cv_eq, cv_eqI, cv_eqI2, cv_m1, cv_lt0, cv_leI, cv_Ile, cv_le, cv_lt, cv_Ilt, cv_ltI, not_true, not_false_iff, true_implies, false_implies, false_or, or_false, true_and, and_true, false_and, and_false, true_or, or_true]
        omega
    | succ d ih =>
      intro i v hv hk
      by_cases hz : v = 0
      · subst hz
        exact k_X4_sameAs_52 C h0 h1 (fun _ => Or.inl rfl) (fun _ => k 0 (Or.inl rfl) (fun z => absurd rfl z)) (fun z => absurd rfl z) (fun z => absurd rfl z)
      · obtain ⟨hh, hi, hall⟩ := hk hz
        have hN := hh.1.2.2.2.2.1
        refine k_X4_sameAs_52 C h0 h1 (fun _ => hv) (fun z => ?_) (fun _ _ => ?_) (fun _ _ v1 hv1 => ?_)
        · exfalso
          rcases z with z | ⟨-, z⟩
          · exact hz z
          · rw [p2] at z
            revert z
            simp (disch := omega) only [ofNat_nI, nI_add, pk_mul, nI_clamp, nI_leI, nI_ltI, nI_eq, vp_in_nI_iff, nI_subr, nI_m1r, m1_eq, m1_eq2, m1_le, m1_le2, m1_lt, m1_lt2, m1_self, cv_sub, cv_add1, cv_eq, cv_eqI, cv_eqI2, cv_m1, cv_lt0, cv_leI, cv_Ile, cv_le, cv_lt, cv_Ilt, cv_ltI, not_true, not_false_iff, true_implies, false_implies, false_or, or_false, true_and, and_true, false_and, and_false, true_or, or_true]
            omega
        · simp (disch := omega) only [ofNat_nI, nI_add, pk_mul, nI_clamp, nI_leI, nI_ltI, nI_eq, vp_in_nI_iff, nI_subr, nI_m1r, m1_eq, m1_eq2, m1_le, m1_le2, m1_lt, m1_lt2, m1_self, cv_sub, cv_add1, cv_eq, cv_eqI, cv_eqI2, cv_m1, cv_lt0, cv_leI, cv_Ile, cv_le, cv_lt, cv_Ilt, cv_ltI, not_true, not_false_iff, true_implies, false_implies, false_or, or_false, true_and, and_true, false_and, and_false, true_or, or_true]
          omega
        · have ea : μ (a + 2) (nI i).toNatClampNeg = rowI (qV P i) := by rw [nI_clamp (by omega)]; exact (p5 i (by omega)).1
          have eb : μ (b + 2) (nI i).toNatClampNeg = rowI (qV P' i) := by rw [nI_clamp (by omega)]; exact (r5 i (by have := hh.2.2.2.1; omega)).1
          rw [ea, eb] at hv1
          simp (disch := omega) only [ofNat_nI, nI_add, pk_mul, nI_clamp, nI_leI, nI_ltI, nI_eq, vp_in_nI_iff, nI_subr, nI_m1r, m1_eq, m1_eq2, m1_le, m1_le2, m1_lt, m1_lt2, m1_self, cv_sub, cv_add1, cv_eq, cv_eqI, cv_eqI2, cv_m1, cv_lt0, cv_leI, cv_Ile, cv_le, cv_lt, cv_Ilt, cv_ltI, not_true, not_false_iff, true_implies, false_implies, false_or, or_false, true_and, and_true, false_and, and_false, true_or, or_true]
          refine ih (i + 1) v1 ?_ (fun hne => ⟨hh, by omega, fun j hj => ?_⟩)
          · rcases hv1 with z | z
            · exact Or.inl z.2
            · exact Or.inr z.2
          · by_cases q : j = i
            · rw [q]
              rcases hv1 with z | z
              · exact absurd z.2 hne
              · exact z.1
            · exact hall j (by omega)
  exact loop (qN P) 0 v v01 (fun hne => ⟨eqs hne, by omega, fun j hj => absurd hj (Nat.not_lt_zero j)⟩)
theorem s_clear {G : mG} {Q : mM → Prop} {μ : mM} {a : Nat} (h0 : sh a = (0, 3)) (k : ∀ μ', Fr [a] μ μ' → PlC a (0, 2, fun _ => 0, 0, fun _ _ => 0) μ' → Q μ') : CtV G mX4_clear [.ref (gb G + a)] μ Q := by
  refine a_X4_clear h0 (k _ (((((Fr.rf _ μ).ms (by simp)).ms (by simp)).ms (by simp)).ms (by simp)) ⟨?_, ?_, ?_, ?_, fun c hc => absurd hc (Nat.not_lt_zero c), fun i hi => absurd hi (Nat.not_lt_zero i)⟩)
  · rw [ms_row, upd_at, if_neg (by decide), ms_row, upd_at, if_neg (by decide), ms_row, upd_at, if_neg (by decide), ms_row, upd_at, if_pos rfl]; rfl
  · rw [ms_row, upd_at, if_neg (by decide), ms_row, upd_at, if_neg (by decide), ms_row, upd_at, if_pos rfl]; rfl
  · rw [ms_row, upd_at, if_neg (by decide), ms_row, upd_at, if_pos rfl]; rfl
  · rw [ms_row, upd_at, if_pos rfl]
    exact b_ext fun i hi => by
      rw [b_0]
      show _ = bt (mkI _) i
      rw [b_mk _ hi]
      exact (decide_eq_false (Nat.not_lt_zero _)).symm
theorem all_wd {P : Pl} {lv : Nat} (hC : qC P < 8) (h4 : lv ≤ 4) (hz : ∀ c, qC P ≤ c → qL P c = 0) : allI P ||| ((1 <<< (nI lv &&& 31)) - 1) <<< ((4 * nI (qC P)) &&& 31) = allI (pWd P lv) := c_ext fun c l hc hl => by
  have e1 : ∀ lv, lv ≤ 4 → ((1 <<< (nI lv &&& 31)) - 1 : Int32) = nI (2 ^ lv - 1) := by decide
  rw [b_or, b_all P hc hl, b_all (pWd P lv) hc hl, e1 lv h4, show (4 : Int32) = nI 4 from rfl, pk_mul, b_shl (4 * qC P) (by omega) _ (by omega), b_nI (by omega), Nat.testBit_two_pow_sub_one]
  show _ = decide (l < up (qL P) (qC P) lv c)
  rw [up_at]
  by_cases q : c = qC P
  · rw [if_pos q, q, hz _ (Nat.le_refl _), decide_eq_false (Nat.not_lt_zero l), Bool.false_or, decide_eq_true (show 4 * qC P ≤ 4 * qC P + l by omega), Bool.true_and, show 4 * qC P + l - 4 * qC P = l by omega]
  · rw [if_neg q]
    have : (decide (4 * qC P ≤ 4 * c + l) && decide (4 * c + l - 4 * qC P < lv)) = false := by
      by_cases z : 4 * qC P ≤ 4 * c + l
      · rw [decide_eq_false (show ¬ 4 * c + l - 4 * qC P < lv by omega), Bool.and_false]
      · rw [decide_eq_false z]; rfl
    rw [this, Bool.or_false]
theorem s_addColumn {G : mG} {Q : mM → Prop} {μ : mM} {a lv : Nat} {P : Pl} (h0 : sh a = (0, 3)) (hp : PlC a P μ) (hC : qC P < 8) (h4 : lv ≤ 4) (hz : ∀ c, qC P ≤ c → qL P c = 0) (k : ∀ μ', Fr [a, a + 1] μ μ' → PlC a (pWd P lv) μ' → Q μ') : CtV G mX4_addColumn [.ref (gb G + a), .int (nI lv)] μ Q := by
  obtain ⟨p0, p1, p2, p3, p4, p5⟩ := hp
  have q0 : ∀ v w, ms μ (a + 1) v w a = μ a := fun v w => ms_ne (by omega)
  refine a_X4_addColumn h0 (fun z => ?_) (fun _ => ?_) (fun _ => ?_)
  · exfalso
    revert z
    rw [p0]
    simp (disch := omega) only [ofNat_nI, nI_add, pk_mul, nI_clamp, nI_leI, nI_ltI, nI_eq, vp_in_nI_iff, nI_subr, nI_m1r, m1_eq, m1_eq2, m1_le, m1_le2, m1_lt, m1_lt2, m1_self, cv_sub, cv_add1, cv_eq, cv_eqI, cv_eqI2, cv_m1, cv_lt0, cv_leI, cv_Ile, cv_le, cv_lt, cv_Ilt, cv_ltI, not_true, not_false_iff, true_implies, false_implies, false_or, or_false, true_and, and_true, false_and, and_false, true_or, or_true]
    omega
  · rw [p0]
    simp (disch := omega) only [ofNat_nI, nI_add, pk_mul, nI_clamp, nI_leI, nI_ltI, nI_eq, vp_in_nI_iff, nI_subr, nI_m1r, m1_eq, m1_eq2, m1_le, m1_le2, m1_lt, m1_lt2, m1_self, cv_sub, cv_add1, cv_eq, cv_eqI, cv_eqI2, cv_m1, cv_lt0, cv_leI, cv_Ile, cv_le, cv_lt, cv_Ilt, cv_ltI, not_true, not_false_iff, true_implies, false_implies, false_or, or_false, true_and, and_true, false_and, and_false, true_or, or_true]
    omega
  · have e3 : ∀ (v : Nat) (w u : Int32), ms (ms μ (a + 1) v w) a 3 u a 0 = μ a 0 := fun v w u => by rw [ms_row, upd_at, if_neg (by decide), q0]
    rw [e3, q0, p0, p3, nI_clamp (by omega), all_wd hC h4 hz, show nI (qC P) + 1 = nI (qC P + 1) from nI_1 _]
    refine k _ ((((Fr.rf _ μ).ms (by simp)).ms (by simp)).ms (by simp)) ⟨?_, ?_, ?_, ?_, fun c hc => ?_, fun i hi => ?_⟩
    · rw [ms_row, upd_at, if_pos rfl]; rfl
    · rw [ms_row, upd_at, if_neg (by decide), ms_row, upd_at, if_neg (by decide), q0]; exact p1
    · rw [ms_row, upd_at, if_neg (by decide), ms_row, upd_at, if_neg (by decide), q0]; exact p2
    · rw [ms_row, upd_at, if_neg (by decide), ms_row, upd_at, if_pos rfl]
    · replace hc : c < qC P + 1 := hc
      rw [ms_ne (by omega), ms_ne (by omega), ms_row, upd_at]
      show _ = nI (up (qL P) (qC P) lv c)
      rw [up_at]
      by_cases q : c = qC P
      · rw [if_pos q, if_pos q]
      · rw [if_neg q, if_neg q]; exact p4 c (by omega)
    · rw [ms_ne (by omega), ms_ne (by omega), ms_ne (by omega), ms_ne (by omega), ms_ne (by omega), ms_ne (by omega)]; exact p5 i hi
theorem s_addNever {G : mG} {Q : mM → Prop} {μ : mM} {a : Nat} {P : Pl} {V : Nat → Nat} (h0 : sh a = (0, 3)) (hp : PlC a P μ) (hN : qN P < 12) (k : ∀ μ', Fr [a, a + 2, a + 3] μ μ' → PlC a (qC P, qT P, qL P, qN P + 1, fun i => if i = qN P then V else qV P i) μ' → Q μ') : CtV G mX4_addNever [.ref (gb G + a), .int (rowI V)] μ Q := by
  obtain ⟨p0, p1, p2, p3, p4, p5⟩ := hp
  have q0 : ∀ v w, ms μ (a + 2) v w a = μ a := fun v w => ms_ne (by omega)
  refine a_X4_addNever h0 (fun z => ?_) (fun _ => ?_) (fun _ => ?_) (fun _ => ?_)
  · exfalso
    revert z
    rw [p2]
    simp (disch := omega) only [ofNat_nI, nI_add, pk_mul, nI_clamp, nI_leI, nI_ltI, nI_eq, vp_in_nI_iff, nI_subr, nI_m1r, m1_eq, m1_eq2, m1_le, m1_le2, m1_lt, m1_lt2, m1_self, cv_sub, cv_add1, cv_eq, cv_eqI, cv_eqI2, cv_m1, cv_lt0, cv_leI, cv_Ile, cv_le, cv_lt, cv_Ilt, cv_ltI, not_true, not_false_iff, true_implies, false_implies, false_or, or_false, true_and, and_true, false_and, and_false, true_or, or_true]
    omega
  · rw [p2]
    simp (disch := omega) only [ofNat_nI, nI_add, pk_mul, nI_clamp, nI_leI, nI_ltI, nI_eq, vp_in_nI_iff, nI_subr, nI_m1r, m1_eq, m1_eq2, m1_le, m1_le2, m1_lt, m1_lt2, m1_self, cv_sub, cv_add1, cv_eq, cv_eqI, cv_eqI2, cv_m1, cv_lt0, cv_leI, cv_Ile, cv_le, cv_lt, cv_Ilt, cv_ltI, not_true, not_false_iff, true_implies, false_implies, false_or, or_false, true_and, and_true, false_and, and_false, true_or, or_true]
    omega
  · rw [q0, p2]
    simp (disch := omega) only [ofNat_nI, nI_add, pk_mul, nI_clamp, nI_leI, nI_ltI, nI_eq, vp_in_nI_iff, nI_subr, nI_m1r, m1_eq, m1_eq2, m1_le, m1_le2, m1_lt, m1_lt2, m1_self, cv_sub, cv_add1, cv_eq, cv_eqI, cv_eqI2, cv_m1, cv_lt0, cv_leI, cv_Ile, cv_le, cv_lt, cv_Ilt, cv_ltI, not_true, not_false_iff, true_implies, false_implies, false_or, or_false, true_and, and_true, false_and, and_false, true_or, or_true]
    omega
  · have e3 : ∀ (v v' : Nat) (w u : Int32), ms (ms μ (a + 2) v w) (a + 3) v' u a = μ a := fun v v' w u => by rw [ms_ne (by omega), q0]
    rw [e3, q0, p2, nI_clamp (by omega), show nI (qN P) + 1 = nI (qN P + 1) from nI_1 _]
    refine k _ ((((Fr.rf _ μ).ms (by simp)).ms (by simp)).ms (by simp)) ⟨?_, ?_, ?_, ?_, fun c hc => ?_, fun i hi => ?_⟩
    · rw [ms_row, upd_at, if_neg (by decide), e3]; exact p0
    · rw [ms_row, upd_at, if_neg (by decide), e3]; exact p1
    · rw [ms_row, upd_at, if_pos rfl]
    · rw [ms_row, upd_at, if_neg (by decide), e3]; exact p3
    · rw [ms_ne (by omega), ms_ne (by omega), ms_ne (by omega)]; exact p4 c hc
    · replace hi : i < qN P + 1 := hi
      rw [ms_ne (by omega), ms_ne (by omega), ms_row, upd_at, ms_ne (by omega), ms_row, upd_at, ms_ne (by omega)]
      show _ = rowI (if i = qN P then V else qV P i) ∧ _ = colI (rowI (if i = qN P then V else qV P i))
      by_cases q : i = qN P
      · rw [if_pos q, if_pos q, if_pos q]; exact ⟨rfl, rfl⟩
      · rw [if_neg q, if_neg q, if_neg q]; exact p5 i (by omega)
theorem s_rowOfDigits {G : mG} {Q : Int32 → mM → Prop} {μ : mM} {a : Nat} {P : Pl} {x : Int32} (h0 : sh a = (0, 3)) (h : PW P) (hp : PlC a P μ) (k0 : giv P x = none → Q (-1) μ) (k1 : ∀ d, giv P x = some d → okD (qC P) (qL P) d → Q (rowI (rowD (qC P) d)) μ) : CtI G mX4_rowOfDigits [.ref (gb G + a), .int x] μ Q := by
  have hC8 := h.ct.2.2.2
  have hC2 := h.1
  obtain ⟨p0, p1, p2, p3, p4, p5⟩ := hp
  have hC0 : qC P ≠ 0 := by omega
  refine e_X4_rowOfDigits h0 fun E C => k_X4_rowOfDigits_0 C h0 (fun z => ?_) (fun z => ?_)
  · rw [nle0] at z
    obtain ⟨d, hd, rfl⟩ := nI_of z
    have hg : giv P (nI d) = if okDB (qC P) (qL P) d = true then some d else none := by
      unfold giv
      rw [if_neg (by rintro (y | y); exact hC0 y; exact z y), nI_clamp hd]
    have g0 : ¬ okD (qC P) (qL P) d → Q (-1) μ := fun y => k0 (by rw [hg, if_neg (fun w => y (okDB_iff.mp w))])
    have g1 : okD (qC P) (qL P) d → Q (rowI (rowD (qC P) d)) μ := fun y => k1 d (by rw [hg, if_pos (okDB_iff.mpr y)]) y
    rw [p0, show nI (qC P) - 1 = cv (qC P) from cv_sub1 _]
    have loop : ∀ (b : Nat), b ≤ qC P → (∀ c, b ≤ c → c < qC P → (d / 10 ^ (qC P - 1 - c) % 10 = 9 ∨ d / 10 ^ (qC P - 1 - c) % 10 < qL P c)) →
        Wm G mX4_rowOfDigits E (bm G mX4_rowOfDigits E (pI Q)) μ 18 [(0, .ref (gb G + a)), (2, .int (nI (d / 10 ^ (qC P - b)))), (3, .int (rowI (fun c => if b ≤ c then rowD (qC P) d c else 0))), (4, .int (cv b))] [] := by
      intro b
      induction b with
      | zero =>
        intro _ hall
        have hdd : d / 10 ^ qC P ≤ d := Nat.div_le_self _ _
        have er : rowI (fun c => if 0 ≤ c then rowD (qC P) d c else 0) = rowI (rowD (qC P) d) := rowI_congr fun c _ => if_pos (Nat.zero_le c)
        rw [er, Nat.sub_zero]
        refine k_X4_rowOfDigits_18 C h0 (fun y => ?_) (fun _ y => ?_) (fun y => absurd (show cv 0 < 0 by decide) y) (fun y => absurd (show cv 0 < 0 by decide) y) (fun y => absurd (show cv 0 < 0 by decide) y)
        · rcases y with ⟨-, y⟩ | ⟨y, -⟩
          · refine g0 fun w => y ?_
            rw [w.1]
            rfl
          · exact absurd (show cv 0 < 0 by decide) y
        · refine g1 ⟨?_, fun c hc => hall c (Nat.zero_le c) hc⟩
          exact (nI_eq (b := 0) (by omega) (by omega)).mp y
      | succ b ih =>
        intro hb hall
        have hxd : d / 10 ^ (qC P - (b + 1)) ≤ d := Nat.div_le_self _ _
        have l4 := (h.lv (c := b) (by omega)).2
        have e1 : d / 10 ^ (qC P - b) = d / 10 ^ (qC P - (b + 1)) / 10 := by
          rw [Nat.div_div_eq_div_mul, ← Nat.pow_succ, show (qC P - (b + 1)).succ = qC P - b by omega]
        have e2 : qC P - 1 - b = qC P - (b + 1) := by omega
        have ih' := ih (by omega)
        rw [e1] at ih'
        have hrow : rowD (qC P) d b = if d / 10 ^ (qC P - (b + 1)) % 10 = 9 then 0 else d / 10 ^ (qC P - (b + 1)) % 10 + 1 := by
          unfold rowD
          rw [if_pos (by omega), e2]
        have hcol : (d / 10 ^ (qC P - (b + 1)) % 10 = 9 ∨ d / 10 ^ (qC P - (b + 1)) % 10 < qL P b) → ∀ c, b ≤ c → c < qC P → (d / 10 ^ (qC P - 1 - c) % 10 = 9 ∨ d / 10 ^ (qC P - 1 - c) % 10 < qL P c) := fun hh c hc1 hc2 => by
          by_cases q : c = b
          · rw [q, e2]; exact hh
          · exact hall c (by omega) hc2
        have hbad : ¬ (d / 10 ^ (qC P - (b + 1)) % 10 = 9 ∨ d / 10 ^ (qC P - (b + 1)) % 10 < qL P b) → ¬ okD (qC P) (qL P) d := fun hh w => by
          have := w.2 b (by omega)
          rw [e2] at this
          exact hh this
        generalize d / 10 ^ (qC P - (b + 1)) = u at hxd ih' hrow hcol hbad
        have hm : u % 10 < 10 := Nat.mod_lt _ (by omega)
        have er : nI u - nI u / 10 * 10 = nI (u % 10) := pk_rem (d := 10) (by omega) (by omega) (by omega)
        have e10 : nI u / 10 = nI (u / 10) := pk_div (d := 10) (by omega) (by omega) (by omega)
        have eL : μ (a + 1) (nI b).toNatClampNeg = nI (qL P b) := by rw [nI_clamp (by omega)]; exact p4 b (by omega)
        have hle : nI (qL P b) ≤ nI (u % 10) ↔ qL P b ≤ u % 10 := nI_leI (by omega) (by omega)
        have h9 : nI (u % 10) = 9 ↔ u % 10 = 9 := nI_eq (b := 9) (by omega) (by omega)
        have eb : nI b + (-1) = cv b := cv_sub b
        rw [cv_s]
        refine k_X4_rowOfDigits_18 C h0 (fun y => ?_) (fun y => ?_) (fun _ => ?_) (fun _ y1 y2 => ?_) (fun _ y1 => ?_)
        · rw [eL, er, hle, h9] at y
          rcases y with ⟨y, -⟩ | ⟨-, y1, y2⟩
          · exact absurd y (nI_pos (by omega))
          · exact g0 (hbad (by omega))
        · exact absurd y (nI_pos (by omega))
        · simp (disch := omega) only [ofNat_nI, nI_add, pk_mul, nI_clamp, nI_leI, nI_ltI, nI_eq, vp_in_nI_iff, nI_subr, nI_m1r, m1_eq, m1_eq2, m1_le, m1_le2, m1_lt, m1_lt2, m1_self, cv_sub, cv_add1, cv_eq, cv_eqI, cv_eqI2, cv_m1, cv_lt0, cv_leI, cv_Ile, cv_le, cv_lt, cv_Ilt, cv_ltI, not_true, not_false_iff, true_implies, false_implies, false_or, or_false, true_and, and_true, false_and, and_false, true_or, or_true]
          omega
        · rw [eL, er, hle] at y1
          rw [er, h9] at y2
          have := ih' (hcol (Or.inl y2))
          have ee : rowI (fun c => if b ≤ c then rowD (qC P) d c else 0) = rowI (fun c => if b + 1 ≤ c then rowD (qC P) d c else 0) := rowI_congr fun c _ => by
            by_cases q : c = b
            · rw [q, if_pos (Nat.le_refl b), if_neg (by omega), hrow, if_pos y2]
            · by_cases w : b + 1 ≤ c
              · rw [if_pos w, if_pos (by omega)]
              · rw [if_neg w, if_neg (by omega)]
          rw [ee] at this
          rw [e10, eb]
          exact this
        · rw [eL, er, hle] at y1
          have := ih' (hcol (Or.inr (by omega)))
          have ee : rowI (fun c => if b + 1 ≤ c then rowD (qC P) d c else 0) ||| 1 <<< ((4 * nI b + nI (u % 10)) &&& 31) = rowI (fun c => if b ≤ c then rowD (qC P) d c else 0) := by
            rw [row_bit (r := fun c => if b + 1 ≤ c then rowD (qC P) d c else 0) (c := b) (v := u % 10) (by omega) (by omega) (if_neg (by omega))]
            refine rowI_congr fun c _ => ?_
            rw [up_at]
            by_cases q : c = b
            · rw [if_pos q, q, if_pos (Nat.le_refl b), hrow, if_neg (by omega)]
            · rw [if_neg q]
              by_cases w : b + 1 ≤ c
              · rw [if_pos w, if_pos (by omega)]
              · rw [if_neg w, if_neg (by omega)]
          rw [er, ee, e10, eb]
          exact this
    have := loop (qC P) (Nat.le_refl _) (fun c h1 h2 => by omega)
    rw [Nat.sub_self, Nat.pow_zero, Nat.div_one] at this
    have e0 : rowI (fun c => if qC P ≤ c then rowD (qC P) d c else 0) = 0 := by
      rw [← rowI_0]
      refine rowI_congr fun c _ => ?_
      by_cases w : qC P ≤ c
      · rw [if_pos w]
        unfold rowD
        rw [if_neg (by omega)]
      · rw [if_neg w]
    rw [e0] at this
    exact this
  · rw [nle0, Classical.not_not] at z
    exact k0 (if_pos (Or.inr z))
theorem s_rowOfPolynomial {G : mG} {Q : Int32 → mM → Prop} {μ : mM} {a w q : Nat} {P : Pl} (h0 : sh a = (0, 3)) (h : PW P) (hp : PlC a P μ) (hq : isQ q) (hqC : qC P ≤ q + 1) (hw : w < 2 ^ 31) (k : Q (rowI (polR P q w)) μ) : CtI G mX4_rowOfPolynomial [.ref (gb G + a), .int (nI w), .int (nI q)] μ Q := by
  have hC8 := h.ct.2.2.2
  obtain ⟨t1, t3, -, -⟩ := h.ct
  obtain ⟨p0, p1, p2, p3, p4, p5⟩ := hp
  have hq7 : q ≤ 7 ∧ 2 ≤ q := by unfold isQ at hq; omega
  have hnum : ∀ k, k < qT P → pnum q (qT P) w k < q := fun k _ => Nat.mod_lt _ (by omega)
  refine e_X4_rowOfPolynomial h0 fun E C => k_X4_rowOfPolynomial_0 C h0 ?_
  have ep : ∀ c, c < qC P → polR P q w c = if valQ q c (pnum q (qT P) w) (qT P) < qL P c then valQ q c (pnum q (qT P) w) (qT P) + 1 else 0 := fun c hc => by unfold polR; rw [if_pos hc]
  have ph : ∀ c, qC P ≤ c → polR P q w c = 0 := fun c hc => by unfold polR; rw [if_neg (by omega)]
  have key := lp_up (W := fun b => Wm G mX4_rowOfPolynomial E (bm G mX4_rowOfPolynomial E (pI Q)) μ 5 [(0, .ref (gb G + a)), (1, .int (nI w)), (2, .int (nI q)), (3, .int (rowI (fun c => if c < b then polR P q w c else 0))), (4, .int (nI b))] []) (qC P) ?_ (fun b hb ih => ?_)
  · have e0 : rowI (fun c => if c < 0 then polR P q w c else 0) = 0 := by
      rw [← rowI_0]
      exact rowI_congr fun c _ => if_neg (Nat.not_lt_zero c)
    rw [e0] at key
    exact key
  · have e0 : rowI (fun c => if c < qC P then polR P q w c else 0) = rowI (polR P q w) := rowI_congr fun c _ => by
      by_cases z : c < qC P
      · rw [if_pos z]
      · rw [if_neg z, ph c (by omega)]
    rw [e0]
    refine k_X4_rowOfPolynomial_5 C h0 (fun _ => k) (fun z => ?_) (fun z => ?_) (fun z => ?_) (fun z => ?_) (fun z => ?_)
    all_goals
      exfalso
      revert z
      rw [p0]
      simp (disch := omega) only [ofNat_nI, nI_add, pk_mul, nI_clamp, nI_leI, nI_ltI, nI_eq, vp_in_nI_iff, nI_subr, nI_m1r, m1_eq, m1_eq2, m1_le, m1_le2, m1_lt, m1_lt2, m1_self, cv_sub, cv_add1, cv_eq, cv_eqI, cv_eqI2, cv_m1, cv_lt0, cv_leI, cv_Ile, cv_le, cv_lt, cv_Ilt, cv_ltI, not_true, not_false_iff, true_implies, false_implies, false_or, or_false, true_and, and_true, false_and, and_false, true_or, or_true]
      omega
  · have l4 := (h.lv hb).2
    have eL : μ (a + 1) (nI b).toNatClampNeg = nI (qL P b) := by rw [nI_clamp (by omega)]; exact p4 b hb
    have hv := valQ_lt (x := b) hq t1 hnum
    have nxt : ∀ v : Int32, ((nI (qL P b) ≤ nI (valQ q b (pnum q (qT P) w) (qT P)) ∧ v = rowI (fun c => if c < b then polR P q w c else 0)) ∨ (¬ nI (qL P b) ≤ nI (valQ q b (pnum q (qT P) w) (qT P)) ∧ v = rowI (fun c => if c < b then polR P q w c else 0) ||| 1 <<< ((4 * nI b + nI (valQ q b (pnum q (qT P) w) (qT P))) &&& 31))) → v = rowI (fun c => if c < b + 1 then polR P q w c else 0) := fun v hv' => by
      rw [nI_leI (by omega) (by omega)] at hv'
      rcases hv' with ⟨y1, y2⟩ | ⟨y1, y2⟩
      · rw [y2]
        refine rowI_congr fun c _ => ?_
        by_cases z : c = b
        · rw [z, if_neg (Nat.lt_irrefl b), if_pos (Nat.lt_succ_self b), ep b hb, if_neg (by omega)]
        · by_cases y : c < b
          · rw [if_pos y, if_pos (by omega)]
          · rw [if_neg y, if_neg (by omega)]
      · rw [y2, row_bit (r := fun c => if c < b then polR P q w c else 0) (c := b) (by omega) (by omega) (if_neg (Nat.lt_irrefl b))]
        refine rowI_congr fun c _ => ?_
        rw [up_at]
        by_cases z : c = b
        · rw [if_pos z, z, if_pos (Nat.lt_succ_self b), ep b hb, if_pos (by omega)]
        · rw [if_neg z]
          by_cases y : c < b
          · rw [if_pos y, if_pos (by omega)]
          · rw [if_neg y, if_neg (by omega)]
    have q0 : ¬ nI q ≤ 0 := fun z => by
      have := (nI_leI (b := 0) (by omega) (by omega)).mp z
      omega
    refine k_X4_rowOfPolynomial_5 C h0 (fun z => ?_) (fun _ _ _ => nI_ne0 (by omega) (by omega)) (fun _ _ => ?_) (fun _ _ z => absurd z q0) (fun _ z _ v2 hv2 => ?_) (fun _ z => ?_)
    · exfalso
      revert z
      rw [p0]
      simp (disch := omega) only [ofNat_nI, nI_add, pk_mul, nI_clamp, nI_leI, nI_ltI, nI_eq, vp_in_nI_iff, nI_subr, nI_m1r, m1_eq, m1_eq2, m1_le, m1_le2, m1_lt, m1_lt2, m1_self, cv_sub, cv_add1, cv_eq, cv_eqI, cv_eqI2, cv_m1, cv_lt0, cv_leI, cv_Ile, cv_le, cv_lt, cv_Ilt, cv_ltI, not_true, not_false_iff, true_implies, false_implies, false_or, or_false, true_and, and_true, false_and, and_false, true_or, or_true]
      omega
    · simp (disch := omega) only [ofNat_nI, nI_add, pk_mul, nI_clamp, nI_leI, nI_ltI, nI_eq, vp_in_nI_iff, nI_subr, nI_m1r, m1_eq, m1_eq2, m1_le, m1_le2, m1_lt, m1_lt2, m1_self, cv_sub, cv_add1, cv_eq, cv_eqI, cv_eqI2, cv_m1, cv_lt0, cv_leI, cv_Ile, cv_le, cv_lt, cv_Ilt, cv_ltI, not_true, not_false_iff, true_implies, false_implies, false_or, or_false, true_and, and_true, false_and, and_false, true_or, or_true]
      omega
    · have hbq : b = q := by
        have := (nI_leI (a := q) (b := b) (by omega) (by omega)).mp z
        omega
      have e1 : nI w - nI w / nI q * nI q = nI (valQ q b (pnum q (qT P) w) (qT P)) := by
        rw [pk_rem hw (by omega) (by omega)]
        unfold valQ pnum
        rw [if_pos hbq, show qT P - 1 - (qT P - 1) = 0 by omega, Nat.pow_zero, Nat.div_one]
      rw [eL, e1] at hv2
      rw [nxt v2 hv2]
      simp (disch := omega) only [ofNat_nI, nI_add, pk_mul, nI_clamp, nI_leI, nI_ltI, nI_eq, vp_in_nI_iff, nI_subr, nI_m1r, m1_eq, m1_eq2, m1_le, m1_le2, m1_lt, m1_lt2, m1_self, cv_sub, cv_add1, cv_eq, cv_eqI, cv_eqI2, cv_m1, cv_lt0, cv_leI, cv_Ile, cv_le, cv_lt, cv_Ilt, cv_ltI, not_true, not_false_iff, true_implies, false_implies, false_or, or_false, true_and, and_true, false_and, and_false, true_or, or_true]
      exact ih
    · have hbq : b ≠ q := fun y => z (nI_le (by omega) (by omega))
      have hb2 : b < q := by omega
      have e1 : valQ q b (pnum q (qT P) w) (qT P) = hor q b (pnum q (qT P) w) (qT P) (qT P) := if_neg hbq
      rw [p1]
      refine s_valueAtC hq hb2 t3 hw ?_
      rw [← e1]
      refine k_X4_rowOfPolynomial_31 C h0 ?_ (fun v1 hv1 => ?_)
      · simp (disch := omega) only [ofNat_nI, nI_add, pk_mul, nI_clamp, nI_leI, nI_ltI, nI_eq, vp_in_nI_iff, nI_subr, nI_m1r, m1_eq, m1_eq2, m1_le, m1_le2, m1_lt, m1_lt2, m1_self, cv_sub, cv_add1, cv_eq, cv_eqI, cv_eqI2, cv_m1, cv_lt0, cv_leI, cv_Ile, cv_le, cv_lt, cv_Ilt, cv_ltI, not_true, not_false_iff, true_implies, false_implies, false_or, or_false, true_and, and_true, false_and, and_false, true_or, or_true]
        omega
      · rw [eL] at hv1
        rw [nxt v1 hv1]
        simp (disch := omega) only [ofNat_nI, nI_add, pk_mul, nI_clamp, nI_leI, nI_ltI, nI_eq, vp_in_nI_iff, nI_subr, nI_m1r, m1_eq, m1_eq2, m1_le, m1_le2, m1_lt, m1_lt2, m1_self, cv_sub, cv_add1, cv_eq, cv_eqI, cv_eqI2, cv_m1, cv_lt0, cv_leI, cv_Ile, cv_le, cv_lt, cv_Ilt, cv_ltI, not_true, not_false_iff, true_implies, false_implies, false_or, or_false, true_and, and_true, false_and, and_false, true_or, or_true]
        exact ih

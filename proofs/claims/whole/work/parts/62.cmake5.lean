/-! THE CLASS: mixes are kept; rows are made -/
theorem kn_up {P : Pl} (h : PW P) {o : Nat → Bool} {r : Nat → Nat} {c v : Nat} (hr0 : r c = 0) (n : Nat) : kn P o (up r c v) n ≤ kn P o r n := sm_mono fun m _ => by
  cases q : keB P o r m with
  | false => rw [ke_out h hr0 q]; exact Nat.le_refl _
  | true => exact bool_lt _
theorem s_keepNone {G : mG} {Q : mM → Prop} {μ : mM} {P : Pl} {o : Nat → Bool} {r : Nat → Nat} {c1 c : Nat} {x y : Int32} (h1 : sh c1 = (0, 3)) (hc1 : c1 < 28) (hW : PW P) (hp : PlC c1 P μ) (hg : GaC P o r μ) (h0 : ∀ m, m < MM P → keB P o r m = false)
    (k : ∀ μ', Fr [31, 32, 33, 34, 35] μ μ' → GaC P o r μ' → Q μ') : CtV G mX6_keepWith [.ref (gb G + 31), .ref (gb G + c1), .int x, .int (nI c), .int y] μ Q := by
  refine e_X6_keepWith h1 fun E C => k_X6_keepWith_0 C h1 ?_
  refine s_findNear h1 hc1 hW hp fun ν F e31 hne => k_X6_keepWith_7 C h1 ?_
  have ek : kn P o r (MM P) = 0 := sm_zero fun m hm => by rw [h0 m hm]; rfl
  have e0 : ν 31 3 = nI 0 := by rw [e31, hg.1, ek]
  refine k_X6_keepWith_21 C h1 (fun _ => ?_) (fun z => ?_) (fun z => ?_) (fun z => ?_) (fun z => ?_)
  · refine k _ ((F.mono (by simp)).ms (by decide)) ⟨?_, fun m hm hk => ?_⟩
    · rw [ms_mrw0, mrw_at, upd_at, if_pos rfl, ek]
      rfl
    · rw [h0 m hm] at hk; cases hk
  all_goals
    exfalso
    revert z
    rw [e0]
    decide
theorem s_keepWith {G : mG} {Q : mM → Prop} {μ : mM} {P : Pl} {o : Nat → Bool} {r : Nat → Nat} {c1 c v : Nat} (h1 : sh c1 = (0, 3)) (hc1 : c1 < 28) (hW : PW P) (hM : MM P ≤ 1200) (hp : PlC c1 P μ) (hg : GaC P o r μ) (hr : ∀ c, r c ≤ qL P c) (hc : c < qC P) (hv : v < qL P c) (hr0 : r c = 0)
    (k : ∀ μ', Fr [31, 32, 33, 34, 35] μ μ' → GaC P o (up r c (v + 1)) μ' → Q μ') : CtV G mX6_keepWith [.ref (gb G + 31), .ref (gb G + c1), .int (rowI r), .int (nI c), .int (ceI c v)] μ Q := by
  have hC8 := hW.ct.2.2.2
  obtain ⟨l2, l4⟩ := hW.lv hc
  refine e_X6_keepWith h1 fun E C => k_X6_keepWith_0 C h1 ?_
  refine s_findNear h1 hc1 hW hp fun ν F e31 hne => k_X6_keepWith_7 C h1 ?_
  have g1 : ν 31 3 = nI (kn P o r (MM P)) := by rw [e31]; exact hg.1
  have hkN := kn_le P o r (MM P)
  have loop : ∀ (d m : Nat) (μ' : mM), m + d = MM P → Fr [32, 33, 34] ν μ' → (∀ m', m' < m → keB P o (up r c (v + 1)) m' = true → EnC P (up r c (v + 1)) m' μ' (kn P o (up r c (v + 1)) m')) → (∀ m', m ≤ m' → m' < MM P → keB P o r m' = true → EnC P r m' μ' (kn P o r m')) →
      Wm G mX6_keepWith E (bm G mX6_keepWith E (pV Q)) μ' 21 [(0, .ref (gb G + 31)), (1, .ref (gb G + c1)), (2, .int (rowI r)), (3, .int (nI c)), (4, .int (ceI c v)), (5, .int (15 <<< ((4 * nI c) &&& 31))), (6, .int (nI (kn P o (up r c (v + 1)) m))), (7, .int (nI (kn P o r m)))] [] := by
    intro d
    induction d with
    | zero =>
      intro m μ' hm F2 hA hB
      have hmm : m = MM P := by omega
      subst hmm
      have e3 : μ' 31 3 = nI (kn P o r (MM P)) := by rw [F2 31 (by decide)]; exact g1
      refine k_X6_keepWith_21 C h1 (fun _ => ?_) (fun z => ?_) (fun z => ?_) (fun z => ?_) (fun z => ?_)
      · refine k _ (((F.mono (by simp)).tr (F2.mono (by simp))).ms (by decide)) ⟨?_, fun m hm hk => ?_⟩
        · rw [ms_mrw0, mrw_at, upd_at, if_pos rfl]
        · have := hA m hm hk
          unfold EnC at this ⊢
          rw [ms_mrw0, mrw_ne (by decide), mrw_ne (by decide), mrw_ne (by decide)]
          exact this
      all_goals
        exfalso
        revert z
        rw [e3]
        simp (disch := omega) only [ofNat_nI, nI_add, pk_mul, nI_clamp, nI_leI, nI_ltI, nI_eq, vp_in_nI_iff, nI_subr, nI_m1r, m1_eq, m1_eq2, m1_le, m1_le2, m1_lt, m1_lt2, m1_self, cv_sub, cv_add1, cv_eq, cv_eqI, cv_eqI2, cv_m1, cv_lt0, cv_leI, cv_Ile, cv_le, cv_lt, cv_Ilt, cv_ltI, not_true, not_false_iff, true_implies, false_implies, false_or, or_false, true_and, and_true, false_and, and_false, true_or, or_true]
        omega
    | succ d ih =>
      intro m μ' hm F2 hA hB
      have hmM : m < MM P := by omega
      have e3 : μ' 31 3 = nI (kn P o r (MM P)) := by rw [F2 31 (by decide)]; exact g1
      cases ek : keB P o r m with
      | false =>
        have ek' : keB P o (up r c (v + 1)) m = false := ke_out hW hr0 ek
        have := ih (m + 1) μ' (by omega) F2 (fun m' hm' hk => by
          by_cases q : m' = m
          · rw [q, ek'] at hk; cases hk
          · exact hA m' (by omega) hk) (fun m' h1 h2 hk => hB m' (by omega) h2 hk)
        rw [kn_0 ek, kn_0 ek'] at this
        exact this
      | true =>
        obtain ⟨k1, k2, k3⟩ := keB_iff.mp ek
        have hkm := kn_mono (P := P) (o := o) (r := r) (show m + 1 ≤ MM P by omega)
        rw [kn_1 ek] at hkm
        have hku := kn_up hW (o := o) (c := c) (v := v + 1) hr0 m
        have hen := hB m (Nat.le_refl m) hmM ek
        obtain ⟨en1, en2, en3⟩ := id hen
        have ep : (nI (kn P o r m)).toNatClampNeg = kn P o r m := nI_clamp (by omega)
        have ep' : (nI (kn P o (up r c (v + 1)) m)).toNatClampNeg = kn P o (up r c (v + 1)) m := nI_clamp (by omega)
        have ix : vp_in (nI (kn P o r m)) 1200 := by
          simp (disch := omega) only [ofNat_nI, nI_add, pk_mul, nI_clamp, nI_leI, nI_ltI, nI_eq, vp_in_nI_iff, nI_subr, nI_m1r, m1_eq, m1_eq2, m1_le, m1_le2, m1_lt, m1_lt2, m1_self, cv_sub, cv_add1, cv_eq, cv_eqI, cv_eqI2, cv_m1, cv_lt0, cv_leI, cv_Ile, cv_le, cv_lt, cv_Ilt, cv_ltI, not_true, not_false_iff, true_implies, false_implies, false_or, or_false, true_and, and_true, false_and, and_false, true_or, or_true]
          omega
        have ix' : vp_in (nI (kn P o (up r c (v + 1)) m)) 1200 := by
          simp (disch := omega) only [ofNat_nI, nI_add, pk_mul, nI_clamp, nI_leI, nI_ltI, nI_eq, vp_in_nI_iff, nI_subr, nI_m1r, m1_eq, m1_eq2, m1_le, m1_le2, m1_lt, m1_lt2, m1_self, cv_sub, cv_add1, cv_eq, cv_eqI, cv_eqI2, cv_m1, cv_lt0, cv_leI, cv_Ile, cv_le, cv_lt, cv_Ilt, cv_ltI, not_true, not_false_iff, true_implies, false_implies, false_or, or_false, true_and, and_true, false_and, and_false, true_or, or_true]
          omega
        have m4 := fun c => RwOk.le4 hW (mrow_le hW hmM) c
        have hh : rowI (mrow P m) &&& 15 <<< ((4 * nI c) &&& 31) = 0 ↔ mrow P m c = 0 := here_row (by omega) (fun c _ => m4 c)
        have hcl : rowI (mrow P m) &&& ceI c v = 0 ↔ mrow P m c ≠ v + 1 := and_row (by omega) (by omega) (m4 c)
        have hw' := wgt_le P hW r m
        have hwl := wth_le hW (up_le hr hv) hmM
        have hp2 : PlC c1 P μ' := hp.of ((F2 _ (by simp; omega)).trans (F _ (by simp; omega))) ((F2 _ (by simp; omega)).trans (F _ (by simp; omega))) ((F2 _ (by simp; omega)).trans (F _ (by simp; omega))) ((F2 _ (by simp; omega)).trans (F _ (by simp; omega)))
        have hne2 : NeC P (ceI c v) μ' := by
          unfold NeC
          rw [F2 31 (by decide), F2 35 (by decide)]
          exact hne
        have skip : keB P o (up r c (v + 1)) m = false → Wm G mX6_keepWith E (bm G mX6_keepWith E (pV Q)) μ' 21 [(0, .ref (gb G + 31)), (1, .ref (gb G + c1)), (2, .int (rowI r)), (3, .int (nI c)), (4, .int (ceI c v)), (5, .int (15 <<< ((4 * nI c) &&& 31))), (6, .int (nI (kn P o (up r c (v + 1)) m))), (7, .int (nI (kn P o r m) + 1))] [] := fun ek' => by
          have := ih (m + 1) μ' (by omega) F2 (fun m' hm' hk => by
            by_cases q : m' = m
            · rw [q, ek'] at hk; cases hk
            · exact hA m' (by omega) hk) (fun m' h1 h2 hk => hB m' (by omega) h2 hk)
          rw [kn_1 ek, kn_0 ek'] at this
          rw [nI_1]
          exact this
        refine k_X6_keepWith_21 C h1 (fun z => ?_) (fun _ => ix) (fun _ _ _ _ => ix) (fun _ v1 hv1 z => ?_) (fun _ v1 hv1 z1 z2 => ?_)
        · exfalso
          revert z
          rw [e3]
          simp (disch := omega) only [ofNat_nI, nI_add, pk_mul, nI_clamp, nI_leI, nI_ltI, nI_eq, vp_in_nI_iff, nI_subr, nI_m1r, m1_eq, m1_eq2, m1_le, m1_le2, m1_lt, m1_lt2, m1_self, cv_sub, cv_add1, cv_eq, cv_eqI, cv_eqI2, cv_m1, cv_lt0, cv_leI, cv_Ile, cv_le, cv_lt, cv_Ilt, cv_ltI, not_true, not_false_iff, true_implies, false_implies, false_or, or_false, true_and, and_true, false_and, and_false, true_or, or_true]
          omega
        · rw [ep, en1] at hv1 z
          rw [hh] at hv1
          have hmc : mrow P m c = 0 ∨ mrow P m c = v + 1 := by
            rcases hv1 with ⟨a, -⟩ | ⟨a, b⟩
            · exact Or.inl a
            · rcases z with z | ⟨-, z⟩
              · rw [b] at z; exact absurd z (by decide)
              · exact Or.inr (Classical.byContradiction fun y => z (hcl.mpr y))
          refine k_X6_keepWith_72 C h1 (s_sampleWith h1 hW hp2 hr hmM (by omega) hc hv hr0 k2 hmc hen hne2 fun w hw => ?_)
          have hiff := hw.iff hW
          rw [left_can hW hwl] at hiff
          have na : ¬ apt P (up r c (v + 1)) m := fun q => by
            obtain ⟨a, b⟩ := (apt_up_iff hW hmM hc k2).mp q
            rcases hmc with y | y
            · exact a y
            · exact b y
          have eL : (ms μ' 32 (nI (kn P o (up r c (v + 1)) m)).toNatClampNeg (μ' 32 (nI (kn P o r m)).toNatClampNeg)) (c1 + 1) (nI c).toNatClampNeg = nI (qL P c) := by
            rw [ms_mrw0, mrw_ne (by omega), nI_clamp (by omega)]
            exact hp2.2.2.2.2.1 c hc
          refine k_X6_keepWith_82 C h1 (fun w0 => skip ?_) (fun _ => ix) (fun _ => ix') (fun _ _ _ => ix') (fun _ _ _ => ix') (fun _ _ => ?_) (fun w0 v2 hv2 => ?_)
          · exact bnot fun q => hiff.mpr (keB_iff.mp q).2.2 w0
          · simp (disch := omega) only [ofNat_nI, nI_add, pk_mul, nI_clamp, nI_leI, nI_ltI, nI_eq, vp_in_nI_iff, nI_subr, nI_m1r, m1_eq, m1_eq2, m1_le, m1_le2, m1_lt, m1_lt2, m1_self, cv_sub, cv_add1, cv_eq, cv_eqI, cv_eqI2, cv_m1, cv_lt0, cv_leI, cv_Ile, cv_le, cv_lt, cv_Ilt, cv_ltI, not_true, not_false_iff, true_implies, false_implies, false_or, or_false, true_and, and_true, false_and, and_false, true_or, or_true]
            omega
          · have hcan := hiff.mp w0
            have ek' : keB P o (up r c (v + 1)) m = true := keB_iff.mpr ⟨k1, na, hcan⟩
            have e2 : v2 = nI (wgt P (up r c (v + 1)) m) := by
              rw [eL, ep, en2] at hv2
              rcases hmc with y | y
              · rw [wgt_up0 hW hmM hc k2 y]
                rcases hv1 with ⟨-, b⟩ | ⟨b, -⟩
                · rcases hv2 with ⟨-, d⟩ | ⟨d, -⟩
                  · exact d
                  · exact absurd b d
                · exact absurd y b
              · rw [wgt_up1 hW hmM hc k2 hr0 y]
                rcases hv1 with ⟨b, -⟩ | ⟨-, b⟩
                · omega
                · rcases hv2 with ⟨d, -⟩ | ⟨-, d⟩
                  · rw [b] at d; exact absurd d (by decide)
                  · rw [d, pk_mul]
            have := ih (m + 1) (ms (ms (ms μ' 32 (kn P o (up r c (v + 1)) m) (rowI (mrow P m))) 33 (kn P o (up r c (v + 1)) m) (nI (wgt P (up r c (v + 1)) m))) 34 (kn P o (up r c (v + 1)) m) w) (by omega) (((F2.ms (by decide)).ms (by decide)).ms (by decide)) (fun m' hm' hk => ?_) (fun m' h1 h2 hk => ?_)
            · rw [kn_1 ek, kn_1 ek'] at this
              rw [e2, ep', ep, en1, nI_1, nI_1]
              exact this
            · unfold EnC
              simp only [ms_mrw0]
              rw [mrw_ne (show (32 : Nat) ≠ 34 by decide), mrw_ne (show (32 : Nat) ≠ 33 by decide), mrw_at, upd_at]
              rw [mrw_ne (show (33 : Nat) ≠ 34 by decide), mrw_at, upd_at]
              rw [mrw_at, upd_at]
              by_cases q : m' = m
              · rw [q, if_pos rfl, if_pos rfl, if_pos rfl]
                refine ⟨rfl, rfl, ?_⟩
                rcases hw with ⟨a, -⟩ | a
                · exact absurd a w0
                · exact a
              · have hmn := kn_mono (P := P) (o := o) (r := up r c (v + 1)) (show m' + 1 ≤ m by omega)
                rw [kn_1 hk] at hmn
                rw [if_neg (by omega), if_neg (by omega), if_neg (by omega)]
                exact hA m' (by omega) hk
            · have hmn := kn_mono (P := P) (o := o) (r := r) (show m + 1 ≤ m' by omega)
              rw [kn_1 ek] at hmn
              unfold EnC
              simp only [ms_mrw0]
              rw [mrw_ne (show (32 : Nat) ≠ 34 by decide), mrw_ne (show (32 : Nat) ≠ 33 by decide), mrw_at, upd_at]
              rw [mrw_ne (show (33 : Nat) ≠ 34 by decide), mrw_at, upd_at]
              rw [mrw_at, upd_at]
              rw [if_neg (by omega), if_neg (by omega), if_neg (by omega)]
              exact hB m' (by omega) h2 hk
        · rw [ep, en1] at hv1 z2
          rw [hh] at hv1
          rw [hcl] at z2
          have ek' : keB P o (up r c (v + 1)) m = false := bnot fun q => by
            refine (keB_iff.mp q).2.1 ((apt_up_iff hW hmM hc k2).mpr ⟨?_, z2⟩)
            rcases hv1 with ⟨-, b⟩ | ⟨a, -⟩
            · exact absurd b z1
            · exact a
          exact k_X6_keepWith_82 C h1 (fun _ => skip ek') (fun z => absurd rfl z) (fun z => absurd rfl z) (fun z => absurd rfl z) (fun z => absurd rfl z) (fun z => absurd rfl z) (fun z => absurd rfl z)
  refine loop (MM P) 0 ν (by omega) (Fr.rf _ _) (fun m hm => absurd hm (Nat.not_lt_zero m)) (fun m _ hm hk => ?_)
  have := hg.2 m hm hk
  unfold EnC at this ⊢
  rw [F 32 (by decide), F 33 (by decide), F 34 (by decide)]
  exact this
theorem bst_can {can : Nat → Bool} {h : Nat → Nat} : ∀ {n b g : Nat}, bst can h n = (b, g) → (b ≠ 0 → b ≤ n ∧ can (b - 1) = true) ∧ (b = 0 → g = 0 ∧ ∀ v, v < n → can v = false)
  | 0, b, g, e => by
    have e1 : (0, 0) = (b, g) := e
    cases e1
    exact ⟨fun z => absurd rfl z, fun _ => ⟨rfl, fun v hv => absurd hv (Nat.not_lt_zero v)⟩⟩
  | n + 1, b, g, e => by
    rw [bst] at e
    by_cases q : can n = true ∧ (bst can h n).2 < h n + 1
    · rw [if_pos q] at e
      cases e
      exact ⟨fun _ => ⟨Nat.le_refl _, q.1⟩, fun z => by omega⟩
    · rw [if_neg q] at e
      obtain ⟨a1, a2⟩ := bst_can e
      refine ⟨fun z => ⟨by have := (a1 z).1; omega, (a1 z).2⟩, fun z => ⟨(a2 z).1, fun v hv => ?_⟩⟩
      by_cases y : v = n
      · rw [y]
        rw [e] at q
        exact bnot fun w => q ⟨w, by show g < _; rw [(a2 z).1]; omega⟩
      · exact (a2 z).2 v (by omega)
theorem canB_none {P : Pl} (h : PW P) {r : Nat → Nat} {c : Nat} (hc : c < qC P) (hr0 : r c = 0) (hn : ∀ v, v < qL P c → canB P (up r c (v + 1)) = false) : canB P r = false := bnot fun z => by
  rw [canB_iff h] at z
  obtain ⟨f, a, b, d⟩ := z
  have : canB P (up r c (f c + 1)) = true := (canB_iff h).mpr ⟨f, a, fun c' hc' hne => by
    by_cases q : c' = c
    · rw [q, up_at, if_pos rfl]
    · rw [up_at, if_neg q] at hne ⊢
      exact b c' hc' hne, d⟩
  rw [hn _ (a c hc)] at this
  cases this
theorem up_zero {r : Nat → Nat} {c : Nat} (h : r c = 0) : up r c 0 = r := funext fun j => by
  rw [up_at]
  by_cases q : j = c
  · rw [if_pos q, q, h]
  · rw [if_neg q]
theorem s_makeRow {G : mG} {Q : Int32 → mM → Prop} {μ : mM} {P : Pl} {h : Nat → Nat} {c1 : Nat} (h1 : sh c1 = (0, 3)) (hc1 : c1 < 28) (hW : PW P) (hM : MM P ≤ 1200) (H : MxC P h μ) (hp : PlC c1 P μ) (hb : ∀ m, m < MM P → h m < 2 ^ 31) (k : ∀ μ', Fr [31, 32, 33, 34, 35] μ μ' → Q (rowI (grR P (opB P h) (qC P))) μ') :
    CtI G mX6_makeRow [.ref (gb G + 31), .ref (gb G + c1), .ref (gb G + 22)] μ Q := by
  have hC8 := hW.ct.2.2.2
  refine e_X6_makeRow h1 fun E C => k_X6_makeRow_0 C h1 ?_
  refine s_gather hW hM H hb fun ν F hg => k_X6_makeRow_5 C h1 ?_
  have loop : ∀ (d c : Nat) (μ' : mM), c + d = qC P → Fr [31, 32, 33, 34, 35] μ μ' → GaC P (opB P h) (grR P (opB P h) c) μ' → Wm G mX6_makeRow E (bm G mX6_makeRow E (pI Q)) μ' 10 [(0, .ref (gb G + 31)), (1, .ref (gb G + c1)), (3, .int (rowI (grR P (opB P h) c))), (4, .int (nI c))] [] := by
    intro d
    induction d with
    | zero =>
      intro c μ' hcd F hg
      have hcc : c = qC P := by omega
      have e0 : μ' c1 0 = nI (qC P) := by rw [F c1 (by simp; omega)]; exact hp.1
      rw [hcc]
      refine k_X6_makeRow_10 C h1 (fun _ => k μ' F) (fun z => ?_)
      exfalso
      revert z
      rw [e0]
      simp (disch := omega) only [ofNat_nI, nI_add, pk_mul, nI_clamp, nI_leI, nI_ltI, nI_eq, vp_in_nI_iff, nI_subr, nI_m1r, m1_eq, m1_eq2, m1_le, m1_le2, m1_lt, m1_lt2, m1_self, cv_sub, cv_add1, cv_eq, cv_eqI, cv_eqI2, cv_m1, cv_lt0, cv_leI, cv_Ile, cv_le, cv_lt, cv_Ilt, cv_ltI, not_true, not_false_iff, true_implies, false_implies, false_or, or_false, true_and, and_true, false_and, and_false, true_or, or_true]
      omega
    | succ d ih =>
      intro c μ' hcd F hg
      have hcC : c < qC P := by omega
      have e0 : μ' c1 0 = nI (qC P) := by rw [F c1 (by simp; omega)]; exact hp.1
      have hp2 : PlC c1 P μ' := hp.of (F _ (by simp; omega)) (F _ (by simp; omega)) (F _ (by simp; omega)) (F _ (by simp; omega))
      have hr : ∀ j, grR P (opB P h) c j ≤ qL P j := fun j => grR_le P (opB P h)
      have hr0 : grR P (opB P h) c c = 0 := grR_hi P (opB P h) (Nat.le_refl c)
      refine k_X6_makeRow_10 C h1 (fun z => ?_) (fun _ => s_bestCell h1 hc1 hW hM hp2 hg hr hcC hr0 fun ν b F2 e31 hb => ?_)
      · exfalso
        revert z
        rw [e0]
        simp (disch := omega) only [ofNat_nI, nI_add, pk_mul, nI_clamp, nI_leI, nI_ltI, nI_eq, vp_in_nI_iff, nI_subr, nI_m1r, m1_eq, m1_eq2, m1_le, m1_le2, m1_lt, m1_lt2, m1_self, cv_sub, cv_add1, cv_eq, cv_eqI, cv_eqI2, cv_m1, cv_lt0, cv_leI, cv_Ile, cv_le, cv_lt, cv_Ilt, cv_ltI, not_true, not_false_iff, true_implies, false_implies, false_or, or_false, true_and, and_true, false_and, and_false, true_or, or_true]
        omega
      · have hgs : grR P (opB P h) (c + 1) = up (grR P (opB P h) c) c b := by rw [hb]; rfl
        have hp3 : PlC c1 P ν := hp2.of (F2 _ (by simp; omega)) (F2 _ (by simp; omega)) (F2 _ (by simp; omega)) (F2 _ (by simp; omega))
        have hg2 : GaC P (opB P h) (grR P (opB P h) c) ν := hg.of e31 (F2 32 (by decide)) (F2 33 (by decide)) (F2 34 (by decide))
        have F3 : Fr [31, 32, 33, 34, 35] μ ν := F.tr (F2.mono (by simp))
        have hbc := bst_can (n := qL P c) (b := b) (Prod.ext hb.symm rfl : bst (fun v => canB P (up (grR P (opB P h) c) c (v + 1))) (fun v => hopN P (opB P h) (up (grR P (opB P h) c) c (v + 1)) (MM P)) (qL P c) = (b, _))
        by_cases q : b = 0
        · rw [if_pos q]
          have hnone : ∀ m, m < MM P → keB P (opB P h) (grR P (opB P h) c) m = false := fun m hm => bnot fun z => by
            obtain ⟨-, k2, k3⟩ := keB_iff.mp z
            have := canB_none hW hcC hr0 (hbc.2 q).2
            rw [canB_mono hW (wth_ext hW hm k2) k3] at this
            cases this
          refine k_X6_makeRow_27 C h1 (s_keepNone h1 hc1 hW hp3 hg2 hnone fun ν2 F4 hg3 => k_X6_makeRow_39 C h1 ?_)
          rw [q, up_zero hr0] at hgs
          have := ih (c + 1) ν2 (by omega) (F3.tr F4) (by rw [hgs]; exact hg3)
          rw [hgs] at this
          rw [nI_1, show rowI (grR P (opB P h) c) ||| 0 = rowI (grR P (opB P h) c) from b_ext fun i hi => by rw [b_or, b_0, Bool.or_false]]
          exact this
        · rw [if_neg q]
          obtain ⟨b1, b2⟩ := hbc.1 q
          have l4 := (hW.lv hcC).2
          have eb : b - 1 + 1 = b := by omega
          refine k_X6_makeRow_27 C h1 (s_keepWith h1 hc1 hW hM hp3 hg2 hr hcC (show b - 1 < qL P c by omega) hr0 fun ν2 F4 hg3 => k_X6_makeRow_39 C h1 ?_)
          rw [eb, ← hgs] at hg3
          have := ih (c + 1) ν2 (by omega) (F3.tr F4) hg3
          have e2 : rowI (grR P (opB P h) c) ||| ceI c (b - 1) = rowI (grR P (opB P h) (c + 1)) := by
            rw [hgs, ← eb]
            exact row_bit (by omega) (by omega) hr0
          rw [nI_1, e2]
          exact this
  refine loop (qC P) 0 ν (by omega) F hg |> fun z => ?_
  have e0 : rowI (grR P (opB P h) 0) = 0 := rowI_0
  rw [e0] at z
  exact z

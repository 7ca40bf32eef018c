/-! THE CLASS: the order -/
theorem s_placeStart {G : mG} {Q : mM → Prop} {μ : mM} {P : Pl} {h : Nat → Nat} {c1 n : Nat} {R : Nat → Nat → Nat} {t : Nat → Nat} (h1 : sh c1 = (0, 6)) (hc1 : c1 < 30) (hW : PW P) (hM : MM P ≤ 1200) (hn : n ≤ 64) (H : MxC P h μ) (hr : RowsC c1 n R t μ) (hR : ∀ j, j < n → ∀ c, R j c ≤ qL P c)
    (k : ∀ μ', Fr [37, 40, 41] μ μ' → μ' 37 0 = nI 0 → MkC P R n (fun _ => false) (fun _ => false) μ' → Q μ') : CtV G mX3_start [.ref (gb G + 36), .ref (gb G + c1), .ref (gb G + 22)] μ Q := by
  have n56 := (ns_pos hW.ct).2
  obtain ⟨z1, z2⟩ := size_eq hM H.1 n56
  refine e_X3_start h1 fun E C => k_X3_start_0 C h1 z1 ?_
  rw [z2]
  have rows : ∀ (d x : Nat) (μ' : mM), x + d = n → Fr [37, 40, 41] μ μ' → μ' 37 0 = nI 0 → (∀ m, m < MM P → μ' 41 m = 0) → (∀ y, y < x → μ' 40 y = nI (cuN P R y (fun _ => false))) →
      Wm G mX3_start E (bm G mX3_start E (pV Q)) μ' 39 [(0, .ref (gb G + 36)), (1, .ref (gb G + c1)), (2, .ref (gb G + 22)), (4, .int (nI x))] [] := by
    intro d
    induction d with
    | zero =>
      intro x μ' hx F a b e
      have hxn : x = n := by omega
      have e0 : μ' c1 0 = nI n := by rw [F c1 (by simp; omega)]; exact hr.1
      refine k_X3_start_39 C h1 (fun _ => k μ' F a ⟨fun m hm => b m hm, fun y hy => ?_⟩) (fun z => ?_) (fun z => ?_)
      · exact (e y (by omega)).trans (if_neg Bool.false_ne_true).symm
      all_goals
        exfalso
        revert z
        rw [e0]
        simp (disch := omega) only [ofNat_nI, nI_add, pk_mul, nI_clamp, nI_leI, nI_ltI, nI_eq, vp_in_nI_iff, nI_subr, nI_m1r, m1_eq, m1_eq2, m1_le, m1_le2, m1_lt, m1_lt2, m1_self, cv_sub, cv_add1, cv_eq, cv_eqI, cv_eqI2, cv_m1, cv_lt0, cv_leI, cv_Ile, cv_le, cv_lt, cv_Ilt, cv_ltI, not_true, not_false_iff, true_implies, false_implies, false_or, or_false, true_and, and_true, false_and, and_false, true_or, or_true]
        omega
    | succ d ih =>
      intro x μ' hx F a b e
      have hxn : x < n := by omega
      have e0 : μ' c1 0 = nI n := by rw [F c1 (by simp; omega)]; exact hr.1
      have ex : (nI x).toNatClampNeg = x := nI_clamp (by omega)
      have ix : vp_in (nI x) 64 := by
        simp (disch := omega) only [ofNat_nI, nI_add, pk_mul, nI_clamp, nI_leI, nI_ltI, nI_eq, vp_in_nI_iff, nI_subr, nI_m1r, m1_eq, m1_eq2, m1_le, m1_le2, m1_lt, m1_lt2, m1_self, cv_sub, cv_add1, cv_eq, cv_eqI, cv_eqI2, cv_m1, cv_lt0, cv_leI, cv_Ile, cv_le, cv_lt, cv_Ilt, cv_ltI, not_true, not_false_iff, true_implies, false_implies, false_or, or_false, true_and, and_true, false_and, and_false, true_or, or_true]
        omega
      refine k_X3_start_39 C h1 (fun z => ?_) (fun _ => ix) (fun _ => ?_)
      · exfalso
        revert z
        rw [e0]
        simp (disch := omega) only [ofNat_nI, nI_add, pk_mul, nI_clamp, nI_leI, nI_ltI, nI_eq, vp_in_nI_iff, nI_subr, nI_m1r, m1_eq, m1_eq2, m1_le, m1_le2, m1_lt, m1_lt2, m1_self, cv_sub, cv_add1, cv_eq, cv_eqI, cv_eqI2, cv_m1, cv_lt0, cv_leI, cv_Ile, cv_le, cv_lt, cv_Ilt, cv_ltI, not_true, not_false_iff, true_implies, false_implies, false_or, or_false, true_and, and_true, false_and, and_false, true_or, or_true]
        omega
      · rw [ex]
        have inner : ∀ (f i : Nat) (ν : mM), i + f = ns (qC P) (qT P) → Fr [37, 40, 41] μ ν → ν 37 0 = nI 0 → (∀ m, m < MM P → ν 41 m = 0) → (∀ y, y < x → ν 40 y = nI (cuN P R y (fun _ => false))) → ν 40 x = nI (sm i (fun i => match numO P i (R x) with | none => 0 | some m => ((fun _ => !false) m).toNat)) →
            Wm G mX3_start E (bm G mX3_start E (pV Q)) ν 59 [(0, .ref (gb G + 36)), (1, .ref (gb G + c1)), (2, .ref (gb G + 22)), (4, .int (nI x)), (5, .int (nI i))] [] := by
          intro f
          induction f with
          | zero =>
            intro i ν hi F2 a2 b2 e2 e3
            have hin : i = ns (qC P) (qT P) := by omega
            subst hin
            have es : ν 23 0 = nI (ns (qC P) (qT P)) := by rw [F2 23 (by decide)]; exact H.1.1
            refine k_X3_start_59 C h1 (fun _ => ?_) (fun z => ?_) (fun z => ?_)
            · rw [nI_1]
              refine ih (x + 1) ν (by omega) F2 a2 b2 (fun y hy => ?_)
              by_cases q : y = x
              · rw [q, e3]
                exact (congrArg nI (set_sum hW (hR x hxn) (fun _ => !false))).symm
              · exact e2 y (by omega)
            all_goals
              exfalso
              revert z
              rw [es]
              simp (disch := omega) only [ofNat_nI, nI_add, pk_mul, nI_clamp, nI_leI, nI_ltI, nI_eq, vp_in_nI_iff, nI_subr, nI_m1r, m1_eq, m1_eq2, m1_le, m1_le2, m1_lt, m1_lt2, m1_self, cv_sub, cv_add1, cv_eq, cv_eqI, cv_eqI2, cv_m1, cv_lt0, cv_leI, cv_Ile, cv_le, cv_lt, cv_Ilt, cv_ltI, not_true, not_false_iff, true_implies, false_implies, false_or, or_false, true_and, and_true, false_and, and_false, true_or, or_true]
              omega
          | succ f ihf =>
            intro i ν hi F2 a2 b2 e2 e3
            have hin : i < ns (qC P) (qT P) := by omega
            have es : ν 23 0 = nI (ns (qC P) (qT P)) := by rw [F2 23 (by decide)]; exact H.1.1
            have e1 : ν (c1 + 1) (nI x).toNatClampNeg = rowI (R x) := by rw [ex, F2 (c1 + 1) (by simp; omega)]; exact hr.2.1 x hxn
            refine k_X3_start_59 C h1 (fun z => ?_) (fun _ => ix) (fun _ => ?_)
            · exfalso
              revert z
              rw [es]
              simp (disch := omega) only [ofNat_nI, nI_add, pk_mul, nI_clamp, nI_leI, nI_ltI, nI_eq, vp_in_nI_iff, nI_subr, nI_m1r, m1_eq, m1_eq2, m1_le, m1_le2, m1_lt, m1_lt2, m1_self, cv_sub, cv_add1, cv_eq, cv_eqI, cv_eqI2, cv_m1, cv_lt0, cv_leI, cv_Ile, cv_le, cv_lt, cv_Ilt, cv_ltI, not_true, not_false_iff, true_implies, false_implies, false_or, or_false, true_and, and_true, false_and, and_false, true_or, or_true]
              omega
            · rw [e1]
              refine s_numberIn (by rfl) hW (H.1.of (F2 23 (by decide)) (F2 24 (by decide)) (F2 25 (by decide)) (F2 27 (by decide))) (hR x hxn) hin (k_X3_start_95 C h1 (fun _ _ => ix) (fun v hv => ?_))
              have ev : v = nI (match numO P i (R x) with | none => 0 | some m => ((fun _ => !false) m).toNat) := by
                cases q : numO P i (R x) with
                | none =>
                  rw [q] at hv
                  rcases hv with ⟨-, y⟩ | ⟨y, -⟩
                  · exact y
                  · exact absurd rfl y
                | some m =>
                  rw [q] at hv
                  obtain ⟨-, hm, -⟩ := numO_some hW (hR x hxn) hin q
                  rcases hv with ⟨y, -⟩ | ⟨-, y⟩
                  · exact absurd y (noI_m hM hm)
                  · exact y
              rw [ex, e3, ev, nI_add, nI_1]
              refine ihf (i + 1) _ (by omega) (F2.ms (by decide)) ?_ (fun m hm => ?_) (fun y hy => ?_) ?_
              · rw [ms_ne (by decide)]; exact a2
              · rw [ms_ne (by decide)]; exact b2 m hm
              · rw [ms_row, upd_at, if_neg (by omega)]; exact e2 y hy
              · rw [ms_row, upd_at, if_pos rfl]
                rfl
        refine inner (ns (qC P) (qT P)) 0 _ (by omega) (F.ms (by decide)) ?_ (fun m hm => ?_) (fun y hy => ?_) ?_
        · rw [ms_ne (by decide)]; exact a
        · rw [ms_ne (by decide)]; exact b m hm
        · rw [ms_row, upd_at, if_neg (by omega)]; exact e y hy
        · rw [ms_row, upd_at, if_pos rfl]
          rfl
  have clear : ∀ (d m : Nat) (μ' : mM), m + d = MM P → Fr [37, 40, 41] μ μ' → μ' 37 0 = nI 0 → (∀ m', m' < m → μ' 41 m' = 0) → Wm G mX3_start E (bm G mX3_start E (pV Q)) μ' 16 [(0, .ref (gb G + 36)), (1, .ref (gb G + c1)), (2, .ref (gb G + 22)), (3, .int (nI (MM P))), (4, .int (nI m))] [] := by
    intro d
    induction d with
    | zero =>
      intro m μ' hm F a b
      refine k_X3_start_16 C h1 (fun _ => rows n 0 μ' (by omega) F a (fun m' hm' => b m' (by omega)) (fun y hy => absurd hy (Nat.not_lt_zero y))) (fun z => ?_) (fun z => ?_)
      all_goals
        exfalso
        revert z
        simp (disch := omega) only [ofNat_nI, nI_add, pk_mul, nI_clamp, nI_leI, nI_ltI, nI_eq, vp_in_nI_iff, nI_subr, nI_m1r, m1_eq, m1_eq2, m1_le, m1_le2, m1_lt, m1_lt2, m1_self, cv_sub, cv_add1, cv_eq, cv_eqI, cv_eqI2, cv_m1, cv_lt0, cv_leI, cv_Ile, cv_le, cv_lt, cv_Ilt, cv_ltI, not_true, not_false_iff, true_implies, false_implies, false_or, or_false, true_and, and_true, false_and, and_false, true_or, or_true]
        omega
    | succ d ih =>
      intro m μ' hm F a b
      refine k_X3_start_16 C h1 (fun z => ?_) (fun _ => ?_) (fun _ => ?_)
      · exfalso
        revert z
        simp (disch := omega) only [ofNat_nI, nI_add, pk_mul, nI_clamp, nI_leI, nI_ltI, nI_eq, vp_in_nI_iff, nI_subr, nI_m1r, m1_eq, m1_eq2, m1_le, m1_le2, m1_lt, m1_lt2, m1_self, cv_sub, cv_add1, cv_eq, cv_eqI, cv_eqI2, cv_m1, cv_lt0, cv_leI, cv_Ile, cv_le, cv_lt, cv_Ilt, cv_ltI, not_true, not_false_iff, true_implies, false_implies, false_or, or_false, true_and, and_true, false_and, and_false, true_or, or_true]
        omega
      · simp (disch := omega) only [ofNat_nI, nI_add, pk_mul, nI_clamp, nI_leI, nI_ltI, nI_eq, vp_in_nI_iff, nI_subr, nI_m1r, m1_eq, m1_eq2, m1_le, m1_le2, m1_lt, m1_lt2, m1_self, cv_sub, cv_add1, cv_eq, cv_eqI, cv_eqI2, cv_m1, cv_lt0, cv_leI, cv_Ile, cv_le, cv_lt, cv_Ilt, cv_ltI, not_true, not_false_iff, true_implies, false_implies, false_or, or_false, true_and, and_true, false_and, and_false, true_or, or_true]
        omega
      · rw [nI_clamp (by omega), nI_1]
        refine ih (m + 1) _ (by omega) (F.ms (by decide)) ?_ (fun m' hm' => ?_)
        · rw [ms_ne (by decide)]; exact a
        · rw [ms_row, upd_at]
          by_cases q : m' = m
          · rw [if_pos q]
          · rw [if_neg q]; exact b m' (by omega)
  refine clear (MM P) 0 _ (by omega) ((Fr.rf _ μ).ms (by decide)) ?_ (fun m hm => absurd hm (Nat.not_lt_zero m))
  rw [ms_row, upd_at, if_pos rfl]
  rfl
theorem s_bestOf {G : mG} {Q : Int32 → mM → Prop} {μ : mM} {c1 n : Nat} {R : Nat → Nat → Nat} {t u : Nat → Nat} (h1 : sh c1 = (0, 6)) (hn : 1 ≤ n ∧ n ≤ 64) (hr : RowsC c1 n R t μ) (hu : ∀ x, x < n → μ 40 x = cv (u x) ∧ u x < 2 ^ 31)
    (k : ∀ b, b < n → (∀ y, y < n → u y ≤ u b) → (∀ y, y < b → u y < u b) → Q (nI b) μ) : CtI G mX3_bestOf [.ref (gb G + 36), .ref (gb G + c1)] μ Q := by
  refine e_X3_bestOf h1 fun E C => k_X3_bestOf_0 C h1 ?_
  have loop : ∀ (d x b : Nat), x + d = n → b < x → (∀ y, y < x → u y ≤ u b) → (∀ y, y < b → u y < u b) → Wm G mX3_bestOf E (bm G mX3_bestOf E (pI Q)) μ 4 [(0, .ref (gb G + 36)), (1, .ref (gb G + c1)), (2, .int (nI b)), (3, .int (nI x))] [] := by
    intro d
    induction d with
    | zero =>
      intro x b hx hb h2 h3
      have hxn : x = n := by omega
      refine k_X3_bestOf_4 C h1 (fun _ => k b (by omega) (fun y hy => h2 y (by omega)) h3) (fun z => ?_) (fun z => ?_) (fun z => ?_)
      all_goals
        exfalso
        revert z
        rw [hr.1]
        simp (disch := omega) only [ofNat_nI, nI_add, pk_mul, nI_clamp, nI_leI, nI_ltI, nI_eq, vp_in_nI_iff, nI_subr, nI_m1r, m1_eq, m1_eq2, m1_le, m1_le2, m1_lt, m1_lt2, m1_self, cv_sub, cv_add1, cv_eq, cv_eqI, cv_eqI2, cv_m1, cv_lt0, cv_leI, cv_Ile, cv_le, cv_lt, cv_Ilt, cv_ltI, not_true, not_false_iff, true_implies, false_implies, false_or, or_false, true_and, and_true, false_and, and_false, true_or, or_true]
        omega
    | succ d ih =>
      intro x b hx hb h2 h3
      refine k_X3_bestOf_4 C h1 (fun z => ?_) (fun _ => ?_) (fun _ => ?_) (fun _ v hv => ?_)
      · exfalso
        revert z
        rw [hr.1]
        simp (disch := omega) only [ofNat_nI, nI_add, pk_mul, nI_clamp, nI_leI, nI_ltI, nI_eq, vp_in_nI_iff, nI_subr, nI_m1r, m1_eq, m1_eq2, m1_le, m1_le2, m1_lt, m1_lt2, m1_self, cv_sub, cv_add1, cv_eq, cv_eqI, cv_eqI2, cv_m1, cv_lt0, cv_leI, cv_Ile, cv_le, cv_lt, cv_Ilt, cv_ltI, not_true, not_false_iff, true_implies, false_implies, false_or, or_false, true_and, and_true, false_and, and_false, true_or, or_true]
        omega
      · simp (disch := omega) only [ofNat_nI, nI_add, pk_mul, nI_clamp, nI_leI, nI_ltI, nI_eq, vp_in_nI_iff, nI_subr, nI_m1r, m1_eq, m1_eq2, m1_le, m1_le2, m1_lt, m1_lt2, m1_self, cv_sub, cv_add1, cv_eq, cv_eqI, cv_eqI2, cv_m1, cv_lt0, cv_leI, cv_Ile, cv_le, cv_lt, cv_Ilt, cv_ltI, not_true, not_false_iff, true_implies, false_implies, false_or, or_false, true_and, and_true, false_and, and_false, true_or, or_true]
        omega
      · simp (disch := omega) only [ofNat_nI, nI_add, pk_mul, nI_clamp, nI_leI, nI_ltI, nI_eq, vp_in_nI_iff, nI_subr, nI_m1r, m1_eq, m1_eq2, m1_le, m1_le2, m1_lt, m1_lt2, m1_self, cv_sub, cv_add1, cv_eq, cv_eqI, cv_eqI2, cv_m1, cv_lt0, cv_leI, cv_Ile, cv_le, cv_lt, cv_Ilt, cv_ltI, not_true, not_false_iff, true_implies, false_implies, false_or, or_false, true_and, and_true, false_and, and_false, true_or, or_true]
        omega
      · have u1 := hu x (by omega)
        have u2 := hu b (by omega)
        rw [nI_clamp (by omega), nI_clamp (by omega), u1.1, u2.1, cv_le u1.2 u2.2] at hv
        rw [nI_1]
        rcases hv with ⟨y, e⟩ | ⟨y, e⟩
        · rw [e]
          refine ih (x + 1) b (by omega) (by omega) (fun w hw => ?_) h3
          by_cases q : w = x
          · rw [q]; exact y
          · exact h2 w (by omega)
        · rw [e]
          refine ih (x + 1) x (by omega) (by omega) (fun w hw => ?_) (fun w hw => ?_)
          · by_cases q : w = x
            · rw [q]; exact Nat.le_refl _
            · have := h2 w (by omega); omega
          · have := h2 w (by omega); omega
  exact loop (n - 1) 1 0 (by omega) (by omega) (fun y hy => by rw [show y = 0 by omega]; exact Nat.le_refl _) (fun y hy => absurd hy (Nat.not_lt_zero y))
theorem bst_max {h : Nat → Nat} : ∀ {n b g : Nat}, bst (fun _ => true) h n = (b, g) → (b = 0 → n = 0) ∧ (b ≠ 0 → b ≤ n ∧ g = h (b - 1) + 1 ∧ (∀ i, i < n → h i ≤ h (b - 1)) ∧ ∀ i, i < b - 1 → h i < h (b - 1))
  | 0, b, g, e => by
    have e1 : (0, 0) = (b, g) := e
    cases e1
    exact ⟨fun _ => rfl, fun z => absurd rfl z⟩
  | n + 1, b, g, e => by
    rw [bst] at e
    obtain ⟨b1, g1, e1⟩ : ∃ b1 g1, bst (fun _ => true) h n = (b1, g1) := ⟨_, _, rfl⟩
    obtain ⟨a1, a2⟩ := bst_max e1
    rw [e1] at e
    by_cases q : g1 < h n + 1
    · rw [if_pos ⟨rfl, q⟩] at e
      cases e
      refine ⟨fun z => by omega, fun _ => ⟨Nat.le_refl _, rfl, fun i hi => ?_, fun i hi => ?_⟩⟩
      · show h i ≤ h n
        by_cases b0 : b1 = 0
        · have := a1 b0
          rw [show i = n by omega]; exact Nat.le_refl _
        · obtain ⟨c1, c2, c3, c4⟩ := a2 b0
          by_cases z : i = n
          · rw [z]; exact Nat.le_refl _
          · have := c3 i (by omega); omega
      · show h i < h n
        have hi' : i < n := hi
        by_cases b0 : b1 = 0
        · have := a1 b0; omega
        · obtain ⟨c1, c2, c3, c4⟩ := a2 b0
          have := c3 i (by omega); omega
    · rw [if_neg (fun z => q z.2)] at e
      have hb : b1 = b := congrArg Prod.fst e
      have hg : g1 = g := congrArg Prod.snd e
      subst hb
      subst hg
      have b0 : b1 ≠ 0 := fun z => by
        have := a1 z
        subst this
        have e2 : (0, 0) = (b1, g1) := e1
        cases e2
        omega
      obtain ⟨c1, c2, c3, c4⟩ := a2 b0
      refine ⟨fun z => absurd z b0, fun _ => ⟨by omega, c2, fun i hi => ?_, c4⟩⟩
      by_cases z : i = n
      · rw [z]; omega
      · exact c3 i (by omega)

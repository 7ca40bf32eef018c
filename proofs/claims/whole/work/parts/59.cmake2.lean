/-! THE CLASS: the open mixes that can be with a row -/
def keB (P : Pl) (o : Nat → Bool) (r : Nat → Nat) (m : Nat) : Bool := o m && decide (∀ k, k < qT P → r (mcol P m k) = 0 ∨ r (mcol P m k) = mlev P m k + 1) && canB P (wth P r m)
theorem apt_all {P : Pl} {r : Nat → Nat} {m : Nat} : (∀ k, k < qT P → r (mcol P m k) = 0 ∨ r (mcol P m k) = mlev P m k + 1) ↔ ¬ apt P r m := by
  constructor
  · rintro z ⟨k, hk, a, b⟩
    rcases z k hk with q | q
    · exact a q
    · exact b q
  · intro z k hk
    by_cases q : r (mcol P m k) = 0
    · exact Or.inl q
    · exact Or.inr (Classical.byContradiction fun y => z ⟨k, hk, q, y⟩)
theorem keB_iff {P : Pl} {o : Nat → Bool} {r : Nat → Nat} {m : Nat} : keB P o r m = true ↔ o m = true ∧ ¬ apt P r m ∧ canB P (wth P r m) = true := by
  unfold keB
  rw [Bool.and_eq_true, Bool.and_eq_true, decide_eq_true_iff, apt_all, and_assoc]
def kn (P : Pl) (o : Nat → Bool) (r : Nat → Nat) (n : Nat) : Nat := sm n (fun m => (keB P o r m).toNat)
theorem kn_1 {P : Pl} {o : Nat → Bool} {r : Nat → Nat} {n : Nat} (h : keB P o r n = true) : kn P o r (n + 1) = kn P o r n + 1 := by
  show sm n _ + (keB P o r n).toNat = _
  rw [h]
  rfl
theorem kn_0 {P : Pl} {o : Nat → Bool} {r : Nat → Nat} {n : Nat} (h : keB P o r n = false) : kn P o r (n + 1) = kn P o r n := by
  show sm n _ + (keB P o r n).toNat = _
  rw [h]
  rfl
theorem kn_le (P : Pl) (o : Nat → Bool) (r : Nat → Nat) (n : Nat) : kn P o r n ≤ n := by
  have := sm_le (n := n) (B := 1) (f := fun m => (keB P o r m).toNat) (fun i _ => bool_lt _)
  unfold kn
  omega
theorem kn_mono {P : Pl} {o : Nat → Bool} {r : Nat → Nat} {m n : Nat} (h : m ≤ n) : kn P o r m ≤ kn P o r n := sm_part _ h
def EnC (P : Pl) (r : Nat → Nat) (m : Nat) (μ : mM) (p : Nat) : Prop := μ 32 p = rowI (mrow P m) ∧ μ 33 p = nI (wgt P r m) ∧ ∃ f, fitX (qC P) (leftI P (rowI (wth P r m))) f ∧ lawX P f ∧ μ 34 p = rowI (rowF (qC P) f)
def GaC (P : Pl) (o : Nat → Bool) (r : Nat → Nat) (μ : mM) : Prop := μ 31 3 = nI (kn P o r (MM P)) ∧ ∀ m, m < MM P → keB P o r m = true → EnC P r m μ (kn P o r m)
theorem GaC.of {P : Pl} {o : Nat → Bool} {r : Nat → Nat} {μ μ' : mM} (h : GaC P o r μ) (e1 : μ' 31 3 = μ 31 3) (e2 : μ' 32 = μ 32) (e3 : μ' 33 = μ 33) (e4 : μ' 34 = μ 34) : GaC P o r μ' := by
  unfold GaC EnC at *
  rw [e1, e2, e3, e4]
  exact h
theorem wth_0 (P : Pl) (m : Nat) : wth P (fun _ => 0) m = mrow P m := funext fun c => by
  unfold wth
  by_cases q : mrow P m c = 0
  · rw [if_pos q, q]
  · rw [if_neg q]
theorem keB_0 {P : Pl} {h : Nat → Nat} {m : Nat} : keB P (opB P h) (fun _ => 0) m = opB P h m := by
  have e : keB P (opB P h) (fun _ => 0) m = true ↔ opB P h m = true := by
    rw [keB_iff, wth_0]
    constructor
    · exact fun z => z.1
    · intro z
      refine ⟨z, fun ⟨k, _, a, _⟩ => a rfl, ?_⟩
      unfold opB at z
      rw [Bool.and_eq_true] at z
      exact z.1
  cases q : opB P h m with
  | true => exact e.mpr q
  | false => exact bnot fun z => by rw [e.mp z] at q; cases q
theorem s_gather {G : mG} {Q : mM → Prop} {μ : mM} {P : Pl} {h : Nat → Nat} (hW : PW P) (hM : MM P ≤ 1200) (H : MxC P h μ) (hb : ∀ m, m < MM P → h m < 2 ^ 31) (k : ∀ μ', Fr [31, 32, 33, 34, 35] μ μ' → GaC P (opB P h) (fun _ => 0) μ' → Q μ') :
    CtV G mX6_gather [.ref (gb G + 31), .ref (gb G + 22)] μ Q := by
  have n56 := (ns_pos hW.ct).2
  refine e_X6_gather fun E C => k_X6_gather_0 C ?_
  let In (n : Nat) (μ' : mM) : Prop := Fr [31, 32, 33, 34, 35] μ μ' ∧ μ' 31 3 = nI (kn P (opB P h) (fun _ => 0) n) ∧ ∀ m, m < n → keB P (opB P h) (fun _ => 0) m = true → EnC P (fun _ => 0) m μ' (kn P (opB P h) (fun _ => 0) m)
  suffices key : ∀ (d i : Nat) (μ' : mM), i + d = ns (qC P) (qT P) → In (fi P i) μ' → Wm G mX6_gather E (bm G mX6_gather E (pV Q)) μ' 7 [(0, .ref (gb G + 31)), (1, .ref (gb G + 22)), (2, .int (nI i))] [] by
    refine key (ns (qC P) (qT P)) 0 (ms μ 31 3 0) (by omega) ⟨(Fr.rf _ μ).ms (by decide), ?_, fun m hm => absurd hm (Nat.not_lt_zero m)⟩
    rw [ms_mrw0, mrw_at, upd_at, if_pos rfl]
    rfl
  intro d
  induction d with
  | zero =>
    intro i μ' hi hI
    obtain ⟨F, a, b⟩ := hI
    have hin : i = ns (qC P) (qT P) := by omega
    subst hin
    have e0 : μ' 23 0 = nI (ns (qC P) (qT P)) := by rw [F 23 (by decide)]; exact H.1.1
    refine k_X6_gather_7 C (fun _ => k μ' F ⟨a, b⟩) (fun z => ?_)
    exfalso
    revert z
    rw [e0]
    simp (disch := omega) only [ofNat_nI, nI_add, pk_mul, nI_clamp, nI_leI, nI_ltI, nI_eq, vp_in_nI_iff, nI_subr, nI_m1r, m1_eq, m1_eq2, m1_le, m1_le2, m1_lt, m1_lt2, m1_self, cv_sub, cv_add1, cv_eq, cv_eqI, cv_eqI2, cv_m1, cv_lt0, cv_leI, cv_Ile, cv_le, cv_lt, cv_Ilt, cv_ltI, not_true, not_false_iff, true_implies, false_implies, false_or, or_false, true_and, and_true, false_and, and_false, true_or, or_true]
    omega
  | succ d ih =>
    intro i μ' hi hI
    have hin : i < ns (qC P) (qT P) := by omega
    have hfs := fi_s P i
    have hfl := fi_le (P := P) (i := i + 1) (by omega)
    have e0 : μ' 23 0 = nI (ns (qC P) (qT P)) := by rw [hI.1 23 (by decide)]; exact H.1.1
    have ef0 : μ' 25 (nI i).toNatClampNeg = nI (fi P i) := by rw [nI_clamp (by omega), hI.1 25 (by decide)]; exact H.1.2.2.2.1 _ (by omega)
    refine k_X6_gather_7 C (fun z => ?_) (fun _ => s_weightOf (r := fun _ => 0) hW (H.1.of (hI.1 23 (by decide)) (hI.1 24 (by decide)) (hI.1 25 (by decide)) (hI.1 27 (by decide))) (fun c => Nat.zero_le _) hin (k_X6_gather_28 C ?_ ?_))
    · exfalso
      revert z
      rw [e0]
      simp (disch := omega) only [ofNat_nI, nI_add, pk_mul, nI_clamp, nI_leI, nI_ltI, nI_eq, vp_in_nI_iff, nI_subr, nI_m1r, m1_eq, m1_eq2, m1_le, m1_le2, m1_lt, m1_lt2, m1_self, cv_sub, cv_add1, cv_eq, cv_eqI, cv_eqI2, cv_m1, cv_lt0, cv_leI, cv_Ile, cv_le, cv_lt, cv_Ilt, cv_ltI, not_true, not_false_iff, true_implies, false_implies, false_or, or_false, true_and, and_true, false_and, and_false, true_or, or_true]
      omega
    · simp (disch := omega) only [ofNat_nI, nI_add, pk_mul, nI_clamp, nI_leI, nI_ltI, nI_eq, vp_in_nI_iff, nI_subr, nI_m1r, m1_eq, m1_eq2, m1_le, m1_le2, m1_lt, m1_lt2, m1_self, cv_sub, cv_add1, cv_eq, cv_eqI, cv_eqI2, cv_m1, cv_lt0, cv_leI, cv_Ile, cv_le, cv_lt, cv_Ilt, cv_ltI, not_true, not_false_iff, true_implies, false_implies, false_or, or_false, true_and, and_true, false_and, and_false, true_or, or_true]
      omega
    · rw [ef0]
      suffices key : ∀ (e u : Nat) (μ' : mM), u + e = pp P i → In (fi P i + u) μ' → Wm G mX6_gather E (bm G mX6_gather E (pV Q)) μ' 40 [(0, .ref (gb G + 31)), (1, .ref (gb G + 22)), (2, .int (nI i)), (3, .int (nI (wSet P (fun _ => 0) i (qT P)))), (4, .int (nI (fi P i + u)))] [] from key (pp P i) 0 μ' (by omega) hI
      intro e
      induction e with
      | zero =>
        intro u μ' hu hI
        have huu : u = pp P i := by omega
        subst huu
        have ef : μ' 25 (nI i + 1).toNatClampNeg = nI (fi P (i + 1)) := by rw [nI_1, nI_clamp (by omega), hI.1 25 (by decide)]; exact H.1.2.2.2.1 _ (by omega)
        rw [← fi_s] at hI ⊢
        refine k_X6_gather_40 C ?_ (fun _ => ?_) (fun z => ?_) (fun z => ?_) (fun z => ?_) (fun z => ?_)
        · simp (disch := omega) only [ofNat_nI, nI_add, pk_mul, nI_clamp, nI_leI, nI_ltI, nI_eq, vp_in_nI_iff, nI_subr, nI_m1r, m1_eq, m1_eq2, m1_le, m1_le2, m1_lt, m1_lt2, m1_self, cv_sub, cv_add1, cv_eq, cv_eqI, cv_eqI2, cv_m1, cv_lt0, cv_leI, cv_Ile, cv_le, cv_lt, cv_Ilt, cv_ltI, not_true, not_false_iff, true_implies, false_implies, false_or, or_false, true_and, and_true, false_and, and_false, true_or, or_true]
          omega
        · simp (disch := omega) only [ofNat_nI, nI_add, pk_mul, nI_clamp, nI_leI, nI_ltI, nI_eq, vp_in_nI_iff, nI_subr, nI_m1r, m1_eq, m1_eq2, m1_le, m1_le2, m1_lt, m1_lt2, m1_self, cv_sub, cv_add1, cv_eq, cv_eqI, cv_eqI2, cv_m1, cv_lt0, cv_leI, cv_Ile, cv_le, cv_lt, cv_Ilt, cv_ltI, not_true, not_false_iff, true_implies, false_implies, false_or, or_false, true_and, and_true, false_and, and_false, true_or, or_true]
          exact ih (i + 1) μ' (by omega) hI
        all_goals
          exfalso
          rw [ef] at z
          revert z
          simp (disch := omega) only [ofNat_nI, nI_add, pk_mul, nI_clamp, nI_leI, nI_ltI, nI_eq, vp_in_nI_iff, nI_subr, nI_m1r, m1_eq, m1_eq2, m1_le, m1_le2, m1_lt, m1_lt2, m1_self, cv_sub, cv_add1, cv_eq, cv_eqI, cv_eqI2, cv_m1, cv_lt0, cv_leI, cv_Ile, cv_le, cv_lt, cv_Ilt, cv_ltI, not_true, not_false_iff, true_implies, false_implies, false_or, or_false, true_and, and_true, false_and, and_false, true_or, or_true]
          omega
      | succ e ihe =>
        intro u μ' hu hI
        obtain ⟨F, a, b⟩ := id hI
        have hlt := fi_lt hin (show u < pp P i by omega)
        have ef : μ' 25 (nI i + 1).toNatClampNeg = nI (fi P (i + 1)) := by rw [nI_1, nI_clamp (by omega), F 25 (by decide)]; exact H.1.2.2.2.1 _ (by omega)
        have ec : (nI (fi P i + u)).toNatClampNeg = fi P i + u := nI_clamp (by omega)
        obtain ⟨o1, o2⟩ := mx_op hW H hlt (hb _ hlt)
        have e1 : nI (fi P i + u) + 1 = nI (fi P i + (u + 1)) := nI_1 _
        have hkn := kn_le P (opB P h) (fun _ => 0) (fi P i + u)
        have nx : ¬ nI (fi P (i + 1)) ≤ nI (fi P i + u) := by
          rw [nI_leI (by omega) (by omega)]
          omega
        refine k_X6_gather_40 C ?_ (fun z => ?_) (fun _ => ?_) (fun _ y => ?_) (fun _ _ _ => ?_) (fun _ y1 y2 => ?_)
        · simp (disch := omega) only [ofNat_nI, nI_add, pk_mul, nI_clamp, nI_leI, nI_ltI, nI_eq, vp_in_nI_iff, nI_subr, nI_m1r, m1_eq, m1_eq2, m1_le, m1_le2, m1_lt, m1_lt2, m1_self, cv_sub, cv_add1, cv_eq, cv_eqI, cv_eqI2, cv_m1, cv_lt0, cv_leI, cv_Ile, cv_le, cv_lt, cv_Ilt, cv_ltI, not_true, not_false_iff, true_implies, false_implies, false_or, or_false, true_and, and_true, false_and, and_false, true_or, or_true]
          omega
        · rw [ef] at z; exact absurd z nx
        · simp (disch := omega) only [ofNat_nI, nI_add, pk_mul, nI_clamp, nI_leI, nI_ltI, nI_eq, vp_in_nI_iff, nI_subr, nI_m1r, m1_eq, m1_eq2, m1_le, m1_le2, m1_lt, m1_lt2, m1_self, cv_sub, cv_add1, cv_eq, cv_eqI, cv_eqI2, cv_m1, cv_lt0, cv_leI, cv_Ile, cv_le, cv_lt, cv_Ilt, cv_ltI, not_true, not_false_iff, true_implies, false_implies, false_or, or_false, true_and, and_true, false_and, and_false, true_or, or_true]
          omega
        · rw [ec, F 30 (by decide), F 29 (by decide)] at y
          have ek : keB P (opB P h) (fun _ => 0) (fi P i + u) = false := by rw [keB_0]; exact o1 y
          rw [e1]
          refine ihe (u + 1) μ' (by omega) ⟨F, ?_, fun m hm hk => ?_⟩
          · show _ = nI (kn P (opB P h) (fun _ => 0) (fi P i + u + 1))
            rw [kn_0 ek]; exact a
          · by_cases q : m = fi P i + u
            · rw [q, ek] at hk; cases hk
            · exact b m (by omega) hk
        · rw [a]
          simp (disch := omega) only [ofNat_nI, nI_add, pk_mul, nI_clamp, nI_leI, nI_ltI, nI_eq, vp_in_nI_iff, nI_subr, nI_m1r, m1_eq, m1_eq2, m1_le, m1_le2, m1_lt, m1_lt2, m1_self, cv_sub, cv_add1, cv_eq, cv_eqI, cv_eqI2, cv_m1, cv_lt0, cv_leI, cv_Ile, cv_le, cv_lt, cv_Ilt, cv_ltI, not_true, not_false_iff, true_implies, false_implies, false_or, or_false, true_and, and_true, false_and, and_false, true_or, or_true]
          omega
        · rw [ec, F 30 (by decide)] at y1
          rw [ec, F 29 (by decide)] at y2
          have ek : keB P (opB P h) (fun _ => 0) (fi P i + u) = true := by rw [keB_0]; exact o2 y1 y2
          rw [e1, a, nI_clamp (by omega), ec, nI_1]
          have ho := keB_iff.mp ek
          refine ihe (u + 1) _ (by omega) ⟨(((F.ms (by decide)).ms (by decide)).ms (by decide)).ms (by decide), ?_, fun m hm hk => ?_⟩
          · show _ = nI (kn P (opB P h) (fun _ => 0) (fi P i + u + 1))
            rw [kn_1 ek, ms_mrw0, mrw_at, upd_at, if_pos rfl]
          · unfold EnC
            simp only [ms_mrw0]
            rw [mrw_ne (show (32 : Nat) ≠ 31 by decide), mrw_ne (show (32 : Nat) ≠ 34 by decide), mrw_ne (show (32 : Nat) ≠ 33 by decide), mrw_at, upd_at]
            rw [mrw_ne (show (33 : Nat) ≠ 31 by decide), mrw_ne (show (33 : Nat) ≠ 34 by decide), mrw_at, upd_at]
            rw [mrw_ne (show (34 : Nat) ≠ 31 by decide), mrw_at, upd_at]
            by_cases q : m = fi P i + u
            · subst q
              rw [if_pos rfl, if_pos rfl, if_pos rfl, F 28 (by decide)]
              refine ⟨H.2.1 _ hlt, ?_, ?_⟩
              · rw [wgt_set hin (by omega) ho.2.1]
              · rw [F 29 (by decide), wth_0]
                rcases H.2.2.1 _ hlt with ⟨z, -⟩ | ⟨f, f1, f2, f3⟩
                · exact absurd z y2
                · exact ⟨f, f1, f2, f3⟩
            · have hmn := kn_mono (P := P) (o := opB P h) (r := fun _ => 0) (show m + 1 ≤ fi P i + u by omega)
              rw [kn_1 hk] at hmn
              rw [if_neg (by omega), if_neg (by omega), if_neg (by omega)]
              exact b m (by omega) hk

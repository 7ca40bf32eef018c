/-! THE CLASS: mixes asked -/
def opB (P : Pl) (h : Nat → Nat) (m : Nat) : Bool := canB P (mrow P m) && decide (h m = 0)
theorem mx_can {P : Pl} (hW : PW P) {h : Nat → Nat} {μ : mM} (H : MxC P h μ) {m : Nat} (hm : m < MM P) : μ 29 m = 0 ↔ canB P (mrow P m) = false := by
  have := ((H.2.2.1 m hm).iff hW).trans (left_can hW (mrow_le hW hm))
  constructor
  · intro z
    exact bnot fun y => this.mpr y z
  · intro z
    refine Classical.byContradiction fun y => ?_
    rw [this.mp y] at z
    cases z
theorem mx_op {P : Pl} (hW : PW P) {h : Nat → Nat} {μ : mM} (H : MxC P h μ) {m : Nat} (hm : m < MM P) (hb : h m < 2 ^ 31) : ((¬ μ 30 m = 0 ∨ (μ 30 m = 0 ∧ μ 29 m = 0)) → opB P h m = false) ∧ (μ 30 m = 0 → ¬ μ 29 m = 0 → opB P h m = true) := by
  rw [mx_can hW H hm, H.2.2.2.1 m hm, show (0 : Int32) = nI 0 from rfl, nI_eq hb (by omega)]
  unfold opB
  constructor
  · rintro (z | ⟨-, z⟩)
    · rw [decide_eq_false z, Bool.and_false]
    · rw [z, Bool.false_and]
  · intro z y
    rw [decide_eq_true z]
    cases e : canB P (mrow P m) with
    | true => rfl
    | false => exact absurd e y
theorem noI_m {P : Pl} (hM : MM P ≤ 1200) {m : Nat} (hm : m < MM P) : ¬ nI m = -1 := fun z => by
  have := congrArg Int32.toInt z
  rw [nI_toInt (by omega)] at this
  have em : ((-1 : Int32)).toInt = -1 := by decide
  omega
theorem s_setOf {G : mG} {Q : Int32 → mM → Prop} {μ : mM} {P : Pl} (h : PW P) (hM : MM P ≤ 1200) (hS : SetC 23 P μ) {m : Nat} (hm : m < MM P) (k : Q (nI (mix P m).1) μ) : CtI G mX2_setOf [.ref (gb G + 22), .int (nI m)] μ Q := by
  have n56 := (ns_pos h.ct).2
  obtain ⟨s0, s1, s2, s3, s4⟩ := hS
  obtain ⟨i0, w0, hi0, hw0, e0⟩ := m_in hm
  have em : (mix P m).1 = i0 := by rw [e0, mix_of hi0 hw0]
  rw [em] at k
  have hfs := fi_s P i0
  have mono : ∀ i, i < i0 → fi P (i + 1) ≤ fi P i0 := fun i hi => sm_part _ hi
  have mono2 : ∀ i, i0 ≤ i → fi P (i0 + 1) ≤ fi P (i + 1) := fun i hi => sm_part _ (by omega)
  refine e_X2_setOf fun E C => k_X2_setOf_0 C ?_
  have loop : ∀ (d i : Nat), i + d = i0 → Wm G mX2_setOf E (bm G mX2_setOf E (pI Q)) μ 2 [(0, .ref (gb G + 22)), (1, .int (nI m)), (2, .int (nI i))] [] := by
    intro d
    have ef : ∀ i, i < ns (qC P) (qT P) → μ 25 (nI i + 1).toNatClampNeg = nI (fi P (i + 1)) := fun i hi => by rw [nI_1, nI_clamp (by omega)]; exact s3 _ (by omega)
    have fb : ∀ i, i < ns (qC P) (qT P) → fi P (i + 1) ≤ 1200 := fun i hi => by
      have := fi_le (P := P) (i := i + 1) (by omega)
      omega
    have lm : ∀ i, i < ns (qC P) (qT P) → (nI m < nI (fi P (i + 1)) ↔ m < fi P (i + 1)) := fun i hi => by
      have := fb i hi
      exact nI_ltI (by omega) (by omega)
    induction d with
    | zero =>
      intro i hi
      have hii : i = i0 := by omega
      subst hii
      refine k_X2_setOf_2 C (fun _ => k) (fun _ => ?_) (fun z1 z2 => ?_)
      · simp (disch := omega) only [ofNat_nI, nI_add, pk_mul, nI_clamp, nI_leI, nI_ltI, nI_eq, vp_in_nI_iff, nI_subr, nI_m1r, m1_eq, m1_eq2, m1_le, m1_le2, m1_lt, m1_lt2, m1_self, cv_sub, cv_add1, cv_eq, cv_eqI, cv_eqI2, cv_m1, cv_lt0, cv_leI, cv_Ile, cv_le, cv_lt, cv_Ilt, cv_ltI, not_true, not_false_iff, true_implies, false_implies, false_or, or_false, true_and, and_true, false_and, and_false, true_or, or_true]
        omega
      · rw [ef i hi0, lm i hi0] at z2
        omega
    | succ d ih =>
      intro i hi
      have hin : i < ns (qC P) (qT P) := by omega
      have := mono i (by omega)
      refine k_X2_setOf_2 C (fun z => ?_) (fun _ => ?_) (fun _ _ => ?_)
      · exfalso
        rw [s0, ef i hin, lm i hin] at z
        rcases z with z | ⟨-, z⟩
        · revert z
          simp (disch := omega) only [ofNat_nI, nI_add, pk_mul, nI_clamp, nI_leI, nI_ltI, nI_eq, vp_in_nI_iff, nI_subr, nI_m1r, m1_eq, m1_eq2, m1_le, m1_le2, m1_lt, m1_lt2, m1_self, cv_sub, cv_add1, cv_eq, cv_eqI, cv_eqI2, cv_m1, cv_lt0, cv_leI, cv_Ile, cv_le, cv_lt, cv_Ilt, cv_ltI, not_true, not_false_iff, true_implies, false_implies, false_or, or_false, true_and, and_true, false_and, and_false, true_or, or_true]
          omega
        · omega
      · simp (disch := omega) only [ofNat_nI, nI_add, pk_mul, nI_clamp, nI_leI, nI_ltI, nI_eq, vp_in_nI_iff, nI_subr, nI_m1r, m1_eq, m1_eq2, m1_le, m1_le2, m1_lt, m1_lt2, m1_self, cv_sub, cv_add1, cv_eq, cv_eqI, cv_eqI2, cv_m1, cv_lt0, cv_leI, cv_Ile, cv_le, cv_lt, cv_Ilt, cv_ltI, not_true, not_false_iff, true_implies, false_implies, false_or, or_false, true_and, and_true, false_and, and_false, true_or, or_true]
        omega
      · simp (disch := omega) only [ofNat_nI, nI_add, pk_mul, nI_clamp, nI_leI, nI_ltI, nI_eq, vp_in_nI_iff, nI_subr, nI_m1r, m1_eq, m1_eq2, m1_le, m1_le2, m1_lt, m1_lt2, m1_self, cv_sub, cv_add1, cv_eq, cv_eqI, cv_eqI2, cv_m1, cv_lt0, cv_leI, cv_Ile, cv_le, cv_lt, cv_Ilt, cv_ltI, not_true, not_false_iff, true_implies, false_implies, false_or, or_false, true_and, and_true, false_and, and_false, true_or, or_true]
        exact ih (i + 1) (by omega)
  exact loop i0 0 (by omega)
theorem s_columnOf {G : mG} {Q : Int32 → mM → Prop} {μ : mM} {P : Pl} (h : PW P) (hM : MM P ≤ 1200) (hS : SetC 23 P μ) {m a : Nat} (hm : m < MM P) (ha : a < 3) (k : Q (if a < qT P then nI (mcol P m a) else -2) μ) : CtI G mX2_columnOf [.ref (gb G + 22), .int (nI m), .int (nI a)] μ Q := by
  have n56 := (ns_pos h.ct).2
  have t3 := h.ct.2.1
  have hi := (mix_spec hm).1
  refine e_X2_columnOf fun E C => k_X2_columnOf_0 C (fun z => ?_) (fun z => ?_)
  · rw [hS.2.1, nI_leI (by omega) (by omega)] at z
    rw [if_neg (by omega)] at k
    exact k
  · rw [hS.2.1, nI_leI (by omega) (by omega)] at z
    rw [if_pos (by omega)] at k
    refine s_setOf h hM hS hm (k_X2_columnOf_20 C ?_ ?_)
    · simp (disch := omega) only [ofNat_nI, nI_add, pk_mul, nI_clamp, nI_leI, nI_ltI, nI_eq, vp_in_nI_iff, nI_subr, nI_m1r, m1_eq, m1_eq2, m1_le, m1_le2, m1_lt, m1_lt2, m1_self, cv_sub, cv_add1, cv_eq, cv_eqI, cv_eqI2, cv_m1, cv_lt0, cv_leI, cv_Ile, cv_le, cv_lt, cv_Ilt, cv_ltI, not_true, not_false_iff, true_implies, false_implies, false_or, or_false, true_and, and_true, false_and, and_false, true_or, or_true]
      omega
    · rw [show (3 : Int32) = nI 3 from rfl, pk_mul, nI_add, nI_clamp (by omega), Nat.mul_comm, hS.2.2.1 _ hi a (by omega)]
      exact k
theorem s_levelOfC {G : mG} {Q : Int32 → mM → Prop} {μ : mM} {P : Pl} {hd : Nat → Nat} (h : PW P) (hM : MM P ≤ 1200) (H : MxC P hd μ) {m a : Nat} (hm : m < MM P) (ha : a < 3) (k : Q (if a < qT P then nI (mlev P m a) else -2) μ) : CtI G mX2_levelOf [.ref (gb G + 22), .int (nI m), .int (nI a)] μ Q := by
  have t3 := h.ct.2.1
  have hC8 := h.ct.2.2.2
  refine e_X2_levelOf fun E C => k_X2_levelOf_0 C (fun z => ?_) (fun _ => ?_) (fun z => ?_)
  · rw [H.1.2.1, nI_leI (by omega) (by omega)] at z
    rw [if_neg (by omega)] at k
    exact k
  · simp (disch := omega) only [ofNat_nI, nI_add, pk_mul, nI_clamp, nI_leI, nI_ltI, nI_eq, vp_in_nI_iff, nI_subr, nI_m1r, m1_eq, m1_eq2, m1_le, m1_le2, m1_lt, m1_lt2, m1_self, cv_sub, cv_add1, cv_eq, cv_eqI, cv_eqI2, cv_m1, cv_lt0, cv_leI, cv_Ile, cv_le, cv_lt, cv_Ilt, cv_ltI, not_true, not_false_iff, true_implies, false_implies, false_or, or_false, true_and, and_true, false_and, and_false, true_or, or_true]
    omega
  · rw [H.1.2.1, nI_leI (by omega) (by omega)] at z
    rw [if_pos (by omega)] at k
    rw [nI_clamp (by omega), H.2.1 m hm]
    refine s_columnOf h hM H.1 hm ha ?_
    rw [if_pos (by omega)]
    have hcl := mcol_lt h hm (k := a) (by omega)
    have hat := mrow_at h hm (k := a) (by omega)
    have hl := mlev_lt h hm (k := a) (by omega)
    have h4 := (h.lv hcl).2
    have en := nib_row (r := mrow P m) (c := mcol P m a) (by omega) (by omega)
    refine k_X2_levelOf_23 C (fun y => ?_) (fun y => ?_)
    · rw [en, pw_0 _ (by omega)] at y
      rw [en, pw_v _ (by omega) y, hat, cv_s]
      exact k
    · rw [en, pw_0 _ (by omega)] at y
      omega
theorem s_openCount {G : mG} {Q : Int32 → mM → Prop} {μ : mM} {P : Pl} {h : Nat → Nat} (hW : PW P) (hM : MM P ≤ 1200) (H : MxC P h μ) (hb : ∀ m, m < MM P → h m < 2 ^ 31) (k : Q (nI (sm (MM P) (fun m => (opB P h m).toNat))) μ) : CtI G mX2_openCount [.ref (gb G + 22)] μ Q := by
  obtain ⟨z1, z2⟩ := size_eq hM H.1 (ns_pos hW.ct).2
  refine e_X2_openCount fun E C => k_X2_openCount_0 C z1 ?_
  rw [z2]
  refine lp_up (W := fun m => Wm G mX2_openCount E (bm G mX2_openCount E (pI Q)) μ 9 [(0, .ref (gb G + 22)), (1, .int (nI (MM P))), (2, .int (nI (sm m (fun m => (opB P h m).toNat)))), (3, .int (nI m))] []) (MM P) ?_ (fun m hm ih => ?_)
  · refine k_X2_openCount_9 C (fun _ => k) (fun z => ?_) (fun z => ?_) (fun z => ?_)
    all_goals
      exfalso
      revert z
      simp (disch := omega) only [ofNat_nI, nI_add, pk_mul, nI_clamp, nI_leI, nI_ltI, nI_eq, vp_in_nI_iff, nI_subr, nI_m1r, m1_eq, m1_eq2, m1_le, m1_le2, m1_lt, m1_lt2, m1_self, cv_sub, cv_add1, cv_eq, cv_eqI, cv_eqI2, cv_m1, cv_lt0, cv_leI, cv_Ile, cv_le, cv_lt, cv_Ilt, cv_ltI, not_true, not_false_iff, true_implies, false_implies, false_or, or_false, true_and, and_true, false_and, and_false, true_or, or_true]
      omega
  · obtain ⟨o1, o2⟩ := mx_op hW H hm (hb m hm)
    rw [sm] at ih
    refine k_X2_openCount_9 C (fun z => ?_) (fun _ => ?_) (fun _ z => ?_) (fun _ z y => ?_)
    · exfalso
      revert z
      simp (disch := omega) only [ofNat_nI, nI_add, pk_mul, nI_clamp, nI_leI, nI_ltI, nI_eq, vp_in_nI_iff, nI_subr, nI_m1r, m1_eq, m1_eq2, m1_le, m1_le2, m1_lt, m1_lt2, m1_self, cv_sub, cv_add1, cv_eq, cv_eqI, cv_eqI2, cv_m1, cv_lt0, cv_leI, cv_Ile, cv_le, cv_lt, cv_Ilt, cv_ltI, not_true, not_false_iff, true_implies, false_implies, false_or, or_false, true_and, and_true, false_and, and_false, true_or, or_true]
      omega
    · simp (disch := omega) only [ofNat_nI, nI_add, pk_mul, nI_clamp, nI_leI, nI_ltI, nI_eq, vp_in_nI_iff, nI_subr, nI_m1r, m1_eq, m1_eq2, m1_le, m1_le2, m1_lt, m1_lt2, m1_self, cv_sub, cv_add1, cv_eq, cv_eqI, cv_eqI2, cv_m1, cv_lt0, cv_leI, cv_Ile, cv_le, cv_lt, cv_Ilt, cv_ltI, not_true, not_false_iff, true_implies, false_implies, false_or, or_false, true_and, and_true, false_and, and_false, true_or, or_true]
      omega
    · rw [nI_clamp (by omega)] at z
      rw [o1 z] at ih
      simp (disch := omega) only [ofNat_nI, nI_add, pk_mul, nI_clamp, nI_leI, nI_ltI, nI_eq, vp_in_nI_iff, nI_subr, nI_m1r, m1_eq, m1_eq2, m1_le, m1_le2, m1_lt, m1_lt2, m1_self, cv_sub, cv_add1, cv_eq, cv_eqI, cv_eqI2, cv_m1, cv_lt0, cv_leI, cv_Ile, cv_le, cv_lt, cv_Ilt, cv_ltI, not_true, not_false_iff, true_implies, false_implies, false_or, or_false, true_and, and_true, false_and, and_false, true_or, or_true]
      exact ih
    · rw [nI_clamp (by omega)] at z y
      rw [o2 z y] at ih
      simp (disch := omega) only [ofNat_nI, nI_add, pk_mul, nI_clamp, nI_leI, nI_ltI, nI_eq, vp_in_nI_iff, nI_subr, nI_m1r, m1_eq, m1_eq2, m1_le, m1_le2, m1_lt, m1_lt2, m1_self, cv_sub, cv_add1, cv_eq, cv_eqI, cv_eqI2, cv_m1, cv_lt0, cv_leI, cv_Ile, cv_le, cv_lt, cv_Ilt, cv_ltI, not_true, not_false_iff, true_implies, false_implies, false_or, or_false, true_and, and_true, false_and, and_false, true_or, or_true]
      exact ih
theorem s_openAt {G : mG} {Q : Int32 → mM → Prop} {μ : mM} {P : Pl} {h : Nat → Nat} {j : Nat} (hW : PW P) (hM : MM P ≤ 1200) (H : MxC P h μ) (hb : ∀ m, m < MM P → h m < 2 ^ 31) (hj : j < 2 ^ 31) (k : Q (kth (opB P h) j (MM P) 0 0) μ) : CtI G mX2_openAt [.ref (gb G + 22), .int (nI j)] μ Q := by
  obtain ⟨z1, z2⟩ := size_eq hM H.1 (ns_pos hW.ct).2
  refine e_X2_openAt fun E C => k_X2_openAt_0 C z1 ?_
  rw [z2]
  have loop : ∀ (d m f : Nat), m + d = MM P → f ≤ m → kth (opB P h) j d m f = kth (opB P h) j (MM P) 0 0 → Wm G mX2_openAt E (bm G mX2_openAt E (pI Q)) μ 10 [(0, .ref (gb G + 22)), (1, .int (nI j)), (2, .int (nI (MM P))), (3, .int (nI f)), (4, .int (nI m))] [] := by
    intro d
    induction d with
    | zero =>
      intro m f hm hf e
      rw [← e] at k
      refine k_X2_openAt_10 C (fun _ => k) (fun z => ?_) (fun z => ?_) (fun z => ?_) (fun z => ?_)
      all_goals
        exfalso
        revert z
        simp (disch := omega) only [ofNat_nI, nI_add, pk_mul, nI_clamp, nI_leI, nI_ltI, nI_eq, vp_in_nI_iff, nI_subr, nI_m1r, m1_eq, m1_eq2, m1_le, m1_le2, m1_lt, m1_lt2, m1_self, cv_sub, cv_add1, cv_eq, cv_eqI, cv_eqI2, cv_m1, cv_lt0, cv_leI, cv_Ile, cv_le, cv_lt, cv_Ilt, cv_ltI, not_true, not_false_iff, true_implies, false_implies, false_or, or_false, true_and, and_true, false_and, and_false, true_or, or_true]
        omega
    | succ d ih =>
      intro m f hm hf e
      obtain ⟨o1, o2⟩ := mx_op hW H (m := m) (by omega) (hb m (by omega))
      rw [kth] at e
      refine k_X2_openAt_10 C (fun z => ?_) (fun _ => ?_) (fun _ z => ?_) (fun _ z y u => ?_) (fun _ z y u => ?_)
      · exfalso
        revert z
        simp (disch := omega) only [ofNat_nI, nI_add, pk_mul, nI_clamp, nI_leI, nI_ltI, nI_eq, vp_in_nI_iff, nI_subr, nI_m1r, m1_eq, m1_eq2, m1_le, m1_le2, m1_lt, m1_lt2, m1_self, cv_sub, cv_add1, cv_eq, cv_eqI, cv_eqI2, cv_m1, cv_lt0, cv_leI, cv_Ile, cv_le, cv_lt, cv_Ilt, cv_ltI, not_true, not_false_iff, true_implies, false_implies, false_or, or_false, true_and, and_true, false_and, and_false, true_or, or_true]
        omega
      · simp (disch := omega) only [ofNat_nI, nI_add, pk_mul, nI_clamp, nI_leI, nI_ltI, nI_eq, vp_in_nI_iff, nI_subr, nI_m1r, m1_eq, m1_eq2, m1_le, m1_le2, m1_lt, m1_lt2, m1_self, cv_sub, cv_add1, cv_eq, cv_eqI, cv_eqI2, cv_m1, cv_lt0, cv_leI, cv_Ile, cv_le, cv_lt, cv_Ilt, cv_ltI, not_true, not_false_iff, true_implies, false_implies, false_or, or_false, true_and, and_true, false_and, and_false, true_or, or_true]
        omega
      · rw [nI_clamp (by omega)] at z
        rw [o1 z, if_neg (by decide)] at e
        simp (disch := omega) only [ofNat_nI, nI_add, pk_mul, nI_clamp, nI_leI, nI_ltI, nI_eq, vp_in_nI_iff, nI_subr, nI_m1r, m1_eq, m1_eq2, m1_le, m1_le2, m1_lt, m1_lt2, m1_self, cv_sub, cv_add1, cv_eq, cv_eqI, cv_eqI2, cv_m1, cv_lt0, cv_leI, cv_Ile, cv_le, cv_lt, cv_Ilt, cv_ltI, not_true, not_false_iff, true_implies, false_implies, false_or, or_false, true_and, and_true, false_and, and_false, true_or, or_true]
        exact ih (m + 1) f (by omega) (by omega) e
      · rw [nI_clamp (by omega)] at z y
        rw [nI_eq (by omega) hj] at u
        rw [o2 z y, if_pos rfl, if_neg u] at e
        simp (disch := omega) only [ofNat_nI, nI_add, pk_mul, nI_clamp, nI_leI, nI_ltI, nI_eq, vp_in_nI_iff, nI_subr, nI_m1r, m1_eq, m1_eq2, m1_le, m1_le2, m1_lt, m1_lt2, m1_self, cv_sub, cv_add1, cv_eq, cv_eqI, cv_eqI2, cv_m1, cv_lt0, cv_leI, cv_Ile, cv_le, cv_lt, cv_Ilt, cv_ltI, not_true, not_false_iff, true_implies, false_implies, false_or, or_false, true_and, and_true, false_and, and_false, true_or, or_true]
        exact ih (m + 1) (f + 1) (by omega) (by omega) e
      · rw [nI_clamp (by omega)] at z y
        rw [nI_eq (by omega) hj] at u
        rw [o2 z y, if_pos rfl, if_pos u] at e
        rw [e]
        exact k
  exact loop (MM P) 0 0 (by omega) (Nat.le_refl _) rfl
theorem sm_set_le {P : Pl} {r : Nat → Nat} {p : Nat → Bool} (n : Nat) : sm n (fun i => match numO P i r with | none => 0 | some m => (p m).toNat) ≤ n := by
  have := sm_le (n := n) (B := 1) (f := fun i => match numO P i r with | none => 0 | some m => (p m).toNat) (fun i _ => by
    cases numO P i r with
    | none => exact Nat.zero_le _
    | some m => exact bool_lt _)
  omega
theorem s_openIn {G : mG} {Q : Int32 → mM → Prop} {μ : mM} {P : Pl} {h : Nat → Nat} {r : Nat → Nat} (hW : PW P) (hM : MM P ≤ 1200) (H : MxC P h μ) (hb : ∀ m, m < MM P → h m < 2 ^ 31) (hr : ∀ c, r c ≤ qL P c) (k : Q (nI (sm (MM P) (fun m => (hasM P r m && opB P h m).toNat))) μ) : CtI G mX2_openIn [.ref (gb G + 22), .int (rowI r)] μ Q := by
  have n56 := (ns_pos hW.ct).2
  rw [set_sum hW hr] at k
  refine e_X2_openIn fun E C => k_X2_openIn_0 C ?_
  refine lp_up (W := fun i => Wm G mX2_openIn E (bm G mX2_openIn E (pI Q)) μ 4 [(0, .ref (gb G + 22)), (1, .int (rowI r)), (2, .int (nI (sm i (fun i => match numO P i r with | none => 0 | some m => (opB P h m).toNat)))), (3, .int (nI i))] []) (ns (qC P) (qT P)) ?_ (fun i hi ih => ?_)
  · refine k_X2_openIn_4 C (fun _ => k) (fun z => ?_)
    exfalso
    revert z
    rw [H.1.1]
    simp (disch := omega) only [ofNat_nI, nI_add, pk_mul, nI_clamp, nI_leI, nI_ltI, nI_eq, vp_in_nI_iff, nI_subr, nI_m1r, m1_eq, m1_eq2, m1_le, m1_le2, m1_lt, m1_lt2, m1_self, cv_sub, cv_add1, cv_eq, cv_eqI, cv_eqI2, cv_m1, cv_lt0, cv_leI, cv_Ile, cv_le, cv_lt, cv_Ilt, cv_ltI, not_true, not_false_iff, true_implies, false_implies, false_or, or_false, true_and, and_true, false_and, and_false, true_or, or_true]
    omega
  · refine k_X2_openIn_4 C (fun z => ?_) (fun _ => ?_)
    · exfalso
      revert z
      rw [H.1.1]
      simp (disch := omega) only [ofNat_nI, nI_add, pk_mul, nI_clamp, nI_leI, nI_ltI, nI_eq, vp_in_nI_iff, nI_subr, nI_m1r, m1_eq, m1_eq2, m1_le, m1_le2, m1_lt, m1_lt2, m1_self, cv_sub, cv_add1, cv_eq, cv_eqI, cv_eqI2, cv_m1, cv_lt0, cv_leI, cv_Ile, cv_le, cv_lt, cv_Ilt, cv_ltI, not_true, not_false_iff, true_implies, false_implies, false_or, or_false, true_and, and_true, false_and, and_false, true_or, or_true]
      omega
    · rw [sm] at ih
      refine s_numberIn (by rfl) hW H.1 hr hi ?_
      cases q : numO P i r with
      | none =>
        rw [q] at ih
        refine k_X2_openIn_24 C (fun z => absurd rfl z) (fun v hv => ?_)
        have ev : v = nI (sm i (fun i => match numO P i r with | none => 0 | some m => (opB P h m).toNat)) := by
          rcases hv with z | ⟨z, -⟩
          · exact z.2
          · exact absurd rfl z
        rw [ev]
        simp (disch := omega) only [ofNat_nI, nI_add, pk_mul, nI_clamp, nI_leI, nI_ltI, nI_eq, vp_in_nI_iff, nI_subr, nI_m1r, m1_eq, m1_eq2, m1_le, m1_le2, m1_lt, m1_lt2, m1_self, cv_sub, cv_add1, cv_eq, cv_eqI, cv_eqI2, cv_m1, cv_lt0, cv_leI, cv_Ile, cv_le, cv_lt, cv_Ilt, cv_ltI, not_true, not_false_iff, true_implies, false_implies, false_or, or_false, true_and, and_true, false_and, and_false, true_or, or_true]
        exact ih
      | some m =>
        rw [q] at ih
        obtain ⟨-, hm, -⟩ := numO_some hW hr hi q
        obtain ⟨o1, o2⟩ := mx_op hW H hm (hb m hm)
        have ec : (nI m).toNatClampNeg = m := nI_clamp (by omega)
        refine k_X2_openIn_24 C (fun _ => ?_) (fun v hv => ?_)
        · show vp_in (nI m) 1200
          simp (disch := omega) only [ofNat_nI, nI_add, pk_mul, nI_clamp, nI_leI, nI_ltI, nI_eq, vp_in_nI_iff, nI_subr, nI_m1r, m1_eq, m1_eq2, m1_le, m1_le2, m1_lt, m1_lt2, m1_self, cv_sub, cv_add1, cv_eq, cv_eqI, cv_eqI2, cv_m1, cv_lt0, cv_leI, cv_Ile, cv_le, cv_lt, cv_Ilt, cv_ltI, not_true, not_false_iff, true_implies, false_implies, false_or, or_false, true_and, and_true, false_and, and_false, true_or, or_true]
          omega
        · have ev : v = nI (sm i (fun i => match numO P i r with | none => 0 | some m => (opB P h m).toNat) + (opB P h m).toNat) := by
            have hv' : ((nI m = -1 ∨ (¬ nI m = -1 ∧ (¬ μ 30 (nI m).toNatClampNeg = 0 ∨ (μ 30 (nI m).toNatClampNeg = 0 ∧ μ 29 (nI m).toNatClampNeg = 0)))) ∧ v = nI (sm i (fun i => match numO P i r with | none => 0 | some m => (opB P h m).toNat))) ∨ (¬ nI m = -1 ∧ μ 30 (nI m).toNatClampNeg = 0 ∧ ¬ μ 29 (nI m).toNatClampNeg = 0 ∧ v = nI (sm i (fun i => match numO P i r with | none => 0 | some m => (opB P h m).toNat)) + 1) := hv
            rw [ec] at hv'
            rcases hv' with ⟨z | ⟨-, z⟩, y⟩ | ⟨-, z, y, u⟩
            · exact absurd z (noI_m hM hm)
            · rw [o1 z]; exact y
            · rw [o2 z y, u]; exact nI_1 _
          rw [ev]
          simp (disch := omega) only [ofNat_nI, nI_add, pk_mul, nI_clamp, nI_leI, nI_ltI, nI_eq, vp_in_nI_iff, nI_subr, nI_m1r, m1_eq, m1_eq2, m1_le, m1_le2, m1_lt, m1_lt2, m1_self, cv_sub, cv_add1, cv_eq, cv_eqI, cv_eqI2, cv_m1, cv_lt0, cv_leI, cv_Ile, cv_le, cv_lt, cv_Ilt, cv_ltI, not_true, not_false_iff, true_implies, false_implies, false_or, or_false, true_and, and_true, false_and, and_false, true_or, or_true]
          exact ih
theorem s_hadBesides {G : mG} {Q : Int32 → mM → Prop} {μ : mM} {P : Pl} {h : Nat → Nat} {r : Nat → Nat} (hW : PW P) (hM : MM P ≤ 1200) (H : MxC P h μ) (hb : ∀ m, m < MM P → h m < 2 ^ 31) (hr : ∀ c, r c ≤ qL P c) (k1 : (∀ m, m < MM P → hasM P r m = true → 2 ≤ h m) → Q 1 μ) (k0 : (∃ m, m < MM P ∧ hasM P r m = true ∧ h m < 2) → Q 0 μ) : CtI G mX2_hadBesides [.ref (gb G + 22), .int (rowI r)] μ Q := by
  have n56 := (ns_pos hW.ct).2
  refine e_X2_hadBesides fun E C => k_X2_hadBesides_0 C ?_
  have loop : ∀ (d i : Nat), i + d = ns (qC P) (qT P) → (∀ m, m < fi P i → hasM P r m = true → 2 ≤ h m) → Wm G mX2_hadBesides E (bm G mX2_hadBesides E (pI Q)) μ 2 [(0, .ref (gb G + 22)), (1, .int (rowI r)), (2, .int (nI i))] [] := by
    intro d
    induction d with
    | zero =>
      intro i hi hall
      have e : i = ns (qC P) (qT P) := by omega
      subst e
      refine k_X2_hadBesides_2 C (fun _ => k1 hall) (fun z => ?_)
      exfalso
      revert z
      rw [H.1.1]
      simp (disch := omega) only [ofNat_nI, nI_add, pk_mul, nI_clamp, nI_leI, nI_ltI, nI_eq, vp_in_nI_iff, nI_subr, nI_m1r, m1_eq, m1_eq2, m1_le, m1_le2, m1_lt, m1_lt2, m1_self, cv_sub, cv_add1, cv_eq, cv_eqI, cv_eqI2, cv_m1, cv_lt0, cv_leI, cv_Ile, cv_le, cv_lt, cv_Ilt, cv_ltI, not_true, not_false_iff, true_implies, false_implies, false_or, or_false, true_and, and_true, false_and, and_false, true_or, or_true]
      omega
    | succ d ih =>
      intro i hi hall
      have hin : i < ns (qC P) (qT P) := by omega
      have hfs := fi_s P i
      refine k_X2_hadBesides_2 C (fun z => ?_) (fun _ => ?_)
      · exfalso
        revert z
        rw [H.1.1]
        simp (disch := omega) only [ofNat_nI, nI_add, pk_mul, nI_clamp, nI_leI, nI_ltI, nI_eq, vp_in_nI_iff, nI_subr, nI_m1r, m1_eq, m1_eq2, m1_le, m1_le2, m1_lt, m1_lt2, m1_self, cv_sub, cv_add1, cv_eq, cv_eqI, cv_eqI2, cv_m1, cv_lt0, cv_leI, cv_Ile, cv_le, cv_lt, cv_Ilt, cv_ltI, not_true, not_false_iff, true_implies, false_implies, false_or, or_false, true_and, and_true, false_and, and_false, true_or, or_true]
        omega
      · have nxt : (∀ w, w < pp P i → hasM P r (fi P i + w) = true → 2 ≤ h (fi P i + w)) → Wm G mX2_hadBesides E (bm G mX2_hadBesides E (pI Q)) μ 2 [(0, .ref (gb G + 22)), (1, .int (rowI r)), (2, .int (nI i + 1))] [] := fun hh => by
          rw [nI_1]
          refine ih (i + 1) (by omega) (fun m hm hs => ?_)
          by_cases q : m < fi P i
          · exact hall m q hs
          · have := hh (m - fi P i) (by omega) (by rw [show fi P i + (m - fi P i) = m by omega]; exact hs)
            rw [show fi P i + (m - fi P i) = m by omega] at this
            exact this
        refine s_numberIn (by rfl) hW H.1 hr hin ?_
        cases q : numO P i r with
        | none =>
          refine k_X2_hadBesides_22 C (fun _ => nxt fun w hw hs => ?_) (fun z => absurd rfl z) (fun z => absurd rfl z)
          have := (numO_has hW hr hin hw).mp hs
          rw [q] at this
          cases this
        | some m =>
          obtain ⟨⟨w0, hw0, e0⟩, hm, hs⟩ := numO_some hW hr hin q
          have ec : μ 30 (nI m).toNatClampNeg = nI (h m) := by rw [nI_clamp (by omega)]; exact H.2.2.2.1 m hm
          have e2 : 2 ≤ nI (h m) ↔ 2 ≤ h m := nI_leI (a := 2) (by omega) (hb m hm)
          refine k_X2_hadBesides_22 C (fun z => nxt fun w hw hs' => ?_) (fun _ => ?_) (fun _ z => ?_)
          · have z' : nI m = -1 ∨ (¬ nI m = -1 ∧ 2 ≤ μ 30 (nI m).toNatClampNeg) := z
            rw [ec, e2] at z'
            have := (numO_has hW hr hin hw).mp hs'
            rw [q] at this
            have := Option.some.inj this
            rw [← this]
            rcases z' with y | y
            · exact absurd y (noI_m hM hm)
            · exact y.2
          · show vp_in (nI m) 1200
            simp (disch := omega) only [ofNat_nI, nI_add, pk_mul, nI_clamp, nI_leI, nI_ltI, nI_eq, vp_in_nI_iff, nI_subr, nI_m1r, m1_eq, m1_eq2, m1_le, m1_le2, m1_lt, m1_lt2, m1_self, cv_sub, cv_add1, cv_eq, cv_eqI, cv_eqI2, cv_m1, cv_lt0, cv_leI, cv_Ile, cv_le, cv_lt, cv_Ilt, cv_ltI, not_true, not_false_iff, true_implies, false_implies, false_or, or_false, true_and, and_true, false_and, and_false, true_or, or_true]
            omega
          · have z' : ¬ 2 ≤ μ 30 (nI m).toNatClampNeg := z
            rw [ec, e2] at z'
            exact k0 ⟨m, hm, hs, by omega⟩
  exact loop (ns (qC P) (qT P)) 0 (by omega) (fun m hm => absurd hm (Nat.not_lt_zero m))
/-- a row that alone has a mix, or has it first -/
theorem rwN_one {P : Pl} {R : Nat → Nat → Nat} {m n j : Nat} (hj : j < n) (hs : hasM P (R j) m = true) : (rwN P R m n = 1 → rwN P R m j = 0) := fun e => by
  have h1 : rwN P R m (j + 1) = rwN P R m j + 1 := by
    show sm (j + 1) _ = _
    rw [sm, hs]
    rfl
  have h2 : rwN P R m (j + 1) ≤ rwN P R m n := sm_part _ hj
  omega
theorem fst_iff {P : Pl} {R : Nat → Nat → Nat} {m j : Nat} (hs : hasM P (R j) m = true) (hj64 : j < 2 ^ 31) : ∀ (d a : Nat), a + d < 2 ^ 31 → a ≤ j → j < a + d → (fstN P R m d a = nI j ↔ ∀ i, a ≤ i → i < j → hasM P (R i) m = false)
  | 0, a, _, h1, h2 => by omega
  | d + 1, a, hb, h1, h2 => by
    rw [fstN]
    by_cases q : hasM P (R a) m = true
    · rw [if_pos q, nI_eq (by omega) hj64]
      constructor
      · intro e i hi1 hi2; omega
      · intro z
        refine Classical.byContradiction fun y => ?_
        have := z a (Nat.le_refl a) (by omega)
        rw [q] at this
        cases this
    · rw [if_neg q]
      by_cases y : a = j
      · rw [y] at q; exact absurd hs q
      · rw [fst_iff hs hj64 d (a + 1) (by omega) (by omega) (by omega)]
        constructor
        · intro z i hi1 hi2
          by_cases u : i = a
          · rw [u]; exact bnot q
          · exact z i (by omega) hi2
        · intro z i hi1 hi2
          exact z i (by omega) hi2
theorem rwN_0 {P : Pl} {R : Nat → Nat → Nat} {m j : Nat} : rwN P R m j = 0 ↔ ∀ i, i < j → hasM P (R i) m = false := by
  constructor
  · intro e i hi
    refine bnot fun z => ?_
    have : 0 < rwN P R m j := sm_pos.mpr ⟨i, hi, by rw [z]; decide⟩
    omega
  · intro z
    exact sm_zero fun i hi => by rw [z i hi]; rfl
theorem s_gainOfC {G : mG} {Q : Int32 → mM → Prop} {μ : mM} {P : Pl} {c1 n j : Nat} {R : Nat → Nat → Nat} {t : Nat → Nat} (h1 : sh c1 = (0, 6)) (hW : PW P) (hM : MM P ≤ 1200) (hn : n ≤ 64) (hj : j < n) (H : MxC P (fun m => rwN P R m n) μ) (hr : RowsC c1 n R t μ) (hR : ∀ j, j < n → ∀ c, R j c ≤ qL P c) (k : Q (nI (newN P R j j)) μ) : CtI G mX2_gainOf [.ref (gb G + 22), .ref (gb G + c1), .int (nI j)] μ Q := by
  have n56 := (ns_pos hW.ct).2
  have hrj := hR j hj
  unfold newN at k
  rw [set_sum hW hrj (fun m => decide (rwN P R m j = 0))] at k
  have er : μ (c1 + 1) (nI j).toNatClampNeg = rowI (R j) := by rw [nI_clamp (by omega)]; exact hr.2.1 j hj
  refine e_X2_gainOf h1 fun E C => k_X2_gainOf_0 C h1 ?_
  refine lp_up (W := fun i => Wm G mX2_gainOf E (bm G mX2_gainOf E (pI Q)) μ 5 [(0, .ref (gb G + 22)), (1, .ref (gb G + c1)), (2, .int (nI j)), (3, .int (nI (sm i (fun i => match numO P i (R j) with | none => 0 | some m => (decide (rwN P R m j = 0)).toNat)))), (4, .int (nI i))] []) (ns (qC P) (qT P)) ?_ (fun i hi ih => ?_)
  · refine k_X2_gainOf_5 C h1 (fun _ => k) (fun z => ?_) (fun z => ?_)
    all_goals
      exfalso
      revert z
      rw [H.1.1]
      simp (disch := omega) only [ofNat_nI, nI_add, pk_mul, nI_clamp, nI_leI, nI_ltI, nI_eq, vp_in_nI_iff, nI_subr, nI_m1r, m1_eq, m1_eq2, m1_le, m1_le2, m1_lt, m1_lt2, m1_self, cv_sub, cv_add1, cv_eq, cv_eqI, cv_eqI2, cv_m1, cv_lt0, cv_leI, cv_Ile, cv_le, cv_lt, cv_Ilt, cv_ltI, not_true, not_false_iff, true_implies, false_implies, false_or, or_false, true_and, and_true, false_and, and_false, true_or, or_true]
      omega
  · refine k_X2_gainOf_5 C h1 (fun z => ?_) (fun _ => ?_) (fun _ => ?_)
    · exfalso
      revert z
      rw [H.1.1]
      simp (disch := omega) only [ofNat_nI, nI_add, pk_mul, nI_clamp, nI_leI, nI_ltI, nI_eq, vp_in_nI_iff, nI_subr, nI_m1r, m1_eq, m1_eq2, m1_le, m1_le2, m1_lt, m1_lt2, m1_self, cv_sub, cv_add1, cv_eq, cv_eqI, cv_eqI2, cv_m1, cv_lt0, cv_leI, cv_Ile, cv_le, cv_lt, cv_Ilt, cv_ltI, not_true, not_false_iff, true_implies, false_implies, false_or, or_false, true_and, and_true, false_and, and_false, true_or, or_true]
      omega
    · simp (disch := omega) only [ofNat_nI, nI_add, pk_mul, nI_clamp, nI_leI, nI_ltI, nI_eq, vp_in_nI_iff, nI_subr, nI_m1r, m1_eq, m1_eq2, m1_le, m1_le2, m1_lt, m1_lt2, m1_self, cv_sub, cv_add1, cv_eq, cv_eqI, cv_eqI2, cv_m1, cv_lt0, cv_leI, cv_Ile, cv_le, cv_lt, cv_Ilt, cv_ltI, not_true, not_false_iff, true_implies, false_implies, false_or, or_false, true_and, and_true, false_and, and_false, true_or, or_true]
      omega
    · rw [sm] at ih
      rw [er]
      refine s_numberIn (by rfl) hW H.1 hrj hi ?_
      cases q : numO P i (R j) with
      | none =>
        rw [q] at ih
        refine k_X2_gainOf_32 C h1 (fun _ => ?_) (fun z => absurd rfl z) (fun z => absurd rfl z) (fun z => absurd rfl z)
        simp (disch := omega) only [ofNat_nI, nI_add, pk_mul, nI_clamp, nI_leI, nI_ltI, nI_eq, vp_in_nI_iff, nI_subr, nI_m1r, m1_eq, m1_eq2, m1_le, m1_le2, m1_lt, m1_lt2, m1_self, cv_sub, cv_add1, cv_eq, cv_eqI, cv_eqI2, cv_m1, cv_lt0, cv_leI, cv_Ile, cv_le, cv_lt, cv_Ilt, cv_ltI, not_true, not_false_iff, true_implies, false_implies, false_or, or_false, true_and, and_true, false_and, and_false, true_or, or_true]
        exact ih
      | some m =>
        rw [q] at ih
        obtain ⟨-, hm, hs⟩ := numO_some hW hrj hi q
        have hrw := rwN_le P R m n
        have ec : (nI m).toNatClampNeg = m := nI_clamp (by omega)
        have e30 : μ 30 (nI m).toNatClampNeg = nI (rwN P R m n) := by rw [ec]; exact H.2.2.2.1 m hm
        have e28 : μ 28 (nI m).toNatClampNeg = rowI (mrow P m) := by rw [ec]; exact H.2.1 m hm
        refine k_X2_gainOf_32 C h1 (fun z => absurd z (noI_m hM hm)) (fun _ => ?_) (fun _ z => ?_) (fun _ z => ?_)
        · show vp_in (nI m) 1200
          simp (disch := omega) only [ofNat_nI, nI_add, pk_mul, nI_clamp, nI_leI, nI_ltI, nI_eq, vp_in_nI_iff, nI_subr, nI_m1r, m1_eq, m1_eq2, m1_le, m1_le2, m1_lt, m1_lt2, m1_self, cv_sub, cv_add1, cv_eq, cv_eqI, cv_eqI2, cv_m1, cv_lt0, cv_leI, cv_Ile, cv_le, cv_lt, cv_Ilt, cv_ltI, not_true, not_false_iff, true_implies, false_implies, false_or, or_false, true_and, and_true, false_and, and_false, true_or, or_true]
          omega
        · have z' : μ 30 (nI m).toNatClampNeg = 1 := z
          rw [e30, show (1 : Int32) = nI 1 from rfl, nI_eq (by omega) (by omega)] at z'
          have := rwN_one hj hs z'
          simp only [decide_eq_true this] at ih
          simp (disch := omega) only [ofNat_nI, nI_add, pk_mul, nI_clamp, nI_leI, nI_ltI, nI_eq, vp_in_nI_iff, nI_subr, nI_m1r, m1_eq, m1_eq2, m1_le, m1_le2, m1_lt, m1_lt2, m1_self, cv_sub, cv_add1, cv_eq, cv_eqI, cv_eqI2, cv_m1, cv_lt0, cv_leI, cv_Ile, cv_le, cv_lt, cv_Ilt, cv_ltI, not_true, not_false_iff, true_implies, false_implies, false_or, or_false, true_and, and_true, false_and, and_false, true_or, or_true]
          exact ih
        · show CtI G mX7_firstThatHas [.ref (gb G + c1), .int (μ 28 (nI m).toNatClampNeg)] μ _
          rw [e28]
          refine s_firstThatHas h1 hW hn hm hr (k_X2_gainOf_62 C h1 fun v hv => ?_)
          have hf := fst_iff hs (by omega) n 0 (by omega) (Nat.zero_le _) (by omega)
          have e : fstN P R m n 0 = nI j ↔ rwN P R m j = 0 := hf.trans ⟨fun z => rwN_0.mpr fun i hi => z i (Nat.zero_le _) hi, fun z i _ hi => rwN_0.mp z i hi⟩
          have ev : v = nI (sm i (fun i => match numO P i (R j) with | none => 0 | some m => (decide (rwN P R m j = 0)).toNat) + (decide (rwN P R m j = 0)).toNat) := by
            rcases hv with ⟨z, y⟩ | ⟨z, y⟩
            · rw [e] at z
              rw [decide_eq_false z]; exact y
            · rw [e] at z
              rw [decide_eq_true z, y]; exact nI_1 _
          rw [ev]
          simp (disch := omega) only [ofNat_nI, nI_add, pk_mul, nI_clamp, nI_leI, nI_ltI, nI_eq, vp_in_nI_iff, nI_subr, nI_m1r, m1_eq, m1_eq2, m1_le, m1_le2, m1_lt, m1_lt2, m1_self, cv_sub, cv_add1, cv_eq, cv_eqI, cv_eqI2, cv_m1, cv_lt0, cv_leI, cv_Ile, cv_le, cv_lt, cv_Ilt, cv_ltI, not_true, not_false_iff, true_implies, false_implies, false_or, or_false, true_and, and_true, false_and, and_false, true_or, or_true]
          exact ih
theorem s_mostOfOneSet {G : mG} {Q : Int32 → mM → Prop} {μ : mM} {P : Pl} {h : Nat → Nat} (hW : PW P) (hM : MM P ≤ 1200) (H : MxC P h μ) (k : Q (nI (lea P (ns (qC P) (qT P)))) μ) : CtI G mX2_mostOfOneSet [.ref (gb G + 22)] μ Q := by
  have n56 := (ns_pos hW.ct).2
  refine e_X2_mostOfOneSet fun E C => k_X2_mostOfOneSet_0 C ?_
  refine lp_up (W := fun i => Wm G mX2_mostOfOneSet E (bm G mX2_mostOfOneSet E (pI Q)) μ 4 [(0, .ref (gb G + 22)), (1, .int (nI (lea P i))), (2, .int (nI i))] []) (ns (qC P) (qT P)) ?_ (fun i hi ih => ?_)
  · refine k_X2_mostOfOneSet_4 C (fun _ => k) (fun z => ?_) (fun z => ?_)
    all_goals
      exfalso
      revert z
      rw [H.1.1]
      simp (disch := omega) only [ofNat_nI, nI_add, pk_mul, nI_clamp, nI_leI, nI_ltI, nI_eq, vp_in_nI_iff, nI_subr, nI_m1r, m1_eq, m1_eq2, m1_le, m1_le2, m1_lt, m1_lt2, m1_self, cv_sub, cv_add1, cv_eq, cv_eqI, cv_eqI2, cv_m1, cv_lt0, cv_leI, cv_Ile, cv_le, cv_lt, cv_Ilt, cv_ltI, not_true, not_false_iff, true_implies, false_implies, false_or, or_false, true_and, and_true, false_and, and_false, true_or, or_true]
      omega
  · have hpp := (hW.pp_le hi).2
    have hfs := fi_s P i
    have hfl := fi_le (P := P) (i := i + 1) (by omega)
    have ef0 : μ 25 (nI i).toNatClampNeg = nI (fi P i) := by rw [nI_clamp (by omega)]; exact H.1.2.2.2.1 _ (by omega)
    have ef : μ 25 (nI i + 1).toNatClampNeg = nI (fi P (i + 1)) := by rw [nI_1, nI_clamp (by omega)]; exact H.1.2.2.2.1 _ (by omega)
    refine k_X2_mostOfOneSet_4 C (fun z => ?_) (fun _ => ?_) (fun _ => ?_)
    · exfalso
      revert z
      rw [H.1.1]
      simp (disch := omega) only [ofNat_nI, nI_add, pk_mul, nI_clamp, nI_leI, nI_ltI, nI_eq, vp_in_nI_iff, nI_subr, nI_m1r, m1_eq, m1_eq2, m1_le, m1_le2, m1_lt, m1_lt2, m1_self, cv_sub, cv_add1, cv_eq, cv_eqI, cv_eqI2, cv_m1, cv_lt0, cv_leI, cv_Ile, cv_le, cv_lt, cv_Ilt, cv_ltI, not_true, not_false_iff, true_implies, false_implies, false_or, or_false, true_and, and_true, false_and, and_false, true_or, or_true]
      omega
    · simp (disch := omega) only [ofNat_nI, nI_add, pk_mul, nI_clamp, nI_leI, nI_ltI, nI_eq, vp_in_nI_iff, nI_subr, nI_m1r, m1_eq, m1_eq2, m1_le, m1_le2, m1_lt, m1_lt2, m1_self, cv_sub, cv_add1, cv_eq, cv_eqI, cv_eqI2, cv_m1, cv_lt0, cv_leI, cv_Ile, cv_le, cv_lt, cv_Ilt, cv_ltI, not_true, not_false_iff, true_implies, false_implies, false_or, or_false, true_and, and_true, false_and, and_false, true_or, or_true]
      omega
    · rw [ef0]
      have key := lp_up (W := fun w => Wm G mX2_mostOfOneSet E (bm G mX2_mostOfOneSet E (pI Q)) μ 28 [(0, .ref (gb G + 22)), (1, .int (nI (lea P i))), (2, .int (nI i)), (3, .int (nI (leaN P i w))), (4, .int (nI (fi P i + w)))] []) (pp P i) ?_ (fun w hw ihw => ?_)
      · exact key
      · rw [← fi_s]
        refine k_X2_mostOfOneSet_28 C ?_ (fun _ => k_X2_mostOfOneSet_76 C ?_) (fun z => ?_) (fun z => ?_)
        · simp (disch := omega) only [ofNat_nI, nI_add, pk_mul, nI_clamp, nI_leI, nI_ltI, nI_eq, vp_in_nI_iff, nI_subr, nI_m1r, m1_eq, m1_eq2, m1_le, m1_le2, m1_lt, m1_lt2, m1_self, cv_sub, cv_add1, cv_eq, cv_eqI, cv_eqI2, cv_m1, cv_lt0, cv_leI, cv_Ile, cv_le, cv_lt, cv_Ilt, cv_ltI, not_true, not_false_iff, true_implies, false_implies, false_or, or_false, true_and, and_true, false_and, and_false, true_or, or_true]
          omega
        · have l1 := lea_le hW (i := i) (by omega)
          have l2 := leaN_le (P := P) (i := i) (w := pp P i)
          have e : (if nI (lea P i) < nI (leaN P i (pp P i)) then nI (leaN P i (pp P i)) else nI (lea P i)) = nI (lea P (i + 1)) := by
            have hlt : nI (lea P i) < nI (leaN P i (pp P i)) ↔ lea P i < leaN P i (pp P i) := nI_ltI (by omega) (by omega)
            rw [lea]
            by_cases q : lea P i < leaN P i (pp P i)
            · rw [if_pos (hlt.mpr q)]; congr 1; omega
            · rw [if_neg (fun z => q (hlt.mp z))]; congr 1; omega
          rw [e]
          simp (disch := omega) only [ofNat_nI, nI_add, pk_mul, nI_clamp, nI_leI, nI_ltI, nI_eq, vp_in_nI_iff, nI_subr, nI_m1r, m1_eq, m1_eq2, m1_le, m1_le2, m1_lt, m1_lt2, m1_self, cv_sub, cv_add1, cv_eq, cv_eqI, cv_eqI2, cv_m1, cv_lt0, cv_leI, cv_Ile, cv_le, cv_lt, cv_Ilt, cv_ltI, not_true, not_false_iff, true_implies, false_implies, false_or, or_false, true_and, and_true, false_and, and_false, true_or, or_true]
          exact ih
        all_goals
          exfalso
          rw [ef] at z
          revert z
          rw [nI_leI (by omega) (by omega)]
          omega
      · have hlt := fi_lt hi hw
        refine k_X2_mostOfOneSet_28 C ?_ (fun z => ?_) (fun _ _ => ?_) (fun _ _ v hv => ?_)
        · simp (disch := omega) only [ofNat_nI, nI_add, pk_mul, nI_clamp, nI_leI, nI_ltI, nI_eq, vp_in_nI_iff, nI_subr, nI_m1r, m1_eq, m1_eq2, m1_le, m1_le2, m1_lt, m1_lt2, m1_self, cv_sub, cv_add1, cv_eq, cv_eqI, cv_eqI2, cv_m1, cv_lt0, cv_leI, cv_Ile, cv_le, cv_lt, cv_Ilt, cv_ltI, not_true, not_false_iff, true_implies, false_implies, false_or, or_false, true_and, and_true, false_and, and_false, true_or, or_true]
          omega
        · exfalso
          rw [ef] at z
          revert z
          rw [show (1200 : Int32) = nI 1200 from rfl, nI_leI (by omega) (by omega), nI_leI (by omega) (by omega)]
          omega
        · simp (disch := omega) only [ofNat_nI, nI_add, pk_mul, nI_clamp, nI_leI, nI_ltI, nI_eq, vp_in_nI_iff, nI_subr, nI_m1r, m1_eq, m1_eq2, m1_le, m1_le2, m1_lt, m1_lt2, m1_self, cv_sub, cv_add1, cv_eq, cv_eqI, cv_eqI2, cv_m1, cv_lt0, cv_leI, cv_Ile, cv_le, cv_lt, cv_Ilt, cv_ltI, not_true, not_false_iff, true_implies, false_implies, false_or, or_false, true_and, and_true, false_and, and_false, true_or, or_true]
          omega
        · rw [nI_clamp (by omega), mx_can hW H hlt] at hv
          have ev : v = nI (canB P (mrow P (fi P i + w))).toNat := by
            rcases hv with ⟨z, y⟩ | ⟨z, y⟩
            · rw [z, y]; rfl
            · have : canB P (mrow P (fi P i + w)) = true := by cases e : canB P (mrow P (fi P i + w)) with | true => rfl | false => exact absurd e z
              rw [this, y]; rfl
          rw [ev]
          have e1 : leaN P i (w + 1) = leaN P i w + (canB P (mrow P (fi P i + w))).toNat := rfl
          rw [e1] at ihw
          simp (disch := omega) only [ofNat_nI, nI_add, pk_mul, nI_clamp, nI_leI, nI_ltI, nI_eq, vp_in_nI_iff, nI_subr, nI_m1r, m1_eq, m1_eq2, m1_le, m1_le2, m1_lt, m1_lt2, m1_self, cv_sub, cv_add1, cv_eq, cv_eqI, cv_eqI2, cv_m1, cv_lt0, cv_leI, cv_Ile, cv_le, cv_lt, cv_Ilt, cv_ltI, not_true, not_false_iff, true_implies, false_implies, false_or, or_false, true_and, and_true, false_and, and_false, true_or, or_true]
          exact ihw

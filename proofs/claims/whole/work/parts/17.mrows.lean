/-! THE MODEL: rows -/
theorem lp_up {W : Nat → Prop} (n : Nat) (he : W n) (hs : ∀ i, i < n → W (i + 1) → W i) : W 0 := by
  have : ∀ d i, i + d = n → W i := by
    intro d
    induction d with
    | zero => intro i hi; rw [show i = n by omega]; exact he
    | succ d ih => intro i hi; exact hs i (by omega) (ih (i + 1) (by omega))
  exact this n 0 (by omega)
theorem phB {b : Bool} {v : Int32} (h : (nI b.toNat = 0 ∧ v = 0) ∨ (¬ nI b.toNat = 0 ∧ v = 1)) : v = nI b.toNat := by
  cases b with
  | false => rcases h with h | h; exact h.2; exact absurd rfl h.1
  | true => rcases h with h | h; exact absurd h.1 (by decide); exact h.2
theorem phZ {c : Nat} {v : Int32} (hc : c < 2 ^ 31) (h : (¬ nI c = 0 ∧ v = 0) ∨ (nI c = 0 ∧ v = 1)) : v = nI (decide (c = 0)).toNat := by
  by_cases q : c = 0
  · subst q
    rcases h with h | h
    · exact absurd rfl h.1
    · exact h.2
  · rcases h with h | h
    · rw [h.2, decide_eq_false q]; rfl
    · exact absurd h.1 (nI_ne0 (by omega) hc)
theorem nI_b0 (b : Bool) : nI b.toNat = 0 ↔ b = false := by cases b <;> decide
/-- rows of the model's array -/
def RowM (g : Nat → Int32) (j : Nat) (r : Nat → Nat) : Prop := ∀ c, c < 8 → g (161 + 8 * j + c) = cv (r c) ∧ r c ≤ 4
def RowsM (g : Nat → Int32) (n : Nat) (R : Nat → Nat → Nat) (told : Nat → Nat) : Prop := g 3 = nI n ∧ n ≤ 64 ∧ (∀ j, j < n → RowM g j (R j)) ∧ ∀ j, j < n → g (97 + j) = nI (told j) ∧ told j ≤ 2
def rwN (P : Pl) (R : Nat → Nat → Nat) (m n : Nat) : Nat := sm n (fun j => (hasM P (R j) m).toNat)
def openB (P : Pl) (n : Nat) (R : Nat → Nat → Nat) (m : Nat) : Bool := canB P (mrow P m) && decide (rwN P R m n = 0)
def opN (P : Pl) (n : Nat) (R : Nat → Nat → Nat) : Nat := sm (MM P) (fun m => (openB P n R m).toNat)
theorem rwN_le (P : Pl) (R : Nat → Nat → Nat) (m n : Nat) : rwN P R m n ≤ n := by
  have := sm_le (n := n) (B := 1) (f := fun j => (hasM P (R j) m).toNat) (fun i _ => bool_lt _)
  unfold rwN
  omega
theorem s_hasMix {G : mG} {Q : Int32 → mM → Prop} {μ : mM} {P : Pl} (h : PW P) (hT : μ 135 1 = nI (qT P)) (hM : MM P ≤ 1200) (hL : LM μ P (MM P)) {j m : Nat} {r : Nat → Nat} (hj : j < 64) (hm : m < MM P) (hr : RowM (μ 135) j r)
    (k : Q (nI (hasM P r m).toNat) μ) : CtI G mX12_hasMix [.ref (gb G + 132), .int (nI j), .int (nI m)] μ Q := by
  have hc := h.ct
  have hT3' := hc.2.1
  refine e_X12_hasMix fun E C => k_X12_hasMix_0 C ?_
  have loop : ∀ (d i : Nat), i + d = qT P → (∀ i', i' < i → r (mcol P m i') = mlev P m i' + 1) → Wm G mX12_hasMix E (bm G mX12_hasMix E (pI Q)) μ 2 [(0, .ref (gb G + 132)), (1, .int (nI j)), (2, .int (nI m)), (3, .int (nI i))] [] := by
    intro d
    induction d with
    | zero =>
      intro i hi hall
      have e : hasM P r m = true := hasM_iff.mpr (fun i' hi' => hall i' (by omega))
      rw [e] at k
      refine k_X12_hasMix_2 C (fun _ => k) (fun p => ?_) (fun p => ?_) (fun p => ?_) (fun p => ?_)
      all_goals
        exfalso
        revert p
        simp (disch := omega) only [ofNat_nI, nI_add, pk_mul, nI_clamp, nI_leI, nI_ltI, nI_eq, vp_in_nI_iff, nI_subr, nI_m1r, m1_eq, m1_eq2, m1_le, m1_le2, m1_lt, m1_lt2, m1_self, cv_sub, cv_add1, cv_eq, cv_eqI, cv_eqI2, cv_m1, cv_lt0, cv_leI, cv_Ile, cv_le, cv_lt, cv_Ilt, cv_ltI, not_true, not_false_iff, true_implies, false_implies, false_or, or_false, true_and, and_true, false_and, and_false, true_or, or_true, hT]
        omega
    | succ d ih =>
      intro i hi hall
      have hiT : i < qT P := by omega
      obtain ⟨q1, q2⟩ := hL m hm i hiT
      have c1 := mcol_lt h hm hiT
      have l1 := mlev_lt h hm hiT
      have l2 := (h.lv c1).2
      obtain ⟨r1, r2⟩ := hr (mcol P m i) (by have := hc.2.2.2; omega)
      have hT3 := hc.2.1
      have hC8 := hc.2.2.2
      refine k_X12_hasMix_2 C (fun p => ?_) (fun _ => ?_) (fun _ => ?_) (fun _ p => ?_) (fun _ p => ?_)
      · exfalso
        revert p
        simp (disch := omega) only [ofNat_nI, nI_add, pk_mul, nI_clamp, nI_leI, nI_ltI, nI_eq, vp_in_nI_iff, nI_subr, nI_m1r, m1_eq, m1_eq2, m1_le, m1_le2, m1_lt, m1_lt2, m1_self, cv_sub, cv_add1, cv_eq, cv_eqI, cv_eqI2, cv_m1, cv_lt0, cv_leI, cv_Ile, cv_le, cv_lt, cv_Ilt, cv_ltI, not_true, not_false_iff, true_implies, false_implies, false_or, or_false, true_and, and_true, false_and, and_false, true_or, or_true, hT]
        omega
      · simp (disch := omega) only [ofNat_nI, nI_add, pk_mul, nI_clamp, nI_leI, nI_ltI, nI_eq, vp_in_nI_iff, nI_subr, nI_m1r, m1_eq, m1_eq2, m1_le, m1_le2, m1_lt, m1_lt2, m1_self, cv_sub, cv_add1, cv_eq, cv_eqI, cv_eqI2, cv_m1, cv_lt0, cv_leI, cv_Ile, cv_le, cv_lt, cv_Ilt, cv_ltI, not_true, not_false_iff, true_implies, false_implies, false_or, or_false, true_and, and_true, false_and, and_false, true_or, or_true]
        omega
      · simp (disch := omega) only [ofNat_nI, nI_add, pk_mul, nI_clamp, nI_leI, nI_ltI, nI_eq, vp_in_nI_iff, nI_subr, nI_m1r, m1_eq, m1_eq2, m1_le, m1_le2, m1_lt, m1_lt2, m1_self, cv_sub, cv_add1, cv_eq, cv_eqI, cv_eqI2, cv_m1, cv_lt0, cv_leI, cv_Ile, cv_le, cv_lt, cv_Ilt, cv_ltI, not_true, not_false_iff, true_implies, false_implies, false_or, or_false, true_and, and_true, false_and, and_false, true_or, or_true, q1]
        omega
      · revert p
        simp (disch := omega) only [ofNat_nI, nI_add, pk_mul, nI_clamp, nI_leI, nI_ltI, nI_eq, vp_in_nI_iff, nI_subr, nI_m1r, m1_eq, m1_eq2, m1_le, m1_le2, m1_lt, m1_lt2, m1_self, cv_sub, cv_add1, cv_eq, cv_eqI, cv_eqI2, cv_m1, cv_lt0, cv_leI, cv_Ile, cv_le, cv_lt, cv_Ilt, cv_ltI, not_true, not_false_iff, true_implies, false_implies, false_or, or_false, true_and, and_true, false_and, and_false, true_or, or_true, q1, q2, r1]
        intro p
        refine ih (i + 1) (by omega) (fun i' hi' => ?_)
        by_cases q : i' = i
        · subst q; exact p
        · exact hall i' (by omega)
      · revert p
        simp (disch := omega) only [ofNat_nI, nI_add, pk_mul, nI_clamp, nI_leI, nI_ltI, nI_eq, vp_in_nI_iff, nI_subr, nI_m1r, m1_eq, m1_eq2, m1_le, m1_le2, m1_lt, m1_lt2, m1_self, cv_sub, cv_add1, cv_eq, cv_eqI, cv_eqI2, cv_m1, cv_lt0, cv_leI, cv_Ile, cv_le, cv_lt, cv_Ilt, cv_ltI, not_true, not_false_iff, true_implies, false_implies, false_or, or_false, true_and, and_true, false_and, and_false, true_or, or_true, q1, q2, r1]
        intro p
        have e : hasM P r m = false := by
          cases e : hasM P r m with
          | false => rfl
          | true => exact absurd (hasM_iff.mp e i hiT) p
        rw [e] at k
        exact k
  exact loop (qT P) 0 (by omega) (fun i' hi' => by omega)
theorem s_rowsWith {G : mG} {Q : Int32 → mM → Prop} {μ : mM} {P : Pl} (h : PW P) (hT : μ 135 1 = nI (qT P)) (hM : MM P ≤ 1200) (hL : LM μ P (MM P)) {n m : Nat} {R : Nat → Nat → Nat} (hn : n ≤ 64) (hm : m < MM P) (hr : ∀ j, j < n → RowM (μ 135) j (R j))
    (k : Q (nI (rwN P R m n)) μ) : CtI G mX12_rowsWith [.ref (gb G + 132), .int (nI m), .int (nI 0), .int (nI n)] μ Q := by
  refine e_X12_rowsWith fun E C => k_X12_rowsWith_0 C ?_
  refine lp_up (W := fun i => Wm G mX12_rowsWith E (bm G mX12_rowsWith E (pI Q)) μ 6 [(0, .ref (gb G + 132)), (1, .int (nI m)), (3, .int (nI n)), (4, .int (nI (rwN P R m i))), (5, .int (nI i))] []) n ?_ (fun i hi ih => ?_)
  · refine k_X12_rowsWith_6 C (fun _ => k) (fun p => ?_)
    exfalso
    revert p
    simp (disch := omega) only [ofNat_nI, nI_add, pk_mul, nI_clamp, nI_leI, nI_ltI, nI_eq, vp_in_nI_iff, nI_subr, nI_m1r, m1_eq, m1_eq2, m1_le, m1_le2, m1_lt, m1_lt2, m1_self, cv_sub, cv_add1, cv_eq, cv_eqI, cv_eqI2, cv_m1, cv_lt0, cv_leI, cv_Ile, cv_le, cv_lt, cv_Ilt, cv_ltI, not_true, not_false_iff, true_implies, false_implies, false_or, or_false, true_and, and_true, false_and, and_false, true_or, or_true]
    all_goals omega
  · refine k_X12_rowsWith_6 C (fun p => ?_) (fun _ => ?_)
    · exfalso
      revert p
      simp (disch := omega) only [ofNat_nI, nI_add, pk_mul, nI_clamp, nI_leI, nI_ltI, nI_eq, vp_in_nI_iff, nI_subr, nI_m1r, m1_eq, m1_eq2, m1_le, m1_le2, m1_lt, m1_lt2, m1_self, cv_sub, cv_add1, cv_eq, cv_eqI, cv_eqI2, cv_m1, cv_lt0, cv_leI, cv_Ile, cv_le, cv_lt, cv_Ilt, cv_ltI, not_true, not_false_iff, true_implies, false_implies, false_or, or_false, true_and, and_true, false_and, and_false, true_or, or_true]
      omega
    · refine s_hasMix h hT hM hL (by omega) hm (hr i hi) (k_X12_rowsWith_21 C (fun v hv => ?_))
      rw [phB hv]
      simp (disch := omega) only [ofNat_nI, nI_add, pk_mul, nI_clamp, nI_leI, nI_ltI, nI_eq, vp_in_nI_iff, nI_subr, nI_m1r, m1_eq, m1_eq2, m1_le, m1_le2, m1_lt, m1_lt2, m1_self, cv_sub, cv_add1, cv_eq, cv_eqI, cv_eqI2, cv_m1, cv_lt0, cv_leI, cv_Ile, cv_le, cv_lt, cv_Ilt, cv_ltI, not_true, not_false_iff, true_implies, false_implies, false_or, or_false, true_and, and_true, false_and, and_false, true_or, or_true]
      exact ih
theorem s_laysOpen {G : mG} {Q : Int32 → mM → Prop} {μ : mM} {P : Pl} (h : PW P) (hT : μ 135 1 = nI (qT P)) (hM : MM P ≤ 1200) (hX : MixM μ P) {n : Nat} {R : Nat → Nat → Nat} {told : Nat → Nat} (hr : RowsM (μ 135) n R told)
    (k : ∀ g : Nat → Int32, (∀ m, m < MM P → g m = nI (openB P n R m).toNat) → Q (nI (opN P n R)) (mrw μ 144 g)) : CtI G mX12_laysOpen [.ref (gb G + 132)] μ Q := by
  refine e_X12_laysOpen fun E C => k_X12_laysOpen_0 C ?_
  obtain ⟨x1, x2, x3⟩ := hX
  obtain ⟨r3, r64, rr, -⟩ := hr
  have loop : ∀ (d m : Nat) (g : Nat → Int32), m + d = MM P → (∀ m', m' < m → g m' = nI (openB P n R m').toNat) →
      Wm G mX12_laysOpen E (bm G mX12_laysOpen E (pI Q)) (mrw μ 144 g) 4 [(0, .ref (gb G + 132)), (1, .int (nI (sm m (fun m => (openB P n R m).toNat)))), (2, .int (nI m))] [] := by
    intro d
    induction d with
    | zero =>
      intro m g hm hg
      have e : m = MM P := by omega
      subst e
      refine k_X12_laysOpen_4 C (fun _ => k g hg) (fun p => ?_) (fun p => ?_) (fun p => ?_)
      all_goals
        exfalso
        revert p
        rw [mrw_ne (by decide), x1]
        simp (disch := omega) only [ofNat_nI, nI_add, pk_mul, nI_clamp, nI_leI, nI_ltI, nI_eq, vp_in_nI_iff, nI_subr, nI_m1r, m1_eq, m1_eq2, m1_le, m1_le2, m1_lt, m1_lt2, m1_self, cv_sub, cv_add1, cv_eq, cv_eqI, cv_eqI2, cv_m1, cv_lt0, cv_leI, cv_Ile, cv_le, cv_lt, cv_Ilt, cv_ltI, not_true, not_false_iff, true_implies, false_implies, false_or, or_false, true_and, and_true, false_and, and_false, true_or, or_true]
        all_goals omega
    | succ d ih =>
      intro m g hm hg
      have hmM : m < MM P := by omega
      have l1 : (mrw μ 144 g) 132 13 = nI (MM P) := by rw [mrw_ne (by decide)]; exact x1
      have l2 : (mrw μ 144 g) 142 m = nI (canB P (mrow P m)).toNat := by rw [mrw_ne (by decide)]; exact x3 m hmM
      have nxt : ∀ v : Int32, v = nI (openB P n R m).toNat → Wm G mX12_laysOpen E (bm G mX12_laysOpen E (pI Q)) (mrw μ 144 (upd g m v)) 4 [(0, .ref (gb G + 132)), (1, .int (nI (sm m (fun m => (openB P n R m).toNat)) + v)), (2, .int (nI (m + 1)))] [] := by
        intro v hv
        rw [hv, nI_add]
        refine ih (m + 1) _ (by omega) (fun m' hm' => ?_)
        rw [upd_at]
        by_cases q : m' = m
        · rw [if_pos q, q]
        · rw [if_neg q]; exact hg m' (by omega)
      refine k_X12_laysOpen_4 C (fun p => ?_) (fun _ => ?_) (fun _ p v hv => ?_) (fun _ p => ?_)
      · exfalso
        revert p
        rw [l1]
        simp (disch := omega) only [ofNat_nI, nI_add, pk_mul, nI_clamp, nI_leI, nI_ltI, nI_eq, vp_in_nI_iff, nI_subr, nI_m1r, m1_eq, m1_eq2, m1_le, m1_le2, m1_lt, m1_lt2, m1_self, cv_sub, cv_add1, cv_eq, cv_eqI, cv_eqI2, cv_m1, cv_lt0, cv_leI, cv_Ile, cv_le, cv_lt, cv_Ilt, cv_ltI, not_true, not_false_iff, true_implies, false_implies, false_or, or_false, true_and, and_true, false_and, and_false, true_or, or_true]
        omega
      · simp (disch := omega) only [ofNat_nI, nI_add, pk_mul, nI_clamp, nI_leI, nI_ltI, nI_eq, vp_in_nI_iff, nI_subr, nI_m1r, m1_eq, m1_eq2, m1_le, m1_le2, m1_lt, m1_lt2, m1_self, cv_sub, cv_add1, cv_eq, cv_eqI, cv_eqI2, cv_m1, cv_lt0, cv_leI, cv_Ile, cv_le, cv_lt, cv_Ilt, cv_ltI, not_true, not_false_iff, true_implies, false_implies, false_or, or_false, true_and, and_true, false_and, and_false, true_or, or_true]
        omega
      · revert p hv
        simp (disch := omega) only [ofNat_nI, nI_add, pk_mul, nI_clamp, nI_leI, nI_ltI, nI_eq, vp_in_nI_iff, nI_subr, nI_m1r, m1_eq, m1_eq2, m1_le, m1_le2, m1_lt, m1_lt2, m1_self, cv_sub, cv_add1, cv_eq, cv_eqI, cv_eqI2, cv_m1, cv_lt0, cv_leI, cv_Ile, cv_le, cv_lt, cv_Ilt, cv_ltI, not_true, not_false_iff, true_implies, false_implies, false_or, or_false, true_and, and_true, false_and, and_false, true_or, or_true, l2]
        rw [ms_mrw, mrw_at, upd_at, if_pos rfl]
        intro p hv
        have e : openB P n R m = false := by
          unfold openB
          cases ec : canB P (mrow P m) with
          | false => rfl
          | true => rw [ec] at p; exact absurd p (by decide)
        have ev : v = nI 0 := by
          rcases hv with hv | hv
          · exact hv.2
          · exact absurd rfl hv.1
        have := nxt (nI 0) (by rw [e]; rfl)
        rw [ev]
        exact this
      · have ec : canB P (mrow P m) = true := by
          revert p
          simp (disch := omega) only [ofNat_nI, nI_add, pk_mul, nI_clamp, nI_leI, nI_ltI, nI_eq, vp_in_nI_iff, nI_subr, nI_m1r, m1_eq, m1_eq2, m1_le, m1_le2, m1_lt, m1_lt2, m1_self, cv_sub, cv_add1, cv_eq, cv_eqI, cv_eqI2, cv_m1, cv_lt0, cv_leI, cv_Ile, cv_le, cv_lt, cv_Ilt, cv_ltI, not_true, not_false_iff, true_implies, false_implies, false_or, or_false, true_and, and_true, false_and, and_false, true_or, or_true, l2]
          intro p
          cases ec : canB P (mrow P m) with
          | true => rfl
          | false => rw [ec] at p; exact absurd rfl p
        have e3 : (mrw μ 144 g) 135 3 = nI n := by rw [mrw_ne (by decide)]; exact r3
        rw [e3]
        refine s_rowsWith (R := R) h (by rw [mrw_ne (by decide)]; exact hT) hM (x2.of (mrw_ne (by decide)) (mrw_ne (by decide))) r64 hmM (fun j hj => by rw [mrw_ne (by decide)]; exact rr j hj) (k_X12_laysOpen_38 C (fun v hv => ?_) (fun v hv => ?_) (fun v hv v2 hv2 => ?_))
        · simp (disch := omega) only [ofNat_nI, nI_add, pk_mul, nI_clamp, nI_leI, nI_ltI, nI_eq, vp_in_nI_iff, nI_subr, nI_m1r, m1_eq, m1_eq2, m1_le, m1_le2, m1_lt, m1_lt2, m1_self, cv_sub, cv_add1, cv_eq, cv_eqI, cv_eqI2, cv_m1, cv_lt0, cv_leI, cv_Ile, cv_le, cv_lt, cv_Ilt, cv_ltI, not_true, not_false_iff, true_implies, false_implies, false_or, or_false, true_and, and_true, false_and, and_false, true_or, or_true]
          omega
        · simp (disch := omega) only [ofNat_nI, nI_add, pk_mul, nI_clamp, nI_leI, nI_ltI, nI_eq, vp_in_nI_iff, nI_subr, nI_m1r, m1_eq, m1_eq2, m1_le, m1_le2, m1_lt, m1_lt2, m1_self, cv_sub, cv_add1, cv_eq, cv_eqI, cv_eqI2, cv_m1, cv_lt0, cv_leI, cv_Ile, cv_le, cv_lt, cv_Ilt, cv_ltI, not_true, not_false_iff, true_implies, false_implies, false_or, or_false, true_and, and_true, false_and, and_false, true_or, or_true]
          omega
        · have hrw := rwN_le P R m n
          have ev := phZ (by omega) hv
          have eo : openB P n R m = decide (rwN P R m n = 0) := by unfold openB; rw [ec]; rfl
          revert hv2
          rw [ev, vz]
          simp (disch := omega) only [ofNat_nI, nI_add, pk_mul, nI_clamp, nI_leI, nI_ltI, nI_eq, vp_in_nI_iff, nI_subr, nI_m1r, m1_eq, m1_eq2, m1_le, m1_le2, m1_lt, m1_lt2, m1_self, cv_sub, cv_add1, cv_eq, cv_eqI, cv_eqI2, cv_m1, cv_lt0, cv_leI, cv_Ile, cv_le, cv_lt, cv_Ilt, cv_ltI, not_true, not_false_iff, true_implies, false_implies, false_or, or_false, true_and, and_true, false_and, and_false, true_or, or_true]
          rw [ms_mrw, mrw_at, upd_at, if_pos rfl]
          intro hv2
          rw [phB hv2, ← eo]
          simp (disch := omega) only [ofNat_nI, nI_add, pk_mul, nI_clamp, nI_leI, nI_ltI, nI_eq, vp_in_nI_iff, nI_subr, nI_m1r, m1_eq, m1_eq2, m1_le, m1_le2, m1_lt, m1_lt2, m1_self, cv_sub, cv_add1, cv_eq, cv_eqI, cv_eqI2, cv_m1, cv_lt0, cv_leI, cv_Ile, cv_le, cv_lt, cv_Ilt, cv_ltI, not_true, not_false_iff, true_implies, false_implies, false_or, or_false, true_and, and_true, false_and, and_false, true_or, or_true]
          have := nxt _ rfl
          rw [nI_add] at this
          exact this
  have := loop (MM P) 0 (μ 144) (by omega) (fun m' hm' => by omega)
  rw [mrw_self] at this
  exact this
/-- the first row that has a mix -/
def fstN (P : Pl) (R : Nat → Nat → Nat) (m : Nat) : Nat → Nat → Int32
  | 0, _ => -2
  | d + 1, j => if hasM P (R j) m then nI j else fstN P R m d (j + 1)
theorem s_firstWith {G : mG} {Q : Int32 → mM → Prop} {μ : mM} {P : Pl} (h : PW P) (hT : μ 135 1 = nI (qT P)) (hM : MM P ≤ 1200) (hL : LM μ P (MM P)) {n m : Nat} {R : Nat → Nat → Nat} {told : Nat → Nat} (hm : m < MM P) (hr : RowsM (μ 135) n R told)
    (k : Q (fstN P R m n 0) μ) : CtI G mX12_firstWith [.ref (gb G + 132), .int (nI m)] μ Q := by
  obtain ⟨r3, r64, rr, -⟩ := hr
  refine e_X12_firstWith fun E C => k_X12_firstWith_0 C ?_
  have loop : ∀ (d j : Nat), j + d = n → fstN P R m d j = fstN P R m n 0 → Wm G mX12_firstWith E (bm G mX12_firstWith E (pI Q)) μ 2 [(0, .ref (gb G + 132)), (1, .int (nI m)), (2, .int (nI j))] [] := by
    intro d
    induction d with
    | zero =>
      intro j hj e
      rw [← e] at k
      refine k_X12_firstWith_2 C (fun _ => k) (fun p => ?_)
      exfalso
      revert p
      rw [r3]
      simp (disch := omega) only [ofNat_nI, nI_add, pk_mul, nI_clamp, nI_leI, nI_ltI, nI_eq, vp_in_nI_iff, nI_subr, nI_m1r, m1_eq, m1_eq2, m1_le, m1_le2, m1_lt, m1_lt2, m1_self, cv_sub, cv_add1, cv_eq, cv_eqI, cv_eqI2, cv_m1, cv_lt0, cv_leI, cv_Ile, cv_le, cv_lt, cv_Ilt, cv_ltI, not_true, not_false_iff, true_implies, false_implies, false_or, or_false, true_and, and_true, false_and, and_false, true_or, or_true]
      omega
    | succ d ih =>
      intro j hj e
      refine k_X12_firstWith_2 C (fun p => ?_) (fun _ => ?_)
      · exfalso
        revert p
        rw [r3]
        simp (disch := omega) only [ofNat_nI, nI_add, pk_mul, nI_clamp, nI_leI, nI_ltI, nI_eq, vp_in_nI_iff, nI_subr, nI_m1r, m1_eq, m1_eq2, m1_le, m1_le2, m1_lt, m1_lt2, m1_self, cv_sub, cv_add1, cv_eq, cv_eqI, cv_eqI2, cv_m1, cv_lt0, cv_leI, cv_Ile, cv_le, cv_lt, cv_Ilt, cv_ltI, not_true, not_false_iff, true_implies, false_implies, false_or, or_false, true_and, and_true, false_and, and_false, true_or, or_true]
        omega
      · refine s_hasMix h hT hM hL (by omega) hm (rr j (by omega)) (k_X12_firstWith_18 C (fun p => ?_) (fun p => ?_))
        · rw [nI_b0] at p
          rw [fstN, p] at e
          simp (disch := omega) only [ofNat_nI, nI_add, pk_mul, nI_clamp, nI_leI, nI_ltI, nI_eq, vp_in_nI_iff, nI_subr, nI_m1r, m1_eq, m1_eq2, m1_le, m1_le2, m1_lt, m1_lt2, m1_self, cv_sub, cv_add1, cv_eq, cv_eqI, cv_eqI2, cv_m1, cv_lt0, cv_leI, cv_Ile, cv_le, cv_lt, cv_Ilt, cv_ltI, not_true, not_false_iff, true_implies, false_implies, false_or, or_false, true_and, and_true, false_and, and_false, true_or, or_true]
          exact ih (j + 1) (by omega) e
        · rw [nI_b0] at p
          rw [fstN, if_pos (by cases q : hasM P (R j) m with | true => rfl | false => exact absurd q p)] at e
          rw [← e] at k
          exact k
  exact loop n 0 (by omega) rfl
/-- mixes of a row that no row ahead of place a has -/
def newN (P : Pl) (R : Nat → Nat → Nat) (j a : Nat) : Nat := sm (MM P) (fun m => (hasM P (R j) m && decide (rwN P R m a = 0)).toNat)
theorem s_gainOf {G : mG} {Q : Int32 → mM → Prop} {μ : mM} {P : Pl} (h : PW P) (hT : μ 135 1 = nI (qT P)) (hM : MM P ≤ 1200) (hX : MixM μ P) {n j : Nat} {R : Nat → Nat → Nat} {told : Nat → Nat} (hr : RowsM (μ 135) n R told) (hj : j < n)
    (k : Q (nI (newN P R j j)) μ) : CtI G mX12_gainOf [.ref (gb G + 132), .int (nI j)] μ Q := by
  obtain ⟨x1, x2, x3⟩ := hX
  obtain ⟨r3, r64, rr, -⟩ := hr
  refine e_X12_gainOf fun E C => k_X12_gainOf_0 C ?_
  refine lp_up (W := fun i => Wm G mX12_gainOf E (bm G mX12_gainOf E (pI Q)) μ 4 [(0, .ref (gb G + 132)), (1, .int (nI j)), (2, .int (nI (sm i (fun m => (hasM P (R j) m && decide (rwN P R m j = 0)).toNat)))), (3, .int (nI i))] []) (MM P) ?_ (fun m hm ih => ?_)
  · refine k_X12_gainOf_4 C (fun _ => k) (fun p => ?_)
    exfalso
    revert p
    rw [x1]
    simp (disch := omega) only [ofNat_nI, nI_add, pk_mul, nI_clamp, nI_leI, nI_ltI, nI_eq, vp_in_nI_iff, nI_subr, nI_m1r, m1_eq, m1_eq2, m1_le, m1_le2, m1_lt, m1_lt2, m1_self, cv_sub, cv_add1, cv_eq, cv_eqI, cv_eqI2, cv_m1, cv_lt0, cv_leI, cv_Ile, cv_le, cv_lt, cv_Ilt, cv_ltI, not_true, not_false_iff, true_implies, false_implies, false_or, or_false, true_and, and_true, false_and, and_false, true_or, or_true]
    all_goals omega
  · refine k_X12_gainOf_4 C (fun p => ?_) (fun _ => ?_)
    · exfalso
      revert p
      rw [x1]
      simp (disch := omega) only [ofNat_nI, nI_add, pk_mul, nI_clamp, nI_leI, nI_ltI, nI_eq, vp_in_nI_iff, nI_subr, nI_m1r, m1_eq, m1_eq2, m1_le, m1_le2, m1_lt, m1_lt2, m1_self, cv_sub, cv_add1, cv_eq, cv_eqI, cv_eqI2, cv_m1, cv_lt0, cv_leI, cv_Ile, cv_le, cv_lt, cv_Ilt, cv_ltI, not_true, not_false_iff, true_implies, false_implies, false_or, or_false, true_and, and_true, false_and, and_false, true_or, or_true]
      omega
    · refine s_hasMix h hT hM x2 (by omega) hm (rr j hj) (k_X12_gainOf_19 C (fun p => ?_) (fun p => ?_))
      · rw [nI_b0] at p
        rw [sm, p] at ih
        simp (disch := omega) only [ofNat_nI, nI_add, pk_mul, nI_clamp, nI_leI, nI_ltI, nI_eq, vp_in_nI_iff, nI_subr, nI_m1r, m1_eq, m1_eq2, m1_le, m1_le2, m1_lt, m1_lt2, m1_self, cv_sub, cv_add1, cv_eq, cv_eqI, cv_eqI2, cv_m1, cv_lt0, cv_leI, cv_Ile, cv_le, cv_lt, cv_Ilt, cv_ltI, not_true, not_false_iff, true_implies, false_implies, false_or, or_false, true_and, and_true, false_and, and_false, true_or, or_true]
        exact ih
      · rw [nI_b0] at p
        have e : hasM P (R j) m = true := by cases q : hasM P (R j) m with | true => rfl | false => exact absurd q p
        refine s_rowsWith (R := R) h hT hM x2 (by omega) hm (fun j' hj' => rr j' (by omega)) (k_X12_gainOf_29 C (fun v hv => ?_))
        have := rwN_le P R m j
        rw [phZ (by omega) hv]
        rw [sm, e, Bool.true_and] at ih
        simp (disch := omega) only [ofNat_nI, nI_add, pk_mul, nI_clamp, nI_leI, nI_ltI, nI_eq, vp_in_nI_iff, nI_subr, nI_m1r, m1_eq, m1_eq2, m1_le, m1_le2, m1_lt, m1_lt2, m1_self, cv_sub, cv_add1, cv_eq, cv_eqI, cv_eqI2, cv_m1, cv_lt0, cv_leI, cv_Ile, cv_le, cv_lt, cv_Ilt, cv_ltI, not_true, not_false_iff, true_implies, false_implies, false_or, or_false, true_and, and_true, false_and, and_false, true_or, or_true]
        exact ih
theorem s_newIn {G : mG} {Q : Int32 → mM → Prop} {μ : mM} {P : Pl} (h : PW P) (hT : μ 135 1 = nI (qT P)) (hM : MM P ≤ 1200) (hX : MixM μ P) {n j a : Nat} {R : Nat → Nat → Nat} {told : Nat → Nat} (hr : RowsM (μ 135) n R told) (hj : j < n) (ha : a ≤ n)
    (k : Q (nI (newN P R j a)) μ) : CtI G mX12_newIn [.ref (gb G + 132), .int (nI j), .int (nI a)] μ Q := by
  obtain ⟨x1, x2, x3⟩ := hX
  obtain ⟨r3, r64, rr, -⟩ := hr
  refine e_X12_newIn fun E C => k_X12_newIn_0 C ?_
  refine lp_up (W := fun i => Wm G mX12_newIn E (bm G mX12_newIn E (pI Q)) μ 5 [(0, .ref (gb G + 132)), (1, .int (nI j)), (2, .int (nI a)), (3, .int (nI (sm i (fun m => (hasM P (R j) m && decide (rwN P R m a = 0)).toNat)))), (4, .int (nI i))] []) (MM P) ?_ (fun m hm ih => ?_)
  · refine k_X12_newIn_5 C (fun _ => k) (fun p => ?_)
    exfalso
    revert p
    rw [x1]
    simp (disch := omega) only [ofNat_nI, nI_add, pk_mul, nI_clamp, nI_leI, nI_ltI, nI_eq, vp_in_nI_iff, nI_subr, nI_m1r, m1_eq, m1_eq2, m1_le, m1_le2, m1_lt, m1_lt2, m1_self, cv_sub, cv_add1, cv_eq, cv_eqI, cv_eqI2, cv_m1, cv_lt0, cv_leI, cv_Ile, cv_le, cv_lt, cv_Ilt, cv_ltI, not_true, not_false_iff, true_implies, false_implies, false_or, or_false, true_and, and_true, false_and, and_false, true_or, or_true]
    all_goals omega
  · refine k_X12_newIn_5 C (fun p => ?_) (fun _ => ?_)
    · exfalso
      revert p
      rw [x1]
      simp (disch := omega) only [ofNat_nI, nI_add, pk_mul, nI_clamp, nI_leI, nI_ltI, nI_eq, vp_in_nI_iff, nI_subr, nI_m1r, m1_eq, m1_eq2, m1_le, m1_le2, m1_lt, m1_lt2, m1_self, cv_sub, cv_add1, cv_eq, cv_eqI, cv_eqI2, cv_m1, cv_lt0, cv_leI, cv_Ile, cv_le, cv_lt, cv_Ilt, cv_ltI, not_true, not_false_iff, true_implies, false_implies, false_or, or_false, true_and, and_true, false_and, and_false, true_or, or_true]
      omega
    · refine s_hasMix h hT hM x2 (by omega) hm (rr j hj) (k_X12_newIn_22 C (fun p => ?_) (fun p => ?_))
      · rw [nI_b0] at p
        rw [sm, p] at ih
        simp (disch := omega) only [ofNat_nI, nI_add, pk_mul, nI_clamp, nI_leI, nI_ltI, nI_eq, vp_in_nI_iff, nI_subr, nI_m1r, m1_eq, m1_eq2, m1_le, m1_le2, m1_lt, m1_lt2, m1_self, cv_sub, cv_add1, cv_eq, cv_eqI, cv_eqI2, cv_m1, cv_lt0, cv_leI, cv_Ile, cv_le, cv_lt, cv_Ilt, cv_ltI, not_true, not_false_iff, true_implies, false_implies, false_or, or_false, true_and, and_true, false_and, and_false, true_or, or_true]
        exact ih
      · rw [nI_b0] at p
        have e : hasM P (R j) m = true := by cases q : hasM P (R j) m with | true => rfl | false => exact absurd q p
        refine s_rowsWith (R := R) h hT hM x2 (by omega) hm (fun j' hj' => rr j' (by omega)) (k_X12_newIn_33 C (fun v hv => ?_))
        have := rwN_le P R m a
        rw [phZ (by omega) hv]
        rw [sm, e, Bool.true_and] at ih
        simp (disch := omega) only [ofNat_nI, nI_add, pk_mul, nI_clamp, nI_leI, nI_ltI, nI_eq, vp_in_nI_iff, nI_subr, nI_m1r, m1_eq, m1_eq2, m1_le, m1_le2, m1_lt, m1_lt2, m1_self, cv_sub, cv_add1, cv_eq, cv_eqI, cv_eqI2, cv_m1, cv_lt0, cv_leI, cv_Ile, cv_le, cv_lt, cv_Ilt, cv_ltI, not_true, not_false_iff, true_implies, false_implies, false_or, or_false, true_and, and_true, false_and, and_false, true_or, or_true]
        exact ih
/-- a row has a mix that no other has -/
def needB (P : Pl) (n : Nat) (R : Nat → Nat → Nat) (j : Nat) : Bool := decide (∃ m, m < MM P ∧ hasM P (R j) m = true ∧ rwN P R m n = 1)
theorem s_isNeeded {G : mG} {Q : Int32 → mM → Prop} {μ : mM} {P : Pl} (h : PW P) (hT : μ 135 1 = nI (qT P)) (hM : MM P ≤ 1200) (hX : MixM μ P) {n j : Nat} {R : Nat → Nat → Nat} {told : Nat → Nat} (hr : RowsM (μ 135) n R told) (hj : j < n)
    (k1 : (∃ m, m < MM P ∧ hasM P (R j) m = true ∧ rwN P R m n = 1) → Q 1 μ) (k0 : (∀ m, m < MM P → hasM P (R j) m = true → rwN P R m n ≠ 1) → Q 0 μ) : CtI G mX12_isNeeded [.ref (gb G + 132), .int (nI j)] μ Q := by
  obtain ⟨x1, x2, x3⟩ := hX
  obtain ⟨r3, r64, rr, -⟩ := hr
  refine e_X12_isNeeded fun E C => k_X12_isNeeded_0 C ?_
  have loop : ∀ (d i : Nat), i + d = MM P → (∀ m, m < i → hasM P (R j) m = true → rwN P R m n ≠ 1) → Wm G mX12_isNeeded E (bm G mX12_isNeeded E (pI Q)) μ 2 [(0, .ref (gb G + 132)), (1, .int (nI j)), (2, .int (nI i))] [] := by
    intro d
    induction d with
    | zero =>
      intro i hi hall
      refine k_X12_isNeeded_2 C (fun _ => k0 (fun m hm => hall m (by omega))) (fun p => ?_)
      exfalso
      revert p
      rw [x1]
      simp (disch := omega) only [ofNat_nI, nI_add, pk_mul, nI_clamp, nI_leI, nI_ltI, nI_eq, vp_in_nI_iff, nI_subr, nI_m1r, m1_eq, m1_eq2, m1_le, m1_le2, m1_lt, m1_lt2, m1_self, cv_sub, cv_add1, cv_eq, cv_eqI, cv_eqI2, cv_m1, cv_lt0, cv_leI, cv_Ile, cv_le, cv_lt, cv_Ilt, cv_ltI, not_true, not_false_iff, true_implies, false_implies, false_or, or_false, true_and, and_true, false_and, and_false, true_or, or_true]
      omega
    | succ d ih =>
      intro i hi hall
      have nxt : (hasM P (R j) i = true → rwN P R i n ≠ 1) → Wm G mX12_isNeeded E (bm G mX12_isNeeded E (pI Q)) μ 2 [(0, .ref (gb G + 132)), (1, .int (nI j)), (2, .int (nI (i + 1)))] [] := fun hh => ih (i + 1) (by omega) (fun m hm => by
        by_cases q : m = i
        · subst q; exact hh
        · exact hall m (by omega))
      refine k_X12_isNeeded_2 C (fun p => ?_) (fun _ => ?_)
      · exfalso
        revert p
        rw [x1]
        simp (disch := omega) only [ofNat_nI, nI_add, pk_mul, nI_clamp, nI_leI, nI_ltI, nI_eq, vp_in_nI_iff, nI_subr, nI_m1r, m1_eq, m1_eq2, m1_le, m1_le2, m1_lt, m1_lt2, m1_self, cv_sub, cv_add1, cv_eq, cv_eqI, cv_eqI2, cv_m1, cv_lt0, cv_leI, cv_Ile, cv_le, cv_lt, cv_Ilt, cv_ltI, not_true, not_false_iff, true_implies, false_implies, false_or, or_false, true_and, and_true, false_and, and_false, true_or, or_true]
        omega
      · refine s_hasMix h hT hM x2 (by omega) (by omega) (rr j hj) (k_X12_isNeeded_16 C (fun p => ?_) (fun p => ?_))
        · rw [nI_b0] at p
          simp (disch := omega) only [ofNat_nI, nI_add, pk_mul, nI_clamp, nI_leI, nI_ltI, nI_eq, vp_in_nI_iff, nI_subr, nI_m1r, m1_eq, m1_eq2, m1_le, m1_le2, m1_lt, m1_lt2, m1_self, cv_sub, cv_add1, cv_eq, cv_eqI, cv_eqI2, cv_m1, cv_lt0, cv_leI, cv_Ile, cv_le, cv_lt, cv_Ilt, cv_ltI, not_true, not_false_iff, true_implies, false_implies, false_or, or_false, true_and, and_true, false_and, and_false, true_or, or_true]
          exact nxt (fun z => by rw [p] at z; cases z)
        · rw [nI_b0] at p
          have e : hasM P (R j) i = true := by cases q : hasM P (R j) i with | true => rfl | false => exact absurd q p
          rw [r3]
          refine s_rowsWith (R := R) h hT hM x2 r64 (by omega) rr (k_X12_isNeeded_31 C (fun p => ?_) (fun p => ?_))
          · revert p
            have := rwN_le P R i n
            simp (disch := omega) only [ofNat_nI, nI_add, pk_mul, nI_clamp, nI_leI, nI_ltI, nI_eq, vp_in_nI_iff, nI_subr, nI_m1r, m1_eq, m1_eq2, m1_le, m1_le2, m1_lt, m1_lt2, m1_self, cv_sub, cv_add1, cv_eq, cv_eqI, cv_eqI2, cv_m1, cv_lt0, cv_leI, cv_Ile, cv_le, cv_lt, cv_Ilt, cv_ltI, not_true, not_false_iff, true_implies, false_implies, false_or, or_false, true_and, and_true, false_and, and_false, true_or, or_true]
            intro p
            exact nxt (fun _ => p)
          · revert p
            have := rwN_le P R i n
            simp (disch := omega) only [ofNat_nI, nI_add, pk_mul, nI_clamp, nI_leI, nI_ltI, nI_eq, vp_in_nI_iff, nI_subr, nI_m1r, m1_eq, m1_eq2, m1_le, m1_le2, m1_lt, m1_lt2, m1_self, cv_sub, cv_add1, cv_eq, cv_eqI, cv_eqI2, cv_m1, cv_lt0, cv_leI, cv_Ile, cv_le, cv_lt, cv_Ilt, cv_ltI, not_true, not_false_iff, true_implies, false_implies, false_or, or_false, true_and, and_true, false_and, and_false, true_or, or_true]
            intro p
            exact k1 ⟨i, by omega, e, p⟩
  exact loop (MM P) 0 (by omega) (fun m hm => by omega)

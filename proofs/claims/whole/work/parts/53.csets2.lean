/-! THE CLASS: the mix that a row has in a set -/
def numO (P : Pl) (i : Nat) (r : Nat → Nat) : Option Nat := if ∀ k, k < qT P → r (st (qC P) (qT P) i k) ≠ 0 then some (fi P i + hn (qS P i) (fun k => r (st (qC P) (qT P) i k) - 1) (qT P)) else none
def noI : Option Nat → Int32
  | none => -1
  | some m => nI m
theorem numO_some {P : Pl} (h : PW P) {i m : Nat} {r : Nat → Nat} (hr : ∀ c, r c ≤ qL P c) (hi : i < ns (qC P) (qT P)) (e : numO P i r = some m) : (∃ w, w < pp P i ∧ m = fi P i + w) ∧ m < MM P ∧ hasM P r m = true := by
  unfold numO at e
  by_cases q : ∀ k, k < qT P → r (st (qC P) (qT P) i k) ≠ 0
  · rw [if_pos q] at e
    cases e
    have hd : ∀ k, k < qT P → (fun k => r (st (qC P) (qT P) i k) - 1) k < qS P i k := fun k hk => by
      have h1 := q k hk
      have h2 := hr (st (qC P) (qT P) i k)
      show r (st (qC P) (qT P) i k) - 1 < qL P (st (qC P) (qT P) i k)
      omega
    have hlt := hn_lt hd
    refine ⟨⟨_, hlt, rfl⟩, fi_lt hi hlt, (hasM_set h hi hlt).mpr fun k hk => ?_⟩
    rw [dg_hn hd hk]
    have := q k hk
    omega
  · rw [if_neg q] at e; cases e
theorem numO_has {P : Pl} (h : PW P) {i w : Nat} {r : Nat → Nat} (hr : ∀ c, r c ≤ qL P c) (hi : i < ns (qC P) (qT P)) (hw : w < pp P i) : hasM P r (fi P i + w) = true ↔ numO P i r = some (fi P i + w) := by
  constructor
  · intro e
    have e' := (hasM_set h hi hw).mp e
    unfold numO
    rw [if_pos (fun k hk => by rw [e' k hk]; omega)]
    congr 2
    rw [← hn_dg (fun k hk => by have := (h.lst hi hk).1; omega) hw]
    refine hn_congr fun k hk => ⟨rfl, ?_⟩
    show r (st (qC P) (qT P) i k) - 1 = _
    rw [e' k hk]
    rfl
  · intro e
    exact (numO_some h hr hi e).2.2
theorem s_numberIn {G : mG} {Q : Int32 → mM → Prop} {μ : mM} {s i : Nat} {P : Pl} {r : Nat → Nat} (h0 : sh s = (0, 0)) (h : PW P) (hs : SetC s P μ) (hr : ∀ c, r c ≤ qL P c) (hi : i < ns (qC P) (qT P)) (k : Q (noI (numO P i r)) μ) : CtI G mX0_numberIn [.ref (gb G + s), .int (nI i), .int (rowI r)] μ Q := by
  obtain ⟨t1, t3, tC, hC8⟩ := h.ct
  obtain ⟨n1, n56⟩ := ns_pos h.ct
  obtain ⟨s0, s1, s2, s3, s4⟩ := hs
  have r4 := fun c => RwOk.le4 h hr c
  refine e_X0_numberIn h0 fun E C => k_X0_numberIn_0 C h0 ?_
  have loop : ∀ (d j : Nat), j + d = qT P → (∀ k, k < j → r (st (qC P) (qT P) i k) ≠ 0) → Wm G mX0_numberIn E (bm G mX0_numberIn E (pI Q)) μ 5 [(0, .ref (gb G + s)), (1, .int (nI i)), (2, .int (rowI r)), (3, .int (nI (hn (qS P i) (fun k => r (st (qC P) (qT P) i k) - 1) j))), (4, .int (nI j))] [] := by
    intro d
    induction d with
    | zero =>
      intro j hj hall
      have hjt : j = qT P := by omega
      subst hjt
      have e : numO P i r = some (fi P i + hn (qS P i) (fun k => r (st (qC P) (qT P) i k) - 1) (qT P)) := if_pos hall
      rw [e] at k
      refine k_X0_numberIn_5 C h0 (fun _ => ?_) (fun _ => ?_) (fun z => ?_) (fun z => ?_) (fun z => ?_) (fun z => ?_)
      · simp (disch := omega) only [ofNat_nI, nI_add, pk_mul, nI_clamp, nI_leI, nI_ltI, nI_eq, vp_in_nI_iff, nI_subr, nI_m1r, m1_eq, m1_eq2, m1_le, m1_le2, m1_lt, m1_lt2, m1_self, cv_sub, cv_add1, cv_eq, cv_eqI, cv_eqI2, cv_m1, cv_lt0, cv_leI, cv_Ile, cv_le, cv_lt, cv_Ilt, cv_ltI, not_true, not_false_iff, true_implies, false_implies, false_or, or_false, true_and, and_true, false_and, and_false, true_or, or_true]
        omega
      · rw [nI_clamp (by omega), s3 i (by omega), nI_add]
        exact k
      all_goals
        exfalso
        revert z
        rw [s1]
        simp (disch := omega) only [ofNat_nI, nI_add, pk_mul, nI_clamp, nI_leI, nI_ltI, nI_eq, vp_in_nI_iff, nI_subr, nI_m1r, m1_eq, m1_eq2, m1_le, m1_le2, m1_lt, m1_lt2, m1_self, cv_sub, cv_add1, cv_eq, cv_eqI, cv_eqI2, cv_m1, cv_lt0, cv_leI, cv_Ile, cv_le, cv_lt, cv_Ilt, cv_ltI, not_true, not_false_iff, true_implies, false_implies, false_or, or_false, true_and, and_true, false_and, and_false, true_or, or_true]
        omega
    | succ d ih =>
      intro j hj hall
      have hjt : j < qT P := by omega
      obtain ⟨l1, l2, l3⟩ := st_lt h.ct hi hjt
      have ei : (nI i * 3 + nI j : Int32) = nI (3 * i + j) := by
        rw [show (3 : Int32) = nI 3 from rfl, pk_mul, nI_add, Nat.mul_comm]
      have ec : μ (s + 1) (nI i * 3 + nI j).toNatClampNeg = nI (st (qC P) (qT P) i j) := by
        rw [ei, nI_clamp (by omega)]
        exact s2 i hi j hjt
      have en := nib_row (r := r) (c := st (qC P) (qT P) i j) (by omega) (r4 _)
      have eL : μ (s + 4) (nI (st (qC P) (qT P) i j)).toNatClampNeg = nI (qS P i j) := by rw [nI_clamp (by omega)]; exact s4 _ l1
      have hr4 := r4 (st (qC P) (qT P) i j)
      refine k_X0_numberIn_5 C h0 (fun z => ?_) (fun z => ?_) (fun _ => ?_) (fun _ _ _ => ?_) (fun _ z1 z2 => ?_) (fun _ z => ?_)
      · exfalso
        revert z
        rw [s1]
        simp (disch := omega) only [ofNat_nI, nI_add, pk_mul, nI_clamp, nI_leI, nI_ltI, nI_eq, vp_in_nI_iff, nI_subr, nI_m1r, m1_eq, m1_eq2, m1_le, m1_le2, m1_lt, m1_lt2, m1_self, cv_sub, cv_add1, cv_eq, cv_eqI, cv_eqI2, cv_m1, cv_lt0, cv_leI, cv_Ile, cv_le, cv_lt, cv_Ilt, cv_ltI, not_true, not_false_iff, true_implies, false_implies, false_or, or_false, true_and, and_true, false_and, and_false, true_or, or_true]
        omega
      · exfalso
        revert z
        rw [s1]
        simp (disch := omega) only [ofNat_nI, nI_add, pk_mul, nI_clamp, nI_leI, nI_ltI, nI_eq, vp_in_nI_iff, nI_subr, nI_m1r, m1_eq, m1_eq2, m1_le, m1_le2, m1_lt, m1_lt2, m1_self, cv_sub, cv_add1, cv_eq, cv_eqI, cv_eqI2, cv_m1, cv_lt0, cv_leI, cv_Ile, cv_le, cv_lt, cv_Ilt, cv_ltI, not_true, not_false_iff, true_implies, false_implies, false_or, or_false, true_and, and_true, false_and, and_false, true_or, or_true]
        omega
      · rw [ei]
        simp (disch := omega) only [ofNat_nI, nI_add, pk_mul, nI_clamp, nI_leI, nI_ltI, nI_eq, vp_in_nI_iff, nI_subr, nI_m1r, m1_eq, m1_eq2, m1_le, m1_le2, m1_lt, m1_lt2, m1_self, cv_sub, cv_add1, cv_eq, cv_eqI, cv_eqI2, cv_m1, cv_lt0, cv_leI, cv_Ile, cv_le, cv_lt, cv_Ilt, cv_ltI, not_true, not_false_iff, true_implies, false_implies, false_or, or_false, true_and, and_true, false_and, and_false, true_or, or_true]
        omega
      · rw [ec]
        simp (disch := omega) only [ofNat_nI, nI_add, pk_mul, nI_clamp, nI_leI, nI_ltI, nI_eq, vp_in_nI_iff, nI_subr, nI_m1r, m1_eq, m1_eq2, m1_le, m1_le2, m1_lt, m1_lt2, m1_self, cv_sub, cv_add1, cv_eq, cv_eqI, cv_eqI2, cv_m1, cv_lt0, cv_leI, cv_Ile, cv_le, cv_lt, cv_Ilt, cv_ltI, not_true, not_false_iff, true_implies, false_implies, false_or, or_false, true_and, and_true, false_and, and_false, true_or, or_true]
        omega
      · rw [ec, en, pw_0 _ (by omega)] at z1
        rw [ec, en, pw_v _ (by omega) z1, eL, cv_pos z1, pk_mul, nI_add]
        simp (disch := omega) only [ofNat_nI, nI_add, pk_mul, nI_clamp, nI_leI, nI_ltI, nI_eq, vp_in_nI_iff, nI_subr, nI_m1r, m1_eq, m1_eq2, m1_le, m1_le2, m1_lt, m1_lt2, m1_self, cv_sub, cv_add1, cv_eq, cv_eqI, cv_eqI2, cv_m1, cv_lt0, cv_leI, cv_Ile, cv_le, cv_lt, cv_Ilt, cv_ltI, not_true, not_false_iff, true_implies, false_implies, false_or, or_false, true_and, and_true, false_and, and_false, true_or, or_true]
        refine ih (j + 1) (by omega) (fun k hk => ?_)
        by_cases q : k = j
        · rw [q]; exact z1
        · exact hall k (by omega)
      · rw [ec, en, pw_0 _ (by omega)] at z
        have hz : r (st (qC P) (qT P) i j) = 0 := by
          rcases z with ⟨z1, z2⟩ | z
          · rw [pw_v _ (by omega) z1, cv_pos z1] at z2
            exact absurd z2 (by
              intro y
              have := congrArg Int32.toInt y
              rw [nI_toInt (by omega)] at this
              have em : ((-1 : Int32)).toInt = -1 := by decide
              omega)
          · exact z
        have e : numO P i r = none := if_neg fun y => y j hjt hz
        rw [e] at k
        exact k
  exact loop (qT P) 0 (by omega) (fun k hk => absurd hk (Nat.not_lt_zero k))
/-- a row's cells in a set -/
def rwS (P : Pl) (i n : Nat) (r : Nat → Nat) : Nat → Nat := fun c => if ∃ k, k < n ∧ st (qC P) (qT P) i k = c then r c else 0
theorem b_15s {c c' l : Nat} (hc : c < 8) (hc' : c' < 8) (hl : l < 4) : bt (15 <<< ((4 * nI c) &&& 31)) (4 * c' + l) = decide (c' = c) := by
  rw [show (4 : Int32) = nI 4 from rfl, pk_mul, b_shl (4 * c) (by omega) _ (by omega), b_15 _ (by omega)]
  by_cases q : c' = c
  · rw [decide_eq_true q, q, decide_eq_true (show 4 * c ≤ 4 * c + l by omega), decide_eq_true (show 4 * c + l - 4 * c < 4 by omega)]; rfl
  · rw [decide_eq_false q]
    by_cases z : 4 * c ≤ 4 * c' + l
    · rw [decide_eq_false (show ¬ 4 * c' + l - 4 * c < 4 by omega), Bool.and_false]
    · rw [decide_eq_false z]; rfl
theorem s_cellsIn {G : mG} {Q : Int32 → mM → Prop} {μ : mM} {s i : Nat} {P : Pl} {r : Nat → Nat} (h0 : sh s = (0, 0)) (h : PW P) (hs : SetC s P μ) (hi : i < ns (qC P) (qT P)) (k : Q (rowI (rwS P i (qT P) r)) μ) : CtI G mX0_cellsIn [.ref (gb G + s), .int (nI i), .int (rowI r)] μ Q := by
  obtain ⟨t1, t3, tC, hC8⟩ := h.ct
  obtain ⟨n1, n56⟩ := ns_pos h.ct
  obtain ⟨s0, s1, s2, s3, s4⟩ := hs
  refine e_X0_cellsIn h0 fun E C => k_X0_cellsIn_0 C h0 ?_
  have key := lp_up (W := fun j => Wm G mX0_cellsIn E (bm G mX0_cellsIn E (pI Q)) μ 5 [(0, .ref (gb G + s)), (1, .int (nI i)), (2, .int (rowI r)), (3, .int (rowI (rwS P i j r))), (4, .int (nI j))] []) (qT P) ?_ (fun j hj ih => ?_)
  · have e0 : rowI (rwS P i 0 r) = 0 := by
      rw [← rowI_0]
      exact rowI_congr fun c _ => if_neg (by rintro ⟨k, hk, -⟩; omega)
    rw [e0] at key
    exact key
  · refine k_X0_cellsIn_5 C h0 (fun _ => k) (fun z => ?_) (fun z => ?_)
    all_goals
      exfalso
      revert z
      rw [s1]
      simp (disch := omega) only [ofNat_nI, nI_add, pk_mul, nI_clamp, nI_leI, nI_ltI, nI_eq, vp_in_nI_iff, nI_subr, nI_m1r, m1_eq, m1_eq2, m1_le, m1_le2, m1_lt, m1_lt2, m1_self, cv_sub, cv_add1, cv_eq, cv_eqI, cv_eqI2, cv_m1, cv_lt0, cv_leI, cv_Ile, cv_le, cv_lt, cv_Ilt, cv_ltI, not_true, not_false_iff, true_implies, false_implies, false_or, or_false, true_and, and_true, false_and, and_false, true_or, or_true]
      omega
  · obtain ⟨l1, l2, l3⟩ := st_lt h.ct hi hj
    have ei : (nI i * 3 + nI j : Int32) = nI (3 * i + j) := by
      rw [show (3 : Int32) = nI 3 from rfl, pk_mul, nI_add, Nat.mul_comm]
    have ec : μ (s + 1) (nI i * 3 + nI j).toNatClampNeg = nI (st (qC P) (qT P) i j) := by
      rw [ei, nI_clamp (by omega)]
      exact s2 i hi j hj
    refine k_X0_cellsIn_5 C h0 (fun z => ?_) (fun _ => ?_) (fun _ => ?_)
    · exfalso
      revert z
      rw [s1]
      simp (disch := omega) only [ofNat_nI, nI_add, pk_mul, nI_clamp, nI_leI, nI_ltI, nI_eq, vp_in_nI_iff, nI_subr, nI_m1r, m1_eq, m1_eq2, m1_le, m1_le2, m1_lt, m1_lt2, m1_self, cv_sub, cv_add1, cv_eq, cv_eqI, cv_eqI2, cv_m1, cv_lt0, cv_leI, cv_Ile, cv_le, cv_lt, cv_Ilt, cv_ltI, not_true, not_false_iff, true_implies, false_implies, false_or, or_false, true_and, and_true, false_and, and_false, true_or, or_true]
      omega
    · rw [ei]
      simp (disch := omega) only [ofNat_nI, nI_add, pk_mul, nI_clamp, nI_leI, nI_ltI, nI_eq, vp_in_nI_iff, nI_subr, nI_m1r, m1_eq, m1_eq2, m1_le, m1_le2, m1_lt, m1_lt2, m1_self, cv_sub, cv_add1, cv_eq, cv_eqI, cv_eqI2, cv_m1, cv_lt0, cv_leI, cv_Ile, cv_le, cv_lt, cv_Ilt, cv_ltI, not_true, not_false_iff, true_implies, false_implies, false_or, or_false, true_and, and_true, false_and, and_false, true_or, or_true]
      omega
    · have e : rowI (rwS P i j r) ||| (rowI r &&& 15 <<< ((4 * nI (st (qC P) (qT P) i j)) &&& 31)) = rowI (rwS P i (j + 1) r) := c_ext fun c l hc hl => by
        rw [b_or, b_and, b_rowc _ hc hl, b_rowc _ hc hl, b_15s (by omega) hc hl, b_rowc _ hc hl]
        unfold rwS
        by_cases q : ∃ k, k < j ∧ st (qC P) (qT P) i k = c
        · obtain ⟨k', hk', e⟩ := id q
          rw [if_pos q, if_pos ⟨k', by omega, e⟩]
          cases decide (r c = l + 1) <;> cases decide (c = st (qC P) (qT P) i j) <;> rfl
        · rw [if_neg q, decide_eq_false (show ¬ 0 = l + 1 by omega), Bool.false_or]
          by_cases z : c = st (qC P) (qT P) i j
          · rw [decide_eq_true z, Bool.and_true, if_pos ⟨j, by omega, z.symm⟩]
          · rw [decide_eq_false z, Bool.and_false, if_neg (by
              rintro ⟨k', hk', e⟩
              by_cases y : k' = j
              · rw [y] at e; exact z e.symm
              · exact q ⟨k', by omega, e⟩)]
            exact (decide_eq_false (by omega)).symm
      rw [ec, e]
      simp (disch := omega) only [ofNat_nI, nI_add, pk_mul, nI_clamp, nI_leI, nI_ltI, nI_eq, vp_in_nI_iff, nI_subr, nI_m1r, m1_eq, m1_eq2, m1_le, m1_le2, m1_lt, m1_lt2, m1_self, cv_sub, cv_add1, cv_eq, cv_eqI, cv_eqI2, cv_m1, cv_lt0, cv_leI, cv_Ile, cv_le, cv_lt, cv_Ilt, cv_ltI, not_true, not_false_iff, true_implies, false_implies, false_or, or_false, true_and, and_true, false_and, and_false, true_or, or_true]
      exact ih
/-- one row's cells are another's -/
theorem row_sub {a b : Nat → Nat} (ha : ∀ c, c < 8 → a c ≤ 4) : rowI a &&& (rowI b ^^^ (-1)) = 0 ↔ ∀ c, c < 8 → a c ≠ 0 → b c = a c := by
  rw [b_sub]
  constructor
  · intro z c hc hn
    have h4 := ha c hc
    have := z (4 * c + (a c - 1)) (by omega) (by rw [b_rowc _ hc (by omega)]; exact decide_eq_true (by omega))
    rw [b_rowc _ hc (by omega)] at this
    have := of_decide_eq_true this
    omega
  · intro z i hi hb
    rw [b_row _ hi] at hb ⊢
    have := of_decide_eq_true hb
    refine decide_eq_true ?_
    rw [z (i / 4) (by omega) (by omega)]
    exact this
theorem mrow_le {P : Pl} (h : PW P) {m : Nat} (hm : m < MM P) (c : Nat) : mrow P m c ≤ qL P c := by
  by_cases q : mrow P m c = 0
  · omega
  · obtain ⟨k, hk, rfl⟩ := mrow_ne q
    rw [mrow_at h hm hk]
    exact mlev_lt h hm hk
theorem mrow_sub {P : Pl} (h : PW P) {m : Nat} (hm : m < MM P) {r : Nat → Nat} : rowI (mrow P m) &&& (rowI r ^^^ (-1)) = 0 ↔ hasM P r m = true := by
  have hC8 := h.ct.2.2.2
  rw [row_sub (fun c _ => RwOk.le4 h (mrow_le h hm) c), hasM_row h hm]
  constructor
  · intro z c hn
    refine z c ?_ hn
    obtain ⟨k, hk, rfl⟩ := mrow_ne hn
    have := mcol_lt h hm hk
    omega
  · intro z c _ hn
    exact z c hn

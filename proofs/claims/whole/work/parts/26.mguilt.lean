/-! THE MODEL: rows by polynomials; draws; mixes that can be guilty -/
def pnum (q T w : Nat) : Nat → Nat := fun k => w / q ^ (T - 1 - k) % q
/-- the row of a polynomial -/
def polR (P : Pl) (q w : Nat) : Nat → Nat := fun c => if c < qC P then (if valQ q c (pnum q (qT P) w) (qT P) < qL P c then valQ q c (pnum q (qT P) w) (qT P) + 1 else 0) else 0
theorem polR_le (P : Pl) (q w c : Nat) : polR P q w c ≤ qL P c := by
  unfold polR
  split
  · split
    · omega
    · exact Nat.zero_le _
  · exact Nat.zero_le _
theorem valQ_lt {q x : Nat} {a : Nat → Nat} {T : Nat} (hq : isQ q) (hT : 1 ≤ T) (ha : ∀ k, k < T → a k < q) : valQ q x a T < q := by
  unfold valQ
  split
  · exact ha _ (by omega)
  · exact hor_lt hq ha T (Nat.le_refl T)
theorem s_laysPolynomial {G : mG} {Q : mM → Prop} {μ : mM} {P : Pl} (h : PW P) (hn : NowP (μ 135) P) {q w : Nat} (hq : isQ q) (hqC : qC P ≤ q + 1) (hw : w < 2 ^ 31)
    (k : ∀ μ', Fr [145, 147] μ μ' → (∀ c, c < qC P → μ' 145 c = cv (polR P q w c)) → Q μ') : CtV G mX12_laysPolynomial [.ref (gb G + 132), .int (nI q), .int (nI w)] μ Q := by
  have hC8 : qC P ≤ 8 := h.ct.2.2.2
  obtain ⟨t1, t3, -, -⟩ := h.ct
  have hq7 : q ≤ 7 ∧ 2 ≤ q := by unfold isQ at hq; omega
  have hnum : ∀ k, k < qT P → pnum q (qT P) w k < q := fun k _ => Nat.mod_lt _ (by omega)
  refine e_X12_laysPolynomial fun E C => k_X12_laysPolynomial_0 C ?_
  rw [hn.2.1, show (1 : Int32) = nI 1 from rfl, cv_pred _ (by omega)]
  have two : ∀ (d c : Nat) (g : Nat → Int32) (μ1 : mM), c + d = qC P → Fr [147] μ μ1 → (∀ k, k < qT P → μ1 147 k = nI (pnum q (qT P) w k)) → (∀ c', c' < c → g c' = cv (polR P q w c')) →
      Wm G mX12_laysPolynomial E (bm G mX12_laysPolynomial E (pV Q)) (mrw μ1 145 g) 40 [(0, .ref (gb G + 132)), (1, .int (nI q)), (4, .int (nI c))] [] := by
    intro d
    induction d with
    | zero =>
      intro c g μ1 hc F hk hg
      have e0 : (mrw μ1 145 g) 135 0 = nI (qC P) := by rw [mrw_ne (by decide), F 135 (by decide)]; exact hn.1
      refine k_X12_laysPolynomial_40 C (fun _ => k _ ((F.mono (by simp)).mrw (by decide)) (fun c' hc' => by rw [mrw_at]; exact hg c' (by omega))) (fun p => ?_)
      exfalso
      revert p
      rw [e0]
      simp (disch := omega) only [ofNat_nI, nI_add, pk_mul, nI_clamp, nI_leI, nI_ltI, nI_eq, vp_in_nI_iff, nI_subr, nI_m1r, m1_eq, m1_eq2, m1_le, m1_le2, m1_lt, m1_lt2, m1_self, cv_sub, cv_add1, cv_eq, cv_eqI, cv_eqI2, cv_m1, cv_lt0, cv_leI, cv_Ile, cv_le, cv_lt, cv_Ilt, cv_ltI, not_true, not_false_iff, true_implies, false_implies, false_or, or_false, true_and, and_true, false_and, and_false, true_or, or_true]
      omega
    | succ d ih =>
      intro c g μ1 hc F hk hg
      have e0 : (mrw μ1 145 g) 135 0 = nI (qC P) := by rw [mrw_ne (by decide), F 135 (by decide)]; exact hn.1
      have hcC : c < qC P := by omega
      have l4 := (h.lv hcC).2
      have eL : (mrw μ1 145 g) 135 (5 + c) = nI (qL P c) := by rw [mrw_ne (by decide), F 135 (by decide)]; exact hn.2.2.2.1 c hcC
      refine k_X12_laysPolynomial_40 C (fun p => ?_) (fun _ => ?_)
      · exfalso
        revert p
        rw [e0]
        simp (disch := omega) only [ofNat_nI, nI_add, pk_mul, nI_clamp, nI_leI, nI_ltI, nI_eq, vp_in_nI_iff, nI_subr, nI_m1r, m1_eq, m1_eq2, m1_le, m1_le2, m1_lt, m1_lt2, m1_self, cv_sub, cv_add1, cv_eq, cv_eqI, cv_eqI2, cv_m1, cv_lt0, cv_leI, cv_Ile, cv_le, cv_lt, cv_Ilt, cv_ltI, not_true, not_false_iff, true_implies, false_implies, false_or, or_false, true_and, and_true, false_and, and_false, true_or, or_true]
        omega
      · have hv := valQ_lt (x := c) hq t1 hnum
        refine s_valueAt (T := qT P) (a := pnum q (qT P) w) hq (by rw [mrw_ne (by decide), F 135 (by decide)]; exact hn.2.1) t1 t3 (by omega) (by omega) (fun k hk' => ⟨by rw [mrw_ne (by decide)]; exact hk k hk', hnum k hk'⟩) (k_X12_laysPolynomial_58 C ?_ (fun v hv => ?_) (fun v hv' => ?_))
        · simp (disch := omega) only [ofNat_nI, nI_add, pk_mul, nI_clamp, nI_leI, nI_ltI, nI_eq, vp_in_nI_iff, nI_subr, nI_m1r, m1_eq, m1_eq2, m1_le, m1_le2, m1_lt, m1_lt2, m1_self, cv_sub, cv_add1, cv_eq, cv_eqI, cv_eqI2, cv_m1, cv_lt0, cv_leI, cv_Ile, cv_le, cv_lt, cv_Ilt, cv_ltI, not_true, not_false_iff, true_implies, false_implies, false_or, or_false, true_and, and_true, false_and, and_false, true_or, or_true]
          omega
        · simp (disch := omega) only [ofNat_nI, nI_add, pk_mul, nI_clamp, nI_leI, nI_ltI, nI_eq, vp_in_nI_iff, nI_subr, nI_m1r, m1_eq, m1_eq2, m1_le, m1_le2, m1_lt, m1_lt2, m1_self, cv_sub, cv_add1, cv_eq, cv_eqI, cv_eqI2, cv_m1, cv_lt0, cv_leI, cv_Ile, cv_le, cv_lt, cv_Ilt, cv_ltI, not_true, not_false_iff, true_implies, false_implies, false_or, or_false, true_and, and_true, false_and, and_false, true_or, or_true]
          omega
        · have ev : v = cv (polR P q w c) := by
            unfold polR
            rw [if_pos hcC]
            revert hv'
            simp (disch := omega) only [ofNat_nI, nI_add, pk_mul, nI_clamp, nI_leI, nI_ltI, nI_eq, vp_in_nI_iff, nI_subr, nI_m1r, m1_eq, m1_eq2, m1_le, m1_le2, m1_lt, m1_lt2, m1_self, cv_sub, cv_add1, cv_eq, cv_eqI, cv_eqI2, cv_m1, cv_lt0, cv_leI, cv_Ile, cv_le, cv_lt, cv_Ilt, cv_ltI, not_true, not_false_iff, true_implies, false_implies, false_or, or_false, true_and, and_true, false_and, and_false, true_or, or_true, eL]
            rintro (⟨z, rfl⟩ | ⟨z, rfl⟩)
            · rw [if_neg (by omega)]; rfl
            · rw [if_pos (by omega), cv_s]
          rw [ev, ms_mrw]
          simp (disch := omega) only [ofNat_nI, nI_add, pk_mul, nI_clamp, nI_leI, nI_ltI, nI_eq, vp_in_nI_iff, nI_subr, nI_m1r, m1_eq, m1_eq2, m1_le, m1_le2, m1_lt, m1_lt2, m1_self, cv_sub, cv_add1, cv_eq, cv_eqI, cv_eqI2, cv_m1, cv_lt0, cv_leI, cv_Ile, cv_le, cv_lt, cv_Ilt, cv_ltI, not_true, not_false_iff, true_implies, false_implies, false_or, or_false, true_and, and_true, false_and, and_false, true_or, or_true]
          refine ih (c + 1) _ μ1 (by omega) F hk (fun c' hc' => ?_)
          rw [upd_at]
          by_cases z : c' = c
          · rw [if_pos z, z]
          · rw [if_neg z]; exact hg c' (by omega)
  have one : ∀ (a : Nat) (g : Nat → Int32), a ≤ qT P → (∀ k, a ≤ k → k < qT P → g k = nI (pnum q (qT P) w k)) →
      Wm G mX12_laysPolynomial E (bm G mX12_laysPolynomial E (pV Q)) (mrw μ 147 g) 12 [(0, .ref (gb G + 132)), (1, .int (nI q)), (3, .int (nI (w / q ^ (qT P - a)))), (4, .int (cv a))] [] := by
    intro a
    induction a with
    | zero =>
      intro g _ hg
      refine k_X12_laysPolynomial_12 C (fun _ => ?_) (fun p => ?_) (fun p => ?_) (fun p => ?_)
      · have := two (qC P) 0 ((mrw μ 147 g) 145) (mrw μ 147 g) (by omega) ((Fr.rf _ μ).mrw (by decide)) (fun k hk => by rw [mrw_at]; exact hg k (by omega) hk) (fun c' hc' => by omega)
        rw [mrw_self] at this
        exact this
      all_goals exact absurd (show cv 0 < 0 by decide) p
    | succ a ih =>
      intro g ha hg
      have hxd : w / q ^ (qT P - (a + 1)) ≤ w := Nat.div_le_self _ _
      have e1 : w / q ^ (qT P - a) = w / q ^ (qT P - (a + 1)) / q := by
        rw [Nat.div_div_eq_div_mul, ← Nat.pow_succ, show (qT P - (a + 1)).succ = qT P - a by omega]
      have hp : pnum q (qT P) w a = w / q ^ (qT P - (a + 1)) % q := by
        unfold pnum
        rw [show qT P - 1 - a = qT P - (a + 1) by omega]
      have hg' := fun g' => ih g' (by omega)
      rw [e1] at hg'
      generalize hx : w / q ^ (qT P - (a + 1)) = x at hxd hg' hp
      rw [cv_s]
      refine k_X12_laysPolynomial_12 C (fun p => absurd p (nI_pos (by omega))) (fun _ z => ?_) (fun _ => ?_) (fun _ => ?_)
      · have := (nI_eq (b := 0) (by omega) (by omega)).mp z
        omega
      · simp (disch := omega) only [ofNat_nI, nI_add, pk_mul, nI_clamp, nI_leI, nI_ltI, nI_eq, vp_in_nI_iff, nI_subr, nI_m1r, m1_eq, m1_eq2, m1_le, m1_le2, m1_lt, m1_lt2, m1_self, cv_sub, cv_add1, cv_eq, cv_eqI, cv_eqI2, cv_m1, cv_lt0, cv_leI, cv_Ile, cv_le, cv_lt, cv_Ilt, cv_ltI, not_true, not_false_iff, true_implies, false_implies, false_or, or_false, true_and, and_true, false_and, and_false, true_or, or_true]
        omega
      · rw [pk_rem (by omega) (by omega) (by omega), pk_div (by omega) (by omega) (by omega), ms_mrw, show nI a + (-1) = cv a from cv_sub a, nI_clamp (by omega)]
        refine hg' _ (fun k h1 h2 => ?_)
        rw [upd_at]
        by_cases z : k = a
        · rw [if_pos z, z, hp]
        · rw [if_neg z]; exact hg k (by omega) h2
  have := one (qT P) (μ 147) (Nat.le_refl _) (fun k h1 h2 => by omega)
  rw [mrw_self, Nat.sub_self, Nat.pow_zero, Nat.div_one] at this
  exact this
/-- the next number of the draws -/
def dx (x : Nat) : Nat := (x * 1103515245 + 12345) % 2147483648
theorem dx_lt (x : Nat) : dx x < 2147483648 := Nat.mod_lt _ (by decide)
theorem dx_l {x : Nat} (hx : x < 2 ^ 31) : (((nI x).toInt64 * (1103515245 : Int64) + (12345 : Int64)) - ((nI x).toInt64 * (1103515245 : Int64) + (12345 : Int64)) / 2147483648 * 2147483648).toInt32 = nI (dx x) := by
  have e1 : (1103515245 : Int64) = lN 1103515245 := rfl
  have e2 : (12345 : Int64) = lN 12345 := rfl
  have e3 : (2147483648 : Int64) = lN 2147483648 := rfl
  rw [nI_l hx, e1, e2, e3, lN_mul, lN_add, pk_lRem (by omega) (by decide) (by decide), lN_i]
  rfl
theorem s_draw {G : mG} {Q : Int32 → mM → Prop} {μ : mM} {x a : Nat} (hx : x < 2 ^ 31) (h4 : μ 135 4 = nI x) (ha : 0 < a) (ha2 : a < 2 ^ 31)
    (k : Q (nI (dx x / 65536 % a)) (ms μ 135 4 (nI (dx x)))) : CtI G mX12_draw [.ref (gb G + 132), .int (nI a)] μ Q := by
  have hd := dx_lt x
  refine a_X12_draw (fun z => ?_) ?_
  · have := (nI_eq (b := 0) (by omega) (by omega)).mp z
    omega
  · rw [h4, dx_l hx, show (65536 : Int32) = nI 65536 from rfl, pk_div (by omega) (by decide) (by decide), pk_rem (by omega) ha ha2]
    exact k
/-- a plan with another strength -/
def qw (P : Pl) (t : Nat) : Pl := (qC P, t, qL P, qN P, qV P)
theorem PW.qw {P : Pl} (h : PW P) {t : Nat} (h1 : 1 ≤ t) (h2 : t ≤ qT P) : PW (qw P t) := by
  obtain ⟨a, ⟨b1, b2, b3, b4⟩, c⟩ := h
  exact ⟨a, ⟨h1, Nat.le_trans h2 b2, Nat.le_trans h2 b3, b4⟩, c⟩
/-- mixes that can be guilty -/
def guiB (P : Pl) (n : Nat) (R : Nat → Nat → Nat) (told : Nat → Nat) (m : Nat) : Bool :=
  decide (∃ j, j < n ∧ told j = 2) && decide (∀ j, j < n → told j ≠ 0 → (hasM P (R j) m = true ↔ told j = 2))
/-- the k-th of those that a test finds, of d from m on, f found before -/
def kth (g : Nat → Bool) (k : Nat) : Nat → Nat → Nat → Int32
  | 0, _, _ => -2
  | d + 1, m, f => if g m then (if f = k then nI m else kth g k d (m + 1) (f + 1)) else kth g k d (m + 1) f
theorem hasM_set {P : Pl} (h : PW P) {i w : Nat} {r : Nat → Nat} (hi : i < ns (qC P) (qT P)) (hw : w < pp P i) :
    hasM P r (fi P i + w) = true ↔ ∀ k, k < qT P → r (st (qC P) (qT P) i k) = dg (qS P i) (qT P) w k + 1 := by
  rw [hasM_iff]
  constructor
  · intro z k hk
    have := z k hk
    rw [mcol_of hi hw, mlev_of hi hw] at this
    exact this
  · intro z k hk
    rw [mcol_of hi hw, mlev_of hi hw]
    exact z k hk
theorem s_hasLevels {G : mG} {Q : Int32 → mM → Prop} {μ : mM} {P : Pl} (h : PW P) (hL : ∀ c, c < qC P → μ 135 (5 + c) = nI (qL P c)) {i w j : Nat} {r : Nat → Nat} (hi : i < ns (qC P) (qT P)) (hw : w < pp P i) (hs : ∀ k, k < qT P → μ 143 k = nI (st (qC P) (qT P) i k)) (hj : j < 64) (hr : RowM (μ 135) j r)
    (k : Q (nI (hasM P r (fi P i + w)).toNat) μ) : CtI G mX12_hasLevels [.ref (gb G + 132), .int (nI j), .int (nI w), .int (nI (qT P))] μ Q := by
  obtain ⟨t1, t3, tC, C8⟩ := h.ct
  have hpp := (h.pp_le hi).2
  refine e_X12_hasLevels fun E C => k_X12_hasLevels_0 C ?_
  have loop : ∀ (d a : Nat), a + d = qT P → (∀ k', k' < a → r (st (qC P) (qT P) i k') = dg (qS P i) (qT P) w k' + 1) → Wm G mX12_hasLevels E (bm G mX12_hasLevels E (pI Q)) μ 3 [(0, .ref (gb G + 132)), (1, .int (nI j)), (2, .int (nI w)), (3, .int (nI (qT P))), (4, .int (nI a))] [] := by
    intro d
    induction d with
    | zero =>
      intro a ha hall
      have e : hasM P r (fi P i + w) = true := (hasM_set h hi hw).mpr (fun k' hk' => hall k' (by omega))
      rw [e] at k
      refine k_X12_hasLevels_3 C (fun _ => k) (fun p => ?_) (fun p => ?_) (fun p => ?_)
      all_goals
        exfalso
        revert p
        simp (disch := omega) only [ofNat_nI, nI_add, pk_mul, nI_clamp, nI_leI, nI_ltI, nI_eq, vp_in_nI_iff, nI_subr, nI_m1r, m1_eq, m1_eq2, m1_le, m1_le2, m1_lt, m1_lt2, m1_self, cv_sub, cv_add1, cv_eq, cv_eqI, cv_eqI2, cv_m1, cv_lt0, cv_leI, cv_Ile, cv_le, cv_lt, cv_Ilt, cv_ltI, not_true, not_false_iff, true_implies, false_implies, false_or, or_false, true_and, and_true, false_and, and_false, true_or, or_true]
        omega
    | succ d ih =>
      intro a ha hall
      have haT : a < qT P := by omega
      obtain ⟨l1, l2, l3⟩ := st_lt h.ct hi haT
      have hq := h.lst hi haT
      obtain ⟨r1, r2⟩ := hr (st (qC P) (qT P) i a) (by omega)
      have hdl : dg (qS P i) (qT P) w a < qS P i a := dg_lt (by omega)
      refine k_X12_hasLevels_3 C (fun p => ?_) (fun _ => ?_) (fun _ => ?_) (fun _ => ?_)
      · exfalso
        revert p
        simp (disch := omega) only [ofNat_nI, nI_add, pk_mul, nI_clamp, nI_leI, nI_ltI, nI_eq, vp_in_nI_iff, nI_subr, nI_m1r, m1_eq, m1_eq2, m1_le, m1_le2, m1_lt, m1_lt2, m1_self, cv_sub, cv_add1, cv_eq, cv_eqI, cv_eqI2, cv_m1, cv_lt0, cv_leI, cv_Ile, cv_le, cv_lt, cv_Ilt, cv_ltI, not_true, not_false_iff, true_implies, false_implies, false_or, or_false, true_and, and_true, false_and, and_false, true_or, or_true]
        omega
      · simp (disch := omega) only [ofNat_nI, nI_add, pk_mul, nI_clamp, nI_leI, nI_ltI, nI_eq, vp_in_nI_iff, nI_subr, nI_m1r, m1_eq, m1_eq2, m1_le, m1_le2, m1_lt, m1_lt2, m1_self, cv_sub, cv_add1, cv_eq, cv_eqI, cv_eqI2, cv_m1, cv_lt0, cv_leI, cv_Ile, cv_le, cv_lt, cv_Ilt, cv_ltI, not_true, not_false_iff, true_implies, false_implies, false_or, or_false, true_and, and_true, false_and, and_false, true_or, or_true]
        omega
      · simp (disch := omega) only [ofNat_nI, nI_add, pk_mul, nI_clamp, nI_leI, nI_ltI, nI_eq, vp_in_nI_iff, nI_subr, nI_m1r, m1_eq, m1_eq2, m1_le, m1_le2, m1_lt, m1_lt2, m1_self, cv_sub, cv_add1, cv_eq, cv_eqI, cv_eqI2, cv_m1, cv_lt0, cv_leI, cv_Ile, cv_le, cv_lt, cv_Ilt, cv_ltI, not_true, not_false_iff, true_implies, false_implies, false_or, or_false, true_and, and_true, false_and, and_false, true_or, or_true, hs a haT]
        omega
      · simp (disch := omega) only [ofNat_nI, nI_add, pk_mul, nI_clamp, nI_leI, nI_ltI, nI_eq, vp_in_nI_iff, nI_subr, nI_m1r, m1_eq, m1_eq2, m1_le, m1_le2, m1_lt, m1_lt2, m1_self, cv_sub, cv_add1, cv_eq, cv_eqI, cv_eqI2, cv_m1, cv_lt0, cv_leI, cv_Ile, cv_le, cv_lt, cv_Ilt, cv_ltI, not_true, not_false_iff, true_implies, false_implies, false_or, or_false, true_and, and_true, false_and, and_false, true_or, or_true, hs a haT, r1]
        refine s_levelOf (L := qS P i) (s := st (qC P) (qT P) i) t3 haT (by omega) (fun k' hk' => ?_) (k_X12_hasLevels_29 C (fun p => ?_) (fun p => ?_))
        · have hl := st_lt h.ct hi hk'
          have hq := h.lst hi hk'
          exact ⟨hs k' hk', by omega, hL _ hl.1, by omega, by omega⟩
        · revert p
          simp (disch := omega) only [ofNat_nI, nI_add, pk_mul, nI_clamp, nI_leI, nI_ltI, nI_eq, vp_in_nI_iff, nI_subr, nI_m1r, m1_eq, m1_eq2, m1_le, m1_le2, m1_lt, m1_lt2, m1_self, cv_sub, cv_add1, cv_eq, cv_eqI, cv_eqI2, cv_m1, cv_lt0, cv_leI, cv_Ile, cv_le, cv_lt, cv_Ilt, cv_ltI, not_true, not_false_iff, true_implies, false_implies, false_or, or_false, true_and, and_true, false_and, and_false, true_or, or_true]
          intro p
          refine ih (a + 1) (by omega) (fun k' hk' => ?_)
          by_cases z : k' = a
          · rw [z]; exact p
          · exact hall k' (by omega)
        · revert p
          simp (disch := omega) only [ofNat_nI, nI_add, pk_mul, nI_clamp, nI_leI, nI_ltI, nI_eq, vp_in_nI_iff, nI_subr, nI_m1r, m1_eq, m1_eq2, m1_le, m1_le2, m1_lt, m1_lt2, m1_self, cv_sub, cv_add1, cv_eq, cv_eqI, cv_eqI2, cv_m1, cv_lt0, cv_leI, cv_Ile, cv_le, cv_lt, cv_Ilt, cv_ltI, not_true, not_false_iff, true_implies, false_implies, false_or, or_false, true_and, and_true, false_and, and_false, true_or, or_true]
          intro p
          have e : hasM P r (fi P i + w) = false := by
            cases e : hasM P r (fi P i + w) with
            | false => rfl
            | true => exact absurd ((hasM_set h hi hw).mp e a haT) p
          rw [e] at k
          exact k
  exact loop (qT P) 0 (by omega) (fun k' hk' => by omega)
theorem s_isGuilty {G : mG} {Q : Int32 → mM → Prop} {μ : mM} {P : Pl} (h : PW P) (hL : ∀ c, c < qC P → μ 135 (5 + c) = nI (qL P c)) {i w n : Nat} {R : Nat → Nat → Nat} {told : Nat → Nat} (hi : i < ns (qC P) (qT P)) (hw : w < pp P i) (hs : ∀ k, k < qT P → μ 143 k = nI (st (qC P) (qT P) i k)) (hr : RowsM (μ 135) n R told)
    (k : Q (nI (guiB P n R told (fi P i + w)).toNat) μ) : CtI G mX12_isGuilty [.ref (gb G + 132), .int (nI w), .int (nI (qT P))] μ Q := by
  obtain ⟨r3, r64, rr, rt⟩ := hr
  refine e_X12_isGuilty fun E C => k_X12_isGuilty_0 C ?_
  have loop : ∀ (d a : Nat) (b : Bool), a + d = n → (b = true ↔ ∃ j, j < a ∧ told j = 2) → (∀ j, j < a → told j ≠ 0 → (hasM P (R j) (fi P i + w) = true ↔ told j = 2)) →
      Wm G mX12_isGuilty E (bm G mX12_isGuilty E (pI Q)) μ 5 [(0, .ref (gb G + 132)), (1, .int (nI w)), (2, .int (nI (qT P))), (3, .int (nI b.toNat)), (4, .int (nI a))] [] := by
    intro d
    induction d with
    | zero =>
      intro a b ha hb hall
      have han : a = n := by omega
      subst han
      have e : guiB P a R told (fi P i + w) = b := by
        unfold guiB
        rw [decide_eq_true hall, Bool.and_true]
        cases b with
        | true => exact decide_eq_true (hb.mp rfl)
        | false => exact decide_eq_false (fun z => by have := hb.mpr z; cases this)
      rw [e] at k
      refine k_X12_isGuilty_5 C (fun _ => ?_) (fun _ => k) (fun p => ?_) (fun p => ?_) (fun p => ?_)
      · cases b
        · exact Or.inl rfl
        · exact Or.inr rfl
      all_goals
        exfalso
        revert p
        rw [r3]
        simp (disch := omega) only [ofNat_nI, nI_add, pk_mul, nI_clamp, nI_leI, nI_ltI, nI_eq, vp_in_nI_iff, nI_subr, nI_m1r, m1_eq, m1_eq2, m1_le, m1_le2, m1_lt, m1_lt2, m1_self, cv_sub, cv_add1, cv_eq, cv_eqI, cv_eqI2, cv_m1, cv_lt0, cv_leI, cv_Ile, cv_le, cv_lt, cv_Ilt, cv_ltI, not_true, not_false_iff, true_implies, false_implies, false_or, or_false, true_and, and_true, false_and, and_false, true_or, or_true]
        omega
    | succ d ih =>
      intro a b ha hb hall
      obtain ⟨t1, t2⟩ := rt a (by omega)
      refine k_X12_isGuilty_5 C (fun p => ?_) (fun p => ?_) (fun _ => ?_) (fun _ p => ?_) (fun _ p => ?_)
      · exfalso
        revert p
        rw [r3]
        simp (disch := omega) only [ofNat_nI, nI_add, pk_mul, nI_clamp, nI_leI, nI_ltI, nI_eq, vp_in_nI_iff, nI_subr, nI_m1r, m1_eq, m1_eq2, m1_le, m1_le2, m1_lt, m1_lt2, m1_self, cv_sub, cv_add1, cv_eq, cv_eqI, cv_eqI2, cv_m1, cv_lt0, cv_leI, cv_Ile, cv_le, cv_lt, cv_Ilt, cv_ltI, not_true, not_false_iff, true_implies, false_implies, false_or, or_false, true_and, and_true, false_and, and_false, true_or, or_true]
        omega
      · exfalso
        revert p
        rw [r3]
        simp (disch := omega) only [ofNat_nI, nI_add, pk_mul, nI_clamp, nI_leI, nI_ltI, nI_eq, vp_in_nI_iff, nI_subr, nI_m1r, m1_eq, m1_eq2, m1_le, m1_le2, m1_lt, m1_lt2, m1_self, cv_sub, cv_add1, cv_eq, cv_eqI, cv_eqI2, cv_m1, cv_lt0, cv_leI, cv_Ile, cv_le, cv_lt, cv_Ilt, cv_ltI, not_true, not_false_iff, true_implies, false_implies, false_or, or_false, true_and, and_true, false_and, and_false, true_or, or_true]
        omega
      · simp (disch := omega) only [ofNat_nI, nI_add, pk_mul, nI_clamp, nI_leI, nI_ltI, nI_eq, vp_in_nI_iff, nI_subr, nI_m1r, m1_eq, m1_eq2, m1_le, m1_le2, m1_lt, m1_lt2, m1_self, cv_sub, cv_add1, cv_eq, cv_eqI, cv_eqI2, cv_m1, cv_lt0, cv_leI, cv_Ile, cv_le, cv_lt, cv_Ilt, cv_ltI, not_true, not_false_iff, true_implies, false_implies, false_or, or_false, true_and, and_true, false_and, and_false, true_or, or_true]
        omega
      · revert p
        simp (disch := omega) only [ofNat_nI, nI_add, pk_mul, nI_clamp, nI_leI, nI_ltI, nI_eq, vp_in_nI_iff, nI_subr, nI_m1r, m1_eq, m1_eq2, m1_le, m1_le2, m1_lt, m1_lt2, m1_self, cv_sub, cv_add1, cv_eq, cv_eqI, cv_eqI2, cv_m1, cv_lt0, cv_leI, cv_Ile, cv_le, cv_lt, cv_Ilt, cv_ltI, not_true, not_false_iff, true_implies, false_implies, false_or, or_false, true_and, and_true, false_and, and_false, true_or, or_true, t1]
        intro p
        refine s_hasLevels h hL hi hw hs (by omega) (rr a (by omega)) (k_X12_isGuilty_44 C (fun v hv p1 v2 hv2 => ?_) (fun v hv p1 => ?_))
        · have ev : v = nI (decide (told a = 2)).toNat := phD (A := nI (told a) = 2) (nI_eq (b := 2) (by omega) (by omega)) hv
          rw [ev] at p1
          have hiff : hasM P (R a) (fi P i + w) = true ↔ told a = 2 := by
            cases hh : hasM P (R a) (fi P i + w) with
            | true =>
              rw [hh] at p1
              by_cases z : told a = 2
              · simp [z]
              · rw [decide_eq_false z] at p1; exact absurd p1 (by decide)
            | false =>
              rw [hh] at p1
              by_cases z : told a = 2
              · rw [decide_eq_true z] at p1; exact absurd p1 (by decide)
              · simp [z]
          have ev2 : v2 = nI (b || decide (told a = 2)).toNat := by
            revert hv2
            rw [nI_b0, show (2 : Int32) = nI 2 from rfl, nI_eq (by omega) (by omega)]
            rintro (⟨z | ⟨z1, z2⟩, rfl⟩ | ⟨z1, z2, rfl⟩)
            · cases b with
              | true => rfl
              | false => exact absurd rfl z
            · rw [decide_eq_true z2, Bool.or_true]; rfl
            · rw [z1, decide_eq_false z2]; rfl
          rw [ev2]
          simp (disch := omega) only [ofNat_nI, nI_add, pk_mul, nI_clamp, nI_leI, nI_ltI, nI_eq, vp_in_nI_iff, nI_subr, nI_m1r, m1_eq, m1_eq2, m1_le, m1_le2, m1_lt, m1_lt2, m1_self, cv_sub, cv_add1, cv_eq, cv_eqI, cv_eqI2, cv_m1, cv_lt0, cv_leI, cv_Ile, cv_le, cv_lt, cv_Ilt, cv_ltI, not_true, not_false_iff, true_implies, false_implies, false_or, or_false, true_and, and_true, false_and, and_false, true_or, or_true]
          refine ih (a + 1) _ (by omega) ?_ (fun j hj hj2 => ?_)
          · rw [Bool.or_eq_true, decide_eq_true_eq, hb]
            constructor
            · rintro (⟨j, z1, z2⟩ | z)
              · exact ⟨j, by omega, z2⟩
              · exact ⟨a, by omega, z⟩
            · rintro ⟨j, z1, z2⟩
              by_cases z : j = a
              · subst z; exact Or.inr z2
              · exact Or.inl ⟨j, by omega, z2⟩
          · by_cases z : j = a
            · subst z; exact hiff
            · exact hall j (by omega) hj2
        · have ev : v = nI (decide (told a = 2)).toNat := phD (A := nI (told a) = 2) (nI_eq (b := 2) (by omega) (by omega)) hv
          rw [ev] at p1
          have e : guiB P n R told (fi P i + w) = false := by
            unfold guiB
            have : ¬ ∀ j, j < n → told j ≠ 0 → (hasM P (R j) (fi P i + w) = true ↔ told j = 2) := fun z => by
              have hiff := z a (by omega) p
              apply p1
              cases hh : hasM P (R a) (fi P i + w) with
              | true => rw [decide_eq_true (hiff.mp hh)]
              | false => rw [decide_eq_false (fun y => by rw [hiff.mpr y] at hh; cases hh)]
            rw [decide_eq_false this, Bool.and_false]
          rw [e] at k
          exact k
      · revert p
        simp (disch := omega) only [ofNat_nI, nI_add, pk_mul, nI_clamp, nI_leI, nI_ltI, nI_eq, vp_in_nI_iff, nI_subr, nI_m1r, m1_eq, m1_eq2, m1_le, m1_le2, m1_lt, m1_lt2, m1_self, cv_sub, cv_add1, cv_eq, cv_eqI, cv_eqI2, cv_m1, cv_lt0, cv_leI, cv_Ile, cv_le, cv_lt, cv_Ilt, cv_ltI, not_true, not_false_iff, true_implies, false_implies, false_or, or_false, true_and, and_true, false_and, and_false, true_or, or_true, t1]
        intro p
        refine ih (a + 1) b (by omega) ?_ (fun j hj hj2 => ?_)
        · rw [hb]
          constructor
          · rintro ⟨j, z1, z2⟩
            exact ⟨j, by omega, z2⟩
          · rintro ⟨j, z1, z2⟩
            exact ⟨j, by
              by_cases z : j = a
              · subst z; omega
              · omega, z2⟩
        · by_cases z : j = a
          · subst z; exact absurd p hj2
          · exact hall j (by omega) hj2
  refine loop n 0 false (by omega) ⟨fun z => absurd z (by decide), fun z => (by obtain ⟨j, hj, -⟩ := z; omega)⟩ (fun j hj => by omega)

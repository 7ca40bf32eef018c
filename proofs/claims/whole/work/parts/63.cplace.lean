/-! THE CLASS: rows are placed -/
theorem sm_pt {n k : Nat} {f g : Nat → Nat} (hk : k < n) (h : ∀ j, j < n → j ≠ k → f j = g j) : sm n f + g k = sm n g + f k := by
  induction n with
  | zero => omega
  | succ n ih =>
    show sm n f + f n + g k = sm n g + g n + f k
    by_cases q : k = n
    · rw [← q, sm_congr (f := f) (g := g) (fun j hj => h j (by omega) (by omega))]
      omega
    · have := ih (by omega) (fun j hj hn => h j (by omega) hn)
      have := h n (by omega) (fun z => q z.symm)
      omega
def cuN (P : Pl) (R : Nat → Nat → Nat) (x : Nat) (S : Nat → Bool) : Nat := sm (MM P) (fun m => (hasM P (R x) m && !S m).toNat)
theorem cu_congr {P : Pl} {R : Nat → Nat → Nat} {x : Nat} {S S' : Nat → Bool} (h : ∀ m, m < MM P → S m = S' m) : cuN P R x S = cuN P R x S' := sm_congr fun m hm => by
  show (hasM P (R x) m && !S m).toNat = (hasM P (R x) m && !S' m).toNat
  rw [h m hm]
theorem cu_le (P : Pl) (R : Nat → Nat → Nat) (x : Nat) (S : Nat → Bool) : cuN P R x S ≤ MM P := by
  have := sm_le (n := MM P) (B := 1) (f := fun m => (hasM P (R x) m && !S m).toNat) (fun i _ => bool_lt _)
  unfold cuN
  omega
theorem cu_pt {P : Pl} {R : Nat → Nat → Nat} {x m0 : Nat} {S S' : Nat → Bool} (hm : m0 < MM P) (h0 : S m0 = false) (h1 : S' m0 = true) (h : ∀ m, m < MM P → m ≠ m0 → S m = S' m) : cuN P R x S = cuN P R x S' + (hasM P (R x) m0).toNat := by
  have e := sm_pt (f := fun m => (hasM P (R x) m && !S m).toNat) (g := fun m => (hasM P (R x) m && !S' m).toNat) hm (fun m hm hn => by
    show (hasM P (R x) m && !S m).toNat = (hasM P (R x) m && !S' m).toNat
    rw [h m hm hn])
  have e1 : (hasM P (R x) m0 && !S m0).toNat = (hasM P (R x) m0).toNat := by rw [h0]; simp
  have e2 : (hasM P (R x) m0 && !S' m0).toNat = 0 := by rw [h1]; simp
  unfold cuN
  omega
/-- more and seen -/
def MkC (P : Pl) (R : Nat → Nat → Nat) (n : Nat) (S : Nat → Bool) (p : Nat → Bool) (μ : mM) : Prop := (∀ m, m < MM P → μ 41 m = nI (S m).toNat) ∧ ∀ x, x < n → μ 40 x = if p x = true then -1 else nI (cuN P R x S)
theorem MkC.seen {P : Pl} {R : Nat → Nat → Nat} {n : Nat} {S S' : Nat → Bool} {p : Nat → Bool} {μ : mM} (h : MkC P R n S p μ) (e : ∀ m, m < MM P → S m = S' m) : MkC P R n S' p μ :=
  ⟨fun m hm => by rw [← e m hm]; exact h.1 m hm, fun x hx => by rw [← cu_congr e]; exact h.2 x hx⟩
theorem s_markSeen {G : mG} {Q : mM → Prop} {μ : mM} {P : Pl} {h : Nat → Nat} {c1 n : Nat} {R : Nat → Nat → Nat} {t r : Nat → Nat} {S p : Nat → Bool} (h1 : sh c1 = (0, 6)) (hc1 : c1 < 30) (hW : PW P) (hM : MM P ≤ 1200) (hn : n ≤ 64) (H : MxC P h μ) (hr : RowsC c1 n R t μ) (hrr : ∀ c, r c ≤ qL P c) (hk : MkC P R n S p μ)
    (k : ∀ μ', Fr [40, 41] μ μ' → MkC P R n (fun m => S m || hasM P r m) p μ' → Q μ') : CtV G mX3_markSeen [.ref (gb G + 36), .ref (gb G + c1), .ref (gb G + 22), .int (rowI r)] μ Q := by
  have n56 := (ns_pos hW.ct).2
  refine e_X3_markSeen h1 fun E C => k_X3_markSeen_0 C h1 ?_
  let Si (i : Nat) : Nat → Bool := fun m => S m || (decide (m < fi P i) && hasM P r m)
  have loop : ∀ (d i : Nat) (μ' : mM), i + d = ns (qC P) (qT P) → Fr [40, 41] μ μ' → MkC P R n (Si i) p μ' → Wm G mX3_markSeen E (bm G mX3_markSeen E (pV Q)) μ' 3 [(0, .ref (gb G + 36)), (1, .ref (gb G + c1)), (2, .ref (gb G + 22)), (3, .int (rowI r)), (4, .int (nI i))] [] := by
    intro d
    induction d with
    | zero =>
      intro i μ' hi F hI
      have hin : i = ns (qC P) (qT P) := by omega
      subst hin
      have e0 : μ' 23 0 = nI (ns (qC P) (qT P)) := by rw [F 23 (by decide)]; exact H.1.1
      refine k_X3_markSeen_3 C h1 (fun _ => k μ' F (hI.seen fun m hm => ?_)) (fun z => ?_)
      · show (S m || (decide (m < fi P (ns (qC P) (qT P))) && hasM P r m)) = _
        rw [decide_eq_true (show m < fi P (ns (qC P) (qT P)) from hm), Bool.true_and]
      · exfalso
        revert z
        rw [e0]
        simp (disch := omega) only [ofNat_nI, nI_add, pk_mul, nI_clamp, nI_leI, nI_ltI, nI_eq, vp_in_nI_iff, nI_subr, nI_m1r, m1_eq, m1_eq2, m1_le, m1_le2, m1_lt, m1_lt2, m1_self, cv_sub, cv_add1, cv_eq, cv_eqI, cv_eqI2, cv_m1, cv_lt0, cv_leI, cv_Ile, cv_le, cv_lt, cv_Ilt, cv_ltI, not_true, not_false_iff, true_implies, false_implies, false_or, or_false, true_and, and_true, false_and, and_false, true_or, or_true]
        omega
    | succ d ih =>
      intro i μ' hi F hI
      have hin : i < ns (qC P) (qT P) := by omega
      have hfs := fi_s P i
      have e0 : μ' 23 0 = nI (ns (qC P) (qT P)) := by rw [F 23 (by decide)]; exact H.1.1
      have hS' : SetC 23 P μ' := H.1.of (F 23 (by decide)) (F 24 (by decide)) (F 25 (by decide)) (F 27 (by decide))
      -- in this block there is one alone
      have blk : ∀ m, m < MM P → (∀ m0, numO P i r = some m0 → m ≠ m0) → Si (i + 1) m = Si i m := fun m hm hne => by
        show (S m || (decide (m < fi P (i + 1)) && hasM P r m)) = (S m || (decide (m < fi P i) && hasM P r m))
        by_cases q : m < fi P i
        · rw [decide_eq_true q, decide_eq_true (show m < fi P (i + 1) by omega)]
        · rw [decide_eq_false q]
          by_cases z : m < fi P (i + 1)
          · have : hasM P r m = false := bnot fun y => by
              have := (numO_has hW hrr hin (w := m - fi P i) (by omega)).mp (by rw [show fi P i + (m - fi P i) = m by omega]; exact y)
              exact hne _ this (by omega)
            rw [this, Bool.and_false, Bool.and_false]
          · rw [decide_eq_false z]
      refine k_X3_markSeen_3 C h1 (fun z => ?_) (fun _ => s_numberIn (by rfl) hW hS' hrr hin ?_)
      · exfalso
        revert z
        rw [e0]
        simp (disch := omega) only [ofNat_nI, nI_add, pk_mul, nI_clamp, nI_leI, nI_ltI, nI_eq, vp_in_nI_iff, nI_subr, nI_m1r, m1_eq, m1_eq2, m1_le, m1_le2, m1_lt, m1_lt2, m1_self, cv_sub, cv_add1, cv_eq, cv_eqI, cv_eqI2, cv_m1, cv_lt0, cv_leI, cv_Ile, cv_le, cv_lt, cv_Ilt, cv_ltI, not_true, not_false_iff, true_implies, false_implies, false_or, or_false, true_and, and_true, false_and, and_false, true_or, or_true]
        omega
      · cases q : numO P i r with
        | none =>
          refine k_X3_markSeen_25 C h1 (fun _ => ?_) (fun z => absurd rfl z) (fun z => absurd rfl z)
          rw [nI_1]
          exact ih (i + 1) μ' (by omega) F (hI.seen fun m hm => (blk m hm (fun m0 z => by rw [q] at z; cases z)).symm)
        | some m0 =>
          obtain ⟨⟨w, hw, e⟩, hm0, hh0⟩ := numO_some hW hrr hin q
          have ec : (nI m0).toNatClampNeg = m0 := nI_clamp (by omega)
          have es : μ' 41 (nI m0).toNatClampNeg = nI (S m0).toNat := by
            rw [ec, hI.1 m0 hm0]
            show nI (S m0 || (decide (m0 < fi P i) && hasM P r m0)).toNat = _
            rw [decide_eq_false (show ¬ m0 < fi P i by omega), Bool.false_and, Bool.or_false]
          have eSi : Si i m0 = S m0 := by
            show (S m0 || (decide (m0 < fi P i) && hasM P r m0)) = _
            rw [decide_eq_false (show ¬ m0 < fi P i by omega), Bool.false_and, Bool.or_false]
          have eSi1 : Si (i + 1) m0 = true := by
            show (S m0 || (decide (m0 < fi P (i + 1)) && hasM P r m0)) = _
            rw [decide_eq_true (show m0 < fi P (i + 1) by omega), hh0, Bool.and_self, Bool.or_true]
          have hot : ∀ m, m < MM P → m ≠ m0 → Si i m = Si (i + 1) m := fun m hm hne => (blk m hm (fun m1 z => by rw [q] at z; cases z; exact hne)).symm
          refine k_X3_markSeen_25 C h1 (fun z => ?_) (fun _ => ?_) (fun _ z => ?_)
          · have sy : S m0 = true := by
              have z' : nI m0 = -1 ∨ (¬ nI m0 = -1 ∧ ¬ μ' 41 (nI m0).toNatClampNeg = 0) := z
              rcases z' with y | ⟨-, y⟩
              · exact absurd y (noI_m hM hm0)
              · rw [es, nI_b0] at y
                cases u : S m0 with
                | true => rfl
                | false => exact absurd u y
            rw [nI_1]
            refine ih (i + 1) μ' (by omega) F (hI.seen fun m hm => ?_)
            by_cases u : m = m0
            · rw [u, eSi, eSi1, sy]
            · exact hot m hm u
          · show vp_in (nI m0) 1200
            simp (disch := omega) only [ofNat_nI, nI_add, pk_mul, nI_clamp, nI_leI, nI_ltI, nI_eq, vp_in_nI_iff, nI_subr, nI_m1r, m1_eq, m1_eq2, m1_le, m1_le2, m1_lt, m1_lt2, m1_self, cv_sub, cv_add1, cv_eq, cv_eqI, cv_eqI2, cv_m1, cv_lt0, cv_leI, cv_Ile, cv_le, cv_lt, cv_Ilt, cv_ltI, not_true, not_false_iff, true_implies, false_implies, false_or, or_false, true_and, and_true, false_and, and_false, true_or, or_true]
            omega
          · have sn : S m0 = false := by
              have z' : μ' 41 (nI m0).toNatClampNeg = 0 := z
              rw [es, nI_b0] at z'
              exact z'
            show Wm G mX3_markSeen E _ (ms μ' 41 (nI m0).toNatClampNeg 1) 54 [(0, .ref (gb G + 36)), (1, .ref (gb G + c1)), (2, .ref (gb G + 22)), (3, .int (rowI r)), (4, .int (nI i)), (5, .int (nI m0)), (6, .int 0)] []
            rw [ec]
            have hcp := fun x => cu_pt (R := R) (x := x) hm0 (by rw [eSi]; exact sn) eSi1 hot
            have inner : ∀ (e x : Nat) (ν : mM), x + e = n → Fr [40, 41] μ ν → (∀ m, m < MM P → ν 41 m = nI (Si (i + 1) m).toNat) → (∀ y, y < x → ν 40 y = if p y = true then -1 else nI (cuN P R y (Si (i + 1)))) → (∀ y, x ≤ y → y < n → ν 40 y = if p y = true then -1 else nI (cuN P R y (Si i))) →
                Wm G mX3_markSeen E (bm G mX3_markSeen E (pV Q)) ν 54 [(0, .ref (gb G + 36)), (1, .ref (gb G + c1)), (2, .ref (gb G + 22)), (3, .int (rowI r)), (4, .int (nI i)), (5, .int (nI m0)), (6, .int (nI x))] [] := by
              intro e
              induction e with
              | zero =>
                intro x ν hx F2 a b c
                have hxn : x = n := by omega
                have e0 : ν c1 0 = nI n := by rw [F2 c1 (by simp; omega)]; exact hr.1
                refine k_X3_markSeen_54 C h1 (fun _ => ?_) (fun z => ?_) (fun z => ?_) (fun z => ?_) (fun z => ?_)
                · rw [nI_1]
                  exact ih (i + 1) ν (by omega) F2 ⟨a, fun y hy => b y (by omega)⟩
                all_goals
                  exfalso
                  revert z
                  rw [e0]
                  simp (disch := omega) only [ofNat_nI, nI_add, pk_mul, nI_clamp, nI_leI, nI_ltI, nI_eq, vp_in_nI_iff, nI_subr, nI_m1r, m1_eq, m1_eq2, m1_le, m1_le2, m1_lt, m1_lt2, m1_self, cv_sub, cv_add1, cv_eq, cv_eqI, cv_eqI2, cv_m1, cv_lt0, cv_leI, cv_Ile, cv_le, cv_lt, cv_Ilt, cv_ltI, not_true, not_false_iff, true_implies, false_implies, false_or, or_false, true_and, and_true, false_and, and_false, true_or, or_true]
                  omega
              | succ e ihe =>
                intro x ν hx F2 a b c
                have hxn : x < n := by omega
                have e0 : ν c1 0 = nI n := by rw [F2 c1 (by simp; omega)]; exact hr.1
                have ex : (nI x).toNatClampNeg = x := nI_clamp (by omega)
                have e1 : ν (c1 + 1) (nI x).toNatClampNeg = rowI (R x) := by rw [ex, F2 (c1 + 1) (by simp; omega)]; exact hr.2.1 x hxn
                have e2 : ν 28 (nI m0).toNatClampNeg = rowI (mrow P m0) := by rw [ec, F2 28 (by decide)]; exact H.2.1 m0 hm0
                have e4 := c x (Nat.le_refl x) hxn
                have hcl := cu_le P R x (Si i)
                have hcx := hcp x
                have cont : ∀ (ν' : mM), Fr [40, 41] μ ν' → ν' 41 = ν 41 → (∀ y, y ≠ x → ν' 40 y = ν 40 y) → ν' 40 x = (if p x = true then -1 else nI (cuN P R x (Si (i + 1)))) → Wm G mX3_markSeen E (bm G mX3_markSeen E (pV Q)) ν' 54 [(0, .ref (gb G + 36)), (1, .ref (gb G + c1)), (2, .ref (gb G + 22)), (3, .int (rowI r)), (4, .int (nI i)), (5, .int (nI m0)), (6, .int (nI x + 1))] [] := fun ν' F3 u1 u2 u3 => by
                  rw [nI_1]
                  refine ihe (x + 1) ν' (by omega) F3 (by rw [u1]; exact a) (fun y hy => ?_) (fun y hy1 hy2 => ?_)
                  · by_cases z : y = x
                    · rw [z]; exact u3
                    · rw [u2 y z]; exact b y (by omega)
                  · rw [u2 y (by omega)]; exact c y (by omega) hy2
                refine k_X3_markSeen_54 C h1 (fun z => ?_) (fun _ => ?_) (fun _ z => ?_) (fun _ _ => ?_) (fun _ z1 z2 => ?_)
                · exfalso
                  revert z
                  rw [e0]
                  simp (disch := omega) only [ofNat_nI, nI_add, pk_mul, nI_clamp, nI_leI, nI_ltI, nI_eq, vp_in_nI_iff, nI_subr, nI_m1r, m1_eq, m1_eq2, m1_le, m1_le2, m1_lt, m1_lt2, m1_self, cv_sub, cv_add1, cv_eq, cv_eqI, cv_eqI2, cv_m1, cv_lt0, cv_leI, cv_Ile, cv_le, cv_lt, cv_Ilt, cv_ltI, not_true, not_false_iff, true_implies, false_implies, false_or, or_false, true_and, and_true, false_and, and_false, true_or, or_true]
                  omega
                · simp (disch := omega) only [ofNat_nI, nI_add, pk_mul, nI_clamp, nI_leI, nI_ltI, nI_eq, vp_in_nI_iff, nI_subr, nI_m1r, m1_eq, m1_eq2, m1_le, m1_le2, m1_lt, m1_lt2, m1_self, cv_sub, cv_add1, cv_eq, cv_eqI, cv_eqI2, cv_m1, cv_lt0, cv_leI, cv_Ile, cv_le, cv_lt, cv_Ilt, cv_ltI, not_true, not_false_iff, true_implies, false_implies, false_or, or_false, true_and, and_true, false_and, and_false, true_or, or_true]
                  omega
                · refine cont ν F2 rfl (fun _ _ => rfl) ?_
                  rw [e4]
                  by_cases y : p x = true
                  · rw [if_pos y, if_pos y]
                  · rw [if_neg y] at e4
                    rw [if_neg y, if_neg y]
                    have : hasM P (R x) m0 = false := by
                      rw [ex, e4] at z
                      rcases z with z | ⟨-, z⟩
                      · have := (nI_leI (b := 0) (by omega) (by omega)).mp z
                        refine bnot fun u => ?_
                        rw [u] at hcx
                        have : (true : Bool).toNat = 1 := rfl
                        omega
                      · have z' : ¬ (ν 28 (nI m0).toNatClampNeg &&& (ν (c1 + 1) x ^^^ (-1))) = 0 := z
                        rw [ex] at e1
                        rw [e2, e1, mrow_sub hW hm0] at z'
                        exact bnot z'
                    rw [this] at hcx
                    rw [hcx]
                    rfl
                · simp (disch := omega) only [ofNat_nI, nI_add, pk_mul, nI_clamp, nI_leI, nI_ltI, nI_eq, vp_in_nI_iff, nI_subr, nI_m1r, m1_eq, m1_eq2, m1_le, m1_le2, m1_lt, m1_lt2, m1_self, cv_sub, cv_add1, cv_eq, cv_eqI, cv_eqI2, cv_m1, cv_lt0, cv_leI, cv_Ile, cv_le, cv_lt, cv_Ilt, cv_ltI, not_true, not_false_iff, true_implies, false_implies, false_or, or_false, true_and, and_true, false_and, and_false, true_or, or_true]
                  omega
                · rw [e2, e1, mrow_sub hW hm0] at z2
                  rw [ex] at z1 ⊢
                  have np : ¬ p x = true := fun y => by
                    rw [e4, if_pos y] at z1
                    exact z1 (by decide)
                  rw [if_neg np] at e4
                  rw [z2] at hcx
                  have e5 : cuN P R x (Si i) = cuN P R x (Si (i + 1)) + 1 := hcx
                  have e6 : (ν 40 x : Int32) - 1 = nI (cuN P R x (Si (i + 1))) := by
                    rw [e4, e5, show (1 : Int32) = nI 1 from rfl, nI_subr (by omega), Nat.add_sub_cancel]
                  rw [e6]
                  refine cont _ (F2.ms (by decide)) ?_ (fun y hy => ?_) ?_
                  · rw [ms_mrw0, mrw_ne (by decide)]
                  · rw [ms_mrw0, mrw_at, upd_at, if_neg hy]
                  · rw [ms_mrw0, mrw_at, upd_at, if_pos rfl, if_neg np]
            refine inner n 0 _ (by omega) (F.ms (by decide)) (fun m hm => ?_) (fun y hy => absurd hy (Nat.not_lt_zero y)) (fun y _ hy => ?_)
            · rw [ms_mrw0, mrw_at, upd_at]
              by_cases u : m = m0
              · rw [if_pos u, u, eSi1]; rfl
              · rw [if_neg u, hI.1 m hm, hot m hm u]
            · rw [ms_mrw0, mrw_ne (by decide)]
              exact hI.2 y hy
  refine loop (ns (qC P) (qT P)) 0 μ (by omega) (Fr.rf _ _) (hk.seen fun m hm => ?_)
  show S m = (S m || (decide (m < fi P 0) && hasM P r m))
  rw [decide_eq_false (show ¬ m < fi P 0 from Nat.not_lt_zero m), Bool.false_and, Bool.or_false]

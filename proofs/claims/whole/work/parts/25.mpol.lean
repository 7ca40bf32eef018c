/-! THE MODEL: is given; polynomials -/
theorem s_isGiven {G : mG} {Q : Int32 → mM → Prop} {μ : mM} {P : Pl} (h : PW P) (hn : NowP (μ 135) P) {x : Int32}
    (k0 : ∀ g, (¬ x < 0 → ¬ okD (qC P) (qL P) x.toNatClampNeg) → Q 0 (mrw μ 145 g)) (k1 : ∀ (d : Nat) (g : Nat → Int32), d < 2 ^ 31 → x = nI d → okD (qC P) (qL P) d → (∀ c, c < qC P → g c = cv (rowD (qC P) d c)) → Q 1 (mrw μ 145 g)) : CtI G mX12_isGiven [.ref (gb G + 132), .int x] μ Q := by
  have hC8 : qC P ≤ 8 := h.ct.2.2.2
  have hC2 : 2 ≤ qC P := h.1
  refine e_X12_isGiven fun E C => k_X12_isGiven_0 C (fun p => ?_) (fun _ hx => ?_)
  · rw [hn.1] at p
    rcases p with p | p
    · revert p
      simp (disch := omega) only [ofNat_nI, nI_add, pk_mul, nI_clamp, nI_leI, nI_ltI, nI_eq, vp_in_nI_iff, nI_subr, nI_m1r, m1_eq, m1_eq2, m1_le, m1_le2, m1_lt, m1_lt2, m1_self, cv_sub, cv_add1, cv_eq, cv_eqI, cv_eqI2, cv_m1, cv_lt0, cv_leI, cv_Ile, cv_le, cv_lt, cv_Ilt, cv_ltI, not_true, not_false_iff, true_implies, false_implies, false_or, or_false, true_and, and_true, false_and, and_false, true_or, or_true]
      omega
    · have := k0 (μ 145) (fun z => absurd p.2 z)
      rw [mrw_self] at this
      exact this
  · obtain ⟨d, hd, rfl⟩ := nI_of hx
    refine s_reads h hn hd (fun g hk => k_X12_isGiven_16 C (fun _ => k0 g (fun _ => by rw [nI_clamp hd]; exact hk)) (fun z => absurd rfl z)) (fun g hk hg => k_X12_isGiven_16 C (fun z => absurd z (by decide)) (fun _ => k1 d g hd rfl hk hg))
/-- arithmetic of the fields -/
def tmQ (q a b : Nat) : Nat := if q = 4 then (if a = 0 ∨ b = 0 then 0 else (a - 1 + b - 1) % 3 + 1) else a * b % q
def plQ (q a b : Nat) : Nat := if q = 4 then a ^^^ b else (a + b) % q
def isQ (q : Nat) : Prop := q = 2 ∨ q = 3 ∨ q = 4 ∨ q = 5 ∨ q = 7
theorem tmQ_lt {q a b : Nat} (hq : isQ q) : tmQ q a b < q := by
  unfold tmQ isQ at *
  split
  · split
    · omega
    · have := Nat.mod_lt (a - 1 + b - 1) (show 0 < 3 by omega); omega
  · exact Nat.mod_lt _ (by omega)
theorem xor4 : ∀ a, a < 4 → ∀ b, b < 4 → a ^^^ b < 4 := by decide
theorem nxor4 : ∀ a, a < 4 → ∀ b, b < 4 → nI a ^^^ nI b = nI (a ^^^ b) := by decide
theorem plQ_lt {q a b : Nat} (hq : isQ q) (ha : a < q) (hb : b < q) : plQ q a b < q := by
  unfold plQ isQ at *
  split
  · rename_i e
    subst e
    exact xor4 a ha b hb
  · exact Nat.mod_lt _ (by omega)
/-- by Horner, n steps -/
def hor (q x : Nat) (a : Nat → Nat) (T : Nat) : Nat → Nat
  | 0 => 0
  | n + 1 => plQ q (tmQ q (hor q x a T n) x) (a (T - 1 - n))
theorem hor_lt {q x : Nat} {a : Nat → Nat} {T : Nat} (hq : isQ q) (ha : ∀ k, k < T → a k < q) : ∀ n, n ≤ T → hor q x a T n < q
  | 0, _ => by unfold isQ at hq; rw [hor]; omega
  | n + 1, h => plQ_lt hq (tmQ_lt hq) (ha _ (by omega))
def valQ (q x : Nat) (a : Nat → Nat) (T : Nat) : Nat := if x = q then a (T - 1) else hor q x a T T
theorem s_valueAt {G : mG} {Q : Int32 → mM → Prop} {μ : mM} {q x T : Nat} {a : Nat → Nat} (hq : isQ q) (h1 : μ 135 1 = nI T) (t1 : 1 ≤ T) (t3 : T ≤ 3) (hx : x < 8) (hx4 : q = 4 → x ≤ 4) (ha : ∀ k, k < T → μ 147 k = nI (a k) ∧ a k < q)
    (k : Q (nI (valQ q x a T)) μ) : CtI G mX12_valueAt [.ref (gb G + 132), .int (nI q), .int (nI x)] μ Q := by
  have hq7 : q ≤ 7 ∧ 2 ≤ q := by unfold isQ at hq; omega
  unfold valQ at k
  refine e_X12_valueAt fun E C => k_X12_valueAt_0 C (fun p => ?_) (fun _ => ?_) (fun p => ?_)
  · have hne : x ≠ q := by
      revert p
      simp (disch := omega) only [ofNat_nI, nI_add, pk_mul, nI_clamp, nI_leI, nI_ltI, nI_eq, vp_in_nI_iff, nI_subr, nI_m1r, m1_eq, m1_eq2, m1_le, m1_le2, m1_lt, m1_lt2, m1_self, cv_sub, cv_add1, cv_eq, cv_eqI, cv_eqI2, cv_m1, cv_lt0, cv_leI, cv_Ile, cv_le, cv_lt, cv_Ilt, cv_ltI, not_true, not_false_iff, true_implies, false_implies, false_or, or_false, true_and, and_true, false_and, and_false, true_or, or_true]
      exact id
    rw [if_neg hne] at k
    rw [h1, show (1 : Int32) = nI 1 from rfl, cv_pred _ (by omega)]
    have loop : ∀ n m, n + m = T → Wm G mX12_valueAt E (bm G mX12_valueAt E (pI Q)) μ 29 [(0, .ref (gb G + 132)), (1, .int (nI q)), (2, .int (nI x)), (4, .int (nI (hor q x a T m))), (5, .int (cv n))] [] := by
      intro n
      induction n with
      | zero =>
        intro m hm
        refine k_X12_valueAt_29 C (fun _ => ?_) (fun p => ?_) (fun p => ?_) (fun p => ?_) (fun p => ?_) (fun p => ?_) (fun p => ?_) (fun p => ?_) (fun p => ?_)
        · rw [show m = T by omega]; exact k
        all_goals exact absurd (show cv 0 < 0 by decide) p
      | succ n ih =>
        intro m hm
        have hh := hor_lt (x := x) hq (fun k hk => (ha k hk).2) m (by omega)
        have nxt := ih (m + 1) (by omega)
        rw [hor, show T - 1 - m = n by omega] at nxt
        obtain ⟨a1, a2⟩ := ha n (by omega)
        generalize hor q x a T m = w at hh nxt
        have e4 : (nI n).toNatClampNeg = n := nI_clamp (by omega)
        have e5 : nI n + (-1) = cv n := cv_sub n
        have q0 : nI q = 4 ↔ q = 4 := nI_eq (b := 4) (by omega) (by omega)
        have w0 : nI w = 0 ↔ w = 0 := nI_eq (b := 0) (by omega) (by omega)
        have x0 : nI x = 0 ↔ x = 0 := nI_eq (b := 0) (by omega) (by omega)
        rw [cv_s]
        refine k_X12_valueAt_29 C (fun p => absurd p (nI_pos (by omega))) (fun _ _ z => ?_) (fun _ _ => ?_) (fun _ p1 _ p3 => absurd p1 p3) (fun _ p1 p2 _ => ?_) (fun _ p1 _ _ p3 => absurd p1 p3) (fun _ p1 p2 p3 _ => ?_) (fun _ p1 _ => ?_) (fun _ p1 p2 => absurd p2 p1)
        · have := (nI_eq (b := 0) (by omega) (by omega)).mp z
          omega
        · simp (disch := omega) only [ofNat_nI, nI_add, pk_mul, nI_clamp, nI_leI, nI_ltI, nI_eq, vp_in_nI_iff, nI_subr, nI_m1r, m1_eq, m1_eq2, m1_le, m1_le2, m1_lt, m1_lt2, m1_self, cv_sub, cv_add1, cv_eq, cv_eqI, cv_eqI2, cv_m1, cv_lt0, cv_leI, cv_Ile, cv_le, cv_lt, cv_Ilt, cv_ltI, not_true, not_false_iff, true_implies, false_implies, false_or, or_false, true_and, and_true, false_and, and_false, true_or, or_true]
          omega
        · rw [q0] at p1
          rw [w0, x0] at p2
          subst p1
          rw [e4, e5, a1]
          have e6 : tmQ 4 w x = 0 := by
            unfold tmQ
            rw [if_pos rfl, if_pos (by omega)]
          rw [e6] at nxt
          unfold plQ at nxt
          rw [if_pos rfl] at nxt
          rw [show (0 : Int32) = nI 0 from rfl, nxor4 0 (by omega) _ a2]
          exact nxt
        · rw [q0] at p1
          rw [w0] at p2
          rw [x0] at p3
          subst p1
          rw [e4, e5, a1]
          have hx4' : x ≤ 3 := by have := hx4 rfl; omega
          have e6 : tmQ 4 w x = (w - 1 + x - 1) % 3 + 1 := by
            unfold tmQ
            rw [if_pos rfl, if_neg (by omega)]
          have e7 : nI w - 1 + nI x - 1 - (nI w - 1 + nI x - 1) / 3 * 3 + 1 = nI ((w - 1 + x - 1) % 3 + 1) := by
            have e8 : nI w - 1 + nI x - 1 = nI (w - 1 + x - 1) := by
              simp (disch := omega) only [ofNat_nI, nI_add, pk_mul, nI_clamp, nI_leI, nI_ltI, nI_eq, vp_in_nI_iff, nI_subr, nI_m1r, m1_eq, m1_eq2, m1_le, m1_le2, m1_lt, m1_lt2, m1_self, cv_sub, cv_add1, cv_eq, cv_eqI, cv_eqI2, cv_m1, cv_lt0, cv_leI, cv_Ile, cv_le, cv_lt, cv_Ilt, cv_ltI, not_true, not_false_iff, true_implies, false_implies, false_or, or_false, true_and, and_true, false_and, and_false, true_or, or_true]
            rw [e8, show (3 : Int32) = nI 3 from rfl, pk_rem (by omega) (by omega) (by omega)]
            exact nI_1 _
          have l7 := Nat.mod_lt (w - 1 + x - 1) (show 0 < 3 by omega)
          rw [e6] at nxt
          unfold plQ at nxt
          rw [if_pos rfl] at nxt
          rw [e7, nxor4 _ (by omega) _ a2]
          exact nxt
        · rw [q0] at p1
          rw [e4, e5, a1]
          unfold tmQ plQ at nxt
          rw [if_neg p1, if_neg p1] at nxt
          have hwx : w * x ≤ 7 * 8 := Nat.mul_le_mul (by omega) (by omega)
          have l7 := Nat.mod_lt (w * x) (show 0 < q by omega)
          rw [pk_mul, pk_rem (by omega) (by omega) (by omega), nI_add, pk_rem (by omega) (by omega) (by omega)]
          exact nxt
    exact loop T 0 (by omega)
  · rw [h1]
    simp (disch := omega) only [ofNat_nI, nI_add, pk_mul, nI_clamp, nI_leI, nI_ltI, nI_eq, vp_in_nI_iff, nI_subr, nI_m1r, m1_eq, m1_eq2, m1_le, m1_le2, m1_lt, m1_lt2, m1_self, cv_sub, cv_add1, cv_eq, cv_eqI, cv_eqI2, cv_m1, cv_lt0, cv_leI, cv_Ile, cv_le, cv_lt, cv_Ilt, cv_ltI, not_true, not_false_iff, true_implies, false_implies, false_or, or_false, true_and, and_true, false_and, and_false, true_or, or_true]
    omega
  · have he : x = q := by
      revert p
      simp (disch := omega) only [ofNat_nI, nI_add, pk_mul, nI_clamp, nI_leI, nI_ltI, nI_eq, vp_in_nI_iff, nI_subr, nI_m1r, m1_eq, m1_eq2, m1_le, m1_le2, m1_lt, m1_lt2, m1_self, cv_sub, cv_add1, cv_eq, cv_eqI, cv_eqI2, cv_m1, cv_lt0, cv_leI, cv_Ile, cv_le, cv_lt, cv_Ilt, cv_ltI, not_true, not_false_iff, true_implies, false_implies, false_or, or_false, true_and, and_true, false_and, and_false, true_or, or_true]
      exact id
    rw [if_pos he] at k
    rw [h1]
    simp (disch := omega) only [ofNat_nI, nI_add, pk_mul, nI_clamp, nI_leI, nI_ltI, nI_eq, vp_in_nI_iff, nI_subr, nI_m1r, m1_eq, m1_eq2, m1_le, m1_le2, m1_lt, m1_lt2, m1_self, cv_sub, cv_add1, cv_eq, cv_eqI, cv_eqI2, cv_m1, cv_lt0, cv_leI, cv_Ile, cv_le, cv_lt, cv_Ilt, cv_ltI, not_true, not_false_iff, true_implies, false_implies, false_or, or_false, true_and, and_true, false_and, and_false, true_or, or_true, (ha (T - 1) (by omega)).1]
    exact k

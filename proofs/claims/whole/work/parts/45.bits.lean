/-! BITS (the first rows as the kit gives them for pasting) -/
def bt (x : Int32) (i : Nat) : Bool := x.toBitVec.getLsbD i
theorem b_ext {x y : Int32} (h : ∀ i, i < 32 → bt x i = bt y i) : x = y := Int32.toBitVec_inj.mp (BitVec.eq_of_getLsbD_eq (fun i hi => h i hi))
theorem b_or (x y : Int32) (i : Nat) : bt (x ||| y) i = (bt x i || bt y i) := by unfold bt; rw [Int32.toBitVec_or, BitVec.getLsbD_or]
theorem b_and (x y : Int32) (i : Nat) : bt (x &&& y) i = (bt x i && bt y i) := by unfold bt; rw [Int32.toBitVec_and, BitVec.getLsbD_and]
theorem b_xor (x y : Int32) (i : Nat) : bt (x ^^^ y) i = (bt x i ^^ bt y i) := by unfold bt; rw [Int32.toBitVec_xor, BitVec.getLsbD_xor]
theorem b_big {x : Int32} {i : Nat} (h : 32 ≤ i) : bt x i = false := BitVec.getLsbD_of_ge _ _ h
theorem b_m1 : ∀ i, i < 32 → bt (-1) i = true := by decide +kernel
theorem b_0 (i : Nat) : bt 0 i = false := BitVec.getLsbD_zero
theorem s_l : ∀ n, n < 32 → ((nI n &&& 31).toBitVec.smod 32).toNat = n := by decide +kernel
theorem s_u : ∀ n, n < 32 → (((nI n).toUInt32 &&& Int32.toUInt32 31).toBitVec % 32).toNat = n := by decide +kernel
theorem b_shl (n : Nat) (hn : n < 32) (x : Int32) {i : Nat} (hi : i < 32) : bt (x <<< (nI n &&& 31)) i = (decide (n ≤ i) && bt x (i - n)) := by
  unfold bt
  rw [Int32.toBitVec_shiftLeft]
  show (x.toBitVec <<< ((nI n &&& 31).toBitVec.smod 32).toNat).getLsbD i = _
  rw [s_l n hn, BitVec.getLsbD_shiftLeft]
  rcases Nat.lt_or_ge i n with h | h
  · simp [h, Nat.not_le.mpr h]
  · simp [hi, h, Nat.not_lt.mpr h]
theorem b_ush (n : Nat) (hn : n < 32) (x : Int32) (i : Nat) : bt (iush x (nI n)) i = bt x (n + i) := by
  show (x.toUInt32 >>> ((nI n).toUInt32 &&& Int32.toUInt32 31)).toBitVec.getLsbD i = x.toUInt32.toBitVec.getLsbD (n + i)
  rw [UInt32.toBitVec_shiftRight]
  show (x.toUInt32.toBitVec >>> (((nI n).toUInt32 &&& Int32.toUInt32 31).toBitVec % 32).toNat).getLsbD i = _
  rw [s_u n hn, BitVec.getLsbD_ushiftRight]
theorem b_not {x : Int32} {i : Nat} (hi : i < 32) : bt (x ^^^ (-1)) i = !bt x i := by
  rw [b_xor, b_m1 i hi, Bool.xor_true]
theorem b_z {x : Int32} : x = 0 ↔ ∀ i, i < 32 → bt x i = false := by
  constructor
  · intro h i _
    rw [h, b_0]
  · intro h
    exact b_ext fun i hi => by rw [h i hi, b_0]
theorem b_nz {x : Int32} : ¬ x = 0 ↔ ∃ i, i < 32 ∧ bt x i = true := by
  rw [b_z]
  constructor
  · intro h
    refine Classical.byContradiction fun q => h fun i hi => ?_
    cases e : bt x i with
    | false => rfl
    | true => exact absurd ⟨i, hi, e⟩ q
  · rintro ⟨i, hi, e⟩ h
    rw [h i hi] at e
    cases e
/-- all bits of x are y's -/
theorem b_sub {x y : Int32} : x &&& (y ^^^ (-1)) = 0 ↔ ∀ i, i < 32 → bt x i = true → bt y i = true := by
  rw [b_z]
  constructor
  · intro h i hi hx
    have := h i hi
    rw [b_and, b_not hi, hx, Bool.true_and, Bool.not_eq_false'] at this
    exact this
  · intro h i hi
    rw [b_and, b_not hi]
    cases e : bt x i with
    | false => rfl
    | true => rw [h i hi e]; rfl
theorem b_low (x : Int32) {i : Nat} (hi : i < 32) : bt (x &&& (-x)) i = (bt x i && decide (∀ j, j < i → bt x j = false)) := by
  rw [b_and]
  have e : bt (-x) i = (bt x i ^^ decide (∃ j, j < i ∧ bt x j = true)) := by
    unfold bt
    rw [Int32.toBitVec_neg, BitVec.getLsbD_neg, decide_eq_true hi, Bool.true_and]
  rw [e]
  by_cases q : ∃ j, j < i ∧ bt x j = true
  · rw [decide_eq_true q, decide_eq_false (fun h => by
      obtain ⟨j, h1, h2⟩ := q
      rw [h j h1] at h2
      cases h2)]
    cases bt x i <;> rfl
  · rw [decide_eq_false q, decide_eq_true (fun j hj => by
      cases e : bt x j with
      | false => rfl
      | true => exact absurd ⟨j, hj, e⟩ q)]
    cases bt x i <;> rfl
theorem b_pre (x : Int32) {i : Nat} (hi : i < 32) : bt (x &&& (x - 1)) i = (bt x i && decide (∃ j, j < i ∧ bt x j = true)) := by
  rw [b_and]
  have e : bt (x - 1) i = !(bt x i ^^ decide (∃ j, j < i ∧ bt x j = true)) := by
    unfold bt
    have : (x - 1).toBitVec = ~~~(-x.toBitVec) := by
      rw [BitVec.not_neg, Int32.toBitVec_sub]
      rfl
    rw [this, BitVec.getLsbD_not, BitVec.getLsbD_neg, decide_eq_true hi, Bool.true_and, Bool.true_and]
  rw [e]
  cases bt x i <;> cases decide (∃ j, j < i ∧ bt x j = true) <;> rfl
theorem b_one {x : Int32} : x &&& (x - 1) = 0 ↔ ∀ i j, i < 32 → j < 32 → bt x i = true → bt x j = true → i = j := by
  rw [b_z]
  constructor
  · intro h i j hi hj h1 h2
    have f : ∀ i j, i < 32 → j < 32 → bt x i = true → bt x j = true → ¬ j < i := fun i j hi hj h1 h2 hlt => by
      have := h i hi
      rw [b_pre x hi, h1, decide_eq_true ⟨j, hlt, h2⟩] at this
      cases this
    have := f i j hi hj h1 h2
    have := f j i hj hi h2 h1
    omega
  · intro h i hi
    rw [b_pre x hi]
    cases e : bt x i with
    | false => rfl
    | true =>
      rw [decide_eq_false (fun q => by
        obtain ⟨j, h1, h2⟩ := q
        have := h i j hi (by omega) e h2
        omega)]
      rfl
theorem b_bit {k i : Nat} (hk : k < 32) (hi : i < 32) : bt (1 <<< (nI k &&& 31)) i = decide (i = k) := by
  rw [b_shl k hk 1 hi]
  have e : ∀ j, j < 32 → bt 1 j = decide (j = 0) := by decide +kernel
  rw [e _ (by omega)]
  by_cases q : i = k
  · subst q
    rw [decide_eq_true (Nat.le_refl i), Nat.sub_self, decide_eq_true rfl, decide_eq_true rfl]; rfl
  · rw [decide_eq_false q]
    by_cases z : k ≤ i
    · rw [decide_eq_false (show ¬ i - k = 0 by omega), Bool.and_false]
    · rw [decide_eq_false z]; rfl
/-- a number by its bits -/
def mkB (p : Nat → Bool) : Nat → BitVec 32
  | 0 => 0#32
  | n + 1 => mkB p n ||| (if p n = true then BitVec.twoPow 32 n else 0#32)
def mkI (p : Nat → Bool) : Int32 := ⟨⟨mkB p 32⟩⟩
theorem mkB_at (p : Nat → Bool) {i : Nat} (hi : i < 32) : ∀ n, (mkB p n).getLsbD i = (decide (i < n) && p i)
  | 0 => by rw [mkB]; simp
  | n + 1 => by
    rw [mkB, BitVec.getLsbD_or, mkB_at p hi n]
    by_cases q : i = n
    · subst q
      rw [decide_eq_false (Nat.lt_irrefl i), decide_eq_true (Nat.lt_succ_self i)]
      cases e : p i with
      | true => rw [if_pos rfl, BitVec.getLsbD_twoPow]; simp [hi]
      | false => rw [if_neg (by decide)]; simp
    · have e1 : (if p n = true then BitVec.twoPow 32 n else 0#32).getLsbD i = false := by
        split
        · rw [BitVec.getLsbD_twoPow]; simp; omega
        · simp
      rw [e1, Bool.or_false]
      by_cases z : i < n
      · rw [decide_eq_true z, decide_eq_true (show i < n + 1 by omega)]
      · rw [decide_eq_false z, decide_eq_false (show ¬ i < n + 1 by omega)]
theorem b_mk (p : Nat → Bool) {i : Nat} (hi : i < 32) : bt (mkI p) i = p i := by
  show (mkB p 32).getLsbD i = p i
  rw [mkB_at p hi, decide_eq_true hi, Bool.true_and]
/-! columns of a mask -/
def smI (x : Int32) : Int32 := (((x ||| iush x 1) ||| iush x 2) ||| iush x 3) &&& 286331153
def colI (x : Int32) : Int32 := smI x * 15
theorem b_sm (x : Int32) {i : Nat} (hi : i < 32) : bt (smI x) i = (decide (i % 4 = 0) && (bt x i || bt x (1 + i) || bt x (2 + i) || bt x (3 + i))) := by
  unfold smI
  have e : ∀ j, j < 32 → bt 286331153 j = decide (j % 4 = 0) := by decide +kernel
  rw [b_and, b_or, b_or, b_or, e i hi]
  have e1 : bt (iush x 1) i = bt x (1 + i) := b_ush 1 (by omega) x i
  have e2 : bt (iush x 2) i = bt x (2 + i) := b_ush 2 (by omega) x i
  have e3 : bt (iush x 3) i = bt x (3 + i) := b_ush 3 (by omega) x i
  rw [e1, e2, e3, Bool.and_comm]
theorem add_or {x y : Int32} (h : ∀ i, i < 32 → bt x i = true → bt y i = false) : x + y = x ||| y := by
  apply Int32.toBitVec_inj.mp
  rw [Int32.toBitVec_add, Int32.toBitVec_or]
  refine BitVec.add_eq_or_of_and_eq_zero _ _ ?_
  apply BitVec.eq_of_getLsbD_eq
  intro i hi
  rw [BitVec.getLsbD_and, BitVec.getLsbD_zero]
  cases e : x.toBitVec.getLsbD i with
  | false => rfl
  | true =>
    have := h i hi e
    unfold bt at this
    rw [this]
    rfl
theorem shl_mul (x : Int32) : x <<< (nI 1 &&& 31) = x * 2 ∧ x <<< (nI 2 &&& 31) = x * 4 ∧ x <<< (nI 3 &&& 31) = x * 8 := by
  have f : ∀ k, k < 32 → (x <<< (nI k &&& 31)).toBitVec.toNat = x.toBitVec.toNat * 2 ^ k % 2 ^ 32 := fun k hk => pk_shl x (nI k &&& 31) k (s_l k hk)
  have g : ∀ k : Int32, (x * k).toBitVec.toNat = x.toBitVec.toNat * k.toBitVec.toNat % 2 ^ 32 := fun k => by
    rw [Int32.toBitVec_mul, BitVec.toNat_mul]
  refine ⟨?_, ?_, ?_⟩
  all_goals
    apply Int32.toBitVec_inj.mp
    apply BitVec.eq_of_toNat_eq
    rw [f _ (by omega), g]
    rfl
theorem mul15 (x : Int32) : x * 15 = ((x + x * 2) + x * 4) + x * 8 := by
  apply Int32.toBitVec_inj.mp
  apply BitVec.eq_of_toNat_eq
  simp only [Int32.toBitVec_mul, Int32.toBitVec_add, BitVec.toNat_mul, BitVec.toNat_add]
  have e15 : (15 : Int32).toBitVec.toNat = 15 := by decide
  have e2 : (2 : Int32).toBitVec.toNat = 2 := by decide
  have e4 : (4 : Int32).toBitVec.toNat = 4 := by decide
  have e8 : (8 : Int32).toBitVec.toNat = 8 := by decide
  rw [e15, e2, e4, e8]
  omega
def anyC (x : Int32) (c : Nat) : Bool := bt x (4 * c) || bt x (4 * c + 1) || bt x (4 * c + 2) || bt x (4 * c + 3)
theorem anyC_iff {x : Int32} {c : Nat} : anyC x c = true ↔ ∃ l, l < 4 ∧ bt x (4 * c + l) = true := by
  unfold anyC
  rw [Bool.or_eq_true, Bool.or_eq_true, Bool.or_eq_true]
  constructor
  · rintro (((z | z) | z) | z)
    · exact ⟨0, by omega, z⟩
    · exact ⟨1, by omega, z⟩
    · exact ⟨2, by omega, z⟩
    · exact ⟨3, by omega, z⟩
  · rintro ⟨l, hl, z⟩
    have : l = 0 ∨ l = 1 ∨ l = 2 ∨ l = 3 := by omega
    rcases this with rfl | rfl | rfl | rfl
    · exact Or.inl (Or.inl (Or.inl z))
    · exact Or.inl (Or.inl (Or.inr z))
    · exact Or.inl (Or.inr z)
    · exact Or.inr z
theorem b_col (x : Int32) {i : Nat} (hi : i < 32) : bt (colI x) i = anyC x (i / 4) := by
  unfold colI
  obtain ⟨s1, s2, s3⟩ := shl_mul (smI x)
  rw [mul15, ← s1, ← s2, ← s3]
  have q1 : ∀ j, j < 32 → bt (smI x <<< (nI 1 &&& 31)) j = (decide (1 ≤ j) && bt (smI x) (j - 1)) := fun j hj => b_shl 1 (by omega) _ hj
  have q2 : ∀ j, j < 32 → bt (smI x <<< (nI 2 &&& 31)) j = (decide (2 ≤ j) && bt (smI x) (j - 2)) := fun j hj => b_shl 2 (by omega) _ hj
  have q3 : ∀ j, j < 32 → bt (smI x <<< (nI 3 &&& 31)) j = (decide (3 ≤ j) && bt (smI x) (j - 3)) := fun j hj => b_shl 3 (by omega) _ hj
  have m0 : ∀ j, j < 32 → bt (smI x) j = true → j % 4 = 0 := fun j hj h => by
    rw [b_sm x hj, Bool.and_eq_true] at h
    exact of_decide_eq_true h.1
  have m1 : ∀ j, j < 32 → bt (smI x <<< (nI 1 &&& 31)) j = true → j % 4 = 1 := fun j hj h => by
    rw [q1 j hj, Bool.and_eq_true] at h
    have := m0 (j - 1) (by omega) h.2
    have := of_decide_eq_true h.1
    omega
  have m2 : ∀ j, j < 32 → bt (smI x <<< (nI 2 &&& 31)) j = true → j % 4 = 2 := fun j hj h => by
    rw [q2 j hj, Bool.and_eq_true] at h
    have := m0 (j - 2) (by omega) h.2
    have := of_decide_eq_true h.1
    omega
  have m3 : ∀ j, j < 32 → bt (smI x <<< (nI 3 &&& 31)) j = true → j % 4 = 3 := fun j hj h => by
    rw [q3 j hj, Bool.and_eq_true] at h
    have := m0 (j - 3) (by omega) h.2
    have := of_decide_eq_true h.1
    omega
  have nf : ∀ {b : Bool} {p : Prop}, (b = true → p) → ¬ p → b = false := fun {b p} h hp => by cases b with | false => rfl | true => exact absurd (h rfl) hp
  rw [add_or (x := smI x) (y := smI x <<< (nI 1 &&& 31)) (fun j hj h => nf (m1 j hj) (by have := m0 j hj h; omega))]
  rw [add_or (x := smI x ||| smI x <<< (nI 1 &&& 31)) (y := smI x <<< (nI 2 &&& 31)) (fun j hj h => nf (m2 j hj) (by
    rw [b_or, Bool.or_eq_true] at h
    rcases h with h | h
    · have := m0 j hj h; omega
    · have := m1 j hj h; omega))]
  rw [add_or (x := smI x ||| smI x <<< (nI 1 &&& 31) ||| smI x <<< (nI 2 &&& 31)) (y := smI x <<< (nI 3 &&& 31)) (fun j hj h => nf (m3 j hj) (by
    rw [b_or, b_or, Bool.or_eq_true, Bool.or_eq_true] at h
    rcases h with (h | h) | h
    · have := m0 j hj h; omega
    · have := m1 j hj h; omega
    · have := m2 j hj h; omega))]
  rw [b_or, b_or, b_or, q1 i hi, q2 i hi, q3 i hi]
  have o0 : ∀ j, j < 32 → j % 4 ≠ 0 → bt (smI x) j = false := fun j hj h => nf (m0 j hj) h
  have hbase : ∀ b : Bool, b = bt (smI x) (4 * (i / 4)) → b = anyC x (i / 4) := fun b hb => by
    rw [hb, b_sm x (by omega), decide_eq_true (by omega), Bool.true_and, Nat.add_comm 1, Nat.add_comm 2, Nat.add_comm 3]
    rfl
  apply hbase
  have hm : i % 4 = 0 ∨ i % 4 = 1 ∨ i % 4 = 2 ∨ i % 4 = 3 := by omega
  rcases hm with h | h | h | h
  · rw [show 4 * (i / 4) = i by omega]
    by_cases z : i = 0
    · subst z; simp
    · rw [o0 (i - 1) (by omega) (by omega), o0 (i - 2) (by omega) (by omega), o0 (i - 3) (by omega) (by omega)]; simp
  · rw [show 4 * (i / 4) = i - 1 by omega, o0 i hi (by omega), decide_eq_true (show 1 ≤ i by omega)]
    by_cases z : 2 ≤ i
    · rw [o0 (i - 2) (by omega) (by omega), o0 (i - 3) (by omega) (by omega)]; simp
    · rw [decide_eq_false z, decide_eq_false (show ¬ 3 ≤ i by omega)]; simp
  · rw [show 4 * (i / 4) = i - 2 by omega, o0 i hi (by omega), o0 (i - 1) (by omega) (by omega), decide_eq_true (show 2 ≤ i by omega)]
    by_cases z : 3 ≤ i
    · rw [o0 (i - 3) (by omega) (by omega)]; simp
    · rw [decide_eq_false z]; simp
  · rw [show 4 * (i / 4) = i - 3 by omega, o0 i hi (by omega), o0 (i - 1) (by omega) (by omega), o0 (i - 2) (by omega) (by omega), decide_eq_true (show 3 ≤ i by omega)]; simp

/-! ROWS AS MASKS; how many bits -/
def rowI (r : Nat → Nat) : Int32 := mkI (fun i => decide (r (i / 4) = i % 4 + 1))
theorem b_row (r : Nat → Nat) {i : Nat} (hi : i < 32) : bt (rowI r) i = decide (r (i / 4) = i % 4 + 1) := b_mk _ hi
theorem b_rowc (r : Nat → Nat) {c l : Nat} (hc : c < 8) (hl : l < 4) : bt (rowI r) (4 * c + l) = decide (r c = l + 1) := by
  rw [b_row r (by omega), show (4 * c + l) / 4 = c by omega, show (4 * c + l) % 4 = l by omega]
/-- all bits by columns -/
theorem c_ext {x y : Int32} (h : ∀ c l, c < 8 → l < 4 → bt x (4 * c + l) = bt y (4 * c + l)) : x = y := b_ext fun i hi => by
  have := h (i / 4) (i % 4) (by omega) (by omega)
  rw [show 4 * (i / 4) + i % 4 = i by omega] at this
  exact this
theorem rowI_congr {r r' : Nat → Nat} (h : ∀ c, c < 8 → r c = r' c) : rowI r = rowI r' := c_ext fun c l hc hl => by
  rw [b_rowc r hc hl, b_rowc r' hc hl, h c hc]
theorem rowI_0 : rowI (fun _ => 0) = 0 := b_ext fun i hi => by
  rw [b_row _ hi, b_0]
  exact decide_eq_false (by omega)
theorem rowI_eq {r r' : Nat → Nat} (hr : ∀ c, c < 8 → r c ≤ 4) (hr' : ∀ c, c < 8 → r' c ≤ 4) (h : rowI r = rowI r') : ∀ c, c < 8 → r c = r' c := fun c hc => by
  have f : ∀ l, l < 4 → (r c = l + 1 ↔ r' c = l + 1) := fun l hl => by
    have := congrArg (fun x => bt x (4 * c + l)) h
    simp only [b_rowc r hc hl, b_rowc r' hc hl, decide_eq_decide] at this
    exact this
  have h1 := hr c hc
  have h2 := hr' c hc
  by_cases z : r c = 0
  · by_cases z2 : r' c = 0
    · rw [z, z2]
    · have := (f (r' c - 1) (by omega)).mpr (by omega)
      omega
  · have := (f (r c - 1) (by omega)).mp (by omega)
    omega
def pw : Nat → Nat
  | 0 => 0
  | v + 1 => 2 ^ v
theorem b_nI {v i : Nat} (hi : i < 32) : bt (nI v) i = v.testBit i := by
  show (BitVec.ofNat 32 v).getLsbD i = _
  rw [BitVec.getLsbD_ofNat, decide_eq_true hi, Bool.true_and]
theorem b_15 : ∀ i, i < 32 → bt 15 i = decide (i < 4) := by decide +kernel
theorem nib_of {x : Int32} {c v : Nat} (hc : c < 8) (hv : v < 16) (h : ∀ l, l < 4 → bt x (4 * c + l) = v.testBit l) : iush x (nI (4 * c)) &&& 15 = nI v := b_ext fun i hi => by
  rw [b_and, b_ush (4 * c) (by omega), b_15 i hi, b_nI hi]
  by_cases q : i < 4
  · rw [decide_eq_true q, Bool.and_true, h i q]
  · rw [decide_eq_false q, Bool.and_false]
    exact (Nat.testBit_lt_two_pow (Nat.lt_of_lt_of_le hv (show 2 ^ 4 ≤ 2 ^ i from Nat.pow_le_pow_right (by omega) (by omega)))).symm
theorem pw_tb : ∀ a, a < 5 → ∀ l, l < 4 → decide (a = l + 1) = (pw a).testBit l := by decide
theorem pw_lt : ∀ a, a < 5 → pw a < 16 := by decide
theorem nib_row {r : Nat → Nat} {c : Nat} (hc : c < 8) (hr : r c ≤ 4) : iush (rowI r) (4 * nI c) &&& 15 = nI (pw (r c)) := by
  rw [show (4 : Int32) = nI 4 from rfl, pk_mul]
  refine nib_of hc (pw_lt _ (by omega)) (fun l hl => ?_)
  rw [b_rowc r hc hl]
  exact pw_tb (r c) (by omega) l hl
theorem pw_0 : ∀ a, a < 5 → (nI (pw a) = 0 ↔ a = 0) := by decide
theorem pw_v : ∀ a, a < 5 → a ≠ 0 → (nI (pw a) >>> ((1 : Int32) &&& 31)) - (nI (pw a) >>> ((3 : Int32) &&& 31)) = cv a := by decide
theorem s_levelIn {G : mG} {Q : Int32 → mM → Prop} {μ : mM} {r : Nat → Nat} {c : Nat} (hc : c < 8) (hr : r c ≤ 4) (k : Q (cv (r c)) μ) : CtI G mX11_levelIn [.int (rowI r), .int (nI c)] μ Q := by
  refine a_X11_levelIn (fun p => ?_) (fun p => ?_)
  · rw [nib_row hc hr, pw_0 _ (by omega)] at p
    rw [nib_row hc hr, pw_v _ (by omega) p]
    exact k
  · rw [nib_row hc hr, pw_0 _ (by omega)] at p
    rw [p] at k
    exact k
/-! how many bits -/
def bc1 (x : Int32) : Int32 := x - (iush x 1 &&& 1431655765)
def bc2 (x : Int32) : Int32 := (x &&& 858993459) + (iush x 2 &&& 858993459)
def bc3 (x : Int32) : Int32 := (x + iush x 4) &&& 252645135
def bc4 (x : Int32) : Int32 := x + iush x 8
def bc5 (x : Int32) : Int32 := x + iush x 16
def bcI (x : Int32) : Int32 := bc5 (bc4 (bc3 (bc2 (bc1 x)))) &&& 63
theorem s_bitCount {G : mG} {Q : Int32 → mM → Prop} {μ : mM} {x : Int32} (k : Q (bcI x) μ) : CtI G mJ6_bitCount_0f7a4 [.int x] μ Q := by
  refine CtI.of pn_J6 (Nat.le_of_ble_eq_true rfl) fun E C => ?_
  refine L_iload_n C (i := 0) dJ6_bitCount_0f7a4_0 rfl rfl ?_
  refine L_iload_n C (i := 0) dJ6_bitCount_0f7a4_1 rfl rfl ?_
  refine L_iconst C dJ6_bitCount_0f7a4_2 rfl ?_
  refine L_iushr C dJ6_bitCount_0f7a4_3 ?_
  refine L_ldcw C dJ6_bitCount_0f7a4_4 cn_J6_265 ?_
  refine L_iand C dJ6_bitCount_0f7a4_7 ?_
  refine L_isub C dJ6_bitCount_0f7a4_8 ?_
  refine L_istore_n C (i := 0) dJ6_bitCount_0f7a4_9 rfl (by decide) ?_
  show Wm G mJ6_bitCount_0f7a4 E _ μ 10 [(0, .int (bc1 x))] []
  generalize hy : bc1 x = y
  refine L_iload_n C (i := 0) dJ6_bitCount_0f7a4_10 rfl rfl ?_
  refine L_ldcw C dJ6_bitCount_0f7a4_11 cn_J6_266 ?_
  refine L_iand C dJ6_bitCount_0f7a4_14 ?_
  refine L_iload_n C (i := 0) dJ6_bitCount_0f7a4_15 rfl rfl ?_
  refine L_iconst C dJ6_bitCount_0f7a4_16 rfl ?_
  refine L_iushr C dJ6_bitCount_0f7a4_17 ?_
  refine L_ldcw C dJ6_bitCount_0f7a4_18 cn_J6_266 ?_
  refine L_iand C dJ6_bitCount_0f7a4_21 ?_
  refine L_iadd C dJ6_bitCount_0f7a4_22 ?_
  refine L_istore_n C (i := 0) dJ6_bitCount_0f7a4_23 rfl (by decide) ?_
  show Wm G mJ6_bitCount_0f7a4 E _ μ 24 [(0, .int (bc2 y))] []
  generalize hz : bc2 y = z
  refine L_iload_n C (i := 0) dJ6_bitCount_0f7a4_24 rfl rfl ?_
  refine L_iload_n C (i := 0) dJ6_bitCount_0f7a4_25 rfl rfl ?_
  refine L_iconst C dJ6_bitCount_0f7a4_26 rfl ?_
  refine L_iushr C dJ6_bitCount_0f7a4_27 ?_
  refine L_iadd C dJ6_bitCount_0f7a4_28 ?_
  refine L_ldcw C dJ6_bitCount_0f7a4_29 cn_J6_267 ?_
  refine L_iand C dJ6_bitCount_0f7a4_32 ?_
  refine L_istore_n C (i := 0) dJ6_bitCount_0f7a4_33 rfl (by decide) ?_
  show Wm G mJ6_bitCount_0f7a4 E _ μ 34 [(0, .int (bc3 z))] []
  generalize hw : bc3 z = w
  refine L_iload_n C (i := 0) dJ6_bitCount_0f7a4_34 rfl rfl ?_
  refine L_iload_n C (i := 0) dJ6_bitCount_0f7a4_35 rfl rfl ?_
  refine L_bipush C dJ6_bitCount_0f7a4_36 rfl ?_
  refine L_iushr C dJ6_bitCount_0f7a4_38 ?_
  refine L_iadd C dJ6_bitCount_0f7a4_39 ?_
  refine L_istore_n C (i := 0) dJ6_bitCount_0f7a4_40 rfl (by decide) ?_
  show Wm G mJ6_bitCount_0f7a4 E _ μ 41 [(0, .int (bc4 w))] []
  generalize hv : bc4 w = v
  refine L_iload_n C (i := 0) dJ6_bitCount_0f7a4_41 rfl rfl ?_
  refine L_iload_n C (i := 0) dJ6_bitCount_0f7a4_42 rfl rfl ?_
  refine L_bipush C dJ6_bitCount_0f7a4_43 rfl ?_
  refine L_iushr C dJ6_bitCount_0f7a4_45 ?_
  refine L_iadd C dJ6_bitCount_0f7a4_46 ?_
  refine L_istore_n C (i := 0) dJ6_bitCount_0f7a4_47 rfl (by decide) ?_
  show Wm G mJ6_bitCount_0f7a4 E _ μ 48 [(0, .int (bc5 v))] []
  refine L_iload_n C (i := 0) dJ6_bitCount_0f7a4_48 rfl rfl ?_
  refine L_bipush C dJ6_bitCount_0f7a4_49 rfl ?_
  refine L_iand C dJ6_bitCount_0f7a4_51 ?_
  refine L_irI C dJ6_bitCount_0f7a4_52 rfl ?_
  rw [← hv, ← hw, ← hz, ← hy]
  exact k
theorem bc_nib : ∀ v, v < 16 → bcI (nI v) = nI (sm 4 (fun l => (v.testBit l).toNat)) := by decide +kernel
/-- at most one bit a column -/
def z8 (b0 b1 b2 b3 b4 b5 b6 b7 : Bool) : Int32 := nI (b0.toNat + 16 * b1.toNat + 256 * b2.toNat + 4096 * b3.toNat + 65536 * b4.toNat + 1048576 * b5.toNat + 16777216 * b6.toNat + 268435456 * b7.toNat)
theorem z8_bc : ∀ b0 b1 b2 b3 b4 b5 b6 b7 : Bool, bc5 (bc4 (bc3 (z8 b0 b1 b2 b3 b4 b5 b6 b7))) &&& 63 = nI (b0.toNat + b1.toNat + b2.toNat + b3.toNat + b4.toNat + b5.toNat + b6.toNat + b7.toNat) := by decide +kernel
theorem z8_bt : ∀ b0 b1 b2 b3 b4 b5 b6 b7 : Bool, ∀ i, i < 32 → bt (z8 b0 b1 b2 b3 b4 b5 b6 b7) i = (decide (i % 4 = 0) && [b0, b1, b2, b3, b4, b5, b6, b7].getD (i / 4) false) := by decide +kernel
theorem bc_row {r : Nat → Nat} (hr : ∀ c, c < 8 → r c ≤ 4) : bcI (rowI r) = nI (sm 8 (fun c => (decide (r c ≠ 0)).toNat)) := by
  have hb : ∀ i, i < 32 → bt (rowI r) i = decide (r (i / 4) = i % 4 + 1) := fun i hi => b_row r hi
  generalize hx : rowI r = x at hb
  have m5 : ∀ i, i < 32 → bt 1431655765 i = decide (i % 2 = 0) := by decide +kernel
  have m3 : ∀ i, i < 32 → bt 858993459 i = decide (i % 4 < 2) := by decide +kernel
  have u1 : ∀ i, bt (iush x 1) i = bt x (1 + i) := fun i => b_ush 1 (by omega) x i
  have uniq : ∀ i j, i < 32 → j < 32 → i / 4 = j / 4 → bt x i = true → bt x j = true → i = j := fun i j hi hj e h1 h2 => by
    rw [hb i hi] at h1
    rw [hb j hj] at h2
    have h1 := of_decide_eq_true h1
    have h2 := of_decide_eq_true h2
    rw [e] at h1
    omega
  have bE : ∀ i, i < 32 → bt (x &&& 1431655765) i = (bt x i && decide (i % 2 = 0)) := fun i hi => by rw [b_and, m5 i hi]
  have bF : ∀ i, i < 32 → bt (iush x 1 &&& 1431655765) i = (bt x (1 + i) && decide (i % 2 = 0)) := fun i hi => by rw [b_and, m5 i hi, u1]
  have dbl : ∀ y : Int32, y + y = y <<< (nI 1 &&& 31) := fun y => by
    rw [(shl_mul y).1]
    apply Int32.toBitVec_inj.mp
    apply BitVec.eq_of_toNat_eq
    simp only [Int32.toBitVec_mul, Int32.toBitVec_add, BitVec.toNat_mul, BitVec.toNat_add]
    have e2 : (2 : Int32).toBitVec.toNat = 2 := by decide
    rw [e2]
    omega
  have bD : ∀ i, i < 32 → bt ((iush x 1 &&& 1431655765) <<< (nI 1 &&& 31)) i = (bt x i && decide (i % 2 = 1)) := fun i hi => by
    rw [b_shl 1 (by omega) _ hi]
    by_cases q : i % 2 = 1
    · rw [bF _ (by omega), show 1 + (i - 1) = i by omega, decide_eq_true q, decide_eq_true (show 1 ≤ i by omega), decide_eq_true (show (i - 1) % 2 = 0 by omega), Bool.true_and]
    · rw [decide_eq_false q, Bool.and_false]
      by_cases z : 1 ≤ i
      · rw [bF _ (by omega), decide_eq_false (show ¬ (i - 1) % 2 = 0 by omega), Bool.and_false, Bool.and_false]
      · rw [decide_eq_false z, Bool.false_and]
  have ee : x = (x &&& 1431655765) + ((iush x 1 &&& 1431655765) + (iush x 1 &&& 1431655765)) := by
    rw [dbl, add_or (fun i hi h => ?_)]
    · refine b_ext fun i hi => ?_
      rw [b_or, bE i hi, bD i hi]
      by_cases q : i % 2 = 0
      · rw [decide_eq_true q, decide_eq_false (show ¬ i % 2 = 1 by omega), Bool.and_true, Bool.and_false, Bool.or_false]
      · rw [decide_eq_false q, decide_eq_true (show i % 2 = 1 by omega), Bool.and_true, Bool.and_false, Bool.false_or]
    · rw [bE i hi, Bool.and_eq_true] at h
      rw [bD i hi, decide_eq_false (by have := of_decide_eq_true h.2; omega), Bool.and_false]
  have e1 : bc1 x = (x &&& 1431655765) ||| (iush x 1 &&& 1431655765) := by
    have : bc1 x = (x &&& 1431655765) + (iush x 1 &&& 1431655765) := by
      unfold bc1
      have h2 : (x &&& 1431655765) + (iush x 1 &&& 1431655765) + (iush x 1 &&& 1431655765) - (iush x 1 &&& 1431655765) = (x &&& 1431655765) + (iush x 1 &&& 1431655765) := Int32.add_sub_cancel _ _
      rw [← h2, Int32.add_assoc, ← ee]
    rw [this]
    refine add_or fun i hi h => ?_
    rw [bE i hi, Bool.and_eq_true] at h
    have h2 := of_decide_eq_true h.2
    rw [bF i hi]
    cases e : bt x (1 + i) with
    | false => rfl
    | true =>
      have := uniq i (1 + i) hi (by omega) (by omega) h.1 e
      omega
  have by1 : ∀ i, i < 32 → bt (bc1 x) i = ((bt x i || bt x (1 + i)) && decide (i % 2 = 0)) := fun i hi => by
    rw [e1, b_or, bE i hi, bF i hi, Bool.and_or_distrib_right]
  have fin : bcI x = bc5 (bc4 (bc3 (bc2 (bc1 x)))) &&& 63 := rfl
  rw [fin]
  clear fin
  generalize bc1 x = y at by1 ⊢
  have u2 : ∀ i, bt (iush y 2) i = bt y (2 + i) := fun i => b_ush 2 (by omega) y i
  have bA : ∀ i, i < 32 → bt (y &&& 858993459) i = (decide (i % 4 = 0) && (bt x i || bt x (1 + i))) := fun i hi => by
    rw [b_and, m3 i hi, by1 i hi]
    by_cases q : i % 4 = 0
    · rw [decide_eq_true q, decide_eq_true (show i % 2 = 0 by omega), decide_eq_true (show i % 4 < 2 by omega), Bool.and_true, Bool.and_true, Bool.true_and]
    · rw [decide_eq_false q, Bool.false_and]
      by_cases z : i % 2 = 0
      · rw [decide_eq_false (show ¬ i % 4 < 2 by omega), Bool.and_false]
      · rw [decide_eq_false z, Bool.and_false, Bool.false_and]
  have bB : ∀ i, i < 32 → bt (iush y 2 &&& 858993459) i = (decide (i % 4 = 0) && (bt x (2 + i) || bt x (3 + i))) := fun i hi => by
    rw [b_and, m3 i hi, u2]
    by_cases q : i % 4 = 0
    · rw [by1 (2 + i) (by omega), decide_eq_true q, decide_eq_true (show (2 + i) % 2 = 0 by omega), decide_eq_true (show i % 4 < 2 by omega), Bool.and_true, Bool.and_true, Bool.true_and, show 1 + (2 + i) = 3 + i by omega]
    · rw [decide_eq_false q, Bool.false_and]
      by_cases z : i % 4 < 2
      · by_cases w : 2 + i < 32
        · rw [by1 (2 + i) w, decide_eq_false (show ¬ (2 + i) % 2 = 0 by omega), Bool.and_false, Bool.false_and]
        · rw [b_big (by omega), Bool.false_and]
      · rw [decide_eq_false z, Bool.and_false]
  have e2 : bc2 y = (y &&& 858993459) ||| (iush y 2 &&& 858993459) := add_or fun i hi h => by
    rw [bA i hi, Bool.and_eq_true, Bool.or_eq_true] at h
    have h1 := of_decide_eq_true h.1
    rw [bB i hi]
    cases e : bt x (2 + i) with
    | true =>
      rcases h.2 with z | z
      · have := uniq i (2 + i) hi (by omega) (by omega) z e; omega
      · have := uniq (1 + i) (2 + i) (by omega) (by omega) (by omega) z e; omega
    | false =>
      cases e3 : bt x (3 + i) with
      | true =>
        rcases h.2 with z | z
        · have := uniq i (3 + i) hi (by omega) (by omega) z e3; omega
        · have := uniq (1 + i) (3 + i) (by omega) (by omega) (by omega) z e3; omega
      | false => rw [Bool.or_false, Bool.and_false]
  have bz : bc2 y = z8 (decide (r 0 ≠ 0)) (decide (r 1 ≠ 0)) (decide (r 2 ≠ 0)) (decide (r 3 ≠ 0)) (decide (r 4 ≠ 0)) (decide (r 5 ≠ 0)) (decide (r 6 ≠ 0)) (decide (r 7 ≠ 0)) := b_ext fun i hi => by
    rw [e2, b_or, bA i hi, bB i hi, z8_bt _ _ _ _ _ _ _ _ i hi, ← Bool.and_or_distrib_left]
    by_cases q : i % 4 = 0
    · rw [decide_eq_true q, Bool.true_and, Bool.true_and]
      have hg : ([decide (r 0 ≠ 0), decide (r 1 ≠ 0), decide (r 2 ≠ 0), decide (r 3 ≠ 0), decide (r 4 ≠ 0), decide (r 5 ≠ 0), decide (r 6 ≠ 0), decide (r 7 ≠ 0)] : List Bool).getD (i / 4) false = decide (r (i / 4) ≠ 0) := by
        have h8 : i / 4 = 0 ∨ i / 4 = 1 ∨ i / 4 = 2 ∨ i / 4 = 3 ∨ i / 4 = 4 ∨ i / 4 = 5 ∨ i / 4 = 6 ∨ i / 4 = 7 := by omega
        rcases h8 with h | h | h | h | h | h | h | h <;> rw [h] <;> rfl
      rw [hg, hb i hi, hb (1 + i) (by omega), hb (2 + i) (by omega), hb (3 + i) (by omega), show (1 + i) / 4 = i / 4 by omega, show (2 + i) / 4 = i / 4 by omega, show (3 + i) / 4 = i / 4 by omega, show (1 + i) % 4 = 1 by omega, show (2 + i) % 4 = 2 by omega, show (3 + i) % 4 = 3 by omega, q]
      have h4 := hr (i / 4) (by omega)
      have ha : ∀ a, a < 5 → ((decide (a = 0 + 1) || decide (a = 1 + 1)) || (decide (a = 2 + 1) || decide (a = 3 + 1))) = decide (a ≠ 0) := by decide
      exact ha _ (by omega)
    · rw [decide_eq_false q, Bool.false_and, Bool.false_and]
  rw [bz, z8_bc]
  show _ = nI (0 + _ + _ + _ + _ + _ + _ + _ + _)
  rw [Nat.zero_add]

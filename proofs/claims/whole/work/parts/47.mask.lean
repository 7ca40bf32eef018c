/-! WHAT IS LEFT TO A ROW, AS A MASK -/
def allI (P : Pl) : Int32 := mkI (fun i => decide (i % 4 < qL P (i / 4)))
theorem b_all (P : Pl) {c l : Nat} (hc : c < 8) (hl : l < 4) : bt (allI P) (4 * c + l) = decide (l < qL P c) := by
  show bt (mkI _) _ = _
  rw [b_mk _ (by omega), show (4 * c + l) / 4 = c by omega, show (4 * c + l) % 4 = l by omega]
/-- the class's plan -/
def PlC (p : Nat) (P : Pl) (μ : mM) : Prop := μ p 0 = nI (qC P) ∧ μ p 1 = nI (qT P) ∧ μ p 2 = nI (qN P) ∧ μ p 3 = allI P ∧ (∀ c, c < qC P → μ (p + 1) c = nI (qL P c)) ∧ ∀ i, i < qN P → μ (p + 2) i = rowI (qV P i) ∧ μ (p + 3) i = colI (rowI (qV P i))
theorem PlC.of {p : Nat} {P : Pl} {μ μ' : mM} (h : PlC p P μ) (e0 : μ' p = μ p) (e1 : μ' (p + 1) = μ (p + 1)) (e2 : μ' (p + 2) = μ (p + 2)) (e3 : μ' (p + 3) = μ (p + 3)) : PlC p P μ' := by
  unfold PlC
  rw [e0, e1, e2, e3]
  exact h
theorem b_colc (x : Int32) {c l : Nat} (hc : c < 8) (hl : l < 4) : bt (colI x) (4 * c + l) = anyC x c := by
  rw [b_col x (by omega), show (4 * c + l) / 4 = c by omega]
theorem b_nc (x : Int32) {c l : Nat} (hc : c < 8) (hl : l < 4) : bt (x ^^^ (-1)) (4 * c + l) = !bt x (4 * c + l) := b_not (by omega)
theorem any_row {r : Nat → Nat} {c : Nat} (hc : c < 8) (hr : r c ≤ 4) : anyC (rowI r) c = decide (r c ≠ 0) := by
  have : anyC (rowI r) c = true ↔ r c ≠ 0 := by
    rw [anyC_iff]
    constructor
    · rintro ⟨l, hl, h⟩
      rw [b_rowc r hc hl] at h
      have := of_decide_eq_true h
      omega
    · intro h
      refine ⟨r c - 1, by omega, ?_⟩
      rw [b_rowc r hc (by omega)]
      exact decide_eq_true (by omega)
  cases e : anyC (rowI r) c with
  | true => exact (decide_eq_true (this.mp e)).symm
  | false => exact (decide_eq_false (fun z => by rw [this.mpr z] at e; cases e)).symm
def fitX (C : Nat) (x : Int32) (f : Nat → Nat) : Prop := ∀ c, c < C → f c < 4 ∧ bt x (4 * c + f c) = true
def lawX (P : Pl) (f : Nat → Nat) : Prop := ∀ i, i < qN P → ∃ c, c < qC P ∧ qV P i c ≠ 0 ∧ qV P i c ≠ f c + 1
def goodX (P : Pl) (x : Int32) (f : Nat → Nat) : Bool := decide (∀ c, c < qC P → bt x (4 * c + f c) = true) && lawB P f
def cntX (P : Pl) (x : Int32) : Nat := cntF (goodX P x) (qC P) 0 (fun _ => 0)
theorem lawB_iff {P : Pl} {f : Nat → Nat} : lawB P f = true ↔ lawX P f := by
  unfold lawB lawX
  rw [decide_eq_true_iff]
theorem goodX_iff {P : Pl} {x : Int32} {f : Nat → Nat} (h4 : ∀ c, c < qC P → f c < 4) : goodX P x f = true ↔ fitX (qC P) x f ∧ lawX P f := by
  unfold goodX fitX
  rw [Bool.and_eq_true, decide_eq_true_iff, lawB_iff]
  exact ⟨fun z => ⟨fun c hc => ⟨h4 c hc, z.1 c hc⟩, z.2⟩, fun z => ⟨fun c hc => (z.1 c hc).2, z.2⟩⟩
theorem cntX_congr {P : Pl} {x y : Int32} (h : ∀ f, (∀ c, c < qC P → f c < 4) → lawX P f → (fitX (qC P) x f ↔ fitX (qC P) y f)) : cntX P x = cntX P y := by
  refine cntF_congr fun f _ h2 => ?_
  have h4 : ∀ c, c < qC P → f c < 4 := fun c hc => h2 c (Nat.zero_le _) (by omega)
  have : goodX P x f = true ↔ goodX P y f = true := by
    rw [goodX_iff h4, goodX_iff h4]
    exact ⟨fun z => ⟨(h f h4 z.2).mp z.1, z.2⟩, fun z => ⟨(h f h4 z.2).mpr z.1, z.2⟩⟩
  cases e : goodX P x f with
  | true => rw [this.mp e]
  | false => exact (bnot fun z => by rw [this.mpr z] at e; cases e).symm
/-- what is left beside a row -/
def leftI (P : Pl) (x : Int32) : Int32 := (allI P &&& (colI x ^^^ (-1))) ||| x
theorem b_left {P : Pl} {r : Nat → Nat} {c l : Nat} (hc : c < 8) (hl : l < 4) (hr : ∀ c, c < 8 → r c ≤ 4) : bt (leftI P (rowI r)) (4 * c + l) = if r c = 0 then decide (l < qL P c) else decide (r c = l + 1) := by
  unfold leftI
  rw [b_or, b_and, b_all P hc hl, b_nc _ hc hl, b_colc _ hc hl, any_row hc (hr c hc), b_rowc r hc hl]
  by_cases q : r c = 0
  · rw [if_pos q, decide_eq_false (show ¬ (r c ≠ 0) from fun z => z q), decide_eq_false (show ¬ r c = l + 1 by omega), Bool.not_false, Bool.and_true, Bool.or_false]
  · rw [if_neg q, decide_eq_true q, Bool.not_true, Bool.and_false, Bool.false_or]
theorem RwOk.le4 {P : Pl} (h : PW P) {r : Nat → Nat} (hr : ∀ c, r c ≤ qL P c) (c : Nat) : r c ≤ 4 := by
  by_cases q : c < qC P
  · exact Nat.le_trans (hr c) (h.lv q).2
  · have := hr c
    rw [h.2.2.2.1 c (by omega)] at this
    omega
theorem left_fit {P : Pl} (h : PW P) {r : Nat → Nat} (hr : ∀ c, r c ≤ qL P c) {f : Nat → Nat} : fitX (qC P) (leftI P (rowI r)) f ↔ (∀ c, c < qC P → f c < qL P c) ∧ (∀ c, c < qC P → r c ≠ 0 → r c = f c + 1) := by
  have hC8 := h.ct.2.2.2
  have h4 := fun c => RwOk.le4 h hr c
  constructor
  · intro z
    have key : ∀ c, c < qC P → f c < qL P c ∧ (r c ≠ 0 → r c = f c + 1) := fun c hc => by
      obtain ⟨z1, z2⟩ := z c hc
      rw [b_left (by omega) z1 (fun c _ => h4 c)] at z2
      by_cases q : r c = 0
      · rw [if_pos q] at z2
        exact ⟨of_decide_eq_true z2, fun y => absurd q y⟩
      · rw [if_neg q] at z2
        have := of_decide_eq_true z2
        have := hr c
        exact ⟨by omega, fun _ => by omega⟩
    exact ⟨fun c hc => (key c hc).1, fun c hc => (key c hc).2⟩
  · rintro ⟨z1, z2⟩ c hc
    have l4 := (h.lv hc).2
    have := z1 c hc
    refine ⟨by omega, ?_⟩
    rw [b_left (by omega) (by omega) (fun c _ => h4 c)]
    by_cases q : r c = 0
    · rw [if_pos q]; exact decide_eq_true this
    · rw [if_neg q]; exact decide_eq_true (z2 c hc q)
theorem cntX_left {P : Pl} (h : PW P) {r : Nat → Nat} (hr : ∀ c, r c ≤ qL P c) : cntX P (leftI P (rowI r)) = cnt P r := by
  refine cntF_congr fun f _ h2 => ?_
  have h4 : ∀ c, c < qC P → f c < 4 := fun c hc => h2 c (Nat.zero_le _) (by omega)
  have : goodX P (leftI P (rowI r)) f = true ↔ goodB P r f = true := by
    rw [goodX_iff h4, goodB_iff, left_fit h hr]
    exact ⟨fun z => ⟨z.1.1, z.1.2, z.2⟩, fun z => ⟨⟨z.1, z.2.1⟩, z.2.2⟩⟩
  cases e : goodX P (leftI P (rowI r)) f with
  | true => rw [this.mp e]
  | false => exact (bnot fun z => by rw [this.mpr z] at e; cases e).symm
/-- a mask of what is left: in each column there is something -/
def Lf (P : Pl) (x : Int32) : Prop := ∀ c, c < qC P → ∃ l, l < 4 ∧ bt x (4 * c + l) = true
theorem left_Lf {P : Pl} (h : PW P) {r : Nat → Nat} (hr : ∀ c, r c ≤ qL P c) : Lf P (leftI P (rowI r)) := fun c hc => by
  have hC8 := h.ct.2.2.2
  have h4 := fun c => RwOk.le4 h hr c
  have hl := h.lv hc
  by_cases q : r c = 0
  · refine ⟨0, by omega, ?_⟩
    rw [b_left (by omega) (by omega) (fun c _ => h4 c), if_pos q]
    exact decide_eq_true (by omega)
  · have := hr c
    refine ⟨r c - 1, by omega, ?_⟩
    rw [b_left (by omega) (by omega) (fun c _ => h4 c), if_neg q]
    exact decide_eq_true (by omega)
theorem Lf.ne {P : Pl} (h : PW P) {x : Int32} (hx : Lf P x) : x ≠ 0 := by
  obtain ⟨l, hl, hb⟩ := hx 0 (by have := h.1; omega)
  exact b_nz.mpr ⟨4 * 0 + l, by omega, hb⟩
/-- how many bits -/
def bcn (x : Int32) : Nat := sm 32 (fun i => (bt x i).toNat)
theorem bcn_le32 (x : Int32) : bcn x ≤ 32 := by
  have := sm_le (n := 32) (B := 1) (f := fun i => (bt x i).toNat) (fun i _ => bool_lt _)
  unfold bcn
  omega
theorem sm_lt {n k : Nat} {f g : Nat → Nat} (h : ∀ i, i < n → f i ≤ g i) (hk : k < n) (hlt : f k < g k) : sm n f < sm n g := by
  induction n with
  | zero => omega
  | succ n ih =>
    rw [sm, sm]
    have h1 := h n (by omega)
    by_cases q : k = n
    · subst q
      have := sm_mono (n := k) (f := f) (g := g) (fun i hi => h i (by omega))
      omega
    · have := ih (fun i hi => h i (by omega)) (by omega)
      omega
theorem bcn_lt {x y : Int32} (h : ∀ i, i < 32 → bt y i = true → bt x i = true) {k : Nat} (hk : k < 32) (h1 : bt x k = true) (h2 : bt y k = false) : bcn y < bcn x := by
  refine sm_lt (fun i hi => ?_) hk ?_
  · cases e : bt y i with
    | false => exact Nat.zero_le _
    | true => rw [h i hi e]; exact Nat.le_refl _
  · rw [h1, h2]; decide
theorem bcn_mono {x y : Int32} (h : ∀ i, i < 32 → bt y i = true → bt x i = true) : bcn y ≤ bcn x := sm_mono fun i hi => by
  cases e : bt y i with
  | false => exact Nat.zero_le _
  | true => rw [h i hi e]; exact Nat.le_refl _
/-- the never's cells, and those of them whose column has another level left -/
def loI (P : Pl) (x : Int32) (i : Nat) : Int32 := rowI (qV P i) &&& colI ((x &&& colI (rowI (qV P i))) &&& (rowI (qV P i) ^^^ (-1)))
theorem PW.v4 {P : Pl} (h : PW P) (i c : Nat) : qV P i c ≤ 4 := by
  by_cases q : qV P i c = 0
  · omega
  · obtain ⟨_, a, b⟩ := h.2.2.2.2.2.1 i c q
    have := (h.lv a).2
    omega
theorem b_lo {P : Pl} (h : PW P) {x : Int32} {i c l : Nat} (hc : c < 8) (hl : l < 4) : bt (loI P x i) (4 * c + l) = true ↔ qV P i c = l + 1 ∧ ∃ l', l' < 4 ∧ l' ≠ l ∧ bt x (4 * c + l') = true := by
  have v4 := fun c => h.v4 i c
  unfold loI
  rw [b_and, Bool.and_eq_true, b_rowc _ hc hl, decide_eq_true_iff, b_colc _ hc hl, anyC_iff]
  constructor
  · rintro ⟨e, l', hl', hb⟩
    rw [b_and, b_and, b_colc _ hc hl', any_row hc (v4 c), b_nc _ hc hl', b_rowc _ hc hl', Bool.and_eq_true, Bool.and_eq_true] at hb
    obtain ⟨⟨h1, h2⟩, h3⟩ := hb
    rw [Bool.not_eq_true', decide_eq_false_iff_not] at h3
    exact ⟨e, l', hl', fun z => h3 (by rw [e, z]), h1⟩
  · rintro ⟨e, l', hl', hne, hb⟩
    refine ⟨e, l', hl', ?_⟩
    rw [b_and, b_and, b_colc _ hc hl', any_row hc (v4 c), b_nc _ hc hl', b_rowc _ hc hl', hb, decide_eq_true (show qV P i c ≠ 0 by omega), decide_eq_false (show ¬ qV P i c = l' + 1 by omega)]
    rfl
/-- a never lies in the mask -/
theorem nv_sub {P : Pl} (h : PW P) {x : Int32} {i : Nat} : rowI (qV P i) &&& (x ^^^ (-1)) = 0 ↔ ∀ c, c < qC P → qV P i c ≠ 0 → bt x (4 * c + (qV P i c - 1)) = true := by
  have v4 := fun c => h.v4 i c
  have hC8 := h.ct.2.2.2
  rw [b_sub]
  constructor
  · intro z c hc hn
    refine z _ (by have := v4 c; omega) ?_
    rw [b_rowc _ (by omega) (by have := v4 c; omega)]
    exact decide_eq_true (by omega)
  · intro z i' hi' hb
    rw [b_row _ hi'] at hb
    have e := of_decide_eq_true hb
    have hc := (h.2.2.2.2.2.1 i (i' / 4) (by omega)).2.1
    have := z (i' / 4) hc (by omega)
    rw [e, show 4 * (i' / 4) + (i' % 4 + 1 - 1) = i' by omega] at this
    exact this
/-- no lawful row, if no cell of a never in the mask is loose -/
theorem lo_none {P : Pl} (h : PW P) {x : Int32} {i : Nat} (hi : i < qN P) (h0 : loI P x i = 0) {f : Nat → Nat} (hf : fitX (qC P) x f) (hl : lawX P f) : False := by
  have hC8 := h.ct.2.2.2
  obtain ⟨c, hc, a, b⟩ := hl i hi
  obtain ⟨f4, fb⟩ := hf c hc
  have v4 := h.v4 i c
  have := (b_z.mp h0) (4 * c + (qV P i c - 1)) (by omega)
  rw [← Bool.not_eq_true, b_lo h (by omega) (by omega)] at this
  exact this ⟨by omega, f c, f4, by omega, fb⟩
/-- one loose cell alone is no lawful row's -/
theorem lo_one {P : Pl} (h : PW P) {x : Int32} {i c l : Nat} (hi : i < qN P) (hc : c < qC P) (hl : l < 4) (hb : bt (loI P x i) (4 * c + l) = true) (h1 : loI P x i &&& (loI P x i - 1) = 0) {f : Nat → Nat} (hf : fitX (qC P) x f) (hlw : lawX P f) : f c ≠ l := by
  have hC8 := h.ct.2.2.2
  intro e
  obtain ⟨c', hc', a, b⟩ := hlw i hi
  obtain ⟨f4, fb⟩ := hf c' hc'
  have v4 := h.v4 i c'
  have h2 : bt (loI P x i) (4 * c' + (qV P i c' - 1)) = true := (b_lo h (by omega) (by omega)).mpr ⟨by omega, f c', f4, by omega, fb⟩
  have := b_one.mp h1 _ _ (by omega) (by omega) hb h2
  have hcc : c = c' := by omega
  subst hcc
  omega
/-- masks without one bit, or with that one alone in its column -/
theorem b_wo {x w : Int32} {k : Nat} (hw : ∀ i, i < 32 → bt w i = decide (i = k)) {i : Nat} (hi : i < 32) : bt (x &&& (w ^^^ (-1))) i = (bt x i && !decide (i = k)) := by
  rw [b_and, b_not hi, hw i hi]
theorem any_bit {w : Int32} {c l : Nat} (hl : l < 4) (hc : c < 8) (hw : ∀ i, i < 32 → bt w i = decide (i = 4 * c + l)) {c' : Nat} (hc' : c' < 8) : anyC w c' = decide (c' = c) := by
  have : anyC w c' = true ↔ c' = c := by
    rw [anyC_iff]
    constructor
    · rintro ⟨l', hl', h⟩
      rw [hw _ (by omega)] at h
      have := of_decide_eq_true h
      omega
    · intro h
      exact ⟨l, hl, by rw [hw _ (by omega), h]; exact decide_eq_true rfl⟩
  cases e : anyC w c' with
  | true => exact (decide_eq_true (this.mp e)).symm
  | false => exact (decide_eq_false (fun z => by rw [this.mpr z] at e; cases e)).symm
def onI (x w : Int32) : Int32 := (x &&& (colI w ^^^ (-1))) ||| w
theorem b_on {x w : Int32} {c l : Nat} (hl : l < 4) (hc : c < 8) (hw : ∀ i, i < 32 → bt w i = decide (i = 4 * c + l)) {c' l' : Nat} (hc' : c' < 8) (hl' : l' < 4) : bt (onI x w) (4 * c' + l') = if c' = c then decide (l' = l) else bt x (4 * c' + l') := by
  unfold onI
  rw [b_or, b_and, b_nc _ hc' hl', b_colc _ hc' hl', any_bit hl hc hw hc', hw _ (by omega)]
  by_cases q : c' = c
  · rw [if_pos q, decide_eq_true q, Bool.not_true, Bool.and_false, Bool.false_or]
    subst q
    by_cases z : l' = l
    · rw [decide_eq_true z, decide_eq_true (by omega)]
    · rw [decide_eq_false z, decide_eq_false (by omega)]
  · rw [if_neg q, decide_eq_false q, Bool.not_false, Bool.and_true, decide_eq_false (by omega), Bool.or_false]
/-- a row by its levels -/
def rowF (C : Nat) (f : Nat → Nat) : Nat → Nat := fun c => if c < C then f c + 1 else 0
def LawR (P : Pl) (x w : Int32) : Prop := (w = 0 ∧ ∀ f, fitX (qC P) x f → ¬ lawX P f) ∨ ∃ f, fitX (qC P) x f ∧ lawX P f ∧ w = rowI (rowF (qC P) f)
theorem rowF_ne {P : Pl} (h : PW P) {x : Int32} {f : Nat → Nat} (hf : fitX (qC P) x f) : rowI (rowF (qC P) f) ≠ 0 := by
  have h2 := h.1
  obtain ⟨f4, -⟩ := hf 0 (by omega)
  refine b_nz.mpr ⟨4 * 0 + f 0, by omega, ?_⟩
  rw [b_rowc _ (by omega) f4]
  refine decide_eq_true ?_
  show (if 0 < qC P then f 0 + 1 else 0) = f 0 + 1
  rw [if_pos (by omega)]
theorem LawR.iff {P : Pl} (h : PW P) {x w : Int32} (hw : LawR P x w) : w ≠ 0 ↔ ∃ f, fitX (qC P) x f ∧ lawX P f := by
  rcases hw with ⟨a, b⟩ | ⟨f, a, b, c⟩
  · constructor
    · intro z; exact absurd a z
    · rintro ⟨f, h1, h2⟩; exact absurd h2 (b f h1)
  · constructor
    · intro _; exact ⟨f, a, b⟩
    · intro _; rw [c]; exact rowF_ne h a
theorem left_can {P : Pl} (h : PW P) {r : Nat → Nat} (hr : ∀ c, r c ≤ qL P c) : (∃ f, fitX (qC P) (leftI P (rowI r)) f ∧ lawX P f) ↔ canB P r = true := by
  rw [canB_iff h]
  constructor
  · rintro ⟨f, a, b⟩
    obtain ⟨a1, a2⟩ := (left_fit h hr).mp a
    exact ⟨f, a1, a2, b⟩
  · rintro ⟨f, a1, a2, b⟩
    exact ⟨f, (left_fit h hr).mpr ⟨a1, a2⟩, b⟩

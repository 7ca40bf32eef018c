/-! TEXTS: blanks, digits, letters, words, numbers; plans that they tell -/
def skw (p : Nat → Bool) : Nat → Nat → Nat
  | 0, a => a
  | f + 1, a => if p a = true then skw p f (a + 1) else a
def skx (p : Nat → Bool) (n a : Nat) : Nat := skw p (n - a) a
theorem skx_y {p : Nat → Bool} {n a : Nat} (h : p a = true) (hn : a < n) : skx p n a = skx p n (a + 1) := by
  unfold skx
  rw [show n - a = (n - (a + 1)) + 1 by omega, skw, if_pos h]
theorem skx_n {p : Nat → Bool} {n a : Nat} (h : p a = false) : skx p n a = a := by
  unfold skx
  cases n - a with
  | zero => rfl
  | succ f => rw [skw, if_neg (by rw [h]; decide)]
theorem skx_ge {p : Nat → Bool} {n : Nat} (hp : ∀ k, p k = true → k < n) : ∀ (d a : Nat), n ≤ a + d → a ≤ skx p n a ∧ p (skx p n a) = false ∧ (a ≤ n → skx p n a ≤ n)
  | 0, a, h => by
    have : p a = false := by
      cases e : p a with
      | false => rfl
      | true => have := hp a e; omega
    rw [skx_n this]
    exact ⟨Nat.le_refl a, this, fun z => z⟩
  | d + 1, a, h => by
    cases e : p a with
    | false => rw [skx_n e]; exact ⟨Nat.le_refl a, e, fun z => z⟩
    | true =>
      have hn := hp a e
      rw [skx_y e hn]
      obtain ⟨a1, a2, a3⟩ := skx_ge hp d (a + 1) (by omega)
      exact ⟨by omega, a2, fun _ => a3 (by omega)⟩
/-- a text: bytes and how many -/
abbrev Tx : Type := (Nat → Nat) × Nat
def isB (T : Tx) (k : Nat) : Bool := decide (k < T.2) && decide (T.1 k = 32)
def isD (T : Tx) (k : Nat) : Bool := decide (k < T.2) && (decide (48 ≤ T.1 k) && decide (T.1 k ≤ 57))
def isL (T : Tx) (k : Nat) : Bool := decide (k < T.2) && (decide (97 ≤ T.1 k) && decide (T.1 k ≤ 122))
def isC (T : Tx) (k ch : Nat) : Bool := decide (k < T.2) && decide (T.1 k = ch)
theorem isB_lt {T : Tx} (k : Nat) (h : isB T k = true) : k < T.2 := by
  unfold isB at h
  rw [Bool.and_eq_true, decide_eq_true_iff] at h
  exact h.1
theorem isD_lt {T : Tx} (k : Nat) (h : isD T k = true) : k < T.2 := by
  unfold isD at h
  rw [Bool.and_eq_true, decide_eq_true_iff] at h
  exact h.1
theorem isL_lt {T : Tx} (k : Nat) (h : isL T k = true) : k < T.2 := by
  unfold isL at h
  rw [Bool.and_eq_true, decide_eq_true_iff] at h
  exact h.1
theorem isD_iff {T : Tx} {k : Nat} : isD T k = true ↔ k < T.2 ∧ 48 ≤ T.1 k ∧ T.1 k ≤ 57 := by
  unfold isD
  simp only [Bool.and_eq_true, decide_eq_true_eq]
theorem isL_iff {T : Tx} {k : Nat} : isL T k = true ↔ k < T.2 ∧ 97 ≤ T.1 k ∧ T.1 k ≤ 122 := by
  unfold isL
  simp only [Bool.and_eq_true, decide_eq_true_eq]
theorem isB_iff {T : Tx} {k : Nat} : isB T k = true ↔ k < T.2 ∧ T.1 k = 32 := by
  unfold isB
  simp only [Bool.and_eq_true, decide_eq_true_eq]
theorem isC_iff {T : Tx} {k ch : Nat} : isC T k ch = true ↔ k < T.2 ∧ T.1 k = ch := by
  unfold isC
  simp only [Bool.and_eq_true, decide_eq_true_eq]
theorem bnot {b : Bool} (h : ¬ b = true) : b = false := by cases b with | false => rfl | true => exact absurd rfl h
def sb (T : Tx) (a : Nat) : Nat := skx (isB T) T.2 a
def sd (T : Tx) (a : Nat) : Nat := skx (isD T) T.2 a
def sl (T : Tx) (a : Nat) : Nat := skx (isL T) T.2 a
theorem sb_ge (T : Tx) (a : Nat) : a ≤ sb T a ∧ isB T (sb T a) = false ∧ (a ≤ T.2 → sb T a ≤ T.2) := skx_ge isB_lt T.2 a (by omega)
theorem sd_ge (T : Tx) (a : Nat) : a ≤ sd T a ∧ isD T (sd T a) = false ∧ (a ≤ T.2 → sd T a ≤ T.2) := skx_ge isD_lt T.2 a (by omega)
theorem sl_ge (T : Tx) (a : Nat) : a ≤ sl T a ∧ isL T (sl T a) = false ∧ (a ≤ T.2 → sl T a ≤ T.2) := skx_ge isL_lt T.2 a (by omega)
theorem sb_sb (T : Tx) (a : Nat) : sb T (sb T a) = sb T a := skx_n (sb_ge T a).2.1
/-- how great a number is, at most 1000 -/
def nmv (T : Tx) : Nat → Nat → Nat → Nat
  | 0, _, v => v
  | f + 1, a, v => if isD T a = true then nmv T f (a + 1) (min 1000 (v * 10 + (T.1 a - 48))) else v
def nm (T : Tx) (a : Nat) : Nat := nmv T (T.2 - a) a 0
theorem nmv_le (T : Tx) : ∀ (f a v : Nat), v ≤ 1000 → nmv T f a v ≤ 1000
  | 0, _, _, h => h
  | f + 1, a, v, h => by
    rw [nmv]
    split
    · exact nmv_le T f (a + 1) _ (Nat.min_le_left _ _)
    · exact h
theorem nm_le (T : Tx) (a : Nat) : nm T a ≤ 1000 := nmv_le T _ _ _ (by omega)
/-- words: levels, strength, never -/
def wln (w : Nat) : Nat := [6, 8, 5].getD w 0
def wdB (T : Tx) (w a : Nat) : Bool := decide (∀ i, i < wln w → a + i < T.2 ∧ T.1 (a + i) = wrB (8 * w + i)) && !isL T (a + wln w)
theorem wdB_iff {T : Tx} {w a : Nat} : wdB T w a = true ↔ (∀ i, i < wln w → a + i < T.2 ∧ T.1 (a + i) = wrB (8 * w + i)) ∧ isL T (a + wln w) = false := by
  unfold wdB
  rw [Bool.and_eq_true, decide_eq_true_eq, Bool.not_eq_true']
def wq (T : Tx) (a : Nat) : Nat := if wdB T 0 a = true then 0 else if wdB T 1 a = true then 1 else if wdB T 2 a = true then 2 else 3
theorem wr_let : ∀ w, w < 3 → ∀ i, i < wln w → 97 ≤ wrB (8 * w + i) ∧ wrB (8 * w + i) ≤ 122 := by decide
theorem wr_end : ∀ w, w < 3 → wln w ≤ 8 ∧ (wln w = 8 ∨ wrB (8 * w + wln w) = 0) := by decide
theorem wdB_let {T : Tx} {w a : Nat} (hw : w < 3) (h : wdB T w a = true) : ∀ i, i < wln w → isL T (a + i) = true := fun i hi => by
  obtain ⟨h1, h2⟩ := (wdB_iff.mp h).1 i hi
  have := wr_let w hw i hi
  exact isL_iff.mpr ⟨h1, by rw [h2]; exact this.1, by rw [h2]; exact this.2⟩
theorem wdB_sl {T : Tx} {w a : Nat} (hw : w < 3) (h : wdB T w a = true) : sl T a = a + wln w := by
  have h1 := wdB_let hw h
  have h2 := (wdB_iff.mp h).2
  have : ∀ d i, i + d = wln w → skx (isL T) T.2 (a + i) = a + wln w := by
    intro d
    induction d with
    | zero =>
      intro i hi
      rw [show i = wln w by omega]
      exact skx_n h2
    | succ d ih =>
      intro i hi
      have := h1 i (by omega)
      rw [skx_y this (isL_lt _ this)]
      exact ih (i + 1) (by omega)
  exact this (wln w) 0 (by omega)
theorem wdB_le {T : Tx} {w a : Nat} (hw : w < 3) (h : wdB T w a = true) : a + wln w ≤ T.2 := by
  have h0 : ∀ w, w < 3 → 0 < wln w := by decide
  have := ((wdB_iff.mp h).1 (wln w - 1) (by have := h0 w hw; omega)).1
  have := h0 w hw
  omega
theorem wdB_ne {T : Tx} {a : Nat} : (wdB T 0 a = true → wdB T 1 a = false ∧ wdB T 2 a = false) ∧ (wdB T 1 a = true → wdB T 0 a = false ∧ wdB T 2 a = false) ∧ (wdB T 2 a = true → wdB T 0 a = false ∧ wdB T 1 a = false) := by
  have f : ∀ w w', w < 3 → w' < 3 → w ≠ w' → wdB T w a = true → wdB T w' a = false := fun w w' hw hw' hne h => by
    refine bnot fun h' => ?_
    have h0 : ∀ w, w < 3 → 0 < wln w := by decide
    have e1 := ((wdB_iff.mp h).1 0 (h0 w hw)).2
    have e2 := ((wdB_iff.mp h').1 0 (h0 w' hw')).2
    have e3 : ∀ w, w < 3 → ∀ w', w' < 3 → w ≠ w' → wrB (8 * w + 0) ≠ wrB (8 * w' + 0) := by decide
    exact e3 w hw w' hw' hne (e1.symm.trans e2)
  exact ⟨fun h => ⟨f 0 1 (by omega) (by omega) (by omega) h, f 0 2 (by omega) (by omega) (by omega) h⟩, fun h => ⟨f 1 0 (by omega) (by omega) (by omega) h, f 1 2 (by omega) (by omega) (by omega) h⟩, fun h => ⟨f 2 0 (by omega) (by omega) (by omega) h, f 2 1 (by omega) (by omega) (by omega) h⟩⟩
/-- the levels, from a place on; a fault, or the place behind them, how many, and which -/
def lvP (T : Tx) : Nat → Nat → Nat → (Nat → Nat) → Nat ⊕ (Nat × Nat × (Nat → Nat))
  | 0, _, _, _ => .inl 0
  | f + 1, a, C, L => if isD T a = true then
      (if nm T a < 2 ∨ 4 < nm T a then .inl (8 * a + 2) else if C = 8 then .inl (8 * a + 3) else lvP T f (sb T (sd T a)) (C + 1) (up L C (nm T a)))
    else if C ≤ 1 then .inl (8 * a + 1) else .inr (a, C, L)
/-- the cells of a never -/
def clP (T : Tx) (C : Nat) (L : Nat → Nat) : Nat → Nat → Nat → (Nat → Nat) → Nat ⊕ (Nat × (Nat → Nat))
  | 0, _, _, _ => .inl 0
  | f + 1, a, k, V => if isD T a = true then
      (if C ≤ nm T a ∨ V (nm T a) ≠ 0 then .inl (8 * a + 2) else if k = 3 then .inl (8 * a + 3) else
      if isC T (sb T (sd T a)) 46 = true then
        (if isD T (sb T (sb T (sd T a) + 1)) = true then
          (if L (nm T a) ≤ nm T (sb T (sb T (sd T a) + 1)) then .inl (8 * sb T (sb T (sd T a) + 1) + 2) else
           if isC T (sb T (sd T (sb T (sb T (sd T a) + 1)))) 38 = true then clP T C L f (sb T (sb T (sd T (sb T (sb T (sd T a) + 1))) + 1)) (k + 1) (up V (nm T a) (nm T (sb T (sb T (sd T a) + 1)) + 1))
           else .inr (sb T (sd T (sb T (sb T (sd T a) + 1))), up V (nm T a) (nm T (sb T (sb T (sd T a) + 1)) + 1)))
        else .inl (8 * sb T (sb T (sd T a) + 1) + 1))
      else .inl (8 * sb T (sd T a) + 1))
    else .inl (8 * a + 1)
/-- the lines behind the levels -/
def lnP (T : Tx) : Nat → Nat → Bool → Pl → Nat ⊕ Pl
  | 0, _, _, _ => .inl 0
  | f + 1, a, h, P => if T.2 ≤ a then .inr P else if isC T a 59 = true then
      (if wdB T 1 (sb T (a + 1)) = true then
        (if h = true then .inl (8 * sb T (a + 1) + 3) else
         if isD T (sb T (sb T (a + 1) + 8)) = true then
           (if nm T (sb T (sb T (a + 1) + 8)) < 1 ∨ min 3 (qC P) < nm T (sb T (sb T (a + 1) + 8)) then .inl (8 * sb T (sb T (a + 1) + 8) + 2)
            else lnP T f (sb T (sd T (sb T (sb T (a + 1) + 8)))) true (qC P, nm T (sb T (sb T (a + 1) + 8)), qL P, qN P, qV P))
         else .inl (8 * sb T (sb T (a + 1) + 8) + 1))
       else if wdB T 2 (sb T (a + 1)) = true then
        (if qN P = 12 then .inl (8 * sb T (a + 1) + 3) else
         match clP T (qC P) (qL P) 4 (sb T (sb T (a + 1) + 5)) 0 (fun _ => 0) with
         | .inl x => .inl x
         | .inr q => lnP T f q.1 h (qC P, qT P, qL P, qN P + 1, fun i => if i = qN P then q.2 else qV P i))
       else .inl (8 * sb T (a + 1) + 1))
    else .inl (8 * a + 1)
def prP (T : Tx) : Nat ⊕ Pl := if wdB T 0 (sb T 0) = true then
    (match lvP T 10 (sb T (sb T 0 + 6)) 0 (fun _ => 0) with
     | .inl x => .inl x
     | .inr q => lnP T (T.2 + 1) q.1 false (q.2.1, 2, q.2.2, 0, fun _ _ => 0))
  else .inl (8 * sb T 0 + 1)
/-- what is told so far is a plan -/
theorem PW.str {P : Pl} (h : PW P) {t : Nat} (h1 : 1 ≤ t) (h2 : t ≤ min 3 (qC P)) : PW (qC P, t, qL P, qN P, qV P) := by
  obtain ⟨a, ⟨b1, b2, b3, b4⟩, c⟩ := h
  exact ⟨a, ⟨h1, by show t ≤ 3; omega, by show t ≤ qC P; omega, b4⟩, c⟩
theorem PW.nev {P : Pl} (h : PW P) (hN : qN P < 12) {V : Nat → Nat} (h1 : ∀ c, V c ≠ 0 → c < qC P ∧ V c ≤ qL P c) (h2 : ∃ c, V c ≠ 0) : PW (qC P, qT P, qL P, qN P + 1, fun i => if i = qN P then V else qV P i) := by
  obtain ⟨a, b, c, d, e, f, g⟩ := h
  refine ⟨a, b, c, d, by show qN P + 1 ≤ 12; omega, fun i j hij => ?_, fun i hi => ?_⟩
  · replace hij : (if i = qN P then V else qV P i) j ≠ 0 := hij
    show i < qN P + 1 ∧ j < qC P ∧ (if i = qN P then V else qV P i) j ≤ qL P j
    by_cases q : i = qN P
    · rw [if_pos q] at hij ⊢
      exact ⟨by omega, h1 j hij⟩
    · rw [if_neg q] at hij ⊢
      obtain ⟨f1, f2⟩ := f i j hij
      exact ⟨by omega, f2⟩
  · replace hi : i < qN P + 1 := hi
    show ∃ c, (if i = qN P then V else qV P i) c ≠ 0
    by_cases q : i = qN P
    · rw [if_pos q]; exact h2
    · rw [if_neg q]; exact g i (by omega)
theorem lvP_ok (T : Tx) : ∀ (f a C : Nat) (L : Nat → Nat) (q : Nat × Nat × (Nat → Nat)), C ≤ 8 → (∀ c, c < C → 2 ≤ L c ∧ L c ≤ 4) → (∀ c, C ≤ c → L c = 0) → lvP T f a C L = .inr q → PW (q.2.1, 2, q.2.2, 0, fun _ _ => 0)
  | 0, a, C, L, q, _, _, _, h => by cases h
  | f + 1, a, C, L, q, h8, h1, h2, h => by
    rw [lvP] at h
    split at h
    · split at h
      · cases h
      · split at h
        · cases h
        · rename_i x1 x2 x3
          refine lvP_ok T f _ (C + 1) _ q (by omega) (fun c hc => ?_) (fun c hc => ?_) h
          · rw [up_at]
            by_cases z : c = C
            · rw [if_pos z]; omega
            · rw [if_neg z]; exact h1 c (by omega)
          · rw [up_at, if_neg (by omega)]
            exact h2 c (by omega)
    · split at h
      · cases h
      · cases h
        refine ⟨by show 2 ≤ C; omega, ⟨by show 1 ≤ 2; omega, by show 2 ≤ 3; omega, by show 2 ≤ C; omega, h8⟩, h1, h2, by show 0 ≤ 12; omega, fun i j hij => absurd rfl hij, fun i hi => absurd hi (Nat.not_lt_zero i)⟩
theorem clP_ok (T : Tx) (C : Nat) (L : Nat → Nat) : ∀ (f a k : Nat) (V : Nat → Nat) (q : Nat × (Nat → Nat)), (∀ c, V c ≠ 0 → c < C ∧ V c ≤ L c) → clP T C L f a k V = .inr q → (∀ c, q.2 c ≠ 0 → c < C ∧ q.2 c ≤ L c) ∧ ∃ c, q.2 c ≠ 0
  | 0, _, _, _, _, _, h => by cases h
  | f + 1, a, k, V, q, h1, h => by
    rw [clP] at h
    split at h
    · split at h
      · cases h
      · rename_i x2
        have hV : ∀ v, ¬ L (nm T a) ≤ v → ∀ c, up V (nm T a) (v + 1) c ≠ 0 → c < C ∧ up V (nm T a) (v + 1) c ≤ L c := fun v hv c hc => by
          rw [up_at] at hc ⊢
          by_cases z : c = nm T a
          · rw [if_pos z, z]
            exact ⟨by omega, by omega⟩
          · rw [if_neg z] at hc ⊢
            exact h1 c hc
        split at h
        · cases h
        · split at h
          · split at h
            · split at h
              · cases h
              · rename_i x5
                split at h
                · exact clP_ok T C L f _ _ _ q (hV _ x5) h
                · cases h
                  exact ⟨hV _ x5, nm T a, by
                    show up V (nm T a) _ (nm T a) ≠ 0
                    rw [up_at, if_pos rfl]; omega⟩
            · cases h
          · cases h
    · cases h
theorem lnP_ok (T : Tx) : ∀ (f a : Nat) (h : Bool) (P P' : Pl), PW P → lnP T f a h P = .inr P' → PW P'
  | 0, _, _, _, _, _, e => by cases e
  | f + 1, a, h, P, P', hP, e => by
    rw [lnP] at e
    split at e
    · cases e; exact hP
    · split at e
      · split at e
        · split at e
          · cases e
          · split at e
            · split at e
              · cases e
              · rename_i x
                exact lnP_ok T f _ _ _ P' (hP.str (by omega) (by omega)) e
            · cases e
        · split at e
          · split at e
            · cases e
            · rename_i x
              split at e
              · cases e
              · rename_i q hq
                obtain ⟨a1, a2⟩ := clP_ok T (qC P) (qL P) 4 _ 0 (fun _ => 0) q (fun c hc => absurd rfl hc) hq
                exact lnP_ok T f _ _ _ P' (hP.nev (by have := hP.2.2.2.2.1; omega) a1 a2) e
          · cases e
      · cases e
theorem prP_ok {T : Tx} {P : Pl} (h : prP T = .inr P) : PW P := by
  unfold prP at h
  split at h
  · split at h
    · cases h
    · rename_i q hq
      exact lnP_ok T _ _ _ _ P (lvP_ok T 10 _ 0 _ q (by omega) (fun c hc => absurd hc (Nat.not_lt_zero c)) (fun _ _ => rfl) hq) h
  · cases h
/-- a new plan -/
def sPl (s : Ps) (P : Pl) : Ps := (P, 0, fun _ _ => 0, fun _ => 0, zx s)
def o_plan (σ : Sg) : Int32 × Sg := match prP (yT σ, yz σ) with
  | .inl f => (-2 - nI f, sT σ (yT σ) 0)
  | .inr P => if 1200 < MM P ∨ canB P (fun _ => 0) = false then (-2 - nI (8 * yz σ + 4), sT σ (yT σ) 0) else (nI (MM P), sS (sU (sT σ (yT σ) 0) 0 (yA σ)) (sPl (ys σ) P))
theorem ok_plan {σ : Sg} (ok : SgOk σ) : SgOk (o_plan σ).2 := by
  obtain ⟨a, b, c, d, e, f⟩ := ok
  unfold o_plan
  split
  · exact ⟨a, Nat.zero_le _, c, d, e, f⟩
  · rename_i P hP
    have hW := prP_ok hP
    split
    · exact ⟨a, Nat.zero_le _, c, d, e, f⟩
    · rename_i h
      have hM : MM P ≤ 1200 := by omega
      have hc : canB P (fun _ => 0) = true := by
        cases z : canB P (fun _ => 0) with
        | true => rfl
        | false => exact absurd (Or.inr z) h
      refine ⟨a, Nat.zero_le _, ⟨c.1, Nat.zero_le _, fun z => ?_, fun _ => ⟨⟨hW, hM, hc⟩, fun j hj => absurd hj (Nat.not_lt_zero j)⟩⟩, Nat.zero_le _, fun i hi => absurd hi (Nat.not_lt_zero i), f⟩
      · exfalso
        have h2 : 2 ≤ qC P := hW.1
        have z' : qC P = 0 := z
        omega

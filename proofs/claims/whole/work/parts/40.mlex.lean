/-! THE MODEL: blanks, digits, words, numbers -/
def btI (T : Tx) (k : Nat) : Int32 := if T.2 ≤ k then -1 else nI (T.1 k)
/-- the model's text -/
def Tm (T : Tx) (μ : mM) : Prop := T.2 ≤ 200 ∧ (∀ k, T.1 k < 256) ∧ MrT T.1 T.2 μ
/-- some numbers of the model's object change alone -/
def Ch (K : List Nat) (μ μ' : mM) : Prop := Fr [132] μ μ' ∧ ∀ j, j ∉ K → μ' 132 j = μ 132 j
theorem Ch.rf (K : List Nat) (μ : mM) : Ch K μ μ := ⟨Fr.rf _ _, fun _ _ => rfl⟩
theorem Ch.tr {K : List Nat} {μ μ' μ'' : mM} (h : Ch K μ μ') (h' : Ch K μ' μ'') : Ch K μ μ'' := ⟨h.1.tr h'.1, fun j hj => (h'.2 j hj).trans (h.2 j hj)⟩
theorem Ch.mono {K K' : List Nat} {μ μ' : mM} (h : Ch K μ μ') (hK : ∀ j, j ∈ K → j ∈ K') : Ch K' μ μ' := ⟨h.1, fun j hj => h.2 j (fun z => hj (hK j z))⟩
theorem Ch.ms {K : List Nat} {μ μ' : mM} {j : Nat} {v : Int32} (h : Ch K μ μ') (hj : j ∈ K) : Ch K μ (ms μ' 132 j v) := ⟨h.1.ms (by decide), fun i hi => by rw [ms_row, upd_at, if_neg (fun e => hi (by rw [e]; exact hj))]; exact h.2 i hi⟩
theorem Tm.of {T : Tx} {μ μ' : mM} (h : Tm T μ) (h1 : μ' 132 1 = μ 132 1) (F : Fr [132, 136] μ μ') : Tm T μ' := ⟨h.1, h.2.1, h.2.2.of h1 (F 133 (by decide)) (F 134 (by decide))⟩
theorem Tm.ch {T : Tx} {K : List Nat} {μ μ' : mM} (h : Tm T μ) (C : Ch K μ μ') (hK : 1 ∉ K) : Tm T μ' := h.of (C.2 1 hK) (C.1.mono (by decide))
theorem lg48 (x : Int32) : (lg_cmp x.toInt64 48 < 0) ↔ x < 48 := lgi_lt x 48
theorem lg57 (x : Int32) : (0 < lg_cmp x.toInt64 57) ↔ 57 < x := lgi_gt x 57
theorem lg3_gt (x : Int32) : (0 < lg_cmp x.toInt64 3) ↔ 3 < x := lgi_gt x 3
theorem lg97 (x : Int32) : (lg_cmp x.toInt64 97 < 0) ↔ x < 97 := lgi_lt x 97
theorem lg122 (x : Int32) : (0 < lg_cmp x.toInt64 122) ↔ 122 < x := lgi_gt x 122
theorem btD {T : Tx} {k : Nat} (h : T.1 k < 256) : (btI T k < 48 ∨ (¬ btI T k < 48 ∧ 57 < btI T k)) ↔ isD T k = false := by
  rw [← Bool.not_eq_true, isD_iff]
  unfold btI
  by_cases q : T.2 ≤ k
  · rw [if_pos q]
    exact ⟨fun _ z => by omega, fun _ => Or.inl (by decide)⟩
  · rw [if_neg q, show (48 : Int32) = nI 48 from rfl, show (57 : Int32) = nI 57 from rfl, nI_ltI (by omega) (by omega), nI_ltI (by omega) (by omega)]
    omega
theorem btL {T : Tx} {k : Nat} (h : T.1 k < 256) : (btI T k < 97 ∨ (¬ btI T k < 97 ∧ 122 < btI T k)) ↔ isL T k = false := by
  rw [← Bool.not_eq_true, isL_iff]
  unfold btI
  by_cases q : T.2 ≤ k
  · rw [if_pos q]
    exact ⟨fun _ z => by omega, fun _ => Or.inl (by decide)⟩
  · rw [if_neg q, show (97 : Int32) = nI 97 from rfl, show (122 : Int32) = nI 122 from rfl, nI_ltI (by omega) (by omega), nI_ltI (by omega) (by omega)]
    omega
theorem btC {T : Tx} {k ch : Nat} (h : T.1 k < 256) (hc : ch < 256) : btI T k = nI ch ↔ isC T k ch = true := by
  rw [isC_iff]
  unfold btI
  by_cases q : T.2 ≤ k
  · rw [if_pos q]
    constructor
    · intro z
      have := congrArg Int32.toInt z
      rw [nI_toInt (by omega)] at this
      have e : ((-1 : Int32)).toInt = -1 := by decide
      omega
    · intro z; omega
  · rw [if_neg q, nI_eq (by omega) (by omega)]
    omega
theorem Tm.b {T : Tx} {μ : mM} (h : Tm T μ) {k : Nat} : (T.2 ≤ k → btI T k = -1) ∧ (k < T.2 → μ 133 k &&& 255 = btI T k) := by
  unfold btI
  refine ⟨fun q => if_pos q, fun q => ?_⟩
  rw [if_neg (by omega)]
  exact h.2.2.2.1 k q
theorem s_next {G : mG} {Q : Int32 → mM → Prop} {μ : mM} {T : Tx} (ht : Tm T μ) {a : Nat} (ha : a ≤ T.2) (h2 : μ 132 2 = nI a)
    (k : ∀ μ', Ch [2] μ μ' → μ' 132 2 = nI (sb T a) → Q (btI T (sb T a)) μ') : CtI G mX12_next [.ref (gb G + 132)] μ Q := by
  have hn := ht.1
  refine e_X12_next fun E C => ?_
  have loop : ∀ (d a : Nat) (μ' : mM), a + d = T.2 → Ch [2] μ μ' → μ' 132 2 = nI a → (∀ μ', Ch [2] μ μ' → μ' 132 2 = nI (sb T a) → Q (btI T (sb T a)) μ') → Wm G mX12_next E (bm G mX12_next E (pI Q)) μ' 0 [(0, .ref (gb G + 132))] [] := by
    intro d
    induction d with
    | zero =>
      intro a μ' had hC h2 k
      have e1 : μ' 132 1 = nI T.2 := (hC.2 1 (by decide)).trans ht.2.2.1
      have hle : (nI T.2 ≤ nI a) = True := eq_true (nI_le (by omega) (by omega))
      have es : sb T a = a := skx_n (bnot fun z => by have := isB_lt a z; omega)
      have kk := k μ' hC (by rw [es]; exact h2)
      rw [es, ht.b.1 (by omega)] at kk
      refine k_X12_next_0 C ?_ ?_ ?_ ?_
      all_goals rw [e1, h2, hle]
      · rintro (z | ⟨-, z⟩ | ⟨z, -⟩)
        all_goals exact absurd trivial z
      · exact fun _ => kk
      · rintro (⟨-, z⟩ | ⟨z, -⟩)
        all_goals exact absurd trivial z
      · exact fun z => absurd trivial z
    | succ d ih =>
      intro a μ' had hC h2 k
      have e1 : μ' 132 1 = nI T.2 := (hC.2 1 (by decide)).trans ht.2.2.1
      have hle : (nI T.2 ≤ nI a) = False := eq_false (nI_ge (by omega) (by omega))
      have eb : μ' 133 (nI a).toNatClampNeg &&& 255 = btI T a := by
        rw [nI_clamp (by omega), hC.1 133 (by decide)]
        exact ht.b.2 (by omega)
      have h32 : btI T a = 32 ↔ isB T a = true := by
        rw [show (32 : Int32) = nI 32 from rfl, btC (ht.2.1 a) (by omega), isC_iff, isB_iff]
      refine k_X12_next_0 C ?_ ?_ ?_ ?_
      all_goals rw [e1, h2, hle]
      · intro _
        simp (disch := omega) only [ofNat_nI, nI_add, pk_mul, nI_clamp, nI_leI, nI_ltI, nI_eq, vp_in_nI_iff, nI_subr, nI_m1r, m1_eq, m1_eq2, m1_le, m1_le2, m1_lt, m1_lt2, m1_self, cv_sub, cv_add1, cv_eq, cv_eqI, cv_eqI2, cv_m1, cv_lt0, cv_leI, cv_Ile, cv_le, cv_lt, cv_Ilt, cv_ltI, not_true, not_false_iff, true_implies, false_implies, false_or, or_false, true_and, and_true, false_and, and_false, true_or, or_true]
        omega
      · rintro (⟨z, -⟩ | ⟨-, -, z⟩)
        all_goals exact absurd z id
      · rw [eb, h32]
        intro z
        have hb : isB T a = false := bnot (by
          rcases z with ⟨z, -⟩ | ⟨-, z, -⟩
          · exact absurd z id
          · exact z)
        have es : sb T a = a := skx_n hb
        have kk := k μ' hC (by rw [es]; exact h2)
        rw [es] at kk
        exact kk
      · rw [eb, h32]
        intro _ z
        have es : sb T a = sb T (a + 1) := skx_y z (isB_lt a z)
        rw [es] at k
        refine ih (a + 1) _ (by omega) (hC.ms (by decide)) ?_ k
        rw [ms_row, upd_at, if_pos rfl]
        exact nI_1 a
  exact loop (T.2 - a) a μ (by omega) (Ch.rf _ _) h2 k
theorem s_isNumber {G : mG} {Q : Int32 → mM → Prop} {μ : mM} {T : Tx} (ht : Tm T μ) {a : Nat} (ha : a ≤ T.2) (h2 : μ 132 2 = nI a)
    (k : ∀ μ', Ch [2] μ μ' → μ' 132 2 = nI (sb T a) → Q (nI (isD T (sb T a)).toNat) μ') : CtI G mX12_isNumber [.ref (gb G + 132)] μ Q := by
  refine e_X12_isNumber fun E C => k_X12_isNumber_0 C (s_next ht ha h2 fun μ' hC h' => ?_)
  have kk := k μ' hC h'
  have hd := btD (T := T) (k := sb T a) (ht.2.1 _)
  refine k_X12_isNumber_4 C (fun z => ?_) (fun z1 z2 => ?_)
  · rw [lg48, lg57] at z
    rw [hd.mp z] at kk
    exact kk
  · rw [lg48] at z1
    rw [lg57] at z2
    have : isD T (sb T a) = true := by
      cases e : isD T (sb T a) with
      | true => rfl
      | false =>
        exfalso
        rcases hd.mpr e with z | z
        · exact z1 z
        · exact z2 z.2
    rw [this] at kk
    exact kk
theorem s_wordHere {G : mG} {Q : Int32 → mM → Prop} {μ : mM} {T : Tx} (ht : Tm T μ) {a : Nat} (ha : a ≤ T.2) (h2 : μ 132 2 = nI a)
    (k : ∀ μ', Ch [2] μ μ' → μ' 132 2 = nI (sb T a) → (∀ w, w < 3 → wdB T w (sb T a) = true → (∀ w', w' < w → wdB T w' (sb T a) = false) → Q (nI w) μ') ∧ ((∀ w, w < 3 → wdB T w (sb T a) = false) → Q (-1) μ')) : CtI G mX12_wordHere [.ref (gb G + 132)] μ Q := by
  have hn := ht.1
  refine e_X12_wordHere fun E C => k_X12_wordHere_0 C (s_next ht ha h2 fun μ' hC h' => k_X12_wordHere_4 C ?_)
  obtain ⟨k1, k0⟩ := k μ' hC h'
  have hb := (sb_ge T a).2.2 ha
  have e1 : μ' 132 1 = nI T.2 := (hC.2 1 (by decide)).trans ht.2.2.1
  generalize sb T a = b at *
  have ewr : ∀ j, j < 24 → μ' 134 j = nI (wrB j) := fun j hj => by rw [hC.1 134 (by decide)]; exact ht.2.2.2.2 j hj
  have ele : ∀ i, i ≤ 8 → ((nI T.2 ≤ nI b + nI i) ↔ T.2 ≤ b + i) := fun i hi => by rw [nI_add, nI_leI (by omega) (by omega)]
  have eby : ∀ i, i ≤ 8 → b + i < T.2 → μ' 133 (nI b + nI i).toNatClampNeg &&& 255 = btI T (b + i) := fun i hi hh => by
    rw [nI_add, nI_clamp (by omega), hC.1 133 (by decide)]
    exact ht.b.2 hh
  have wr256 : ∀ j, j < 24 → wrB j < 256 := by decide
  have m1w : ∀ j, j < 24 → ¬ (-1 : Int32) = nI (wrB j) := by decide
  have words : ∀ (d w : Nat), w + d = 3 → (∀ w', w' < w → wdB T w' b = false) → Wm G mX12_wordHere E (bm G mX12_wordHere E (pI Q)) μ' 7 [(0, .ref (gb G + 132)), (1, .int (nI w))] [] := by
    intro d
    induction d with
    | zero =>
      intro w hw hall
      refine k_X12_wordHere_7 C (fun _ => k0 (fun w' hw' => hall w' (by omega))) (fun z => ?_)
      exfalso
      revert z
      simp (disch := omega) only [ofNat_nI, nI_add, pk_mul, nI_clamp, nI_leI, nI_ltI, nI_eq, vp_in_nI_iff, nI_subr, nI_m1r, m1_eq, m1_eq2, m1_le, m1_le2, m1_lt, m1_lt2, m1_self, cv_sub, cv_add1, cv_eq, cv_eqI, cv_eqI2, cv_m1, cv_lt0, cv_leI, cv_Ile, cv_le, cv_lt, cv_Ilt, cv_ltI, not_true, not_false_iff, true_implies, false_implies, false_or, or_false, true_and, and_true, false_and, and_false, true_or, or_true]
      omega
    | succ d ih =>
      intro w hw hall
      have hw3 : w < 3 := by omega
      obtain ⟨l8, lend⟩ := wr_end w hw3
      have nxt : wdB T w b = false → Wm G mX12_wordHere E (bm G mX12_wordHere E (pI Q)) μ' 7 [(0, .ref (gb G + 132)), (1, .int (nI w + 1))] [] := fun hf => by
        rw [show nI w + 1 = nI (w + 1) from nI_1 w]
        refine ih (w + 1) (by omega) (fun w' hw' => ?_)
        by_cases q : w' = w
        · rw [q]; exact hf
        · exact hall w' (by omega)
      have letters : ∀ (e i : Nat), i + e = wln w → (∀ i', i' < i → b + i' < T.2 ∧ T.1 (b + i') = wrB (8 * w + i')) → Wm G mX12_wordHere E (bm G mX12_wordHere E (pI Q)) μ' 14 [(0, .ref (gb G + 132)), (1, .int (nI w)), (2, .int (nI i))] [] := by
        intro e
        have ecl : ∀ i, i ≤ 8 → (8 * nI w + nI i : Int32).toNatClampNeg = 8 * w + i := fun i hi => by
          simp (disch := omega) only [ofNat_nI, nI_add, pk_mul, nI_clamp, nI_leI, nI_ltI, nI_eq, vp_in_nI_iff, nI_subr, nI_m1r, m1_eq, m1_eq2, m1_le, m1_le2, m1_lt, m1_lt2, m1_self, cv_sub, cv_add1, cv_eq, cv_eqI, cv_eqI2, cv_m1, cv_lt0, cv_leI, cv_Ile, cv_le, cv_lt, cv_Ilt, cv_ltI, not_true, not_false_iff, true_implies, false_implies, false_or, or_false, true_and, and_true, false_and, and_false, true_or, or_true]
        have c8 : ∀ i, i ≤ 8 → ((8 ≤ nI i) ↔ 8 ≤ i) := fun i hi => nI_leI (a := 8) (by omega) (by omega)
        have e8 : ∀ i, i ≤ 8 → ((nI i = 8) ↔ i = 8) := fun i hi => nI_eq (b := 8) (by omega) (by omega)
        induction e with
        | zero =>
          intro i hi hm
          have hi8 : i = wln w := by omega
          have fin : Wm G mX12_wordHere E (bm G mX12_wordHere E (pI Q)) μ' 64 [(0, .ref (gb G + 132)), (1, .int (nI w)), (2, .int (nI i))] [] := by
            have endw : ¬ i = 8 → μ' 134 (8 * w + i) = 0 := fun q => by
              rw [ewr _ (by omega), hi8]
              rcases lend with z | z
              · omega
              · rw [z]; rfl
            refine k_X12_wordHere_64 C (fun _ => ?_) (fun q => ?_) (fun q z => ?_)
            · have hl := btL (T := T) (k := b + i) (ht.2.1 _)
              rw [hi8] at hl
              have hwd : isL T (b + wln w) = false → wdB T w b = true := fun z => wdB_iff.mpr ⟨fun i' hi' => hm i' (by omega), z⟩
              have hwd2 : isL T (b + wln w) = true → wdB T w b = false := fun z => bnot fun y => by
                rw [(wdB_iff.mp y).2] at z
                cases z
              refine k_X12_wordHere_84 C (fun _ => ?_) (fun z => ?_) (fun z => ?_)
              · rename_i z
                rw [e1, h', ele i (by omega)] at z
                rw [h']
                simp (disch := omega) only [ofNat_nI, nI_add, pk_mul, nI_clamp, nI_leI, nI_ltI, nI_eq, vp_in_nI_iff, nI_subr, nI_m1r, m1_eq, m1_eq2, m1_le, m1_le2, m1_lt, m1_lt2, m1_self, cv_sub, cv_add1, cv_eq, cv_eqI, cv_eqI2, cv_m1, cv_lt0, cv_leI, cv_Ile, cv_le, cv_lt, cv_Ilt, cv_ltI, not_true, not_false_iff, true_implies, false_implies, false_or, or_false, true_and, and_true, false_and, and_false, true_or, or_true]
                omega
              · refine k1 w hw3 (hwd ?_) hall
                rw [e1, h', ele i (by omega)] at z
                rcases z with ⟨z1, z2⟩ | ⟨z1, z2⟩
                · exact bnot fun y => by have := isL_lt _ y; omega
                · rw [eby i (by omega) (by omega), lg97, lg122, hi8] at z2
                  exact hl.mp z2
              · refine nxt (hwd2 ?_)
                rw [e1, h', ele i (by omega)] at z
                rcases z with ⟨z1, z2, z3⟩ | ⟨z1, z2, z3⟩
                · exact absurd (by decide) z2
                · rw [eby i (by omega) (by omega), hi8] at z2 z3
                  rw [lg97] at z2
                  rw [lg122] at z3
                  cases e : isL T (b + wln w) with
                  | true => rfl
                  | false =>
                    exfalso
                    rcases hl.mpr e with y | y
                    · exact z2 y
                    · exact z3 y.2
            · rw [e8 i (by omega)] at q
              simp (disch := omega) only [ofNat_nI, nI_add, pk_mul, nI_clamp, nI_leI, nI_ltI, nI_eq, vp_in_nI_iff, nI_subr, nI_m1r, m1_eq, m1_eq2, m1_le, m1_le2, m1_lt, m1_lt2, m1_self, cv_sub, cv_add1, cv_eq, cv_eqI, cv_eqI2, cv_m1, cv_lt0, cv_leI, cv_Ile, cv_le, cv_lt, cv_Ilt, cv_ltI, not_true, not_false_iff, true_implies, false_implies, false_or, or_false, true_and, and_true, false_and, and_false, true_or, or_true]
              omega
            · rw [e8 i (by omega)] at q
              rw [ecl i (by omega)] at z
              exact absurd (endw q) z
          have endz : ¬ 8 ≤ i → μ' 134 (8 * w + i) = 0 := fun q => by
            rw [ewr _ (by omega), hi8]
            rcases lend with z | z
            · omega
            · rw [z]; rfl
          refine k_X12_wordHere_14 C (fun _ => fin) (fun q => ?_) (fun q z => ?_) (fun q z => ?_)
          · rw [c8 i (by omega)] at q
            simp (disch := omega) only [ofNat_nI, nI_add, pk_mul, nI_clamp, nI_leI, nI_ltI, nI_eq, vp_in_nI_iff, nI_subr, nI_m1r, m1_eq, m1_eq2, m1_le, m1_le2, m1_lt, m1_lt2, m1_self, cv_sub, cv_add1, cv_eq, cv_eqI, cv_eqI2, cv_m1, cv_lt0, cv_leI, cv_Ile, cv_le, cv_lt, cv_Ilt, cv_ltI, not_true, not_false_iff, true_implies, false_implies, false_or, or_false, true_and, and_true, false_and, and_false, true_or, or_true]
            omega
          · rw [c8 i (by omega)] at q
            rw [ecl i (by omega)] at z
            exact absurd (endz q) z
          · rw [c8 i (by omega)] at q
            rw [ecl i (by omega)] at z
            exact absurd (endz q) z
        | succ e ihe =>
          intro i hi hm
          have hiw : i < wln w := by omega
          have w97 := wr_let w hw3 i hiw
          have ew := ewr (8 * w + i) (by omega)
          have w0 : ¬ nI (wrB (8 * w + i)) = 0 := nI_ne0 (by omega) (by have := wr256 (8 * w + i) (by omega); omega)
          have hit : (btI T (b + i) = nI (wrB (8 * w + i))) ↔ b + i < T.2 ∧ T.1 (b + i) = wrB (8 * w + i) := by
            rw [btC (ht.2.1 _) (wr256 _ (by omega)), isC_iff]
          refine k_X12_wordHere_14 C (fun z => ?_) (fun q => ?_) (fun q _ z => ?_) (fun q _ z => ?_)
          · have hne : ¬ (b + i < T.2 ∧ T.1 (b + i) = wrB (8 * w + i)) := by
              rw [c8 i (by omega), ecl i (by omega), ew, e1, h', ele i (by omega)] at z
              rcases z with z | ⟨-, z | ⟨-, ⟨z, -⟩ | ⟨z1, z2⟩⟩⟩
              · omega
              · exact absurd z w0
              · omega
              · rw [eby i (by omega) (by omega), hit] at z2
                exact z2
            have hf : wdB T w b = false := bnot fun y => hne ((wdB_iff.mp y).1 i hiw)
            refine k_X12_wordHere_64 C (fun q => ?_) (fun q => ?_) (fun _ _ => nxt hf)
            · exfalso
              rw [e8 i (by omega), ecl i (by omega), ew] at q
              rcases q with q | ⟨-, q⟩
              · omega
              · exact w0 q
            · rw [e8 i (by omega)] at q
              simp (disch := omega) only [ofNat_nI, nI_add, pk_mul, nI_clamp, nI_leI, nI_ltI, nI_eq, vp_in_nI_iff, nI_subr, nI_m1r, m1_eq, m1_eq2, m1_le, m1_le2, m1_lt, m1_lt2, m1_self, cv_sub, cv_add1, cv_eq, cv_eqI, cv_eqI2, cv_m1, cv_lt0, cv_leI, cv_Ile, cv_le, cv_lt, cv_Ilt, cv_ltI, not_true, not_false_iff, true_implies, false_implies, false_or, or_false, true_and, and_true, false_and, and_false, true_or, or_true]
              omega
          · rw [c8 i (by omega)] at q
            simp (disch := omega) only [ofNat_nI, nI_add, pk_mul, nI_clamp, nI_leI, nI_ltI, nI_eq, vp_in_nI_iff, nI_subr, nI_m1r, m1_eq, m1_eq2, m1_le, m1_le2, m1_lt, m1_lt2, m1_self, cv_sub, cv_add1, cv_eq, cv_eqI, cv_eqI2, cv_m1, cv_lt0, cv_leI, cv_Ile, cv_le, cv_lt, cv_Ilt, cv_ltI, not_true, not_false_iff, true_implies, false_implies, false_or, or_false, true_and, and_true, false_and, and_false, true_or, or_true]
            omega
          · rw [e1, h', ele i (by omega)] at z
            rw [h']
            simp (disch := omega) only [ofNat_nI, nI_add, pk_mul, nI_clamp, nI_leI, nI_ltI, nI_eq, vp_in_nI_iff, nI_subr, nI_m1r, m1_eq, m1_eq2, m1_le, m1_le2, m1_lt, m1_lt2, m1_self, cv_sub, cv_add1, cv_eq, cv_eqI, cv_eqI2, cv_m1, cv_lt0, cv_leI, cv_Ile, cv_le, cv_lt, cv_Ilt, cv_ltI, not_true, not_false_iff, true_implies, false_implies, false_or, or_false, true_and, and_true, false_and, and_false, true_or, or_true]
            omega
          · rw [ecl i (by omega), ew, e1, h', ele i (by omega)] at z
            have hh : b + i < T.2 ∧ T.1 (b + i) = wrB (8 * w + i) := by
              rcases z with ⟨z1, z2⟩ | ⟨z1, z2⟩
              · exact absurd z2 (m1w _ (by omega))
              · rw [eby i (by omega) (by omega), hit] at z2
                exact z2
            simp (disch := omega) only [ofNat_nI, nI_add, pk_mul, nI_clamp, nI_leI, nI_ltI, nI_eq, vp_in_nI_iff, nI_subr, nI_m1r, m1_eq, m1_eq2, m1_le, m1_le2, m1_lt, m1_lt2, m1_self, cv_sub, cv_add1, cv_eq, cv_eqI, cv_eqI2, cv_m1, cv_lt0, cv_leI, cv_Ile, cv_le, cv_lt, cv_Ilt, cv_ltI, not_true, not_false_iff, true_implies, false_implies, false_or, or_false, true_and, and_true, false_and, and_false, true_or, or_true]
            refine ihe (i + 1) (by omega) (fun i' hi' => ?_)
            by_cases q : i' = i
            · rw [q]; exact hh
            · exact hm i' (by omega)
      refine k_X12_wordHere_7 C (fun z => ?_) (fun _ => letters (wln w) 0 (by omega) (fun i' hi' => absurd hi' (Nat.not_lt_zero i')))
      exfalso
      revert z
      simp (disch := omega) only [ofNat_nI, nI_add, pk_mul, nI_clamp, nI_leI, nI_ltI, nI_eq, vp_in_nI_iff, nI_subr, nI_m1r, m1_eq, m1_eq2, m1_le, m1_le2, m1_lt, m1_lt2, m1_self, cv_sub, cv_add1, cv_eq, cv_eqI, cv_eqI2, cv_m1, cv_lt0, cv_leI, cv_Ile, cv_le, cv_lt, cv_Ilt, cv_ltI, not_true, not_false_iff, true_implies, false_implies, false_or, or_false, true_and, and_true, false_and, and_false, true_or, or_true]
      omega
  exact words 3 0 (by omega) (fun w' hw' => absurd hw' (Nat.not_lt_zero w'))
theorem s_passesWord {G : mG} {Q : mM → Prop} {μ : mM} {T : Tx} (ht : Tm T μ) {a : Nat} (ha : a ≤ T.2) (h2 : μ 132 2 = nI a)
    (k : ∀ μ', Ch [2] μ μ' → μ' 132 2 = nI (sl T a) → Q μ') : CtV G mX12_passesWord [.ref (gb G + 132)] μ Q := by
  have hn := ht.1
  refine e_X12_passesWord fun E C => ?_
  have loop : ∀ (d a : Nat) (μ' : mM), a + d = T.2 → Ch [2] μ μ' → μ' 132 2 = nI a → (∀ μ', Ch [2] μ μ' → μ' 132 2 = nI (sl T a) → Q μ') → Wm G mX12_passesWord E (bm G mX12_passesWord E (pV Q)) μ' 0 [(0, .ref (gb G + 132))] [] := by
    intro d
    induction d with
    | zero =>
      intro a μ' had hC h2 k
      have e1 : μ' 132 1 = nI T.2 := (hC.2 1 (by decide)).trans ht.2.2.1
      have hle : (nI T.2 ≤ nI a) = True := eq_true (nI_le (by omega) (by omega))
      have es : sl T a = a := skx_n (bnot fun z => by have := isL_lt a z; omega)
      have kk := k μ' hC (by rw [es]; exact h2)
      refine k_X12_passesWord_0 C ?_ (fun _ => kk) ?_
      all_goals rw [e1, h2, hle]
      · exact fun z => absurd trivial z
      · rintro (⟨-, z, -⟩ | ⟨z, -⟩)
        · exact absurd (by decide) z
        · exact absurd trivial z
    | succ d ih =>
      intro a μ' had hC h2 k
      have e1 : μ' 132 1 = nI T.2 := (hC.2 1 (by decide)).trans ht.2.2.1
      have hle : (nI T.2 ≤ nI a) = False := eq_false (nI_ge (by omega) (by omega))
      have eb : μ' 133 (nI a).toNatClampNeg &&& 255 = btI T a := by
        rw [nI_clamp (by omega), hC.1 133 (by decide)]
        exact ht.b.2 (by omega)
      have hl := btL (T := T) (k := a) (ht.2.1 _)
      refine k_X12_passesWord_0 C ?_ ?_ ?_
      all_goals rw [e1, h2, hle]
      · intro _
        simp (disch := omega) only [ofNat_nI, nI_add, pk_mul, nI_clamp, nI_leI, nI_ltI, nI_eq, vp_in_nI_iff, nI_subr, nI_m1r, m1_eq, m1_eq2, m1_le, m1_le2, m1_lt, m1_lt2, m1_self, cv_sub, cv_add1, cv_eq, cv_eqI, cv_eqI2, cv_m1, cv_lt0, cv_leI, cv_Ile, cv_le, cv_lt, cv_Ilt, cv_ltI, not_true, not_false_iff, true_implies, false_implies, false_or, or_false, true_and, and_true, false_and, and_false, true_or, or_true]
        omega
      · rw [eb]
        intro z
        have hf : isL T a = false := by
          rcases z with ⟨z, -⟩ | ⟨-, z⟩
          · exact absurd z id
          · rw [lg97, lg122] at z
            exact hl.mp z
        have es : sl T a = a := skx_n hf
        exact k μ' hC (by rw [es]; exact h2)
      · rw [eb]
        intro z
        have hy : isL T a = true := by
          cases e : isL T a with
          | true => rfl
          | false =>
            exfalso
            rcases z with ⟨z, -⟩ | ⟨-, z1, z2⟩
            · exact absurd z id
            · rw [lg97] at z1
              rw [lg122] at z2
              rcases hl.mpr e with y | y
              · exact z1 y
              · exact z2 y.2
        have es : sl T a = sl T (a + 1) := skx_y hy (isL_lt a hy)
        rw [es] at k
        refine ih (a + 1) _ (by omega) (hC.ms (by decide)) ?_ k
        rw [ms_row, upd_at, if_pos rfl]
        exact nI_1 a
  exact loop (T.2 - a) a μ (by omega) (Ch.rf _ _) h2 k

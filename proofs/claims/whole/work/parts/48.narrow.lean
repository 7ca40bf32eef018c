/-! THE CLASS: what is left is narrowed; a cell on which it hangs; least rows; how many -/
def NarR (P : Pl) (x y : Int32) : Prop := (y = 0 ∧ ∀ f, fitX (qC P) x f → ¬ lawX P f) ∨ (Lf P y ∧ (∀ i, i < 32 → bt y i = true → bt x i = true) ∧ (∀ f, fitX (qC P) x f → lawX P f → fitX (qC P) y f) ∧ ∀ i, i < qN P → rowI (qV P i) &&& (y ^^^ (-1)) = 0 → loI P y i ≠ 0)
theorem s_narrow {G : mG} {Q : Int32 → mM → Prop} {μ : mM} {p : Nat} {P : Pl} {x : Int32} (h0 : sh p = (0, 3)) (h : PW P) (hp : PlC p P μ) (hx : Lf P x) (k : ∀ y, NarR P x y → Q y μ) : CtI G mX4_narrow [.ref (gb G + p), .int x] μ Q := by
  have hC8 := h.ct.2.2.2
  have hN := h.2.2.2.2.1
  obtain ⟨p0, p1, p2, p3, p4, p5⟩ := hp
  refine e_X4_narrow h0 fun E C => k_X4_narrow_0 C h0 (fun v hv => ?_)
  -- from a pass's start
  have outer : ∀ (m t : Nat) (rest : Int32) (ag : Bool), t + m = 41 → (ag = true → bcn rest + t ≤ 32) → Lf P rest → (∀ i, i < 32 → bt rest i = true → bt x i = true) → (∀ f, fitX (qC P) x f → lawX P f → fitX (qC P) rest f) → (ag = false → ∀ i, i < qN P → rowI (qV P i) &&& (rest ^^^ (-1)) = 0 → loI P rest i ≠ 0) →
      Wm G mX4_narrow E (bm G mX4_narrow E (pI Q)) μ 18 [(0, .ref (gb G + p)), (2, .int rest), (3, .int (nI ag.toNat)), (4, .int (nI t))] [] := by
    intro m
    induction m with
    | zero =>
      intro t rest ag ht hb hL hs hf hst
      have ha : ag = false := bnot fun z => by have := hb z; omega
      subst ha
      refine k_X4_narrow_18 C h0 (fun _ => k rest (Or.inr ⟨hL, hs, hf, hst rfl⟩)) (fun z _ => absurd rfl z)
    | succ m ih =>
      intro t rest ag ht hb hL hs hf hst
      cases ag with
      | false => exact k_X4_narrow_18 C h0 (fun _ => k rest (Or.inr ⟨hL, hs, hf, hst rfl⟩)) (fun z _ => absurd rfl z)
      | true =>
        have hbt := hb rfl
        refine k_X4_narrow_18 C h0 (fun z => ?_) (fun _ _ => ?_)
        · exfalso
          rcases z with z | ⟨-, z⟩
          · exact absurd z (by decide)
          · have := (nI_leI (a := 40) (by omega) (by omega)).mp z
            omega
        · have inner : ∀ (d i : Nat) (rest : Int32) (ag : Bool), i + d = qN P → (ag = true → bcn rest + (t + 1) ≤ 32) → (bcn rest + t ≤ 32) → Lf P rest → (∀ i, i < 32 → bt rest i = true → bt x i = true) → (∀ f, fitX (qC P) x f → lawX P f → fitX (qC P) rest f) → (ag = false → ∀ i', i' < i → rowI (qV P i') &&& (rest ^^^ (-1)) = 0 → loI P rest i' ≠ 0) →
              Wm G mX4_narrow E (bm G mX4_narrow E (pI Q)) μ 34 [(0, .ref (gb G + p)), (2, .int rest), (3, .int (nI ag.toNat)), (4, .int (nI t)), (5, .int (nI i))] [] := by
            intro d
            induction d with
            | zero =>
              intro i rest ag hi hb1 hb0 hL hs hf hst
              refine k_X4_narrow_34 C h0 (fun _ => ?_) (fun z => ?_) (fun z => ?_) (fun z => ?_) (fun z => ?_)
              · simp (disch := omega) only [ofNat_nI, nI_add, pk_mul, nI_clamp, nI_leI, nI_ltI, nI_eq, vp_in_nI_iff, nI_subr, nI_m1r, m1_eq, m1_eq2, m1_le, m1_le2, m1_lt, m1_lt2, m1_self, cv_sub, cv_add1, cv_eq, cv_eqI, cv_eqI2, cv_m1, cv_lt0, cv_leI, cv_Ile, cv_le, cv_lt, cv_Ilt, cv_ltI, not_true, not_false_iff, true_implies, false_implies, false_or, or_false, true_and, and_true, false_and, and_false, true_or, or_true]
                exact ih (t + 1) rest ag (by omega) hb1 hL hs hf (fun z i' hi' => hst z i' (by omega))
              all_goals
                exfalso
                revert z
                rw [p2]
                simp (disch := omega) only [ofNat_nI, nI_add, pk_mul, nI_clamp, nI_leI, nI_ltI, nI_eq, vp_in_nI_iff, nI_subr, nI_m1r, m1_eq, m1_eq2, m1_le, m1_le2, m1_lt, m1_lt2, m1_self, cv_sub, cv_add1, cv_eq, cv_eqI, cv_eqI2, cv_m1, cv_lt0, cv_leI, cv_Ile, cv_le, cv_lt, cv_Ilt, cv_ltI, not_true, not_false_iff, true_implies, false_implies, false_or, or_false, true_and, and_true, false_and, and_false, true_or, or_true]
                omega
            | succ d ihd =>
              intro i rest ag hi hb1 hb0 hL hs hf hst
              have hiN : i < qN P := by omega
              have en : μ (p + 2) (nI i).toNatClampNeg = rowI (qV P i) := by rw [nI_clamp (by omega)]; exact (p5 i hiN).1
              have en3 : μ (p + 3) (nI i).toNatClampNeg = colI (rowI (qV P i)) := by rw [nI_clamp (by omega)]; exact (p5 i hiN).2
              refine k_X4_narrow_34 C h0 (fun z => ?_) (fun _ => ?_) (fun _ z => ?_) (fun _ z1 z2 z3 => ?_) (fun _ z1 z2 => ?_)
              · exfalso
                revert z
                rw [p2]
                simp (disch := omega) only [ofNat_nI, nI_add, pk_mul, nI_clamp, nI_leI, nI_ltI, nI_eq, vp_in_nI_iff, nI_subr, nI_m1r, m1_eq, m1_eq2, m1_le, m1_le2, m1_lt, m1_lt2, m1_self, cv_sub, cv_add1, cv_eq, cv_eqI, cv_eqI2, cv_m1, cv_lt0, cv_leI, cv_Ile, cv_le, cv_lt, cv_Ilt, cv_ltI, not_true, not_false_iff, true_implies, false_implies, false_or, or_false, true_and, and_true, false_and, and_false, true_or, or_true]
                omega
              · simp (disch := omega) only [ofNat_nI, nI_add, pk_mul, nI_clamp, nI_leI, nI_ltI, nI_eq, vp_in_nI_iff, nI_subr, nI_m1r, m1_eq, m1_eq2, m1_le, m1_le2, m1_lt, m1_lt2, m1_self, cv_sub, cv_add1, cv_eq, cv_eqI, cv_eqI2, cv_m1, cv_lt0, cv_leI, cv_Ile, cv_le, cv_lt, cv_Ilt, cv_ltI, not_true, not_false_iff, true_implies, false_implies, false_or, or_false, true_and, and_true, false_and, and_false, true_or, or_true]
                omega
              · rw [en, en3] at z
                have z' : ¬ rowI (qV P i) &&& (rest ^^^ (-1)) = 0 ∨ (rowI (qV P i) &&& (rest ^^^ (-1)) = 0 ∧ ¬ loI P rest i = 0 ∧ ¬ loI P rest i &&& (loI P rest i - 1) = 0) := z
                simp (disch := omega) only [ofNat_nI, nI_add, pk_mul, nI_clamp, nI_leI, nI_ltI, nI_eq, vp_in_nI_iff, nI_subr, nI_m1r, m1_eq, m1_eq2, m1_le, m1_le2, m1_lt, m1_lt2, m1_self, cv_sub, cv_add1, cv_eq, cv_eqI, cv_eqI2, cv_m1, cv_lt0, cv_leI, cv_Ile, cv_le, cv_lt, cv_Ilt, cv_ltI, not_true, not_false_iff, true_implies, false_implies, false_or, or_false, true_and, and_true, false_and, and_false, true_or, or_true]
                refine ihd (i + 1) rest ag (by omega) hb1 hb0 hL hs hf (fun w i' hi' hsub => ?_)
                by_cases q : i' = i
                · subst q
                  rcases z' with z | z
                  · exact absurd hsub z
                  · exact z.2.1
                · exact hst w i' (by omega) hsub
              · rw [en] at z1
                rw [en, en3] at z2 z3 ⊢
                have z2' : ¬ loI P rest i = 0 := z2
                have z3' : loI P rest i &&& (loI P rest i - 1) = 0 := z3
                obtain ⟨kb, hkb, hk1⟩ := b_nz.mp z2'
                have hkb' : bt (loI P rest i) (4 * (kb / 4) + kb % 4) = true := by rw [show 4 * (kb / 4) + kb % 4 = kb by omega]; exact hk1
                obtain ⟨ev, l', hl', hne, hbl⟩ := (b_lo h (by omega) (by omega)).mp hkb'
                have hcC := (h.2.2.2.2.2.1 i (kb / 4) (by omega)).2.1
                have hrk : bt rest kb = true := by
                  have := (nv_sub h).mp z1 (kb / 4) hcC (by omega)
                  rw [ev, show 4 * (kb / 4) + (kb % 4 + 1 - 1) = kb by omega] at this
                  exact this
                have hw : ∀ j, j < 32 → bt (loI P rest i) j = decide (j = kb) := fun j hj => by
                  by_cases q : j = kb
                  · rw [decide_eq_true q, q]; exact hk1
                  · rw [decide_eq_false q]
                    exact bnot fun y => q (b_one.mp z3' j kb hj hkb y hk1)
                have hbit : ∀ j, j < 32 → bt (rest &&& (loI P rest i ^^^ (-1))) j = (bt rest j && !decide (j = kb)) := fun j hj => b_wo hw hj
                have hsub2 : ∀ j, j < 32 → bt (rest &&& (loI P rest i ^^^ (-1))) j = true → bt rest j = true := fun j hj y => by
                  rw [hbit j hj, Bool.and_eq_true] at y
                  exact y.1
                have hlt : bcn (rest &&& (loI P rest i ^^^ (-1))) < bcn rest := bcn_lt hsub2 hkb hrk (by rw [hbit kb hkb, decide_eq_true rfl]; simp)
                have e1 : (1 : Int32) = nI true.toNat := rfl
                rw [show nI i + 1 = nI (i + 1) from nI_1 i, e1]
                refine ihd (i + 1) (rest &&& (loI P rest i ^^^ (-1))) true (by omega) (fun _ => by omega) (by omega) (fun c hc => ?_) (fun j hj y => hs j hj (hsub2 j hj y)) (fun f hf1 hf2 => ?_) (fun y => by cases y)
                · by_cases q : c = kb / 4
                  · refine ⟨l', hl', ?_⟩
                    rw [hbit _ (by omega), q, hbl, decide_eq_false (by omega)]
                    rfl
                  · obtain ⟨l, hl, hb⟩ := hL c hc
                    refine ⟨l, hl, ?_⟩
                    rw [hbit _ (by omega), hb, decide_eq_false (by omega)]
                    rfl
                · intro c hc
                  obtain ⟨f4, fb⟩ := hf f hf1 hf2 c hc
                  refine ⟨f4, ?_⟩
                  rw [hbit _ (by omega), fb]
                  have : ¬ 4 * c + f c = kb := fun y => by
                    have hcc : c = kb / 4 := by omega
                    have := lo_one h hiN hcC (by omega) hkb' z3' (hf f hf1 hf2) hf2
                    apply this
                    rw [← hcc]
                    omega
                  rw [decide_eq_false this]
                  rfl
              · rw [en, en3] at z2
                have z2' : loI P rest i = 0 := z2
                exact k 0 (Or.inl ⟨rfl, fun f hf1 hf2 => lo_none h hiN z2' (hf f hf1 hf2) hf2⟩)
          exact inner (qN P) 0 rest false (by omega) (fun z => by cases z) hbt hL hs hf (fun _ i' hi' => absurd hi' (Nat.not_lt_zero i'))
  have hv' : v = nI (decide (0 < qN P)).toNat := by
    rw [p2] at hv
    rcases hv with ⟨a, b⟩ | ⟨a, b⟩
    · have := (nI_leI (b := 0) (by omega) (by omega)).mp a
      rw [b, decide_eq_false (by omega)]; rfl
    · rw [b, decide_eq_true (Nat.pos_of_ne_zero fun z => a (by rw [z]; decide))]; rfl
  rw [hv']
  refine outer 41 0 x _ rfl (fun _ => bcn_le32 x) hx (fun i _ z => z) (fun f hf _ => hf) (fun z i hi => ?_)
  have := of_decide_eq_false z
  omega
/-- a cell on which it hangs -/
def OpR (P : Pl) (y w : Int32) : Prop := (w = 0 ∧ ∀ i, i < qN P → ¬ rowI (qV P i) &&& (y ^^^ (-1)) = 0) ∨ ∃ c l, c < qC P ∧ l < 4 ∧ (∀ i, i < 32 → bt w i = decide (i = 4 * c + l)) ∧ bt y (4 * c + l) = true ∧ ∃ l', l' < 4 ∧ l' ≠ l ∧ bt y (4 * c + l') = true
theorem low_exists {x : Int32} (h : x ≠ 0) : ∃ kb, kb < 32 ∧ bt x kb = true ∧ (∀ j, j < kb → bt x j = false) ∧ ∀ i, i < 32 → bt (x &&& (-x)) i = decide (i = kb) := by
  obtain ⟨k0, hk0, hb0⟩ := b_nz.mp h
  obtain ⟨kb, ⟨hkb, hb⟩, hmin⟩ := pk_least (fun j => j < 32 ∧ bt x j = true) ⟨k0, hk0, hb0⟩
  have hm : ∀ j, j < kb → bt x j = false := fun j hj => bnot fun z => hmin j hj ⟨by omega, z⟩
  refine ⟨kb, hkb, hb, hm, fun i hi => ?_⟩
  rw [b_low x hi]
  by_cases q : i = kb
  · subst q
    rw [hb, decide_eq_true rfl, decide_eq_true hm]; rfl
  · rw [decide_eq_false q]
    by_cases z : i < kb
    · rw [hm i z]; rfl
    · rw [decide_eq_false (fun y => by
        have := y kb (by omega)
        rw [hb] at this
        cases this), Bool.and_false]
theorem s_openCell {G : mG} {Q : Int32 → mM → Prop} {μ : mM} {p : Nat} {P : Pl} {y : Int32} (h0 : sh p = (0, 3)) (h : PW P) (hp : PlC p P μ) (hst : ∀ i, i < qN P → rowI (qV P i) &&& (y ^^^ (-1)) = 0 → loI P y i ≠ 0) (k : ∀ w, OpR P y w → Q w μ) : CtI G mX4_openCell [.ref (gb G + p), .int y] μ Q := by
  have hC8 := h.ct.2.2.2
  have hN := h.2.2.2.2.1
  obtain ⟨p0, p1, p2, p3, p4, p5⟩ := hp
  refine e_X4_openCell h0 fun E C => k_X4_openCell_0 C h0 ?_
  have loop : ∀ (d i : Nat), i + d = qN P → (∀ i', i' < i → ¬ rowI (qV P i') &&& (y ^^^ (-1)) = 0) → Wm G mX4_openCell E (bm G mX4_openCell E (pI Q)) μ 2 [(0, .ref (gb G + p)), (1, .int y), (2, .int (nI i))] [] := by
    intro d
    induction d with
    | zero =>
      intro i hi hall
      refine k_X4_openCell_2 C h0 (fun _ => k 0 (Or.inl ⟨rfl, fun i' hi' => hall i' (by omega)⟩)) (fun z => ?_) (fun z => ?_) (fun z => ?_)
      all_goals
        exfalso
        revert z
        rw [p2]
        simp (disch := omega) only [ofNat_nI, nI_add, pk_mul, nI_clamp, nI_leI, nI_ltI, nI_eq, vp_in_nI_iff, nI_subr, nI_m1r, m1_eq, m1_eq2, m1_le, m1_le2, m1_lt, m1_lt2, m1_self, cv_sub, cv_add1, cv_eq, cv_eqI, cv_eqI2, cv_m1, cv_lt0, cv_leI, cv_Ile, cv_le, cv_lt, cv_Ilt, cv_ltI, not_true, not_false_iff, true_implies, false_implies, false_or, or_false, true_and, and_true, false_and, and_false, true_or, or_true]
        omega
    | succ d ih =>
      intro i hi hall
      have hiN : i < qN P := by omega
      have en : μ (p + 2) (nI i).toNatClampNeg = rowI (qV P i) := by rw [nI_clamp (by omega)]; exact (p5 i hiN).1
      have en3 : μ (p + 3) (nI i).toNatClampNeg = colI (rowI (qV P i)) := by rw [nI_clamp (by omega)]; exact (p5 i hiN).2
      refine k_X4_openCell_2 C h0 (fun z => ?_) (fun _ => ?_) (fun _ z => ?_) (fun _ z => ?_)
      · exfalso
        revert z
        rw [p2]
        simp (disch := omega) only [ofNat_nI, nI_add, pk_mul, nI_clamp, nI_leI, nI_ltI, nI_eq, vp_in_nI_iff, nI_subr, nI_m1r, m1_eq, m1_eq2, m1_le, m1_le2, m1_lt, m1_lt2, m1_self, cv_sub, cv_add1, cv_eq, cv_eqI, cv_eqI2, cv_m1, cv_lt0, cv_leI, cv_Ile, cv_le, cv_lt, cv_Ilt, cv_ltI, not_true, not_false_iff, true_implies, false_implies, false_or, or_false, true_and, and_true, false_and, and_false, true_or, or_true]
        omega
      · simp (disch := omega) only [ofNat_nI, nI_add, pk_mul, nI_clamp, nI_leI, nI_ltI, nI_eq, vp_in_nI_iff, nI_subr, nI_m1r, m1_eq, m1_eq2, m1_le, m1_le2, m1_lt, m1_lt2, m1_self, cv_sub, cv_add1, cv_eq, cv_eqI, cv_eqI2, cv_m1, cv_lt0, cv_leI, cv_Ile, cv_le, cv_lt, cv_Ilt, cv_ltI, not_true, not_false_iff, true_implies, false_implies, false_or, or_false, true_and, and_true, false_and, and_false, true_or, or_true]
        omega
      · rw [en] at z
        simp (disch := omega) only [ofNat_nI, nI_add, pk_mul, nI_clamp, nI_leI, nI_ltI, nI_eq, vp_in_nI_iff, nI_subr, nI_m1r, m1_eq, m1_eq2, m1_le, m1_le2, m1_lt, m1_lt2, m1_self, cv_sub, cv_add1, cv_eq, cv_eqI, cv_eqI2, cv_m1, cv_lt0, cv_leI, cv_Ile, cv_le, cv_lt, cv_Ilt, cv_ltI, not_true, not_false_iff, true_implies, false_implies, false_or, or_false, true_and, and_true, false_and, and_false, true_or, or_true]
        refine ih (i + 1) (by omega) (fun i' hi' => ?_)
        by_cases q : i' = i
        · rw [q]; exact z
        · exact hall i' (by omega)
      · rw [en] at z
        rw [en, en3]
        show Q (loI P y i &&& (-loI P y i)) μ
        obtain ⟨kb, hkb, hb, -, hw⟩ := low_exists (hst i hiN z)
        have hkb' : bt (loI P y i) (4 * (kb / 4) + kb % 4) = true := by rw [show 4 * (kb / 4) + kb % 4 = kb by omega]; exact hb
        obtain ⟨ev, l', hl', hne, hbl⟩ := (b_lo h (by omega) (by omega)).mp hkb'
        have hcC := (h.2.2.2.2.2.1 i (kb / 4) (by omega)).2.1
        refine k _ (Or.inr ⟨kb / 4, kb % 4, hcC, by omega, fun j hj => ?_, ?_, l', hl', hne, hbl⟩)
        · rw [hw j hj, show 4 * (kb / 4) + kb % 4 = kb by omega]
        · have := (nv_sub h).mp z (kb / 4) hcC (by omega)
          rw [ev, show 4 * (kb / 4) + (kb % 4 + 1 - 1) = 4 * (kb / 4) + kb % 4 by omega] at this
          exact this
  exact loop (qN P) 0 (by omega) (fun i' hi' => absurd hi' (Nat.not_lt_zero i'))
/-- the least level of a column -/
def leastL (y : Int32) (c : Nat) : Nat := if bt y (4 * c) = true then 0 else if bt y (4 * c + 1) = true then 1 else if bt y (4 * c + 2) = true then 2 else 3
def nibN (y : Int32) (c : Nat) : Nat := (bt y (4 * c)).toNat + 2 * (bt y (4 * c + 1)).toNat + 4 * (bt y (4 * c + 2)).toNat + 8 * (bt y (4 * c + 3)).toNat
theorem nibN_lt (y : Int32) (c : Nat) : nibN y c < 16 := by
  unfold nibN
  cases bt y (4 * c) <;> cases bt y (4 * c + 1) <;> cases bt y (4 * c + 2) <;> cases bt y (4 * c + 3) <;> decide
theorem nibN_tb (y : Int32) (c : Nat) : ∀ l, l < 4 → bt y (4 * c + l) = (nibN y c).testBit l := by
  have f : ∀ b0 b1 b2 b3 : Bool, ∀ l, l < 4 → [b0, b1, b2, b3].getD l false = (b0.toNat + 2 * b1.toNat + 4 * b2.toNat + 8 * b3.toNat).testBit l := by decide
  intro l hl
  have := f (bt y (4 * c)) (bt y (4 * c + 1)) (bt y (4 * c + 2)) (bt y (4 * c + 3)) l hl
  unfold nibN
  rw [← this]
  have : l = 0 ∨ l = 1 ∨ l = 2 ∨ l = 3 := by omega
  rcases this with rfl | rfl | rfl | rfl <;> rfl
theorem nib_at (y : Int32) {c : Nat} (hc : c < 8) : iush y (4 * nI c) &&& 15 = nI (nibN y c) := by
  rw [show (4 : Int32) = nI 4 from rfl, pk_mul]
  exact nib_of hc (nibN_lt y c) (nibN_tb y c)
theorem leastL_spec {y : Int32} {c : Nat} (h : ∃ l, l < 4 ∧ bt y (4 * c + l) = true) : leastL y c < 4 ∧ bt y (4 * c + leastL y c) = true := by
  unfold leastL
  split
  · rename_i q; exact ⟨by omega, q⟩
  · split
    · rename_i q; exact ⟨by omega, q⟩
    · split
      · rename_i q; exact ⟨by omega, q⟩
      · rename_i q0 q1 q2
        refine ⟨by omega, ?_⟩
        obtain ⟨l, hl, hb⟩ := h
        have : l = 0 ∨ l = 1 ∨ l = 2 ∨ l = 3 := by omega
        rcases this with rfl | rfl | rfl | rfl
        · exact absurd hb q0
        · exact absurd hb q1
        · exact absurd hb q2
        · exact hb
theorem nib_low : ∀ b0 b1 b2 b3 : Bool, (b0 || b1 || b2 || b3) = true → nI (b0.toNat + 2 * b1.toNat + 4 * b2.toNat + 8 * b3.toNat) &&& (-nI (b0.toNat + 2 * b1.toNat + 4 * b2.toNat + 8 * b3.toNat)) = nI (2 ^ (if b0 = true then 0 else if b1 = true then 1 else if b2 = true then 2 else 3)) := by decide
theorem b_nsh {l c i : Nat} (hl : l < 4) (hc : c < 8) (hi : i < 32) : bt (nI (2 ^ l) <<< ((4 * nI c : Int32) &&& 31)) i = decide (i = 4 * c + l) := by
  rw [show (4 : Int32) = nI 4 from rfl, pk_mul, b_shl (4 * c) (by omega) _ hi, b_nI (by omega), Nat.testBit_two_pow]
  by_cases q : i = 4 * c + l
  · subst q
    rw [decide_eq_true (show 4 * c ≤ 4 * c + l by omega), decide_eq_true (by omega), decide_eq_true rfl]; rfl
  · rw [decide_eq_false q]
    by_cases z : 4 * c ≤ i
    · rw [decide_eq_false (show ¬ l = i - 4 * c by omega), Bool.and_false]
    · rw [decide_eq_false z, Bool.false_and]
theorem s_leastRow {G : mG} {Q : Int32 → mM → Prop} {μ : mM} {p : Nat} {P : Pl} {y : Int32} (h0 : sh p = (0, 3)) (h : PW P) (hp : PlC p P μ) (hy : Lf P y) (k : Q (rowI (rowF (qC P) (leastL y))) μ) : CtI G mX4_leastRow [.ref (gb G + p), .int y] μ Q := by
  have hC8 := h.ct.2.2.2
  obtain ⟨p0, p1, p2, p3, p4, p5⟩ := hp
  refine e_X4_leastRow h0 fun E C => k_X4_leastRow_0 C h0 ?_
  have e0 : rowI (rowF 0 (leastL y)) = 0 := by
    rw [← rowI_0]
    exact rowI_congr fun c _ => if_neg (Nat.not_lt_zero c)
  suffices key : Wm G mX4_leastRow E (bm G mX4_leastRow E (pI Q)) μ 4 [(0, .ref (gb G + p)), (1, .int y), (2, .int (rowI (rowF 0 (leastL y)))), (3, .int (nI 0))] [] by
    rw [e0] at key
    exact key
  refine lp_up (W := fun c => Wm G mX4_leastRow E (bm G mX4_leastRow E (pI Q)) μ 4 [(0, .ref (gb G + p)), (1, .int y), (2, .int (rowI (rowF c (leastL y)))), (3, .int (nI c))] []) (qC P) ?_ (fun c hc ih => ?_)
  · refine k_X4_leastRow_4 C h0 (fun _ => k) (fun z => ?_)
    exfalso
    revert z
    rw [p0]
    simp (disch := omega) only [ofNat_nI, nI_add, pk_mul, nI_clamp, nI_leI, nI_ltI, nI_eq, vp_in_nI_iff, nI_subr, nI_m1r, m1_eq, m1_eq2, m1_le, m1_le2, m1_lt, m1_lt2, m1_self, cv_sub, cv_add1, cv_eq, cv_eqI, cv_eqI2, cv_m1, cv_lt0, cv_leI, cv_Ile, cv_le, cv_lt, cv_Ilt, cv_ltI, not_true, not_false_iff, true_implies, false_implies, false_or, or_false, true_and, and_true, false_and, and_false, true_or, or_true]
    omega
  · refine k_X4_leastRow_4 C h0 (fun z => ?_) (fun _ => ?_)
    · exfalso
      revert z
      rw [p0]
      simp (disch := omega) only [ofNat_nI, nI_add, pk_mul, nI_clamp, nI_leI, nI_ltI, nI_eq, vp_in_nI_iff, nI_subr, nI_m1r, m1_eq, m1_eq2, m1_le, m1_le2, m1_lt, m1_lt2, m1_self, cv_sub, cv_add1, cv_eq, cv_eqI, cv_eqI2, cv_m1, cv_lt0, cv_leI, cv_Ile, cv_le, cv_lt, cv_Ilt, cv_ltI, not_true, not_false_iff, true_implies, false_implies, false_or, or_false, true_and, and_true, false_and, and_false, true_or, or_true]
      omega
    · obtain ⟨l4, lb⟩ := leastL_spec (hy c hc)
      have hany : (bt y (4 * c) || bt y (4 * c + 1) || bt y (4 * c + 2) || bt y (4 * c + 3)) = true := anyC_iff.mpr (hy c hc)
      have e1 : (iush y (4 * nI c) &&& 15) &&& (-(iush y (4 * nI c) &&& 15)) = nI (2 ^ leastL y c) := by
        rw [nib_at y (by omega)]
        exact nib_low _ _ _ _ hany
      rw [e1]
      have e2 : rowI (rowF c (leastL y)) ||| nI (2 ^ leastL y c) <<< ((4 * nI c : Int32) &&& 31) = rowI (rowF (c + 1) (leastL y)) := c_ext fun c' l' hc' hl' => by
        rw [b_or, b_rowc _ hc' hl', b_nsh l4 (by omega) (by omega), b_rowc _ hc' hl']
        show (decide ((if c' < c then leastL y c' + 1 else 0) = l' + 1) || _) = decide ((if c' < c + 1 then leastL y c' + 1 else 0) = l' + 1)
        by_cases q : c' = c
        · subst q
          rw [if_neg (Nat.lt_irrefl _), if_pos (Nat.lt_succ_self _), decide_eq_false (show ¬ 0 = l' + 1 by omega), Bool.false_or]
          by_cases z : l' = leastL y c'
          · rw [decide_eq_true (by omega), decide_eq_true (by omega)]
          · rw [decide_eq_false (by omega), decide_eq_false (by omega)]
        · rw [decide_eq_false (show ¬ 4 * c' + l' = 4 * c + leastL y c by omega), Bool.or_false]
          by_cases z : c' < c
          · rw [if_pos z, if_pos (by omega)]
          · rw [if_neg z, if_neg (by omega)]
      rw [e2]
      simp (disch := omega) only [ofNat_nI, nI_add, pk_mul, nI_clamp, nI_leI, nI_ltI, nI_eq, vp_in_nI_iff, nI_subr, nI_m1r, m1_eq, m1_eq2, m1_le, m1_le2, m1_lt, m1_lt2, m1_self, cv_sub, cv_add1, cv_eq, cv_eqI, cv_eqI2, cv_m1, cv_lt0, cv_leI, cv_Ile, cv_le, cv_lt, cv_Ilt, cv_ltI, not_true, not_false_iff, true_implies, false_implies, false_or, or_false, true_and, and_true, false_and, and_false, true_or, or_true]
      exact ih
/-- levels left in a column -/
def lvN (y : Int32) (c : Nat) : Nat := sm 4 (fun l => (bt y (4 * c + l)).toNat)
theorem s_rowsIn {G : mG} {Q : Int32 → mM → Prop} {μ : mM} {p : Nat} {P : Pl} {y : Int32} (h0 : sh p = (0, 3)) (h : PW P) (hp : PlC p P μ) (k : Q (nI (pd (qC P) (lvN y))) μ) : CtI G mX4_rowsIn [.ref (gb G + p), .int y] μ Q := by
  have hC8 := h.ct.2.2.2
  obtain ⟨p0, p1, p2, p3, p4, p5⟩ := hp
  refine e_X4_rowsIn h0 fun E C => k_X4_rowsIn_0 C h0 ?_
  refine lp_up (W := fun c => Wm G mX4_rowsIn E (bm G mX4_rowsIn E (pI Q)) μ 4 [(0, .ref (gb G + p)), (1, .int y), (2, .int (nI (pd c (lvN y)))), (3, .int (nI c))] []) (qC P) ?_ (fun c hc ih => ?_)
  · refine k_X4_rowsIn_4 C h0 (fun _ => k) (fun z => ?_)
    exfalso
    revert z
    rw [p0]
    simp (disch := omega) only [ofNat_nI, nI_add, pk_mul, nI_clamp, nI_leI, nI_ltI, nI_eq, vp_in_nI_iff, nI_subr, nI_m1r, m1_eq, m1_eq2, m1_le, m1_le2, m1_lt, m1_lt2, m1_self, cv_sub, cv_add1, cv_eq, cv_eqI, cv_eqI2, cv_m1, cv_lt0, cv_leI, cv_Ile, cv_le, cv_lt, cv_Ilt, cv_ltI, not_true, not_false_iff, true_implies, false_implies, false_or, or_false, true_and, and_true, false_and, and_false, true_or, or_true]
    omega
  · refine k_X4_rowsIn_4 C h0 (fun z => ?_) (fun _ => ?_)
    · exfalso
      revert z
      rw [p0]
      simp (disch := omega) only [ofNat_nI, nI_add, pk_mul, nI_clamp, nI_leI, nI_ltI, nI_eq, vp_in_nI_iff, nI_subr, nI_m1r, m1_eq, m1_eq2, m1_le, m1_le2, m1_lt, m1_lt2, m1_self, cv_sub, cv_add1, cv_eq, cv_eqI, cv_eqI2, cv_m1, cv_lt0, cv_leI, cv_Ile, cv_le, cv_lt, cv_Ilt, cv_ltI, not_true, not_false_iff, true_implies, false_implies, false_or, or_false, true_and, and_true, false_and, and_false, true_or, or_true]
      omega
    · refine s_bitCount (k_X4_rowsIn_24 C h0 ?_)
      rw [nib_at y (by omega), bc_nib _ (nibN_lt y c)]
      have e : sm 4 (fun l => ((nibN y c).testBit l).toNat) = lvN y c := sm_congr fun l hl => by rw [nibN_tb y c l hl]
      rw [e, pk_mul]
      simp (disch := omega) only [ofNat_nI, nI_add, pk_mul, nI_clamp, nI_leI, nI_ltI, nI_eq, vp_in_nI_iff, nI_subr, nI_m1r, m1_eq, m1_eq2, m1_le, m1_le2, m1_lt, m1_lt2, m1_self, cv_sub, cv_add1, cv_eq, cv_eqI, cv_eqI2, cv_m1, cv_lt0, cv_leI, cv_Ile, cv_le, cv_lt, cv_Ilt, cv_ltI, not_true, not_false_iff, true_implies, false_implies, false_or, or_false, true_and, and_true, false_and, and_false, true_or, or_true]
      exact ih

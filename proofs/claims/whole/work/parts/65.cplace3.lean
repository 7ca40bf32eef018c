/-! THE CLASS: all rows in order -/
def biN (j a i : Nat) : Nat := if i = a then j else if a < i ∧ i ≤ j then i - 1 else i
theorem bi_mono {J a i j : Nat} (h1 : a < i) (h2 : i < j) : a ≤ biN J a i ∧ biN J a i < biN J a j := by
  have e : ∀ x, a < x → biN J a x = if x ≤ J then x - 1 else x := fun x hx => by
    unfold biN
    rw [if_neg (by omega)]
    by_cases q : x ≤ J
    · rw [if_pos ⟨hx, q⟩, if_pos q]
    · rw [if_neg (fun z => q z.2), if_neg q]
  rw [e i h1, e j (by omega)]
  constructor
  · split <;> omega
  · split <;> split <;> omega
theorem brg_bi {α : Type} (f : Nat → α) (j a i : Nat) : brg f j a i = f (biN j a i) := by
  unfold brg biN
  split
  · rfl
  · split <;> rfl
theorem sOr_n (s : Ps) (a j : Nat) : zn (sOr s a j) = zn s ∧ zP (sOr s a j) = zP s := ⟨rfl, rfl⟩
theorem rw_new {P : Pl} {R R0 : Nat → Nat → Nat} {pm : Nat → Nat} {n a j : Nat} {S : Nat → Bool} (hR : ∀ i, i < n → R i = R0 (pm i)) (ha : a ≤ n) (hj : j < n) (hS : ∀ m, S m = true ↔ ∃ i, i < a ∧ hasM P (R0 (pm i)) m = true) : newN P R j a = cuN P R0 (pm j) S := sm_congr fun m hm => by
  show (hasM P (R j) m && decide (rwN P R m a = 0)).toNat = (hasM P (R0 (pm j)) m && !S m).toNat
  rw [hR j hj]
  have e : decide (rwN P R m a = 0) = !S m := by
    have h1 : rwN P R m a = 0 ↔ ¬ S m = true := by
      rw [rwN_0, hS]
      constructor
      · rintro z ⟨i, hi, y⟩
        rw [← hR i (by omega), z i hi] at y
        cases y
      · intro z i hi
        refine bnot fun y => z ⟨i, hi, ?_⟩
        rw [← hR i (by omega)]
        exact y
    cases q : S m with
    | true => rw [decide_eq_false (fun z => h1.mp z q)]; rfl
    | false => rw [decide_eq_true (h1.mpr (by rw [q]; exact Bool.false_ne_true))]; rfl
  rw [e]
theorem s_place {G : mG} {Q : Int32 → mM → Prop} {μ : mM} {h : Nat → Nat} {c1 : Nat} {s : Ps} (h1 : sh c1 = (0, 6)) (hc1 : c1 < 30) (hs : PsOk s) (hC : zC s ≠ 0) (H : MxC (zP s) h μ) (hr : RowsC c1 (zn s) (zR s) (zt s) μ)
    (k : ∀ μ', Fr [c1, c1 + 1, c1 + 2, 37, 38, 39, 40, 41] μ μ' → RowsC c1 (zn s) (zR (orS (zn s) 0 (s, 0)).1) (zt (orS (zn s) 0 (s, 0)).1) μ' → Q (nI (orS (zn s) 0 (s, 0)).2) μ') : CtI G mX3_place [.ref (gb G + 36), .ref (gb G + c1), .ref (gb G + 22)] μ Q := by
  obtain ⟨⟨hW, hM, -⟩, hrow⟩ := hs.2.2.2 hC
  have hn := hs.2.1
  have hR : ∀ j, j < zn s → ∀ c, zR s j c ≤ qL (zP s) c := fun j hj => (hrow j hj).1.1
  have h37 : sh 37 = (0, 6) := rfl
  refine e_X3_place h1 fun E C => k_X3_place_0 C h1 ?_
  refine s_placeStart h1 hc1 hW hM hn H hr hR fun ν F z0 hk => k_X3_place_6 C h1 ?_
  have loop : ∀ (d a : Nat) (q : Ps × Nat) (pm : Nat → Nat) (S p : Nat → Bool) (μ' : mM), a + d = zn s → zn q.1 = zn s → zP q.1 = zP s → q.2 ≤ a → orS d a q = orS (zn s) 0 (s, 0) →
      (∀ i, i < zn s → zR q.1 i = zR s (pm i) ∧ zt q.1 i = zt s (pm i) ∧ pm i < zn s) → (∀ i j, i < zn s → j < zn s → pm i = pm j → i = j) → (∀ x, x < zn s → ∃ i, i < zn s ∧ pm i = x) → (∀ i j, a ≤ i → i < j → j < zn s → pm i < pm j) →
      (∀ m, S m = true ↔ ∃ i, i < a ∧ hasM (zP s) (zR s (pm i)) m = true) → (∀ x, p x = true ↔ ∃ i, i < a ∧ pm i = x) →
      Fr [37, 38, 39, 40, 41] μ μ' → MkC (zP s) (zR s) (zn s) S p μ' → RowsC 37 a (zR q.1) (zt q.1) μ' →
      Wm G mX3_place E (bm G mX3_place E (pI Q)) μ' 11 [(0, .ref (gb G + 36)), (1, .ref (gb G + c1)), (2, .ref (gb G + 22)), (3, .int (nI q.2)), (4, .int (nI a))] [] := by
    intro d
    induction d with
    | zero =>
      intro a q pm S p μ' had hqn hqP hq2 he _ _ _ _ _ _ F _ hp
      have e0 : μ' c1 0 = nI (zn s) := by rw [F c1 (by simp; omega)]; exact hr.1
      have han : a = zn s := by omega
      have he' : q = orS (zn s) 0 (s, 0) := he
      rw [he', han] at hp
      rw [he', han]
      refine k_X3_place_11 C h1 (fun _ => s_rowsCopy h1 h37 (by omega) hn hp fun ν2 F2 hr2 => k_X3_place_111 C (k ν2 (fun c hc => ?_) hr2)) (fun z => ?_)
      · rw [F2 c (fun y => hc (by simp only [List.mem_cons, List.not_mem_nil, or_false] at y ⊢; omega)), F c (fun y => hc (by simp only [List.mem_cons, List.not_mem_nil, or_false] at y ⊢; omega))]
      · exfalso
        revert z
        rw [e0]
        simp (disch := omega) only [ofNat_nI, nI_add, pk_mul, nI_clamp, nI_leI, nI_ltI, nI_eq, vp_in_nI_iff, nI_subr, nI_m1r, m1_eq, m1_eq2, m1_le, m1_le2, m1_lt, m1_lt2, m1_self, cv_sub, cv_add1, cv_eq, cv_eqI, cv_eqI2, cv_m1, cv_lt0, cv_leI, cv_Ile, cv_le, cv_lt, cv_Ilt, cv_ltI, not_true, not_false_iff, true_implies, false_implies, false_or, or_false, true_and, and_true, false_and, and_false, true_or, or_true]
        omega
    | succ d ih =>
      intro a q pm S p μ' had hqn hqP hq2 he hpm hinj hsur hinc hS hpp F hk hp
      have e0 : μ' c1 0 = nI (zn s) := by rw [F c1 (by simp; omega)]; exact hr.1
      have hr' : RowsC c1 (zn s) (zR s) (zt s) μ' := hr.of (F c1 (by simp; omega)) (F (c1 + 1) (by simp; omega)) (F (c1 + 2) (by simp; omega))
      have hnew : ∀ i, i < zn s → newN (zP q.1) (zR q.1) i a = cuN (zP s) (zR s) (pm i) S := fun i hi => by
        rw [hqP]
        exact rw_new (fun i hi => (hpm i hi).1) (by omega) hi hS
      obtain ⟨b0, g0, eb⟩ : ∃ b0 g0, orB q.1 a (d + 1) = (b0, g0) := ⟨_, _, rfl⟩
      obtain ⟨m1, m2⟩ := bst_max eb
      have hb0 : b0 ≠ 0 := fun z => by have := m1 z; omega
      obtain ⟨m3, m4, m5, m6⟩ := m2 hb0
      have he2 : orS d (a + 1) (sOr q.1 a (a + (b0 - 1)), q.2 + (decide (0 < g0 - 1)).toNat) = orS (zn s) 0 (s, 0) := by
        rw [orS, eb] at he
        exact he
      have hcl := fun x => cu_le (zP s) (zR s) x S
      -- the class's best is the same row
      refine k_X3_place_11 C h1 (fun z => ?_) (fun _ => s_bestOf (u := fun x => if p x = true then 0 else cuN (zP s) (zR s) x S + 1) h1 (by omega) hr' (fun x hx => ?_) fun b hb u1 u2 => ?_)
      · exfalso
        revert z
        rw [e0]
        simp (disch := omega) only [ofNat_nI, nI_add, pk_mul, nI_clamp, nI_leI, nI_ltI, nI_eq, vp_in_nI_iff, nI_subr, nI_m1r, m1_eq, m1_eq2, m1_le, m1_le2, m1_lt, m1_lt2, m1_self, cv_sub, cv_add1, cv_eq, cv_eqI, cv_eqI2, cv_m1, cv_lt0, cv_leI, cv_Ile, cv_le, cv_lt, cv_Ilt, cv_ltI, not_true, not_false_iff, true_implies, false_implies, false_or, or_false, true_and, and_true, false_and, and_false, true_or, or_true]
        omega
      · rw [hk.2 x hx]
        by_cases y : p x = true
        · rw [if_pos y]
          show _ = cv (if p x = true then 0 else _) ∧ (if p x = true then 0 else _) < _
          rw [if_pos y]
          exact ⟨rfl, by omega⟩
        · rw [if_neg y]
          show _ = cv (if p x = true then 0 else _) ∧ (if p x = true then 0 else _) < _
          rw [if_neg y, cv_s]
          exact ⟨rfl, by have := hcl x; omega⟩
      · have pa : ∀ i, a ≤ i → i < zn s → ¬ p (pm i) = true := fun i h1 h2 z => by
          obtain ⟨j, j1, j2⟩ := (hpp _).mp z
          have := hinj j i (by omega) h2 j2
          omega
        have nb : ¬ p b = true := fun z => by
          have := u1 (pm a) (hpm a (by omega)).2.2
          simp only [if_pos z, if_neg (pa a (Nat.le_refl a) (by omega))] at this
          omega
        obtain ⟨ib, hib, eib⟩ := hsur b hb
        have hia : a ≤ ib := Nat.le_of_not_lt fun z => nb ((hpp b).mpr ⟨ib, z, eib⟩)
        have hval : ∀ i, a + i < zn s → newN (zP q.1) (zR q.1) (a + i) a = cuN (zP s) (zR s) (pm (a + i)) S := fun i hi => hnew _ hi
        have ej : ib = a + (b0 - 1) := by
          have v1 := m5 (ib - a) (by omega)
          have hv1 := hval (ib - a) (by omega)
          have hv2 := hval (b0 - 1) (by omega)
          rw [show a + (ib - a) = ib by omega] at v1 hv1
          have v2 := u1 (pm (a + (b0 - 1))) (hpm _ (by omega)).2.2
          simp only [if_neg nb, if_neg (pa (a + (b0 - 1)) (by omega) (by omega))] at v2
          rw [eib] at hv1
          refine Nat.le_antisymm (Nat.le_of_not_lt fun z => ?_) (Nat.le_of_not_lt fun z => ?_)
          · have l := hinc _ _ (by omega) z hib
            have := u2 (pm (a + (b0 - 1))) (by rw [← eib]; exact l)
            simp only [if_neg nb, if_neg (pa (a + (b0 - 1)) (by omega) (by omega))] at this
            omega
          · have := m6 (ib - a) (by omega)
            rw [show a + (ib - a) = ib by omega] at this
            omega
        have eg : g0 = cuN (zP s) (zR s) b S + 1 := by
          rw [m4, hval (b0 - 1) (by omega), ← ej, eib]
        have ebc : (nI b).toNatClampNeg = b := nI_clamp (by omega)
        have e40 : μ' 40 (nI b).toNatClampNeg = nI (cuN (zP s) (zR s) b S) := by rw [ebc, hk.2 b hb, if_neg nb]
        have ixb : vp_in (nI b) 64 := by
          simp (disch := omega) only [ofNat_nI, nI_add, pk_mul, nI_clamp, nI_leI, nI_ltI, nI_eq, vp_in_nI_iff, nI_subr, nI_m1r, m1_eq, m1_eq2, m1_le, m1_le2, m1_lt, m1_lt2, m1_self, cv_sub, cv_add1, cv_eq, cv_eqI, cv_eqI2, cv_m1, cv_lt0, cv_leI, cv_Ile, cv_le, cv_lt, cv_Ilt, cv_ltI, not_true, not_false_iff, true_implies, false_implies, false_or, or_false, true_and, and_true, false_and, and_false, true_or, or_true]
          omega
        refine k_X3_place_25 C h1 ixb (fun _ _ => ixb) (fun v hv => ?_)
        have hcb := hcl b
        have ev : v = nI (decide (0 < g0 - 1)).toNat := by
          rw [e40] at hv
          have hz : nI (cuN (zP s) (zR s) b S) ≤ 0 ↔ cuN (zP s) (zR s) b S ≤ 0 := nI_leI (b := 0) (by omega) (by omega)
          rw [hz] at hv
          rcases hv with ⟨y, e⟩ | ⟨y, e⟩
          · rw [e, decide_eq_false (by omega)]; rfl
          · rw [e, decide_eq_true (by omega)]; rfl
        have e1 : μ' (c1 + 1) (nI b).toNatClampNeg = rowI (zR s b) := by rw [ebc]; exact hr'.2.1 b hb
        rw [e1, ev, nI_add]
        refine s_append h37 (by omega) hp fun ν1 F1 hp1 => ?_
        have e2 : ν1 (c1 + 2) (nI b).toNatClampNeg = nI (zt s b) := by rw [ebc, F1 (c1 + 2) (by simp; omega)]; exact hr'.2.2 b hb
        have e3 : ∀ x y, (ms ν1 39 x y) (c1 + 1) (nI b).toNatClampNeg = rowI (zR s b) := fun x y => by rw [ms_ne (by omega), ebc, F1 (c1 + 1) (by simp; omega)]; exact hr'.2.1 b hb
        have hdl := bool_lt (decide (0 < g0 - 1))
        refine k_X3_place_59 C h1 ixb ?_ ?_
        · simp (disch := omega) only [ofNat_nI, nI_add, pk_mul, nI_clamp, nI_leI, nI_ltI, nI_eq, vp_in_nI_iff, nI_subr, nI_m1r, m1_eq, m1_eq2, m1_le, m1_le2, m1_lt, m1_lt2, m1_self, cv_sub, cv_add1, cv_eq, cv_eqI, cv_eqI2, cv_m1, cv_lt0, cv_leI, cv_Ile, cv_le, cv_lt, cv_Ilt, cv_ltI, not_true, not_false_iff, true_implies, false_implies, false_or, or_false, true_and, and_true, false_and, and_false, true_or, or_true]
          omega
        rw [e3, e2, nI_clamp (by omega)]
        have F1m : Fr [37, 38, 39, 40, 41] μ (ms ν1 39 a (nI (zt s b))) := (F.tr (F1.mono (by simp))).ms (by decide)
        have hk1 : MkC (zP s) (zR s) (zn s) S p (ms ν1 39 a (nI (zt s b))) := by
          unfold MkC
          rw [ms_ne (by decide), ms_ne (by decide), F1 40 (by decide), F1 41 (by decide)]
          exact hk
        have H1 : MxC (zP s) h (ms ν1 39 a (nI (zt s b))) := H.of fun c hc => F1m c (by simp; omega)
        have hr1 : RowsC c1 (zn s) (zR s) (zt s) (ms ν1 39 a (nI (zt s b))) := hr.of (F1m c1 (by simp; omega)) (F1m (c1 + 1) (by simp; omega)) (F1m (c1 + 2) (by simp; omega))
        refine s_markSeen h1 hc1 hW hM hn H1 hr1 (hR b hb) hk1 fun ν2 F2 hk2 => k_X3_place_89 C h1 ixb ?_
        rw [ebc, nI_1]
        -- what the state is then
        have bi1 : ∀ i, i < a → biN (a + (b0 - 1)) a i = i := fun i hi => by unfold biN; rw [if_neg (by omega), if_neg (by omega)]
        have bi2 : biN (a + (b0 - 1)) a a = ib := by unfold biN; rw [if_pos rfl]; omega
        have bilt : ∀ i, i < zn s → biN (a + (b0 - 1)) a i < zn s := fun i hi => by
          unfold biN
          split
          · omega
          · split <;> omega
        have F3 : Fr [37, 38, 39, 40, 41] μ (ms ν2 40 b (-1)) := (F1m.tr (F2.mono (by simp))).ms (by decide)
        refine ih (a + 1) (sOr q.1 a (a + (b0 - 1)), q.2 + (decide (0 < g0 - 1)).toNat) (fun i => pm (biN (a + (b0 - 1)) a i)) (fun m => S m || hasM (zP s) (zR s b) m) (fun x => p x || decide (x = b)) _ (by omega) hqn hqP (by show q.2 + (decide (0 < g0 - 1)).toNat ≤ a + 1; omega) he2 (fun i hi => ?_) (fun i j hi hj e => ?_) (fun x hx => ?_) (fun i j h1 h2 h3 => ?_) (fun m => ?_) (fun x => ?_) F3 ⟨fun m hm => ?_, fun x hx => ?_⟩ ⟨?_, fun j hj => ?_, fun j hj => ?_⟩
        · have hh := hpm _ (bilt i hi)
          refine ⟨?_, ?_, hh.2.2⟩
          · show brg (zR q.1) (a + (b0 - 1)) a i = _
            rw [brg_bi]; exact hh.1
          · show brg (zt q.1) (a + (b0 - 1)) a i = _
            rw [brg_bi]; exact hh.2.1
        · have := hinj _ _ (bilt i hi) (bilt j hj) e
          unfold biN at this
          split at this <;> split at this <;> (try split at this) <;> (try split at this) <;> omega
        · obtain ⟨i, hi, e⟩ := hsur x hx
          refine ⟨if i = a + (b0 - 1) then a else if a ≤ i ∧ i < a + (b0 - 1) then i + 1 else i, ?_, ?_⟩
          · split
            · omega
            · split <;> omega
          · show pm (biN (a + (b0 - 1)) a _) = x
            rw [← e]
            congr 1
            unfold biN
            split
            · rw [if_pos rfl]; omega
            · split
              · rw [if_neg (by omega), if_pos (by omega)]; omega
              · rw [if_neg (by omega), if_neg (by omega)]
        · show pm (biN (a + (b0 - 1)) a i) < pm (biN (a + (b0 - 1)) a j)
          obtain ⟨w1, w2⟩ := bi_mono (J := a + (b0 - 1)) (show a < i by omega) h2
          exact hinc _ _ w1 w2 (bilt j h3)
        · rw [Bool.or_eq_true, hS]
          constructor
          · rintro (⟨i, hi, z⟩ | z)
            · exact ⟨i, by omega, by show hasM (zP s) (zR s (pm (biN _ a i))) m = true; rw [bi1 i hi]; exact z⟩
            · exact ⟨a, by omega, by show hasM (zP s) (zR s (pm (biN _ a a))) m = true; rw [bi2, eib]; exact z⟩
          · rintro ⟨i, hi, z⟩
            replace z : hasM (zP s) (zR s (pm (biN (a + (b0 - 1)) a i))) m = true := z
            by_cases y : i = a
            · rw [y, bi2, eib] at z; exact Or.inr z
            · rw [bi1 i (by omega)] at z; exact Or.inl ⟨i, by omega, z⟩
        · rw [Bool.or_eq_true, hpp, decide_eq_true_iff]
          constructor
          · rintro (⟨i, hi, z⟩ | z)
            · exact ⟨i, by omega, by show pm (biN _ a i) = x; rw [bi1 i hi]; exact z⟩
            · exact ⟨a, by omega, by show pm (biN _ a a) = x; rw [bi2, eib]; exact z.symm⟩
          · rintro ⟨i, hi, z⟩
            replace z : pm (biN (a + (b0 - 1)) a i) = x := z
            by_cases y : i = a
            · rw [y, bi2, eib] at z; exact Or.inr z.symm
            · rw [bi1 i (by omega)] at z; exact Or.inl ⟨i, by omega, z⟩
        · rw [ms_ne (by decide)]; exact hk2.1 m hm
        · rw [ms_row, upd_at]
          show (if x = b then (-1 : Int32) else ν2 40 x) = if (p x || decide (x = b)) = true then -1 else nI (cuN (zP s) (zR s) x (fun m => S m || hasM (zP s) (zR s b) m))
          by_cases y : x = b
          · rw [if_pos y, decide_eq_true y, Bool.or_true, if_pos rfl]
          · rw [if_neg y, decide_eq_false y, Bool.or_false]; exact hk2.2 x hx
        · rw [ms_ne (by decide), F2 37 (by decide), ms_ne (by decide)]; exact hp1.1
        · rw [ms_ne (by decide), F2 38 (by decide), ms_ne (by decide)]
          show _ = rowI (brg (zR q.1) (a + (b0 - 1)) a j)
          rw [brg_bi]
          have := hp1.2.1 j hj
          refine this.trans ?_
          unfold psh
          by_cases y : j = a
          · rw [if_pos y, y, bi2, (hpm ib hib).1, eib]
          · rw [if_neg y, bi1 j (by omega)]
        · rw [ms_ne (by decide), F2 39 (by decide), ms_row, upd_at]
          show _ = nI (brg (zt q.1) (a + (b0 - 1)) a j)
          rw [brg_bi]
          by_cases y : j = a
          · rw [if_pos y, y, bi2, (hpm ib hib).2.1, eib]
          · rw [if_neg y, bi1 j (by omega)]
            have := hp1.2.2 j hj
            refine this.trans ?_
            unfold psh
            rw [if_neg y]
  exact loop (zn s) 0 (s, 0) (fun i => i) (fun _ => false) (fun _ => false) ν (by omega) rfl rfl (Nat.le_refl _) rfl (fun i hi => ⟨rfl, rfl, hi⟩) (fun i j _ _ e => e) (fun x hx => ⟨x, hx, rfl⟩) (fun i j _ h _ => h) (fun m => ⟨fun z => absurd z Bool.false_ne_true, fun ⟨i, hi, _⟩ => absurd hi (Nat.not_lt_zero i)⟩) (fun m => ⟨fun z => absurd z Bool.false_ne_true, fun ⟨i, hi, _⟩ => absurd hi (Nat.not_lt_zero i)⟩) (F.mono (by simp)) hk ⟨z0, fun j hj => absurd hj (Nat.not_lt_zero j), fun j hj => absurd hj (Nat.not_lt_zero j)⟩

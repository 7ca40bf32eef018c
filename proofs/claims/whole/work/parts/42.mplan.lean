/-! THE MODEL: nevers read, all read, plan -/
def NvC (g : Nat → Int32) (m : Nat) (a : Nat → Nat) : Prop := ∃ cl le : Nat → Nat, (∀ k, k < m → g (1 + 2 * k) = nI (cl k) ∧ g (2 + 2 * k) = nI (le k) ∧ a (cl k) = le k + 1 ∧ cl k < 8 ∧ le k < 4) ∧ ∀ c, a c ≠ 0 → ∃ k, k < m ∧ cl k = c
theorem NvC.add {g : Nat → Int32} {m c v : Nat} {a : Nat → Nat} (h : NvC g m a) (hc : c < 8) (hv : v < 4) (h0 : a c = 0) : NvC (upd (upd g (1 + 2 * m) (nI c)) (2 + 2 * m) (nI v)) (m + 1) (up a c (v + 1)) := by
  obtain ⟨cl, le, h1, h2⟩ := h
  refine ⟨fun k => if k = m then c else cl k, fun k => if k = m then v else le k, fun k hk => ?_, fun j hj => ?_⟩
  · show _ = nI (if k = m then c else cl k) ∧ _ = nI (if k = m then v else le k) ∧ up a c (v + 1) (if k = m then c else cl k) = (if k = m then v else le k) + 1 ∧ (if k = m then c else cl k) < 8 ∧ (if k = m then v else le k) < 4
    by_cases q : k = m
    · subst q
      rw [if_pos rfl, if_pos rfl, upd_at, if_neg (by omega), upd_at, if_pos rfl, upd_at, if_pos rfl, up_at, if_pos rfl]
      exact ⟨rfl, rfl, rfl, hc, hv⟩
    · obtain ⟨e1, e2, e3, e4, e5⟩ := h1 k (by omega)
      rw [if_neg q, if_neg q, upd_at, if_neg (by omega), upd_at, if_neg (by omega), upd_at, if_neg (by omega), upd_at, if_neg (by omega), up_at]
      have hne : cl k ≠ c := fun z => by rw [z, h0] at e3; omega
      rw [if_neg hne]
      exact ⟨e1, e2, e3, e4, e5⟩
  · rw [up_at] at hj
    by_cases q : j = c
    · exact ⟨m, by omega, by show (if m = m then c else cl m) = j; rw [if_pos rfl, q]⟩
    · rw [if_neg q] at hj
      obtain ⟨k, hk, e⟩ := h2 j hj
      exact ⟨k, by omega, by show (if k = m then c else cl k) = j; rw [if_neg (by omega)]; exact e⟩
theorem s_hasColumn {G : mG} {Q : Int32 → mM → Prop} {μ : mM} {r m c : Nat} {a : Nat → Nat} (hm : m ≤ 3) (hr : r + 7 ≤ 673) (hc : c < 8) (h : NvC (fun k => μ 136 (r + k)) m a)
    (k : Q (nI (decide (a c ≠ 0)).toNat) μ) : CtI G mX12_hasColumn [.ref (gb G + 132), .int (nI r), .int (nI m), .int (nI c)] μ Q := by
  obtain ⟨cl, le, h1, h2⟩ := h
  refine e_X12_hasColumn fun E C => k_X12_hasColumn_0 C ?_
  have loop : ∀ (d i : Nat), i + d = m → (∀ i', i' < i → cl i' ≠ c) → Wm G mX12_hasColumn E (bm G mX12_hasColumn E (pI Q)) μ 3 [(0, .ref (gb G + 132)), (1, .int (nI r)), (2, .int (nI m)), (3, .int (nI c)), (4, .int (nI i))] [] := by
    intro d
    induction d with
    | zero =>
      intro i hi hall
      have e : decide (a c ≠ 0) = false := decide_eq_false fun z => by
        obtain ⟨k', hk', e⟩ := h2 c z
        exact hall k' (by omega) e
      rw [e] at k
      refine k_X12_hasColumn_3 C (fun _ => k) (fun z => ?_) (fun z => ?_) (fun z => ?_)
      all_goals
        exfalso
        revert z
        simp (disch := omega) only [ofNat_nI, nI_add, pk_mul, nI_clamp, nI_leI, nI_ltI, nI_eq, vp_in_nI_iff, nI_subr, nI_m1r, m1_eq, m1_eq2, m1_le, m1_le2, m1_lt, m1_lt2, m1_self, cv_sub, cv_add1, cv_eq, cv_eqI, cv_eqI2, cv_m1, cv_lt0, cv_leI, cv_Ile, cv_le, cv_lt, cv_Ilt, cv_ltI, not_true, not_false_iff, true_implies, false_implies, false_or, or_false, true_and, and_true, false_and, and_false, true_or, or_true]
        omega
    | succ d ih =>
      intro i hi hall
      obtain ⟨e1, e2, e3, e4, e5⟩ := h1 i (by omega)
      have ei : (nI r + 1 + 2 * nI i : Int32) = nI (r + (1 + 2 * i)) := by
        rw [show (1 : Int32) = nI 1 from rfl, show (2 : Int32) = nI 2 from rfl, pk_mul, nI_add, nI_add]
        congr 1
        omega
      have ecl : (nI r + 1 + 2 * nI i : Int32).toNatClampNeg = r + (1 + 2 * i) := by rw [ei, nI_clamp (by omega)]
      refine k_X12_hasColumn_3 C (fun z => ?_) (fun _ => ?_) (fun _ z => ?_) (fun _ z => ?_)
      · exfalso
        revert z
        simp (disch := omega) only [ofNat_nI, nI_add, pk_mul, nI_clamp, nI_leI, nI_ltI, nI_eq, vp_in_nI_iff, nI_subr, nI_m1r, m1_eq, m1_eq2, m1_le, m1_le2, m1_lt, m1_lt2, m1_self, cv_sub, cv_add1, cv_eq, cv_eqI, cv_eqI2, cv_m1, cv_lt0, cv_leI, cv_Ile, cv_le, cv_lt, cv_Ilt, cv_ltI, not_true, not_false_iff, true_implies, false_implies, false_or, or_false, true_and, and_true, false_and, and_false, true_or, or_true]
        omega
      · rw [ei]
        simp (disch := omega) only [ofNat_nI, nI_add, pk_mul, nI_clamp, nI_leI, nI_ltI, nI_eq, vp_in_nI_iff, nI_subr, nI_m1r, m1_eq, m1_eq2, m1_le, m1_le2, m1_lt, m1_lt2, m1_self, cv_sub, cv_add1, cv_eq, cv_eqI, cv_eqI2, cv_m1, cv_lt0, cv_leI, cv_Ile, cv_le, cv_lt, cv_Ilt, cv_ltI, not_true, not_false_iff, true_implies, false_implies, false_or, or_false, true_and, and_true, false_and, and_false, true_or, or_true]
        omega
      · rw [ecl] at z
        replace e1 : μ 136 (r + (1 + 2 * i)) = nI (cl i) := e1
        rw [e1, nI_eq (by omega) (by omega)] at z
        simp (disch := omega) only [ofNat_nI, nI_add, pk_mul, nI_clamp, nI_leI, nI_ltI, nI_eq, vp_in_nI_iff, nI_subr, nI_m1r, m1_eq, m1_eq2, m1_le, m1_le2, m1_lt, m1_lt2, m1_self, cv_sub, cv_add1, cv_eq, cv_eqI, cv_eqI2, cv_m1, cv_lt0, cv_leI, cv_Ile, cv_le, cv_lt, cv_Ilt, cv_ltI, not_true, not_false_iff, true_implies, false_implies, false_or, or_false, true_and, and_true, false_and, and_false, true_or, or_true]
        refine ih (i + 1) (by omega) (fun i' hi' => ?_)
        by_cases q : i' = i
        · rw [q]; exact z
        · exact hall i' (by omega)
      · rw [ecl] at z
        replace e1 : μ 136 (r + (1 + 2 * i)) = nI (cl i) := e1
        rw [e1, nI_eq (by omega) (by omega)] at z
        have e : decide (a c ≠ 0) = true := decide_eq_true (by rw [← z, e3]; omega)
        rw [e] at k
        exact k
  exact loop m 0 (by omega) (fun i' hi' => absurd hi' (Nat.not_lt_zero i'))
theorem RdP.nev {g g' : Nat → Int32} {P : Pl} {m : Nat} {V : Nat → Nat} (hP : PW P) (hN : qN P < 12) (h : RdP g P) (h1 : ∀ j, j ≠ 2 → (j < 13 + 7 * qN P ∨ 20 + 7 * qN P ≤ j) → g' j = g j) (h2 : g' 2 = nI (qN P + 1)) (h3 : g' (13 + 7 * qN P) = nI m) (hm : m ≤ 3) (hv : NvC (fun k => g' (13 + 7 * qN P + k)) m V) :
    RdP g' (qC P, qT P, qL P, qN P + 1, fun i => if i = qN P then V else qV P i) := by
  obtain ⟨⟨a, b, c, d, e⟩, f⟩ := h
  have hC8 := hP.ct.2.2.2
  refine ⟨⟨by rw [h1 0 (by omega) (by omega)]; exact a, by rw [h1 1 (by omega) (by omega)]; exact b, h2, fun i hi => ?_, fun i hi => ?_⟩, by rw [h1 3 (by omega) (by omega)]; exact f⟩
  · have hi' : i < qC P := hi
    rw [h1 _ (by omega) (by omega)]; exact d i hi
  · replace hi : i < qN P + 1 := hi
    show NvR (fun k => g' (13 + 7 * i + k)) (if i = qN P then V else qV P i)
    by_cases q : i = qN P
    · rw [if_pos q]
      subst q
      obtain ⟨cl, le, q1, q2⟩ := hv
      exact ⟨m, cl, le, hm, h3, q1, q2⟩
    · rw [if_neg q]
      exact (e i (by omega)).of (fun k hk => h1 _ (by omega) (by omega))
theorem s_readsNever {G : mG} {Q : Int32 → mM → Prop} {μ : mM} {T : Tx} (ht : Tm T μ) {b : Nat} (hb : b ≤ T.2) (h2 : μ 132 2 = nI b) (hw : wdB T 2 b = true) {P : Pl} (hP : PW P) (hg : RdP (μ 136) P)
    (k0 : ∀ μ' x, (qN P = 12 ∧ x = 8 * b + 3) ∨ (qN P ≠ 12 ∧ clP T (qC P) (qL P) 4 (sb T (b + 5)) 0 (fun _ => 0) = .inl x) → PR μ μ' → μ' 132 3 = nI x → Q 0 μ')
    (k1 : ∀ μ' q, qN P ≠ 12 → clP T (qC P) (qL P) 4 (sb T (b + 5)) 0 (fun _ => 0) = .inr q → PR μ μ' → μ' 132 9 = μ 132 9 → q.1 ≤ T.2 → sb T q.1 = q.1 → b < q.1 → μ' 132 2 = nI q.1 → RdP (μ' 136) (qC P, qT P, qL P, qN P + 1, fun i => if i = qN P then q.2 else qV P i) → Q 1 μ') : CtI G mX12_readsNever [.ref (gb G + 132)] μ Q := by
  have hn := ht.1
  have hN12 := hP.2.2.2.2.1
  have hC8 := hP.ct.2.2.2
  have eN : μ 136 2 = nI (qN P) := hg.1.2.2.1
  have e12 : nI (qN P) = 12 ↔ qN P = 12 := nI_eq (b := 12) (by omega) (by omega)
  refine e_X12_readsNever fun E X => k_X12_readsNever_0 X (fun z => ?_) (fun z => ?_)
  · rw [eN, e12] at z
    refine s_passesWord ht hb h2 fun μ1 C1 h1 => k_X12_readsNever_25 X ?_
    rw [wdB_sl (by omega) hw] at h1
    have hb5 : b + 5 ≤ T.2 := wdB_le (w := 2) (by omega) hw
    have h1' : μ1 132 2 = nI (b + 5) := h1
    have e136 : μ1 136 = μ 136 := C1.1 136 (by decide)
    have eN1 : μ1 136 2 = nI (qN P) := by rw [e136]; exact eN
    rw [eN1, show (13 : Int32) = nI 13 from rfl, show (7 : Int32) = nI 7 from rfl, pk_mul, nI_add]
    generalize hr : 13 + 7 * qN P = r at *
    have hr91 : r + 7 ≤ 97 := by omega
    have bad : ∀ (μ' : mM) (x kk aa : Nat), clP T (qC P) (qL P) 4 (sb T (b + 5)) 0 (fun _ => 0) = .inl x → x = 8 * aa + kk → PR μ μ' → ∀ v, v = nI (8 * aa + kk) → Q 0 (ms μ' 132 3 v) := fun μ' x kk aa e hx hPR v hv => by
      refine k0 _ x (Or.inr ⟨z, e⟩) (hPR.m2 (by decide)) ?_
      rw [ms_row, upd_at, if_pos rfl, hv, hx]
    have e8 : ∀ aa kk, (8 * nI aa + nI kk : Int32) = nI (8 * aa + kk) := fun aa kk => by
      rw [show (8 : Int32) = nI 8 from rfl, pk_mul, nI_add]
    -- what stays of the array that is read
    have loop : ∀ (f p m : Nat) (V : Nat → Nat) (μ' : mM), m + f = 4 → m ≤ 3 → p ≤ T.2 → b < p → μ' 132 2 = nI p → PR μ μ' → μ' 132 9 = μ 132 9 → (∀ j, (j < r ∨ r + 7 ≤ j) → μ' 136 j = μ 136 j) → NvC (fun k => μ' 136 (r + k)) m V →
        clP T (qC P) (qL P) f (sb T p) m V = clP T (qC P) (qL P) 4 (sb T (b + 5)) 0 (fun _ => 0) → Wm G mX12_readsNever E (bm G mX12_readsNever E (pI Q)) μ' 42 [(0, .ref (gb G + 132)), (1, .int (nI r)), (2, .int (nI m)), (3, .int 1)] [] := by
      intro f
      induction f with
      | zero => intro p m V μ' hm hm3; omega
      | succ f ih =>
        intro p m V μ' hm hm3 hp hbp h2' hPR h9 hrest hv e
        refine k_X12_readsNever_42 X (fun y => absurd y (by decide)) (fun y => absurd y (by decide)) (fun _ => ?_)
        obtain ⟨q1, q2, q3⟩ := sb_ge T p
        have qa := q3 hp
        rw [clP] at e
        refine s_readsNumber (ht.pr hPR) hp h2' (fun μ2 w C2 h23 => ?_) (fun μ2 w hD C2 h22 h25 hw5 hwm h26 => ?_)
        · refine k_X12_readsNever_50 X (fun y => absurd rfl y) (fun y => absurd rfl y) (fun _ => ?_)
          rw [if_neg (by rw [w]; decide)] at e
          exact k0 μ2 _ (Or.inr ⟨z, e.symm⟩) (hPR.tr (C2.pr (by decide))) h23
        · rw [if_pos hD] at e
          generalize sb T p = a at *
          have P2 : PR μ μ2 := hPR.tr (C2.pr (by decide))
          have h92 : μ2 132 9 = μ 132 9 := (C2.2 9 (by decide)).trans h9
          have g2 : μ2 136 = μ' 136 := C2.1 136 (by decide)
          have c0 : μ2 136 0 = nI (qC P) := by rw [g2, hrest 0 (by omega)]; exact hg.1.1
          obtain ⟨d1, d2, d3⟩ := sd_ge T a
          have hd3 := d3 qa
          have ec1 : nI (qC P) - 1 = nI (qC P - 1) := by
            have := hP.1
            rw [show (1 : Int32) = nI 1 from rfl, nI_subr (by omega)]
          have wC : nI (qC P - 1) < nI w ↔ qC P ≤ nm T a := (nI_ltI (by omega) (by omega)).trans (by have := hP.1; omega)
          refine k_X12_readsNever_50 X (fun _ y => ?_) (fun _ y1 y2 => ?_) (fun y => absurd y (by decide))
          · rw [h25, c0, ec1, lg0_lt, lgi_gt, wC] at y
            have hc : qC P ≤ nm T a ∨ V (nm T a) ≠ 0 := by
              rcases y with y | y
              · exact absurd y (nI_pos (by omega))
              · exact Or.inl y.2
            rw [if_pos hc] at e
            refine k_X12_readsNever_89 X (bad μ2 _ 2 a e.symm rfl P2 _ ?_)
            rw [h26]
            exact e8 a 2
          · rw [h25, c0, ec1, lgi_gt, wC] at y2
            have hwn : w = nm T a := by omega
            rw [h25]
            have hv2 : NvC (fun k => μ2 136 (r + k)) m V := by rw [g2]; exact hv
            refine s_hasColumn hm3 (by omega) (by omega) hv2 (k_X12_readsNever_86 X (fun y3 y4 => ?_) (fun y3 y4 => ?_) (fun y3 => ?_))
            · rw [nI_b0] at y3
              have hV0 : V w = 0 := Classical.byContradiction fun y => by rw [decide_eq_true y] at y3; cases y3
              have hm3' : m ≠ 3 := fun y => y4 (by rw [y]; rfl)
              rw [if_neg (by rintro (y | y); exact y2 y; rw [← hwn] at y; exact y hV0), if_neg hm3'] at e
              refine s_next (ht.pr P2) hd3 h22 fun μ3 C3 h32 => ?_
              obtain ⟨u1, u2, u3⟩ := sb_ge T (sd T a)
              have hu := u3 hd3
              generalize sd T a = a1 at *
              generalize sb T a1 = c1 at *
              have P3 : PR μ μ3 := P2.tr (C3.pr (by decide))
              have h93 : μ3 132 9 = μ 132 9 := (C3.2 9 (by decide)).trans h92
              have h35 : μ3 132 5 = nI w := (C3.2 5 (by decide)).trans h25
              have g3 : μ3 136 = μ' 136 := (C3.1 136 (by decide)).trans g2
              have h46 : btI T c1 = 46 ↔ isC T c1 46 = true := btC (ch := 46) (ht.2.1 _) (by decide)
              refine k_X12_readsNever_124 X (fun y5 => ?_) (fun y5 => ?_)
              · rw [h46] at y5
                rw [if_pos y5] at e
                have hc1 := (isC_iff.mp y5).1
                obtain ⟨v1, v2, v3⟩ := sb_ge T (c1 + 1)
                have hv3 := v3 (by omega)
                have h42 : (ms μ3 132 2 (μ3 132 2 + 1)) 132 2 = nI (c1 + 1) := by rw [ms_row, upd_at, if_pos rfl, h32]; exact nI_1 c1
                have P4 : PR μ (ms μ3 132 2 (μ3 132 2 + 1)) := P3.m2 (by decide)
                have h94 : (ms μ3 132 2 (μ3 132 2 + 1)) 132 9 = μ 132 9 := by rw [ms_row, upd_at, if_neg (by decide)]; exact h93
                have g4 : (ms μ3 132 2 (μ3 132 2 + 1)) 136 = μ' 136 := by rw [ms_ne (by decide)]; exact g3
                generalize ms μ3 132 2 (μ3 132 2 + 1) = μ4 at P4 h42 h94 g4 ⊢
                refine s_readsNumber (ht.pr P4) (by omega) h42 (fun μ5 w5 C5 h53 => ?_) (fun μ5 w2 hD2 C5 h52 h55 hw5' hwm2 h56 => ?_)
                · rw [if_neg (by rw [w5]; decide)] at e
                  refine k_X12_readsNever_153 X (fun y => absurd rfl y) (fun y => absurd rfl y) (fun y => absurd rfl y) (fun y => absurd rfl y) (fun y => absurd rfl y) (fun _ => ?_)
                  exact k0 μ5 _ (Or.inr ⟨z, e.symm⟩) (P4.tr (C5.pr (by decide))) h53
                · rw [if_pos hD2] at e
                  generalize sb T (c1 + 1) = a2 at *
                  have P5 : PR μ μ5 := P4.tr (C5.pr (by decide))
                  have h95 : μ5 132 9 = μ 132 9 := (C5.2 9 (by decide)).trans h94
                  have g5 : μ5 136 = μ' 136 := (C5.1 136 (by decide)).trans g4
                  have hwC : w < qC P := by omega
                  have l4 := hP.lv hwC
                  have eL : μ5 136 (5 + w) = nI (qL P w) := by rw [g5, hrest _ (by omega)]; exact hg.1.2.2.2.1 w hwC
                  obtain ⟨x1, x2, x3⟩ := sd_ge T a2
                  have hx3 := x3 hv3
                  have wl : nI w2 < nI (qL P w) ↔ ¬ qL P w ≤ nm T a2 := (nI_ltI (by omega) (by omega)).trans (by omega)
                  have e5c : (5 + nI w : Int32).toNatClampNeg = 5 + w := by rw [show (5 : Int32) = nI 5 from rfl, nI_add, nI_clamp (by omega)]
                  have er1 : (nI r + 1 + 2 * nI m : Int32) = nI (r + (1 + 2 * m)) := by
                    rw [show (1 : Int32) = nI 1 from rfl, show (2 : Int32) = nI 2 from rfl, pk_mul, nI_add, nI_add]
                    congr 1
                    omega
                  have er2 : (nI r + 2 + 2 * nI m : Int32) = nI (r + (2 + 2 * m)) := by
                    rw [show (2 : Int32) = nI 2 from rfl, pk_mul, nI_add, nI_add]
                    congr 1
                    omega
                  have er1c : (nI r + 1 + 2 * nI m : Int32).toNatClampNeg = r + (1 + 2 * m) := by rw [er1, nI_clamp (by omega)]
                  have er2c : (nI r + 2 + 2 * nI m : Int32).toNatClampNeg = r + (2 + 2 * m) := by rw [er2, nI_clamp (by omega)]
                  rw [h25]
                  refine k_X12_readsNever_153 X (fun _ => ?_) (fun _ _ => ?_) (fun _ _ => ?_) (fun _ y6 => ?_) (fun _ y6 => ?_) (fun y => absurd y (by decide))
                  · simp (disch := omega) only [ofNat_nI, nI_add, pk_mul, nI_clamp, nI_leI, nI_ltI, nI_eq, vp_in_nI_iff, nI_subr, nI_m1r, m1_eq, m1_eq2, m1_le, m1_le2, m1_lt, m1_lt2, m1_self, cv_sub, cv_add1, cv_eq, cv_eqI, cv_eqI2, cv_m1, cv_lt0, cv_leI, cv_Ile, cv_le, cv_lt, cv_Ilt, cv_ltI, not_true, not_false_iff, true_implies, false_implies, false_or, or_false, true_and, and_true, false_and, and_false, true_or, or_true]
                    omega
                  · rw [er1]
                    simp (disch := omega) only [ofNat_nI, nI_add, pk_mul, nI_clamp, nI_leI, nI_ltI, nI_eq, vp_in_nI_iff, nI_subr, nI_m1r, m1_eq, m1_eq2, m1_le, m1_le2, m1_lt, m1_lt2, m1_self, cv_sub, cv_add1, cv_eq, cv_eqI, cv_eqI2, cv_m1, cv_lt0, cv_leI, cv_Ile, cv_le, cv_lt, cv_Ilt, cv_ltI, not_true, not_false_iff, true_implies, false_implies, false_or, or_false, true_and, and_true, false_and, and_false, true_or, or_true]
                    omega
                  · rw [er2]
                    simp (disch := omega) only [ofNat_nI, nI_add, pk_mul, nI_clamp, nI_leI, nI_ltI, nI_eq, vp_in_nI_iff, nI_subr, nI_m1r, m1_eq, m1_eq2, m1_le, m1_le2, m1_lt, m1_lt2, m1_self, cv_sub, cv_add1, cv_eq, cv_eqI, cv_eqI2, cv_m1, cv_lt0, cv_leI, cv_Ile, cv_le, cv_lt, cv_Ilt, cv_ltI, not_true, not_false_iff, true_implies, false_implies, false_or, or_false, true_and, and_true, false_and, and_false, true_or, or_true]
                    omega
                  · rw [h55, e5c, eL, wl] at y6
                    rw [← hwn, if_neg y6] at e
                    have hw2n : w2 = nm T a2 := by omega
                    rw [er1c, er2c, h55]
                    -- the cell lies in the array
                    have hv6 : NvC (fun k => ms (ms μ5 136 (r + (1 + 2 * m)) (nI w)) 136 (r + (2 + 2 * m)) (nI w2) 136 (r + k)) (m + 1) (up V w (nm T a2 + 1)) := by
                      have hv5 : NvC (fun k => μ5 136 (r + k)) m V := by rw [g5]; exact hv
                      have := hv5.add (c := w) (v := w2) (by omega) (by omega) hV0
                      rw [hw2n] at this ⊢
                      have ef : (fun k => ms (ms μ5 136 (r + (1 + 2 * m)) (nI w)) 136 (r + (2 + 2 * m)) (nI (nm T a2)) 136 (r + k)) = upd (upd (fun k => μ5 136 (r + k)) (1 + 2 * m) (nI w)) (2 + 2 * m) (nI (nm T a2)) := by
                        funext k
                        rw [ms_row, ms_row, upd_at, upd_at, upd_at, upd_at]
                        by_cases y : k = 2 + 2 * m
                        · rw [if_pos (by omega), if_pos y]
                        · rw [if_neg (by omega), if_neg y]
                          by_cases y' : k = 1 + 2 * m
                          · rw [if_pos (by omega), if_pos y']
                          · rw [if_neg (by omega), if_neg y']
                      rw [ef]
                      exact this
                    have hrest6 : ∀ j, (j < r ∨ r + 7 ≤ j) → ms (ms μ5 136 (r + (1 + 2 * m)) (nI w)) 136 (r + (2 + 2 * m)) (nI w2) 136 j = μ 136 j := fun j hj => by
                      rw [ms_row, ms_row, upd_at, if_neg (by omega), upd_at, if_neg (by omega), g5]
                      exact hrest j hj
                    have P6 : PR μ (ms (ms μ5 136 (r + (1 + 2 * m)) (nI w)) 136 (r + (2 + 2 * m)) (nI w2)) := P5.m6.m6
                    have h62 : ms (ms μ5 136 (r + (1 + 2 * m)) (nI w)) 136 (r + (2 + 2 * m)) (nI w2) 132 2 = nI (sd T a2) := by rw [ms_ne (by decide), ms_ne (by decide)]; exact h52
                    have h69 : ms (ms μ5 136 (r + (1 + 2 * m)) (nI w)) 136 (r + (2 + 2 * m)) (nI w2) 132 9 = μ 132 9 := by rw [ms_ne (by decide), ms_ne (by decide)]; exact h95
                    generalize ms (ms μ5 136 (r + (1 + 2 * m)) (nI w)) 136 (r + (2 + 2 * m)) (nI w2) = μ6 at hv6 hrest6 P6 h62 h69 ⊢
                    refine s_next (ht.pr P6) hx3 h62 fun μ7 C7 h72 => ?_
                    have hbb := sb_sb T (sd T a2)
                    obtain ⟨s1, s2, s3⟩ := sb_ge T (sd T a2)
                    have hs3 := s3 hx3
                    generalize sd T a2 = a3 at *
                    generalize sb T a3 = g at *
                    have P7 : PR μ μ7 := P6.tr (C7.pr (by decide))
                    have h97 : μ7 132 9 = μ 132 9 := (C7.2 9 (by decide)).trans h69
                    have g7 : μ7 136 = μ6 136 := C7.1 136 (by decide)
                    have h38 : btI T g = 38 ↔ isC T g 38 = true := btC (ch := 38) (ht.2.1 _) (by decide)
                    have em1 : nI m + 1 = nI (m + 1) := nI_1 m
                    rw [em1]
                    refine k_X12_readsNever_221 X (fun v hv' y7 => ?_) (fun v hv' y7 => ?_)
                    · have hf : ¬ isC T g 38 = true := by
                        rw [h38] at hv'
                        rcases hv' with ⟨y, -⟩ | ⟨-, y⟩
                        · exact y
                        · rw [y] at y7; exact absurd y7 (by decide)
                      rw [if_neg hf] at e
                      subst y7
                      refine k_X12_readsNever_42 X (fun _ => ?_) (fun _ => ?_) (fun y => absurd rfl y)
                      · simp (disch := omega) only [ofNat_nI, nI_add, pk_mul, nI_clamp, nI_leI, nI_ltI, nI_eq, vp_in_nI_iff, nI_subr, nI_m1r, m1_eq, m1_eq2, m1_le, m1_le2, m1_lt, m1_lt2, m1_self, cv_sub, cv_add1, cv_eq, cv_eqI, cv_eqI2, cv_m1, cv_lt0, cv_leI, cv_Ile, cv_le, cv_lt, cv_Ilt, cv_ltI, not_true, not_false_iff, true_implies, false_implies, false_or, or_false, true_and, and_true, false_and, and_false, true_or, or_true]
                        omega
                      · rw [nI_clamp (by omega)]
                        have e2' : ms μ7 136 r (nI (m + 1)) 136 2 = nI (qN P) := by rw [ms_row, upd_at, if_neg (by omega), g7, hrest6 2 (by omega)]; exact eN
                        rw [e2', show nI (qN P) + 1 = nI (qN P + 1) from nI_1 _]
                        refine k1 _ _ z e.symm P7.m6.m6 ?_ hs3 hbb (by show b < g; omega) ?_ ?_
                        · rw [ms_ne (by decide), ms_ne (by decide)]; exact h97
                        · rw [ms_ne (by decide), ms_ne (by decide)]; exact h72
                        · subst hr
                          refine RdP.nev hP (by omega) hg (fun j hj2 hj => ?_) ?_ ?_ (by omega : m + 1 ≤ 3) ?_
                          · rw [ms_row, ms_row, upd_at, if_neg hj2, upd_at, if_neg (by omega), g7]
                            exact hrest6 j (by omega)
                          · rw [ms_row, upd_at, if_pos rfl]
                          · rw [ms_row, ms_row, upd_at, if_neg (by omega), upd_at, if_pos rfl]
                          · obtain ⟨cl, le, i1, i2⟩ := hv6
                            refine ⟨cl, le, fun k hk => ?_, i2⟩
                            obtain ⟨j1, j2, j3⟩ := i1 k hk
                            refine ⟨?_, ?_, j3⟩
                            · show ms _ 136 2 _ 136 (13 + 7 * qN P + (1 + 2 * k)) = _
                              rw [ms_row, ms_row, upd_at, if_neg (by omega), upd_at, if_neg (by omega), g7]
                              exact j1
                            · show ms _ 136 2 _ 136 (13 + 7 * qN P + (2 + 2 * k)) = _
                              rw [ms_row, ms_row, upd_at, if_neg (by omega), upd_at, if_neg (by omega), g7]
                              exact j2
                    · have hy : isC T g 38 = true := by
                        rw [h38] at hv'
                        rcases hv' with ⟨-, y⟩ | ⟨y, -⟩
                        · exact absurd y y7
                        · exact y
                      have ev : v = 1 := by
                        rw [h38] at hv'
                        rcases hv' with ⟨y, -⟩ | ⟨-, y⟩
                        · exact absurd hy y
                        · exact y
                      rw [if_pos hy] at e
                      subst ev
                      have hgl := (isC_iff.mp hy).1
                      refine ih (g + 1) (m + 1) _ _ (by omega) (by omega) (by omega) (by omega) ?_ (P7.m2 (by decide)) ?_ ?_ ?_ e
                      · rw [ms_row, upd_at, if_pos rfl, h72]; exact nI_1 g
                      · rw [ms_row, upd_at, if_neg (by decide)]; exact h97
                      · intro j hj
                        rw [ms_ne (by decide), g7]
                        exact hrest6 j hj
                      · rw [ms_ne (by decide), g7]
                        exact hv6
                  · rw [h55, e5c, eL, wl, Classical.not_not] at y6
                    rw [← hwn, if_pos y6] at e
                    refine bad μ5 _ 2 a2 e.symm rfl P5 _ ?_
                    rw [h56]
                    exact e8 a2 2
              · rw [h46] at y5
                rw [if_neg y5] at e
                refine bad μ3 _ 1 c1 e.symm rfl P3 _ ?_
                rw [h32]
                exact e8 c1 1
            · rw [nI_b0] at y3
              have hV0 : V w = 0 := Classical.byContradiction fun y => by rw [decide_eq_true y] at y3; cases y3
              have hm3' : m = 3 := (nI_eq (b := 3) (by omega) (by omega)).mp y4
              rw [if_neg (by rintro (y | y); exact y2 y; rw [← hwn] at y; exact y hV0), if_pos hm3'] at e
              refine bad μ2 _ 3 a e.symm rfl P2 _ ?_
              rw [h26]
              exact e8 a 3
            · rw [nI_b0] at y3
              have hV0 : V w ≠ 0 := fun y => y3 (decide_eq_false (fun x => x y))
              rw [if_pos (Or.inr (by rw [← hwn]; exact hV0))] at e
              refine k_X12_readsNever_89 X (bad μ2 _ 2 a e.symm rfl P2 _ ?_)
              rw [h26]
              exact e8 a 2
    refine loop 4 (b + 5) 0 (fun _ => 0) μ1 rfl (by omega) hb5 (by omega) h1' (C1.pr (by decide)) (C1.2 9 (by decide)) (fun j _ => by rw [e136]) ?_ rfl
    exact ⟨fun _ => 0, fun _ => 0, fun k hk => absurd hk (Nat.not_lt_zero k), fun c hc => absurd rfl hc⟩
  · rw [eN, e12] at z
    refine k0 _ _ (Or.inl ⟨z, rfl⟩) ((PR.rf μ).m2 (by decide)) ?_
    rw [ms_row, upd_at, if_pos rfl, h2, show (8 : Int32) = nI 8 from rfl, pk_mul]
    exact nI_add _ 3

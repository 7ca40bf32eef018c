/-! THE MODEL: numbers and levels read -/
theorem nmv_end {T : Tx} {c : Nat} (h : isD T c = false) : ∀ (f v : Nat), nmv T f c v = v
  | 0, _ => rfl
  | f + 1, v => by rw [nmv, if_neg (by rw [h]; decide)]
theorem s_readsNumber {G : mG} {Q : Int32 → mM → Prop} {μ : mM} {T : Tx} (ht : Tm T μ) {a : Nat} (ha : a ≤ T.2) (h2 : μ 132 2 = nI a)
    (k0 : ∀ μ', isD T (sb T a) = false → Ch [2, 3] μ μ' → μ' 132 3 = nI (8 * sb T a + 1) → Q 0 μ')
    (k1 : ∀ μ' w, isD T (sb T a) = true → Ch [2, 5, 6] μ μ' → μ' 132 2 = nI (sd T (sb T a)) → μ' 132 5 = nI w → w < 100000 → min 1000 w = nm T (sb T a) → μ' 132 6 = nI (sb T a) → Q 1 μ') : CtI G mX12_readsNumber [.ref (gb G + 132)] μ Q := by
  have hn := ht.1
  refine e_X12_readsNumber fun E C => k_X12_readsNumber_0 C (s_isNumber ht ha h2 fun μ1 hC h1 => ?_)
  have hb := (sb_ge T a).2.2 ha
  generalize sb T a = b at *
  refine k_X12_readsNumber_4 C (fun z => ?_) (fun z => ?_)
  · rw [nI_b0] at z
    have hD : isD T b = true := by cases e : isD T b with | true => rfl | false => exact absurd e z
    have loop : ∀ (d c v : Nat) (μ' : mM), c + d = T.2 → Ch [2, 5, 6] μ μ' → μ' 132 2 = nI c → μ' 132 6 = nI b → v < 100000 → nmv T d c (min 1000 v) = nm T b → sd T c = sd T b →
        Wm G mX12_readsNumber E (bm G mX12_readsNumber E (pI Q)) μ' 27 [(0, .ref (gb G + 132)), (1, .long (lN v))] [] := by
      intro d
      induction d with
      | zero =>
        intro c v μ' hcd hCh h2 h6 hv e es
        have e1 : μ' 132 1 = nI T.2 := (hCh.2 1 (by decide)).trans ht.2.2.1
        have hle : (nI T.2 ≤ nI c) = True := eq_true (nI_le (by omega) (by omega))
        have hf : isD T c = false := bnot fun z => by have := isD_lt c z; omega
        have ec : sd T c = c := skx_n hf
        rw [nmv] at e
        refine k_X12_readsNumber_27 C ?_ (fun _ => ?_) ?_ ?_ ?_
        all_goals try rw [e1, h2, hle]
        · rintro (z | ⟨-, z, -⟩ | ⟨z, -⟩)
          · exact absurd trivial z
          · exact absurd (by decide) z
          · exact absurd trivial z
        · rw [lN_i]
          refine k1 _ v hD (hCh.ms (by decide)) ?_ ?_ hv e ?_
          · rw [ms_row, upd_at, if_neg (by decide), h2, ← es, ec]
          · rw [ms_row, upd_at, if_pos rfl]
          · rw [ms_row, upd_at, if_neg (by decide)]; exact h6
        · rintro (⟨-, z, -⟩ | ⟨z, -⟩)
          · exact absurd (by decide) z
          · exact absurd trivial z
        · rintro (⟨-, z, -⟩ | ⟨z, -⟩)
          · exact absurd (by decide) z
          · exact absurd trivial z
        · rintro (⟨-, z, -⟩ | ⟨z, -⟩)
          · exact absurd (by decide) z
          · exact absurd trivial z
      | succ d ih =>
        intro c v μ' hcd hCh h2 h6 hv e es
        have e1 : μ' 132 1 = nI T.2 := (hCh.2 1 (by decide)).trans ht.2.2.1
        have hle : (nI T.2 ≤ nI c) = False := eq_false (nI_ge (by omega) (by omega))
        have eb : μ' 133 (nI c).toNatClampNeg &&& 255 = btI T c := by
          rw [nI_clamp (by omega), hCh.1 133 (by decide)]
          exact ht.b.2 (by omega)
        have hd := btD (T := T) (k := c) (ht.2.1 _)
        have h256 := ht.2.1 c
        have isd : ¬ btI T c < 48 → ¬ 57 < btI T c → isD T c = true := fun z1 z2 => by
          cases e : isD T c with
          | true => rfl
          | false =>
            exfalso
            rcases hd.mpr e with y | y
            · exact z1 y
            · exact z2 y.2
        have h99 : lg_cmp (lN v) 9999 ≤ 0 ↔ v ≤ 9999 := by
          rw [lg_cmp_le]
          exact lN_le (b := 9999) (by omega) (by omega)
        have hstep : ∀ u, isD T c = true → u < 100000 → min 1000 u = min 1000 (min 1000 v * 10 + (T.1 c - 48)) → Wm G mX12_readsNumber E (bm G mX12_readsNumber E (pI Q)) (ms μ' 132 2 (nI c + 1)) 27 [(0, .ref (gb G + 132)), (1, .long (lN u))] [] := fun u hy hu hm => by
          rw [nmv, if_pos hy, ← hm] at e
          have es' : sd T c = sd T (c + 1) := skx_y hy (isD_lt c hy)
          rw [es'] at es
          refine ih (c + 1) u _ (by omega) (hCh.ms (by decide)) ?_ ?_ hu e es
          · rw [ms_row, upd_at, if_pos rfl]; exact nI_1 c
          · rw [ms_row, upd_at, if_neg (by decide)]; exact h6
        refine k_X12_readsNumber_27 C ?_ ?_ ?_ ?_ ?_
        all_goals rw [e1, h2, hle]
        · intro _
          simp (disch := omega) only [ofNat_nI, nI_add, pk_mul, nI_clamp, nI_leI, nI_ltI, nI_eq, vp_in_nI_iff, nI_subr, nI_m1r, m1_eq, m1_eq2, m1_le, m1_le2, m1_lt, m1_lt2, m1_self, cv_sub, cv_add1, cv_eq, cv_eqI, cv_eqI2, cv_m1, cv_lt0, cv_leI, cv_Ile, cv_le, cv_lt, cv_Ilt, cv_ltI, not_true, not_false_iff, true_implies, false_implies, false_or, or_false, true_and, and_true, false_and, and_false, true_or, or_true]
          omega
        · rw [eb]
          intro z
          have hf : isD T c = false := by
            rcases z with ⟨z, -⟩ | ⟨-, z⟩
            · exact absurd z id
            · rw [lg48, lg57] at z
              exact hd.mp z
          have ec : sd T c = c := skx_n hf
          rw [nmv_end hf] at e
          rw [lN_i]
          refine k1 _ v hD (hCh.ms (by decide)) ?_ ?_ hv e ?_
          · rw [ms_row, upd_at, if_neg (by decide), h2, ← es, ec]
          · rw [ms_row, upd_at, if_pos rfl]
          · rw [ms_row, upd_at, if_neg (by decide)]; exact h6
        · rintro (⟨z, -⟩ | ⟨-, -, -, -, z⟩)
          all_goals exact absurd z id
        · rw [eb]
          intro z
          rcases z with ⟨z, -⟩ | ⟨-, z1, z2, z3, -⟩
          · exact absurd z id
          · rw [lg48] at z1
            rw [lg57] at z2
            rw [h99] at z3
            have hy := isd z1 z2
            have t2 := isD_iff.mp hy
            have ebt : btI T c = nI (T.1 c) := if_neg (by omega)
            have ey : (10 : Int64) * lN v + (btI T c).toInt64 - 48 = lN (10 * v + T.1 c - 48) := by
              rw [ebt, nI_l (by omega), show (10 : Int64) = lN 10 from rfl, show (48 : Int64) = lN 48 from rfl, lN_mul, lN_add, lN_sub (by omega)]
            rw [ey]
            exact hstep _ hy (by omega) (by omega)
        · rw [eb]
          intro z
          rcases z with ⟨z, -⟩ | ⟨-, z1, z2, z3⟩
          · exact absurd z id
          · rw [lg48] at z1
            rw [lg57] at z2
            rw [h99] at z3
            exact hstep v (isd z1 z2) hv (by omega)
    refine loop (T.2 - b) b 0 _ (by omega) ((hC.mono (by decide)).ms (by decide)) ?_ ?_ (by omega) rfl rfl
    · rw [ms_row, upd_at, if_neg (by decide)]; exact h1
    · rw [ms_row, upd_at, if_pos rfl]; exact h1
  · rw [nI_b0] at z
    refine k0 _ z ((hC.mono (by decide)).ms (by decide)) ?_
    rw [ms_row, upd_at, if_pos rfl, h1, show (8 : Int32) = nI 8 from rfl, pk_mul]
    exact nI_add _ 1
/-- what reading may change -/
def PR (μ μ' : mM) : Prop := Fr [132, 136] μ μ' ∧ ∀ j, j ∉ [2, 3, 5, 6, 9] → μ' 132 j = μ 132 j
theorem PR.rf (μ : mM) : PR μ μ := ⟨Fr.rf _ _, fun _ _ => rfl⟩
theorem PR.tr {μ μ' μ'' : mM} (h : PR μ μ') (h' : PR μ' μ'') : PR μ μ'' := ⟨h.1.tr h'.1, fun j hj => (h'.2 j hj).trans (h.2 j hj)⟩
theorem Ch.pr {K : List Nat} {μ μ' : mM} (h : Ch K μ μ') (hK : ∀ j, j ∈ K → j ∈ [2, 3, 5, 6, 9]) : PR μ μ' := ⟨h.1.mono (by decide), fun j hj => h.2 j (fun z => hj (hK j z))⟩
theorem PR.m2 {μ μ' : mM} {j : Nat} {v : Int32} (h : PR μ μ') (hj : j ∈ [2, 3, 5, 6, 9]) : PR μ (ms μ' 132 j v) := ⟨h.1.ms (by decide), fun i hi => by rw [ms_row, upd_at, if_neg (fun e => hi (by rw [e]; exact hj))]; exact h.2 i hi⟩
theorem PR.m6 {μ μ' : mM} {j : Nat} {v : Int32} (h : PR μ μ') : PR μ (ms μ' 136 j v) := ⟨h.1.ms (by decide), fun i hi => by rw [ms_ne (by decide)]; exact h.2 i hi⟩
theorem Tm.pr {T : Tx} {μ μ' : mM} (h : Tm T μ) (P : PR μ μ') : Tm T μ' := h.of (P.2 1 (by decide)) P.1
/-- the plan that is read so far -/
def RdP (g : Nat → Int32) (P : Pl) : Prop := NowP g P ∧ g 3 = 0
theorem RdP.lev {g : Nat → Int32} {C T v : Nat} {L : Nat → Nat} {V : Nat → Nat → Nat} (h : RdP g (C, T, L, 0, V)) : RdP (upd (upd g (5 + C) (nI v)) 0 (nI (C + 1))) (C + 1, T, up L C v, 0, V) := by
  obtain ⟨⟨a, b, c, d, e⟩, f⟩ := h
  have o : ∀ j, j ≠ 0 → j ≠ 5 + C → upd (upd g (5 + C) (nI v)) 0 (nI (C + 1)) j = g j := fun j a b => by rw [upd_at, if_neg a, upd_at, if_neg b]
  refine ⟨⟨by rw [upd_at, if_pos rfl], by rw [o 1 (by omega) (by omega)]; exact b, by rw [o 2 (by omega) (by omega)]; exact c, fun i hi => ?_, fun i hi => absurd hi (Nat.not_lt_zero i)⟩, by rw [o 3 (by omega) (by omega)]; exact f⟩
  replace hi : i < C + 1 := hi
  show _ = nI (up L C v i)
  rw [up_at]
  by_cases q : i = C
  · rw [if_pos q, upd_at, if_neg (by omega), upd_at, if_pos (by omega)]
  · rw [if_neg q, o _ (by omega) (by omega)]
    exact d i (by show i < C; omega)
theorem s_readsLevels {G : mG} {Q : Int32 → mM → Prop} {μ : mM} {T : Tx} (ht : Tm T μ) {b : Nat} (hb : b ≤ T.2) (h2 : μ 132 2 = nI b) (hw : wdB T 0 b = true) (hg : RdP (μ 136) (0, 2, fun _ => 0, 0, fun _ _ => 0))
    (k0 : ∀ μ' x, lvP T 10 (sb T (b + 6)) 0 (fun _ => 0) = .inl x → PR μ μ' → μ' 132 9 = μ 132 9 → μ' 132 3 = nI x → Q 0 μ')
    (k1 : ∀ μ' q, lvP T 10 (sb T (b + 6)) 0 (fun _ => 0) = .inr q → PR μ μ' → μ' 132 9 = μ 132 9 → q.1 ≤ T.2 → sb T q.1 = q.1 → μ' 132 2 = nI q.1 → RdP (μ' 136) (q.2.1, 2, q.2.2, 0, fun _ _ => 0) → Q 1 μ') : CtI G mX12_readsLevels [.ref (gb G + 132)] μ Q := by
  have hn := ht.1
  refine e_X12_readsLevels fun E X => k_X12_readsLevels_0 X (s_passesWord ht hb h2 fun μ1 C1 h1 => ?_)
  rw [wdB_sl (by omega) hw] at h1
  have hb6 : b + 6 ≤ T.2 := wdB_le (w := 0) (by omega) hw
  have loop : ∀ (f p C : Nat) (L : Nat → Nat) (μ' : mM), C + f = 10 → C ≤ 8 → p ≤ T.2 → μ' 132 2 = nI p → PR μ μ' → μ' 132 9 = μ 132 9 → RdP (μ' 136) (C, 2, L, 0, fun _ _ => 0) → lvP T f (sb T p) C L = lvP T 10 (sb T (b + 6)) 0 (fun _ => 0) →
      Wm G mX12_readsLevels E (bm G mX12_readsLevels E (pI Q)) μ' 4 [(0, .ref (gb G + 132))] [] := by
    intro f
    induction f with
    | zero => intro p C L μ' hC h8; omega
    | succ f ih =>
      intro p C L μ' hC h8 hp h2 hPR h9 hg e
      have ht' := ht.pr hPR
      refine k_X12_readsLevels_4 X (s_isNumber ht' hp h2 fun μ2 C2 h22 => ?_)
      have ha := (sb_ge T p).2.2 hp
      have hss := sb_sb T p
      generalize sb T p = a at *
      have P2 : PR μ μ2 := hPR.tr (C2.pr (by decide))
      have h92 : μ2 132 9 = μ 132 9 := (C2.2 9 (by decide)).trans h9
      have g2 : μ2 136 = μ' 136 := C2.1 136 (by decide)
      have c0 : μ2 136 0 = nI C := by rw [g2]; exact hg.1.1
      rw [lvP] at e
      refine k_X12_readsLevels_8 X (fun z y => ?_) (fun z y => ?_) (fun z => ?_)
      · rw [nI_b0] at z
        rw [c0] at y
        have hC1 : ¬ C ≤ 1 := fun w => by
          have := (nI_ltI (a := 1) (b := C) (by omega) (by omega)).mp y
          omega
        rw [if_neg (by rw [z]; decide), if_neg hC1] at e
        exact k1 μ2 _ e.symm P2 h92 ha hss h22 (by rw [g2]; exact hg)
      · rw [nI_b0] at z
        rw [c0] at y
        have hC1 : C ≤ 1 := Nat.le_of_not_lt fun w => y ((nI_ltI (a := 1) (b := C) (by omega) (by omega)).mpr w)
        rw [if_neg (by rw [z]; decide), if_pos hC1] at e
        refine k0 _ _ e.symm (P2.m2 (by decide)) ?_ ?_
        · rw [ms_row, upd_at, if_neg (by decide)]; exact h92
        · rw [ms_row, upd_at, if_pos rfl, h22, show (8 : Int32) = nI 8 from rfl, pk_mul]
          exact nI_add _ 1
      · rw [nI_b0] at z
        have hD : isD T a = true := by cases w : isD T a with | true => rfl | false => exact absurd w z
        rw [if_pos hD] at e
        refine s_readsNumber (ht.pr P2) ha h22 (fun μ3 w => ?_) (fun μ3 w _ C3 h32 h35 hw5 hwm h36 => ?_)
        · rw [hss] at w
          exact absurd hD (by rw [w]; decide)
        · rw [hss] at h32 hwm h36
          have P3 : PR μ μ3 := P2.tr (C3.pr (by decide))
          have h93 : μ3 132 9 = μ 132 9 := (C3.2 9 (by decide)).trans h92
          have g3 : μ3 136 = μ' 136 := (C3.1 136 (by decide)).trans g2
          have c3 : μ3 136 0 = nI C := by rw [g3]; exact hg.1.1
          have f36 : ∀ kk v, v = nI (8 * a + kk) → (ms μ3 132 3 v) 132 3 = nI (8 * a + kk) := fun kk v hv => by rw [ms_row, upd_at, if_pos rfl, hv]
          have w2 : nI w < 2 ↔ nm T a < 2 := (nI_ltI (b := 2) (by omega) (by omega)).trans (by omega)
          have w4 : 4 < nI w ↔ 4 < nm T a := (nI_ltI (a := 4) (by omega) (by omega)).trans (by omega)
          have hd := (sd_ge T a).2.2 ha
          refine k_X12_readsLevels_15 X (fun y => ?_) (fun _ _ _ => ?_) (fun y1 y2 y3 => ?_) (fun y1 y2 y3 => ?_)
          · rw [h35, lg2_lt, lg4_gt, w2, w4] at y
            have hc : nm T a < 2 ∨ 4 < nm T a := by
              rcases y with y | y
              · exact Or.inl y
              · exact Or.inr y.2
            rw [if_pos hc] at e
            refine k0 _ _ e.symm (P3.m2 (by decide)) (by rw [ms_row, upd_at, if_neg (by decide)]; exact h93) (f36 2 _ ?_)
            rw [h36, show (8 : Int32) = nI 8 from rfl, pk_mul]
            exact nI_add _ 2
          · rw [c3]
            simp (disch := omega) only [ofNat_nI, nI_add, pk_mul, nI_clamp, nI_leI, nI_ltI, nI_eq, vp_in_nI_iff, nI_subr, nI_m1r, m1_eq, m1_eq2, m1_le, m1_le2, m1_lt, m1_lt2, m1_self, cv_sub, cv_add1, cv_eq, cv_eqI, cv_eqI2, cv_m1, cv_lt0, cv_leI, cv_Ile, cv_le, cv_lt, cv_Ilt, cv_ltI, not_true, not_false_iff, true_implies, false_implies, false_or, or_false, true_and, and_true, false_and, and_false, true_or, or_true]
            omega
          · rw [h35, lg2_lt, w2] at y1
            rw [h35, lg4_gt, w4] at y2
            rw [c3] at y3
            have hc : ¬ (nm T a < 2 ∨ 4 < nm T a) := by rintro (z | z); exact y1 z; exact y2 z
            have h8' : C ≠ 8 := fun z => y3 (by rw [z]; rfl)
            rw [if_neg hc, if_neg h8'] at e
            have e5 : (5 + nI C : Int32).toNatClampNeg = 5 + C := by
              rw [show (5 : Int32) = nI 5 from rfl, nI_add, nI_clamp (by omega)]
            have e0 : ms μ3 136 (5 + C) (nI w) 136 0 = nI C := by rw [ms_row, upd_at, if_neg (by omega)]; exact c3
            rw [c3, e5, h35, e0, show nI C + 1 = nI (C + 1) from nI_1 C]
            have hwn : w = nm T a := by omega
            refine ih (sd T a) (C + 1) (up L C (nm T a)) _ (by omega) (by omega) hd ?_ (P3.m6.m6) ?_ ?_ e
            · rw [ms_ne (by decide), ms_ne (by decide)]; exact h32
            · rw [ms_ne (by decide), ms_ne (by decide)]; exact h93
            · rw [ms_row, ms_row, g3, hwn]
              exact hg.lev
          · rw [h35, lg2_lt, w2] at y1
            rw [h35, lg4_gt, w4] at y2
            rw [c3] at y3
            have hc : ¬ (nm T a < 2 ∨ 4 < nm T a) := by rintro (z | z); exact y1 z; exact y2 z
            have h8' : C = 8 := (nI_eq (b := 8) (by omega) (by omega)).mp y3
            rw [if_neg hc, if_pos h8'] at e
            refine k0 _ _ e.symm (P3.m2 (by decide)) (by rw [ms_row, upd_at, if_neg (by decide)]; exact h93) (f36 3 _ ?_)
            rw [h36, show (8 : Int32) = nI 8 from rfl, pk_mul]
            exact nI_add _ 3
  exact loop 10 (b + 6) 0 (fun _ => 0) μ1 rfl (by omega) hb6 h1 (C1.pr (by decide)) (C1.2 9 (by decide)) (by rw [C1.1 136 (by decide)]; exact hg) rfl
theorem s_readsStrength {G : mG} {Q : Int32 → mM → Prop} {μ : mM} {T : Tx} (ht : Tm T μ) {b : Nat} (hb : b ≤ T.2) (h2 : μ 132 2 = nI b) (hw : wdB T 1 b = true) {P : Pl} (hP : PW P) (hg : RdP (μ 136) P) {h : Bool} (h9 : μ 132 9 = nI h.toNat)
    (k0 : ∀ μ' x, x = (if h = true then 8 * b + 3 else if isD T (sb T (b + 8)) = true then 8 * sb T (b + 8) + 2 else 8 * sb T (b + 8) + 1) → (h = true ∨ isD T (sb T (b + 8)) = false ∨ (nm T (sb T (b + 8)) < 1 ∨ min 3 (qC P) < nm T (sb T (b + 8)))) → PR μ μ' → μ' 132 3 = nI x → Q 0 μ')
    (k1 : ∀ μ', h = false → isD T (sb T (b + 8)) = true → ¬ (nm T (sb T (b + 8)) < 1 ∨ min 3 (qC P) < nm T (sb T (b + 8))) → PR μ μ' → μ' 132 9 = 1 → μ' 132 2 = nI (sd T (sb T (b + 8))) → RdP (μ' 136) (qC P, nm T (sb T (b + 8)), qL P, qN P, qV P) → Q 1 μ') : CtI G mX12_readsStrength [.ref (gb G + 132)] μ Q := by
  have hn := ht.1
  refine e_X12_readsStrength fun E X => k_X12_readsStrength_0 X (fun z => ?_) (fun z => ?_)
  · rw [h9, nI_b0] at z
    subst z
    have htt : Tm T (ms μ 132 9 1) := ht.pr ((PR.rf μ).m2 (by decide))
    refine s_passesWord (T := T) (a := b) htt hb (by rw [ms_row, upd_at, if_neg (by decide)]; exact h2) fun μ1 C1 h1 => k_X12_readsStrength_26 X ?_
    rw [wdB_sl (by omega) hw] at h1
    have hb8 : b + 8 ≤ T.2 := wdB_le (w := 1) (by omega) hw
    have h1' : μ1 132 2 = nI (b + 8) := h1
    have P1 : PR μ μ1 := ((PR.rf μ).m2 (j := 9) (v := 1) (by decide)).tr (C1.pr (by decide))
    have h91 : μ1 132 9 = 1 := by rw [C1.2 9 (by decide), ms_row, upd_at, if_pos rfl]
    refine s_readsNumber (ht.pr P1) hb8 h1' (fun μ2 w C2 h23 => ?_) (fun μ2 w hD C2 h22 h25 hw5 hwm h26 => ?_)
    · refine k_X12_readsStrength_30 X (fun y => absurd rfl y) (fun y => absurd rfl y) (fun _ => ?_)
      refine k0 μ2 _ ?_ (Or.inr (Or.inl w)) (P1.tr (C2.pr (by decide))) h23
      rw [if_neg (by decide), if_neg (by rw [w]; decide)]
    · generalize sb T (b + 8) = a at *
      have P2 : PR μ μ2 := P1.tr (C2.pr (by decide))
      have g2 : μ2 136 = μ 136 := by rw [C2.1 136 (by decide), C1.1 136 (by decide), ms_ne (by decide)]
      have c0 : μ2 136 0 = nI (qC P) := by rw [g2]; exact hg.1.1
      have hC8 := hP.ct.2.2.2
      have w1 : nI w < 1 ↔ nm T a < 1 := (nI_ltI (b := 1) (by omega) (by omega)).trans (by omega)
      have w3 : 3 < nI w ↔ 3 < nm T a := (nI_ltI (a := 3) (by omega) (by omega)).trans (by omega)
      have wC : nI (qC P) < nI w ↔ qC P < nm T a := (nI_ltI (by omega) (by omega)).trans (by omega)
      have c3 : 3 ≤ nI (qC P) ↔ 3 ≤ qC P := nI_leI (a := 3) (by omega) (by omega)
      refine k_X12_readsStrength_30 X (fun _ y => ?_) (fun _ y => ?_) (fun y => absurd y (by decide))
      · rw [h25, c0, lg1_lt, lg3_gt, lgi_gt, w1, w3, wC, c3] at y
        refine k0 _ (8 * a + 2) ?_ (Or.inr (Or.inr (by omega))) (P2.m2 (by decide)) ?_
        · rw [if_neg (by decide), if_pos hD]
        · rw [ms_row, upd_at, if_pos rfl, h26, show (8 : Int32) = nI 8 from rfl, pk_mul]
          exact nI_add _ 2
      · rw [h25, c0, lg1_lt, lg3_gt, lgi_gt, w1, w3, wC, c3] at y
        refine k1 _ rfl hD (by omega) P2.m6 ?_ ?_ ?_
        · rw [ms_ne (by decide), C2.2 9 (by decide)]; exact h91
        · rw [ms_ne (by decide)]; exact h22
        · rw [ms_row, g2, h25]
          obtain ⟨⟨a1, a2, a3, a4, a5⟩, a6⟩ := hg
          have hN := hP.2.2.2.2.1
          refine ⟨⟨by rw [upd_at, if_neg (by omega)]; exact a1, by rw [upd_at, if_pos rfl]; congr 1; show w = nm T a; omega, by rw [upd_at, if_neg (by omega)]; exact a3, fun i hi => by rw [upd_at, if_neg (by omega)]; exact a4 i hi, fun i hi => (a5 i hi).of (fun k hk => by rw [upd_at, if_neg (by omega)])⟩, by rw [upd_at, if_neg (by omega)]; exact a6⟩
  · have hh : h = true := by cases h with | true => rfl | false => rw [h9] at z; exact absurd rfl z
    refine k0 _ _ (if_pos hh).symm (Or.inl hh) ((PR.rf μ).m2 (by decide)) ?_
    rw [ms_row, upd_at, if_pos rfl, h2, show (8 : Int32) = nI 8 from rfl, pk_mul]
    exact nI_add _ 3

/-! THE MODEL: drawn; states stay well-formed -/
/-- the level behind l others that can be, of d from v on -/
def drK (can : Nat → Bool) : Nat → Nat → Nat → Nat
  | 0, v, _ => v
  | d + 1, v, l => if can v = true then (if l = 0 then v else drK can d (v + 1) (l - 1)) else drK can d (v + 1) l
def cnL (P : Pl) (r : Nat → Nat) (c : Nat) : Nat := sm (qL P c) (fun v => (canB P (up r c (v + 1))).toNat)
abbrev dS : Type := (Nat → Nat) × Nat × Nat
def drV (P : Pl) (c : Nat) (a : dS) : Nat := drK (fun v => canB P (up a.1 c (v + 1))) (qL P c) 0 (dx a.2.1 / 65536 % cnL P a.1 c)
def drR (P : Pl) : Nat → Nat → dS → dS
  | 0, _, a => a
  | d + 1, c, a => drR P d (c + 1) (up a.1 c (drV P c a + 1), dx a.2.1, 10 * a.2.2 + drV P c a)
def dr0 (s : Ps) : dS := drR (zP s) (zC s) 0 (fun _ => 0, zx s, 0)
def sDr (s : Ps) : Ps := sX (sAdd s (dr0 s).1) (dr0 s).2.1
def o_drawn (σ : Sg) : Int32 × Sg := if zC (ys σ) = 0 ∨ zn (ys σ) = 64 then (-1, σ) else (nI (dr0 (ys σ)).2.2, sS (kpS σ) (sDr (ys σ)))
theorem drK_spec {can : Nat → Bool} : ∀ {d v l : Nat}, l < sm d (fun i => (can (v + i)).toNat) → v ≤ drK can d v l ∧ drK can d v l < v + d ∧ can (drK can d v l) = true
  | 0, v, l, h => absurd h (Nat.not_lt_zero l)
  | d + 1, v, l, h => by
    rw [sm_front] at h
    have e : sm d (fun i => (can (v + (i + 1))).toNat) = sm d (fun i => (can (v + 1 + i)).toNat) := sm_congr fun i _ => by rw [show v + (i + 1) = v + 1 + i by omega]
    rw [e, Nat.add_zero] at h
    rw [drK]
    by_cases q : can v = true
    · rw [if_pos q]
      rw [q] at h
      by_cases z : l = 0
      · rw [if_pos z]; exact ⟨Nat.le_refl v, by omega, q⟩
      · rw [if_neg z]
        have h' : l - 1 < sm d (fun i => (can (v + 1 + i)).toNat) := by
          have : true.toNat = 1 := rfl
          omega
        obtain ⟨a1, a2, a3⟩ := drK_spec h'
        exact ⟨by omega, by omega, a3⟩
    · rw [if_neg q]
      have hf : can v = false := by cases z : can v with | true => exact absurd z q | false => rfl
      rw [hf] at h
      have h' : l < sm d (fun i => (can (v + 1 + i)).toNat) := by
        have : false.toNat = 0 := rfl
        omega
      obtain ⟨a1, a2, a3⟩ := drK_spec h'
      exact ⟨by omega, by omega, a3⟩
theorem cnL_pos {P : Pl} (h : PW P) {r : Nat → Nat} {c : Nat} (hr : RwOk P r) (hc : c < qC P) (h0 : r c = 0) : 0 < cnL P r c ∧ cnL P r c ≤ 4 := by
  obtain ⟨v, hv, hcan⟩ := can_up ((canB_iff h).mp hr.2) hc h0
  refine ⟨sm_pos.mpr ⟨v, hv, ?_⟩, ?_⟩
  · rw [(canB_iff h).mpr hcan]; decide
  · have := sm_le (n := qL P c) (B := 1) (f := fun v => (canB P (up r c (v + 1))).toNat) (fun i _ => bool_lt _)
    have := (h.lv hc).2
    unfold cnL
    omega
theorem drV_ok {P : Pl} (h : PW P) {a : dS} {c : Nat} (hr : RwOk P a.1) (hc : c < qC P) (h0 : a.1 c = 0) : drV P c a < qL P c ∧ RwOk P (up a.1 c (drV P c a + 1)) := by
  obtain ⟨p1, p2⟩ := cnL_pos h hr hc h0
  have hl : dx a.2.1 / 65536 % cnL P a.1 c < cnL P a.1 c := Nat.mod_lt _ p1
  have e : cnL P a.1 c = sm (qL P c) (fun i => (canB P (up a.1 c (0 + i + 1))).toNat) := sm_congr fun i _ => by rw [Nat.zero_add]
  have hl' := hl
  rw [e] at hl'
  obtain ⟨q1, q2, q3⟩ := drK_spec (can := fun v => canB P (up a.1 c (v + 1))) (d := qL P c) (v := 0) hl'
  rw [← e] at q2 q3
  have q2' : drV P c a < qL P c := by rw [Nat.zero_add] at q2; exact q2
  refine ⟨q2', fun i => ?_, q3⟩
  rw [up_at]
  by_cases z : i = c
  · rw [if_pos z, z]; omega
  · rw [if_neg z]; exact hr.1 i
theorem drR_ok {P : Pl} (h : PW P) : ∀ (d c : Nat) (a : dS), c + d = qC P → RwOk P a.1 → (∀ j, c ≤ j → a.1 j = 0) → a.2.1 < 2 ^ 31 → RwOk P (drR P d c a).1 ∧ (drR P d c a).2.1 < 2 ^ 31
  | 0, _, _, _, h1, _, h3 => ⟨h1, h3⟩
  | d + 1, c, a, hc, h1, h2, _ => by
    rw [drR]
    refine drR_ok h d (c + 1) _ (by omega) (drV_ok h h1 (by omega) (h2 c (Nat.le_refl c))).2 (fun j hj => ?_) (Nat.lt_of_lt_of_le (dx_lt _) (by decide))
    show up a.1 c _ j = 0
    rw [up_at, if_neg (by omega)]
    exact h2 j (by omega)
theorem PsOk.dr {s : Ps} (h : PsOk s) (hC : zC s ≠ 0) (hn : zn s < 64) : PsOk (sDr s) := by
  have hP := (h.2.2.2 hC).1
  obtain ⟨a, b⟩ := drR_ok hP.1 (zC s) 0 (fun _ => 0, zx s, 0) (Nat.zero_add _) ⟨fun _ => Nat.zero_le _, hP.2.2⟩ (fun _ _ => rfl) h.1
  exact (h.add hC hn a).x b
theorem sX_sX (s : Ps) (a y : Nat) : sX (sX s a) y = sX s y := rfl
theorem Mr.x {σ : Sg} {μ : mM} {s : Ps} (ok : PsOk s) (h : Mr (sS σ s) μ) (y : Nat) : Mr (sS σ (sX s y)) (mrw μ 135 (upd (μ 135) 4 (nI y))) := Mr.row (σ := sS σ s) (s := sX s y) h rfl (NowS.x ok h.2.1.1 y)
theorem MrX.P {σ : Sg} {μ : mM} {s : Ps} {y : Nat} (h : Mr (sS σ (sX s y)) μ) (hC : zC s ≠ 0) : NowP (μ 135) (zP s) ∧ RowsM (μ 135) (zn s) (zR s) (zt s) ∧ MixM μ (zP s) := MrN.row (σ := sS σ (sX s y)) h hC
theorem m_drawn {G : mG} {μ : mM} {σ : Sg} (ok : SgOk σ) (hm : Mr σ μ) : Km G mX12_drawn [.ref (gb G + 132)] μ (o_drawn σ) := by
  intro Q k
  unfold o_drawn at k
  have hn := ok.2.2.1.2.1
  have h3 := hm.2.1.1.2.2.1
  have e64 : nI (zn (ys σ)) = 64 ↔ zn (ys σ) = 64 := nI_eq (b := 64) (by omega) (by omega)
  refine e_X12_drawn fun E C => k_X12_drawn_0 C (fun p => ?_) (fun p q => ?_)
  · rw [noPl ok.2.2.1 hm.2.1.1, h3, e64] at p
    rw [if_pos (by rcases p with p | p; exact Or.inl p; exact Or.inr p.2)] at k
    exact k μ (Fr.rf _ μ) hm
  · rw [noPl ok.2.2.1 hm.2.1.1] at p
    rw [h3, e64] at q
    rw [if_neg (by rintro (z | z); exact p z; exact q z)] at k
    have ok2 := ok.kpS p
    obtain ⟨⟨hW, hM, hz⟩, hro⟩ := ok.2.2.1.2.2.2 p
    have hC8 := hW.ct.2.2.2
    have loop : ∀ (d c : Nat) (a : dS) (μ' : mM), c + d = zC (ys σ) → RwOk (zP (ys σ)) a.1 → (∀ j, c ≤ j → a.1 j = 0) → a.2.1 < 2 ^ 31 → Fr KM μ μ' → Mr (sS (kpS σ) (sX (ys σ) a.2.1)) μ' → (∀ j, j < zC (ys σ) → μ' 146 j = cv (a.1 j)) → drR (zP (ys σ)) d c a = dr0 (ys σ) →
        Wm G mX12_drawn E (bm G mX12_drawn E (pI Q)) μ' 53 [(0, .ref (gb G + 132)), (1, .int (nI a.2.2)), (2, .int (nI c))] [] := by
      intro d
      induction d with
      | zero =>
        intro c a μ' hcd h1 h2 hx F hms hg e
        have h0 : μ' 135 0 = nI (zC (ys σ)) := hms.2.1.1.2.1
        have okx : SgOk (sS (kpS σ) (sX (ys σ) a.2.1)) := ok2.sS (ok.2.2.1.x hx)
        refine k_X12_drawn_53 C (fun _ => ?_) (fun z => ?_)
        · refine m_comes okx hms p (show zn (ys σ) < 64 by omega) (c1 := 146) (n1 := 8) (r := a.1) rfl (by decide) (by decide) (by decide) h1.1 hg fun μ2 F2 hm2 => k_X12_drawn_186 C ?_
          rw [drR] at e
          rw [← e] at k
          unfold sDr at k
          rw [← e] at k
          exact k μ2 (F.tr (F2.mono (by decide))) hm2
        · exfalso
          revert z
          rw [h0]
          have : zC (ys σ) ≤ 8 := hC8
          simp (disch := omega) only [ofNat_nI, nI_add, pk_mul, nI_clamp, nI_leI, nI_ltI, nI_eq, vp_in_nI_iff, nI_subr, nI_m1r, m1_eq, m1_eq2, m1_le, m1_le2, m1_lt, m1_lt2, m1_self, cv_sub, cv_add1, cv_eq, cv_eqI, cv_eqI2, cv_m1, cv_lt0, cv_leI, cv_Ile, cv_le, cv_lt, cv_Ilt, cv_ltI, not_true, not_false_iff, true_implies, false_implies, false_or, or_false, true_and, and_true, false_and, and_false, true_or, or_true]
          omega
      | succ d ih =>
        intro c a μ' hcd h1 h2 hx F hms hg e
        have hC8' : zC (ys σ) ≤ 8 := hC8
        have h0 : μ' 135 0 = nI (zC (ys σ)) := hms.2.1.1.2.1
        have hcC : c < zC (ys σ) := by omega
        obtain ⟨hP1, hr1, hX1⟩ : NowP (μ' 135) (zP (ys σ)) ∧ RowsM (μ' 135) (zn (ys σ)) (zR (ys σ)) (zt (ys σ)) ∧ MixM μ' (zP (ys σ)) := MrX.P hms p
        have hL := hP1.2.2.2.1 c hcC
        have l4 := hW.lv hcC
        have hx4 : μ' 135 4 = nI a.2.1 := hms.2.1.1.1
        obtain ⟨cp, cp4⟩ := cnL_pos hW h1 hcC (h2 c (Nat.le_refl c))
        have hdx := dx_lt a.2.1
        refine k_X12_drawn_53 C (fun z => ?_) (fun _ => ?_)
        · exfalso
          revert z
          rw [h0]
          simp (disch := omega) only [ofNat_nI, nI_add, pk_mul, nI_clamp, nI_leI, nI_ltI, nI_eq, vp_in_nI_iff, nI_subr, nI_m1r, m1_eq, m1_eq2, m1_le, m1_le2, m1_lt, m1_lt2, m1_self, cv_sub, cv_add1, cv_eq, cv_eqI, cv_eqI2, cv_m1, cv_lt0, cv_leI, cv_Ile, cv_le, cv_lt, cv_Ilt, cv_ltI, not_true, not_false_iff, true_implies, false_implies, false_or, or_false, true_and, and_true, false_and, and_false, true_or, or_true]
          omega
        -- how many levels can be
        have count : ∀ (f v : Nat) (μ1 : mM), v + f = qL (zP (ys σ)) c → Fr [138, 139] μ' μ1 →
            Wm G mX12_drawn E (bm G mX12_drawn E (pI Q)) μ1 68 [(0, .ref (gb G + 132)), (1, .int (nI a.2.2)), (2, .int (nI c)), (3, .int (nI (sm v (fun v => (canB (zP (ys σ)) (up a.1 c (v + 1))).toNat)))), (4, .int (nI v))] [] := by
          intro f
          induction f with
          | zero =>
            intro v μ1 hv F1
            have hv' : v = qL (zP (ys σ)) c := by omega
            subst hv'
            have e135 : μ1 135 = μ' 135 := F1 135 (by decide)
            have eL : μ1 135 (5 + c) = nI (qL (zP (ys σ)) c) := by rw [e135]; exact hL
            refine k_X12_drawn_68 C ?_ (fun _ z => ?_) (fun _ => ?_) (fun z => ?_)
            · simp (disch := omega) only [ofNat_nI, nI_add, pk_mul, nI_clamp, nI_leI, nI_ltI, nI_eq, vp_in_nI_iff, nI_subr, nI_m1r, m1_eq, m1_eq2, m1_le, m1_le2, m1_lt, m1_lt2, m1_self, cv_sub, cv_add1, cv_eq, cv_eqI, cv_eqI2, cv_m1, cv_lt0, cv_leI, cv_Ile, cv_le, cv_lt, cv_Ilt, cv_ltI, not_true, not_false_iff, true_implies, false_implies, false_or, or_false, true_and, and_true, false_and, and_false, true_or, or_true]
              omega
            · have := (nI_eq (a := cnL (zP (ys σ)) a.1 c) (b := 0) (by omega) (by omega)).mp z
              omega
            · rw [e135, hx4, dx_l hx, show (65536 : Int32) = nI 65536 from rfl, pk_div (by omega) (by decide) (by decide), show sm (qL (zP (ys σ)) c) (fun v => (canB (zP (ys σ)) (up a.1 c (v + 1))).toNat) = cnL (zP (ys σ)) a.1 c from rfl, pk_rem (by omega) cp (by omega)]
              -- the state with the next x
              have hm1 : Mr (sS (kpS σ) (sX (ys σ) (dx a.2.1))) (ms μ1 135 4 (nI (dx a.2.1))) := by
                have hm0 := hms.fr (F1.mono (by decide))
                rw [ms_mrw0, ← sX_sX (ys σ) a.2.1 (dx a.2.1)]
                exact Mr.x (ok.2.2.1.x hx) hm0 (dx a.2.1)
              have F2 : Fr KM μ (ms μ1 135 4 (nI (dx a.2.1))) := (F.tr (F1.mono (by decide))).ms (by decide)
              have hg2 : ∀ j, j < zC (ys σ) → ms μ1 135 4 (nI (dx a.2.1)) 146 j = cv (a.1 j) := fun j hj => by rw [ms_ne (by decide), F1 146 (by decide)]; exact hg j hj
              generalize ms μ1 135 4 (nI (dx a.2.1)) = μ2 at hm1 F2 hg2
              have hP2 : NowP (μ2 135) (zP (ys σ)) := (MrX.P hm1 p).1
              have find : ∀ (f v l : Nat) (μ3 : mM), v + f = qL (zP (ys σ)) c → Fr [138, 139] μ2 μ3 → l < sm f (fun i => (canB (zP (ys σ)) (up a.1 c (v + i + 1))).toNat) → drK (fun v => canB (zP (ys σ)) (up a.1 c (v + 1))) f v l = drV (zP (ys σ)) c a →
                  Wm G mX12_drawn E (bm G mX12_drawn E (pI Q)) μ3 115 [(0, .ref (gb G + 132)), (1, .int (nI a.2.2)), (2, .int (nI c)), (4, .int (nI l)), (5, .int (nI v))] [] := by
                intro f
                induction f with
                | zero => intro v l μ3 hv F3 hl; exact absurd hl (Nat.not_lt_zero l)
                | succ f ihf =>
                  intro v l μ3 hv F3 hl hd
                  have hvL : v < qL (zP (ys σ)) c := by omega
                  have e146 : ∀ j, j < zC (ys σ) → μ3 146 j = cv (a.1 j) ∧ a.1 j ≤ qL (zP (ys σ)) j := fun j hj => ⟨by rw [F3 146 (by decide)]; exact hg2 j hj, h1.1 j⟩
                  have hl4 : l ≤ 4 := by
                    have := sm_le (n := f + 1) (B := 1) (f := fun i => (canB (zP (ys σ)) (up a.1 c (v + i + 1))).toNat) (fun i _ => bool_lt _)
                    omega
                  have efr : sm f (fun i => (canB (zP (ys σ)) (up a.1 c (v + (i + 1) + 1))).toNat) = sm f (fun i => (canB (zP (ys σ)) (up a.1 c (v + 1 + i + 1))).toNat) := sm_congr fun i _ => by rw [show v + (i + 1) = v + 1 + i by omega]
                  rw [sm_front, efr, Nat.add_zero] at hl
                  rw [drK] at hd
                  refine k_X12_drawn_115 C (s_canGreedy hW (by rw [F3 135 (by decide)]; exact hP2) hcC hvL e146 fun μ4 F4 => ?_)
                  have F34 : Fr [138, 139] μ2 μ4 := F3.tr F4
                  have again : Wm G mX12_drawn E (bm G mX12_drawn E (pI Q)) μ4 130 [(0, .ref (gb G + 132)), (1, .int (nI a.2.2)), (2, .int (nI c)), (4, .int (nI l)), (5, .int (nI v))] [] ∨ (canB (zP (ys σ)) (up a.1 c (v + 1)) = true ∧ l = 0) := by
                    by_cases w : canB (zP (ys σ)) (up a.1 c (v + 1)) = true ∧ l = 0
                    · exact Or.inr w
                    · left
                      refine k_X12_drawn_130 C (s_canGreedy hW (by rw [F34 135 (by decide)]; exact hP2) hcC hvL (fun j hj => ⟨by rw [F34 146 (by decide)]; exact hg2 j hj, h1.1 j⟩) fun μ5 F5 => k_X12_drawn_139 C (fun u hu => ?_))
                      rw [phB hu]
                      cases hcan : canB (zP (ys σ)) (up a.1 c (v + 1)) with
                      | true =>
                        rw [hcan] at hl hd w
                        have l0 : l ≠ 0 := fun z => w ⟨rfl, z⟩
                        rw [if_pos rfl, if_neg l0] at hd
                        have : true.toNat = 1 := rfl
                        rw [this]
                        simp (disch := omega) only [ofNat_nI, nI_add, pk_mul, nI_clamp, nI_leI, nI_ltI, nI_eq, vp_in_nI_iff, nI_subr, nI_m1r, m1_eq, m1_eq2, m1_le, m1_le2, m1_lt, m1_lt2, m1_self, cv_sub, cv_add1, cv_eq, cv_eqI, cv_eqI2, cv_m1, cv_lt0, cv_leI, cv_Ile, cv_le, cv_lt, cv_Ilt, cv_ltI, not_true, not_false_iff, true_implies, false_implies, false_or, or_false, true_and, and_true, false_and, and_false, true_or, or_true]
                        exact ihf (v + 1) (l - 1) μ5 (by omega) (F34.tr F5) (by omega) hd
                      | false =>
                        rw [hcan] at hl hd
                        rw [if_neg (by decide)] at hd
                        have : false.toNat = 0 := rfl
                        rw [this]
                        simp (disch := omega) only [ofNat_nI, nI_add, pk_mul, nI_clamp, nI_leI, nI_ltI, nI_eq, vp_in_nI_iff, nI_subr, nI_m1r, m1_eq, m1_eq2, m1_le, m1_le2, m1_lt, m1_lt2, m1_self, cv_sub, cv_add1, cv_eq, cv_eqI, cv_eqI2, cv_m1, cv_lt0, cv_leI, cv_Ile, cv_le, cv_lt, cv_Ilt, cv_ltI, not_true, not_false_iff, true_implies, false_implies, false_or, or_false, true_and, and_true, false_and, and_false, true_or, or_true]
                        rw [Nat.sub_zero]
                        exact ihf (v + 1) l μ5 (by omega) (F34.tr F5) (by omega) hd
                  refine k_X12_drawn_122 C (fun z => ?_) (fun _ _ => ?_) (fun z1 z2 => ?_)
                  · rcases again with w | ⟨w1, w2⟩
                    · exact w
                    · exfalso
                      rw [w1, w2] at z
                      rcases z with z | ⟨-, z⟩
                      · exact absurd z (by decide)
                      · exact absurd (by decide) z
                  · simp (disch := omega) only [ofNat_nI, nI_add, pk_mul, nI_clamp, nI_leI, nI_ltI, nI_eq, vp_in_nI_iff, nI_subr, nI_m1r, m1_eq, m1_eq2, m1_le, m1_le2, m1_lt, m1_lt2, m1_self, cv_sub, cv_add1, cv_eq, cv_eqI, cv_eqI2, cv_m1, cv_lt0, cv_leI, cv_Ile, cv_le, cv_lt, cv_Ilt, cv_ltI, not_true, not_false_iff, true_implies, false_implies, false_or, or_false, true_and, and_true, false_and, and_false, true_or, or_true]
                    omega
                  · rw [nI_b0] at z1
                    have hcan : canB (zP (ys σ)) (up a.1 c (v + 1)) = true := by cases w : canB (zP (ys σ)) (up a.1 c (v + 1)) with | true => rfl | false => exact absurd w z1
                    have l0 : l = 0 := by
                      have := (nI_leI (a := l) (b := 0) (by omega) (by omega)).mp z2
                      omega
                    rw [if_pos hcan, if_pos l0] at hd
                    rw [nI_clamp (by omega)]
                    simp (disch := omega) only [ofNat_nI, nI_add, pk_mul, nI_clamp, nI_leI, nI_ltI, nI_eq, vp_in_nI_iff, nI_subr, nI_m1r, m1_eq, m1_eq2, m1_le, m1_le2, m1_lt, m1_lt2, m1_self, cv_sub, cv_add1, cv_eq, cv_eqI, cv_eqI2, cv_m1, cv_lt0, cv_leI, cv_Ile, cv_le, cv_lt, cv_Ilt, cv_ltI, not_true, not_false_iff, true_implies, false_implies, false_or, or_false, true_and, and_true, false_and, and_false, true_or, or_true]
                    obtain ⟨_, okr⟩ := drV_ok hW h1 hcC (h2 c (Nat.le_refl c))
                    rw [drR, ← hd] at e
                    rw [← hd] at okr
                    refine ih (c + 1) (up a.1 c (v + 1), dx a.2.1, 10 * a.2.2 + v) _ (by omega) okr (fun j hj => ?_) (Nat.lt_of_lt_of_le (dx_lt _) (by decide)) ((F2.tr (F34.mono (by decide))).ms (by decide)) ((hm1.fr (F34.mono (by decide))).fr ((Fr.rf _ _).ms (by decide))) (fun j hj => ?_) e
                    · show up a.1 c (v + 1) j = 0
                      rw [up_at, if_neg (by omega)]
                      exact h2 j (by omega)
                    · show ms μ4 146 c (nI v) 146 j = cv (up a.1 c (v + 1) j)
                      rw [ms_row, upd_at, up_at]
                      by_cases w : j = c
                      · rw [if_pos w, if_pos w, cv_s]
                      · rw [if_neg w, if_neg w, F34 146 (by decide)]; exact hg2 j hj
              have e0 : cnL (zP (ys σ)) a.1 c = sm (qL (zP (ys σ)) c) (fun i => (canB (zP (ys σ)) (up a.1 c (0 + i + 1))).toNat) := sm_congr fun i _ => by rw [Nat.zero_add]
              exact find (qL (zP (ys σ)) c) 0 _ μ2 (by omega) (Fr.rf _ _) (by rw [← e0]; exact Nat.mod_lt _ cp) rfl
            · exfalso
              revert z
              simp (disch := omega) only [ofNat_nI, nI_add, pk_mul, nI_clamp, nI_leI, nI_ltI, nI_eq, vp_in_nI_iff, nI_subr, nI_m1r, m1_eq, m1_eq2, m1_le, m1_le2, m1_lt, m1_lt2, m1_self, cv_sub, cv_add1, cv_eq, cv_eqI, cv_eqI2, cv_m1, cv_lt0, cv_leI, cv_Ile, cv_le, cv_lt, cv_Ilt, cv_ltI, not_true, not_false_iff, true_implies, false_implies, false_or, or_false, true_and, and_true, false_and, and_false, true_or, or_true, eL]
              omega
          | succ f ihf =>
            intro v μ1 hv F1
            have e135 : μ1 135 = μ' 135 := F1 135 (by decide)
            have eL : μ1 135 (5 + c) = nI (qL (zP (ys σ)) c) := by rw [e135]; exact hL
            refine k_X12_drawn_68 C ?_ (fun z => ?_) (fun z => ?_) (fun _ => ?_)
            · simp (disch := omega) only [ofNat_nI, nI_add, pk_mul, nI_clamp, nI_leI, nI_ltI, nI_eq, vp_in_nI_iff, nI_subr, nI_m1r, m1_eq, m1_eq2, m1_le, m1_le2, m1_lt, m1_lt2, m1_self, cv_sub, cv_add1, cv_eq, cv_eqI, cv_eqI2, cv_m1, cv_lt0, cv_leI, cv_Ile, cv_le, cv_lt, cv_Ilt, cv_ltI, not_true, not_false_iff, true_implies, false_implies, false_or, or_false, true_and, and_true, false_and, and_false, true_or, or_true]
              omega
            · exfalso
              revert z
              simp (disch := omega) only [ofNat_nI, nI_add, pk_mul, nI_clamp, nI_leI, nI_ltI, nI_eq, vp_in_nI_iff, nI_subr, nI_m1r, m1_eq, m1_eq2, m1_le, m1_le2, m1_lt, m1_lt2, m1_self, cv_sub, cv_add1, cv_eq, cv_eqI, cv_eqI2, cv_m1, cv_lt0, cv_leI, cv_Ile, cv_le, cv_lt, cv_Ilt, cv_ltI, not_true, not_false_iff, true_implies, false_implies, false_or, or_false, true_and, and_true, false_and, and_false, true_or, or_true, eL]
              omega
            · exfalso
              revert z
              simp (disch := omega) only [ofNat_nI, nI_add, pk_mul, nI_clamp, nI_leI, nI_ltI, nI_eq, vp_in_nI_iff, nI_subr, nI_m1r, m1_eq, m1_eq2, m1_le, m1_le2, m1_lt, m1_lt2, m1_self, cv_sub, cv_add1, cv_eq, cv_eqI, cv_eqI2, cv_m1, cv_lt0, cv_leI, cv_Ile, cv_le, cv_lt, cv_Ilt, cv_ltI, not_true, not_false_iff, true_implies, false_implies, false_or, or_false, true_and, and_true, false_and, and_false, true_or, or_true, eL]
              omega
            · refine s_canGreedy hW (by rw [e135]; exact hP1) hcC (show v < qL (zP (ys σ)) c by omega) (fun j hj => ⟨by rw [F1 146 (by decide)]; exact hg j hj, h1.1 j⟩) fun μ2 F2 => k_X12_drawn_89 C (fun u hu => ?_)
              rw [phB hu]
              have := ihf (v + 1) μ2 (by omega) (F1.tr F2)
              rw [sm] at this
              simp (disch := omega) only [ofNat_nI, nI_add, pk_mul, nI_clamp, nI_leI, nI_ltI, nI_eq, vp_in_nI_iff, nI_subr, nI_m1r, m1_eq, m1_eq2, m1_le, m1_le2, m1_lt, m1_lt2, m1_self, cv_sub, cv_add1, cv_eq, cv_eqI, cv_eqI2, cv_m1, cv_lt0, cv_leI, cv_Ile, cv_le, cv_lt, cv_Ilt, cv_ltI, not_true, not_false_iff, true_implies, false_implies, false_or, or_false, true_and, and_true, false_and, and_false, true_or, or_true]
              exact this
        exact count (qL (zP (ys σ)) c) 0 μ' (by omega) (Fr.rf _ _)
    refine m_keepsAct ok hm fun μ2 F2 e2 hm2 => k_X12_drawn_24 C ?_
    have init : ∀ (d c : Nat) (g : Nat → Int32), c + d = zC (ys σ) → (∀ j, j < c → g j = cv 0) → Wm G mX12_drawn E (bm G mX12_drawn E (pI Q)) (mrw μ2 146 g) 28 [(0, .ref (gb G + 132)), (1, .int 0), (2, .int (nI c))] [] := by
      intro d
      have hC8' : zC (ys σ) ≤ 8 := hC8
      have h0 : μ2 135 0 = nI (zC (ys σ)) := hm2.2.1.1.2.1
      induction d with
      | zero =>
        intro c g hc hg
        have e0 : (mrw μ2 146 g) 135 0 = nI (zC (ys σ)) := by rw [mrw_ne (by decide)]; exact h0
        refine k_X12_drawn_28 C (fun _ => ?_) (fun z => ?_) (fun z => ?_)
        · refine loop (zC (ys σ)) 0 (fun _ => 0, zx (ys σ), 0) _ (by omega) ⟨fun _ => Nat.zero_le _, hz⟩ (fun _ _ => rfl) ok.2.2.1.1 ((F2.mono (by decide)).mrw (by decide)) (hm2.fr ((Fr.rf _ _).mrw (by decide))) (fun j hj => by rw [mrw_at]; exact hg j (by omega)) rfl
        all_goals
          exfalso
          revert z
          rw [e0]
          simp (disch := omega) only [ofNat_nI, nI_add, pk_mul, nI_clamp, nI_leI, nI_ltI, nI_eq, vp_in_nI_iff, nI_subr, nI_m1r, m1_eq, m1_eq2, m1_le, m1_le2, m1_lt, m1_lt2, m1_self, cv_sub, cv_add1, cv_eq, cv_eqI, cv_eqI2, cv_m1, cv_lt0, cv_leI, cv_Ile, cv_le, cv_lt, cv_Ilt, cv_ltI, not_true, not_false_iff, true_implies, false_implies, false_or, or_false, true_and, and_true, false_and, and_false, true_or, or_true]
          omega
      | succ d ih =>
        intro c g hc hg
        have e0 : (mrw μ2 146 g) 135 0 = nI (zC (ys σ)) := by rw [mrw_ne (by decide)]; exact h0
        refine k_X12_drawn_28 C (fun z => ?_) (fun _ => ?_) (fun _ => ?_)
        · exfalso
          revert z
          rw [e0]
          simp (disch := omega) only [ofNat_nI, nI_add, pk_mul, nI_clamp, nI_leI, nI_ltI, nI_eq, vp_in_nI_iff, nI_subr, nI_m1r, m1_eq, m1_eq2, m1_le, m1_le2, m1_lt, m1_lt2, m1_self, cv_sub, cv_add1, cv_eq, cv_eqI, cv_eqI2, cv_m1, cv_lt0, cv_leI, cv_Ile, cv_le, cv_lt, cv_Ilt, cv_ltI, not_true, not_false_iff, true_implies, false_implies, false_or, or_false, true_and, and_true, false_and, and_false, true_or, or_true]
          omega
        · simp (disch := omega) only [ofNat_nI, nI_add, pk_mul, nI_clamp, nI_leI, nI_ltI, nI_eq, vp_in_nI_iff, nI_subr, nI_m1r, m1_eq, m1_eq2, m1_le, m1_le2, m1_lt, m1_lt2, m1_self, cv_sub, cv_add1, cv_eq, cv_eqI, cv_eqI2, cv_m1, cv_lt0, cv_leI, cv_Ile, cv_le, cv_lt, cv_Ilt, cv_ltI, not_true, not_false_iff, true_implies, false_implies, false_or, or_false, true_and, and_true, false_and, and_false, true_or, or_true]
          omega
        · rw [nI_clamp (by omega), ms_mrw]
          simp (disch := omega) only [ofNat_nI, nI_add, pk_mul, nI_clamp, nI_leI, nI_ltI, nI_eq, vp_in_nI_iff, nI_subr, nI_m1r, m1_eq, m1_eq2, m1_le, m1_le2, m1_lt, m1_lt2, m1_self, cv_sub, cv_add1, cv_eq, cv_eqI, cv_eqI2, cv_m1, cv_lt0, cv_leI, cv_Ile, cv_le, cv_lt, cv_Ilt, cv_ltI, not_true, not_false_iff, true_implies, false_implies, false_or, or_false, true_and, and_true, false_and, and_false, true_or, or_true]
          refine ih (c + 1) _ (by omega) (fun j hj => ?_)
          rw [upd_at]
          by_cases w : j = c
          · rw [if_pos w]; rfl
          · rw [if_neg w]; exact hg j (by omega)
    have := init (zC (ys σ)) 0 (μ2 146) (by omega) (fun j hj => absurd hj (Nat.not_lt_zero j))
    rw [mrw_self] at this
    exact this
theorem flS_ok : ∀ (f : Nat) (s : Ps), PsOk s → zC s ≠ 0 → PsOk (flS f s)
  | 0, _, h, _ => h
  | f + 1, s, h, hC => by
    rw [flS]
    by_cases q : zn s < 64 ∧ zo s ≠ 0
    · rw [if_pos q]; exact flS_ok f (sGr s) (h.gr hC q.1) hC
    · rw [if_neg q]; exact h
theorem orS_ok : ∀ (d a : Nat) (q : Ps × Nat), a + d = zn q.1 → PsOk q.1 → PsOk (orS d a q).1
  | 0, _, _, _, h => h
  | d + 1, a, q, hd, h => by
    obtain ⟨o1, o2⟩ := orB_1 q.1 a d
    rw [orS]
    exact orS_ok d (a + 1) _ (by show a + 1 + d = zn q.1; omega) (h.or (by omega) (by omega))
theorem seC_ok (j : Nat) : ∀ (d c : Nat) (q : Ps × Nat), c + d ≤ zC q.1 → j < zn q.1 → PsOk q.1 → PsOk (seC j d c q).1 ∧ zn (seC j d c q).1 = zn q.1 ∧ zP (seC j d c q).1 = zP q.1
  | 0, _, _, _, _, h => ⟨h, rfl, rfl⟩
  | d + 1, c, q, hd, hj, h => by
    rw [seC]
    by_cases z : zR q.1 j c = 0
    · rw [if_pos z]
      exact seC_ok j d (c + 1) (stS q.1 j c, q.2 + 1) (by show c + 1 + d ≤ zC q.1; omega) hj (h.st hj (by omega) z)
    · rw [if_neg z]
      exact seC_ok j d (c + 1) q (by omega) hj h
theorem seR_ok : ∀ (d j : Nat) (q : Ps × Nat), j + d = zn q.1 → PsOk q.1 → PsOk (seR d j q).1
  | 0, _, _, _, h => h
  | d + 1, j, q, hd, h => by
    obtain ⟨a, b, _⟩ := seC_ok j (zC q.1) 0 q (by omega) (by omega) h
    rw [seR]
    exact seR_ok d (j + 1) _ (by rw [b]; omega) a
theorem ok_greed {σ : Sg} (ok : SgOk σ) : SgOk (o_greed σ).2 := by
  unfold o_greed
  have := ok.2.2.1.2.1
  split
  · exact ok
  · split
    · exact ok
    · rename_i h _
      exact (ok.kpS (fun z => h (Or.inl z))).sS (ok.2.2.1.gr (fun z => h (Or.inl z)) (Nat.lt_of_le_of_ne this (fun z => h (Or.inr z))))
theorem ok_fill {σ : Sg} (ok : SgOk σ) : SgOk (o_fill σ).2 := by
  unfold o_fill
  split
  · exact ok
  · split
    · exact ok
    · rename_i h _
      exact (ok.kpS h).sS (flS_ok 64 _ ok.2.2.1 h)
theorem ok_field {σ : Sg} (ok : SgOk σ) : SgOk (o_field σ).2 := by
  unfold o_field
  split
  · exact ok
  · split
    · rename_i h hb
      exact (ok.kpS h).sS (ok.2.2.1.fl h hb)
    · exact ok
theorem ok_settle {σ : Sg} (ok : SgOk σ) : SgOk (o_settle σ).2 := by
  unfold o_settle
  split
  · exact ok
  · rename_i h
    exact (ok.kpS h).sS (seR_ok _ 0 (ys σ, 0) (Nat.zero_add _) ok.2.2.1)
theorem ok_thin {σ : Sg} (ok : SgOk σ) : SgOk (o_thin σ).2 := by
  unfold o_thin
  split
  · exact ok
  · rename_i h
    exact (ok.kpS h).sS (thS_ok _ _ (Nat.le_refl _) ok.2.2.1).1
theorem ok_order {σ : Sg} (ok : SgOk σ) : SgOk (o_order σ).2 := by
  unfold o_order
  split
  · exact ok
  · rename_i h
    exact (ok.kpS h).sS (orS_ok _ 0 (ys σ, 0) (Nat.zero_add _) ok.2.2.1)
theorem ok_drawn {σ : Sg} (ok : SgOk σ) : SgOk (o_drawn σ).2 := by
  unfold o_drawn
  have := ok.2.2.1.2.1
  split
  · exact ok
  · rename_i h
    exact (ok.kpS (fun z => h (Or.inl z))).sS (ok.2.2.1.dr (fun z => h (Or.inl z)) (Nat.lt_of_le_of_ne this (fun z => h (Or.inr z))))
theorem ok_widen {σ : Sg} (ok : SgOk σ) (x : Int32) : SgOk (o_widen σ x).2 := by
  unfold o_widen
  have h8 := zC_le ok.2.2.1
  split
  · exact ok
  · rename_i h
    split
    · exact ok
    · rename_i h2
      have p : zC (ys σ) ≠ 0 := fun z => h (Or.inl z)
      have p1 : ¬ x < 2 := fun z => h (Or.inr (Or.inl z))
      have p2 : ¬ 4 < x := fun z => h (Or.inr (Or.inr (Or.inl z)))
      have p3 : zC (ys σ) ≠ 8 := fun z => h (Or.inr (Or.inr (Or.inr z)))
      obtain ⟨lv, hlv, rfl⟩ := nI_of (x := x) (fun z => p1 (by
        rw [Int32.lt_iff_toInt_lt] at z ⊢
        have a : ((0 : Int32)).toInt = 0 := by decide
        have b : ((2 : Int32)).toInt = 2 := by decide
        omega))
      have l2 : 2 ≤ lv := Nat.le_of_not_lt fun z => p1 ((nI_ltI (b := 2) hlv (by omega)).mpr z)
      have l4 : lv ≤ 4 := Nat.le_of_not_lt fun z => p2 ((nI_ltI (a := 4) (by omega) hlv).mpr z)
      rw [nI_clamp hlv] at h2 ⊢
      exact (ok.kpS p).sS (ok.2.2.1.wd p (by omega) l2 l4 (by omega))
theorem ok_undo {σ : Sg} (ok : SgOk σ) : SgOk (o_undo σ).2 := by
  unfold o_undo
  obtain ⟨a, b, c, d, e, f⟩ := ok
  split
  · exact ⟨a, b, c, d, e, f⟩
  · refine ⟨a, b, (e (yu σ - 1) (by omega)).1, ?_, fun i hi => ?_, f⟩
    · show yu σ - 1 ≤ 8; omega
    · replace hi : i < yu σ - 1 := hi
      exact e i (by omega)
theorem ok_keep {σ : Sg} (ok : SgOk σ) (x : Int32) : SgOk (o_keep σ x).2 := by
  unfold o_keep
  split
  · exact ok
  · rename_i hC
    split
    · exact ok
    · rename_i i hi
      obtain ⟨a, b, c, d, e, f⟩ := ok
      refine ⟨a, b, c, d, e, fun j s hs => ?_⟩
      replace hs : (if j = i then some (ys σ) else yK σ j) = some s := hs
      by_cases q : j = i
      · rw [if_pos q] at hs
        cases hs
        exact ⟨c, hC⟩
      · rw [if_neg q] at hs
        exact f j s hs
theorem ok_back {σ : Sg} (ok : SgOk σ) (x : Int32) : SgOk (o_back σ x).2 := by
  unfold o_back
  split
  · exact ok
  · rename_i i hi
    split
    · exact ok
    · rename_i s hs
      obtain ⟨a, b, c, d, e, f⟩ := ok
      exact ⟨a, b, (f i s hs).1, Nat.zero_le _, fun j hj => absurd hj (Nat.not_lt_zero j), f⟩

/-! THE CLASS: a row is drawn -/
theorem nI_nat (n : Nat) : (nI n).toBitVec.toNat = n % 2 ^ 32 := BitVec.toNat_ofNat n 32
theorem dx_i {x : Nat} : ((nI x * 1103515245) + 12345) &&& 2147483647 = nI (dx x) := by
  rw [show (1103515245 : Int32) = nI 1103515245 from rfl, show (12345 : Int32) = nI 12345 from rfl, pk_mul, nI_add, pk_and _ 31 (by decide), nI_nat, Nat.mod_mod_of_dvd _ (by decide)]
  unfold dx
  rw [show (2 : Nat) ^ 31 = 2147483648 by decide]
def clr (x : Int32) : Nat → Int32
  | 0 => x
  | l + 1 => clr x l &&& (clr x l - 1)
def b4 (b0 b1 b2 b3 : Bool) : Nat := b0.toNat + 2 * b1.toNat + 4 * b2.toNat + 8 * b3.toNat
theorem clr_all : ∀ b0 b1 b2 b3 : Bool, ∀ l, l < b0.toNat + b1.toNat + b2.toNat + b3.toNat → clr (nI (b4 b0 b1 b2 b3)) l &&& (-clr (nI (b4 b0 b1 b2 b3)) l) = nI (2 ^ drK (fun v => [b0, b1, b2, b3].getD v false) 4 0 l) := by decide
theorem bc_all : ∀ b0 b1 b2 b3 : Bool, bcI (nI (b4 b0 b1 b2 b3)) = nI (b0.toNat + b1.toNat + b2.toNat + b3.toNat) := by decide
theorem b4_tb : ∀ b0 b1 b2 b3 : Bool, b4 b0 b1 b2 b3 < 16 ∧ ∀ l, l < 4 → (b4 b0 b1 b2 b3).testBit l = [b0, b1, b2, b3].getD l false := by decide
theorem drK_ext {can can' : Nat → Bool} : ∀ {d d' v l : Nat}, d ≤ d' → (∀ i, v ≤ i → i < v + d → can i = can' i) → l < sm d (fun i => (can (v + i)).toNat) → drK can d v l = drK can' d' v l
  | 0, _, _, l, _, _, h => absurd h (Nat.not_lt_zero l)
  | d + 1, d', v, l, hd, he, h => by
    obtain ⟨d'', rfl⟩ : ∃ d'', d' = d'' + 1 := ⟨d' - 1, by omega⟩
    rw [sm_front] at h
    have e : sm d (fun i => (can (v + (i + 1))).toNat) = sm d (fun i => (can (v + 1 + i)).toNat) := sm_congr fun i _ => by rw [show v + (i + 1) = v + 1 + i by omega]
    rw [e, Nat.add_zero] at h
    rw [drK, drK, ← he v (Nat.le_refl v) (by omega)]
    have he' : ∀ i, v + 1 ≤ i → i < v + 1 + d → can i = can' i := fun i h1 h2 => he i (by omega) (by omega)
    by_cases q : can v = true
    · rw [if_pos q, if_pos q]
      rw [q] at h
      by_cases z : l = 0
      · rw [if_pos z, if_pos z]
      · rw [if_neg z, if_neg z]
        have h' : l - 1 < sm d (fun i => (can (v + 1 + i)).toNat) := by
          have : true.toNat = 1 := rfl
          omega
        exact drK_ext (by omega) he' h'
    · rw [if_neg q, if_neg q]
      have hf : can v = false := bnot q
      rw [hf] at h
      have h' : l < sm d (fun i => (can (v + 1 + i)).toNat) := by
        have : false.toNat = 0 := rfl
        omega
      exact drK_ext (by omega) he' h'
def bbL (P : Pl) (r : Nat → Nat) (c i : Nat) : Bool := decide (i < qL P c) && canB P (up r c (i + 1))
theorem lf_b4 {P : Pl} {r : Nat → Nat} {c : Nat} (h4 : qL P c ≤ 4) : lfI P r c (qL P c) = nI (b4 (bbL P r c 0) (bbL P r c 1) (bbL P r c 2) (bbL P r c 3)) := b_ext fun i hi => by
  obtain ⟨t1, t2⟩ := b4_tb (bbL P r c 0) (bbL P r c 1) (bbL P r c 2) (bbL P r c 3)
  rw [b_lf hi, b_nI hi]
  by_cases q : i < 4
  · rw [t2 i q]
    have : i = 0 ∨ i = 1 ∨ i = 2 ∨ i = 3 := by omega
    rcases this with rfl | rfl | rfl | rfl <;> rfl
  · rw [Nat.testBit_lt_two_pow (Nat.lt_of_lt_of_le t1 (Nat.pow_le_pow_right (show 0 < 2 by omega) (show 4 ≤ i by omega))), decide_eq_false (show ¬ i < qL P c by omega)]
    rfl
theorem bb_sum {P : Pl} {r : Nat → Nat} {c : Nat} (h4 : qL P c ≤ 4) : (bbL P r c 0).toNat + (bbL P r c 1).toNat + (bbL P r c 2).toNat + (bbL P r c 3).toNat = cnL P r c := by
  unfold bbL cnL
  generalize qL P c = n at h4
  have : n = 0 ∨ n = 1 ∨ n = 2 ∨ n = 3 ∨ n = 4 := by omega
  rcases this with rfl | rfl | rfl | rfl | rfl <;> simp [sm]
theorem dr_bits {P : Pl} {r : Nat → Nat} {c l : Nat} (h4 : qL P c ≤ 4) (hl : l < cnL P r c) : clr (lfI P r c (qL P c)) l &&& (-clr (lfI P r c (qL P c)) l) = nI (2 ^ drK (fun v => canB P (up r c (v + 1))) (qL P c) 0 l) := by
  rw [lf_b4 h4, clr_all _ _ _ _ l (by rw [bb_sum h4]; exact hl)]
  congr 2
  refine (drK_ext h4 (fun i _ hi => ?_) ?_).symm
  · have hi4 : i < 4 := by omega
    have e : bbL P r c i = canB P (up r c (i + 1)) := by
      unfold bbL
      rw [decide_eq_true (by omega), Bool.true_and]
    have : i = 0 ∨ i = 1 ∨ i = 2 ∨ i = 3 := by omega
    rcases this with rfl | rfl | rfl | rfl <;> exact e.symm
  · unfold cnL at hl
    have e : sm (qL P c) (fun i => (canB P (up r c (0 + i + 1))).toNat) = sm (qL P c) (fun v => (canB P (up r c (v + 1))).toNat) := sm_congr fun i _ => by rw [Nat.zero_add]
    rw [e]
    exact hl
def digN (r : Nat → Nat) : Nat → Nat
  | 0 => 0
  | c + 1 => 10 * digN r c + (r c - 1)
theorem digN_congr {r r' : Nat → Nat} : ∀ {n : Nat}, (∀ c, c < n → r c = r' c) → digN r n = digN r' n
  | 0, _ => rfl
  | n + 1, h => by rw [digN, digN, digN_congr (fun c hc => h c (by omega)), h n (by omega)]
theorem s_digitsOf {G : mG} {Q : Int32 → mM → Prop} {μ : mM} {p : Nat} {P : Pl} {r : Nat → Nat} (h0 : sh p = (0, 3)) (h : PW P) (hp : PlC p P μ) (hr : ∀ c, r c ≤ 4) (hw : ∀ c, c < qC P → r c ≠ 0) (k : Q (nI (digN r (qC P))) μ) : CtI G mX4_digitsOf [.ref (gb G + p), .int (rowI r)] μ Q := by
  have hC8 := h.ct.2.2.2
  refine e_X4_digitsOf h0 fun E C => k_X4_digitsOf_0 C h0 ?_
  refine lp_up (W := fun c => Wm G mX4_digitsOf E (bm G mX4_digitsOf E (pI Q)) μ 4 [(0, .ref (gb G + p)), (1, .int (rowI r)), (2, .int (nI (digN r c))), (3, .int (nI c))] []) (qC P) ?_ (fun c hc ih => ?_)
  · refine k_X4_digitsOf_4 C h0 (fun _ => k) (fun z => ?_) (fun z => ?_)
    all_goals
      exfalso
      revert z
      rw [hp.1]
      simp (disch := omega) only [ofNat_nI, nI_add, pk_mul, nI_clamp, nI_leI, nI_ltI, nI_eq, vp_in_nI_iff, nI_subr, nI_m1r, m1_eq, m1_eq2, m1_le, m1_le2, m1_lt, m1_lt2, m1_self, cv_sub, cv_add1, cv_eq, cv_eqI, cv_eqI2, cv_m1, cv_lt0, cv_leI, cv_Ile, cv_le, cv_lt, cv_Ilt, cv_ltI, not_true, not_false_iff, true_implies, false_implies, false_or, or_false, true_and, and_true, false_and, and_false, true_or, or_true]
      omega
  · obtain ⟨f1, f2⟩ := lv_read (r := r) (c := c) (by omega) (hr c)
    refine k_X4_digitsOf_4 C h0 (fun z => ?_) (fun _ _ => ?_) (fun _ z => absurd (f1.mp z) (hw c hc))
    · exfalso
      revert z
      rw [hp.1]
      simp (disch := omega) only [ofNat_nI, nI_add, pk_mul, nI_clamp, nI_leI, nI_ltI, nI_eq, vp_in_nI_iff, nI_subr, nI_m1r, m1_eq, m1_eq2, m1_le, m1_le2, m1_lt, m1_lt2, m1_self, cv_sub, cv_add1, cv_eq, cv_eqI, cv_eqI2, cv_m1, cv_lt0, cv_leI, cv_Ile, cv_le, cv_lt, cv_Ilt, cv_ltI, not_true, not_false_iff, true_implies, false_implies, false_or, or_false, true_and, and_true, false_and, and_false, true_or, or_true]
      omega
    · rw [f2 (hw c hc), cv_pos (hw c hc), show (10 : Int32) = nI 10 from rfl, pk_mul, nI_add, nI_1, Nat.mul_comm]
      rw [digN] at ih
      exact ih
theorem c_drawOf {G : mG} {Q : Int32 → mM → Prop} {σ : Sg} {μ : mM} {s : Ps} {n y : Nat} (hs : PsOk s) (h : Cr (sS σ s) μ) (h1 : 0 < n) (h2 : n ≤ 4) (hy : dx (zx s) = y) (hd : y < 2147483648) (k : ∀ μ', Fr [14] μ μ' → Cr (sS σ (sX s y)) μ' → Q (nI (y / 65536 % n)) μ') : CtI G mX11_drawOf [.ref (gb G + 0), .int (nI n)] μ Q := by
  have hx : μ 14 2 = nI (zx s) := h.2.1.1.2.2
  have hxy : ((μ 14 2 * 1103515245) + 12345) &&& 2147483647 = nI y := by
    rw [hx, dx_i, hy]
  have hno : ¬ nI n ≤ 0 := fun z => by
    have := (nI_leI (b := 0) (by omega) (by omega)).mp z
    omega
  have e : ∀ c, c ≠ 14 → ms μ 14 2 (nI y) c = μ c := fun c hc => ms_ne hc
  have hv : nI y / 65536 - nI y / 65536 / nI n * nI n = nI (y / 65536 % n) := by
    rw [show (65536 : Int32) = nI 65536 from rfl, pk_div (by omega) (by decide) (by decide), pk_rem (by omega) h1 (by omega)]
  have fin : Q (nI (y / 65536 % n)) (ms μ 14 2 (nI y)) := by
    refine k _ ((Fr.rf _ μ).ms (by decide)) (Cr.now (σ := sS σ s) (s := sX s y) h (fun c hc => e c (by omega)) ⟨⟨?_, ?_, ?_⟩, fun hC => ?_⟩ (h.2.2.1.of ?_ ?_ ?_))
    · exact h.2.1.1.1.of (e 15 (by decide)) (e 16 (by decide)) (e 17 (by decide)) (e 18 (by decide))
    · exact h.2.1.1.2.1.of (e 19 (by decide)) (e 20 (by decide)) (e 21 (by decide))
    · rw [ms_row, upd_at, if_pos rfl]
      rfl
    · exact (h.2.1.2 hC).of fun c hc => e c (by omega)
    · rw [e 10 (by decide)]
    · rw [e 25 (by decide)]
    · rw [e 47 (by decide)]
  refine a_X11_drawOf (fun z => absurd z hno) (fun _ => nI_ne0 (by omega) (by omega)) (fun _ => ?_)
  rw [hxy, hv]
  exact fin
theorem x_drawn {G : mG} {μ : mM} {σ : Sg} (ok : SgOk σ) (h : Cr σ μ) : Kc G mX11_drawn [.ref (gb G + 0)] μ (o_drawn σ) := by
  intro Q k
  unfold o_drawn at k
  have hn := ok.2.2.1.2.1
  have h15 : sh 15 = (0, 3) := rfl
  have e64 : μ 19 0 < 64 ↔ zn (ys σ) < 64 := by
    rw [h.n]
    exact nI_ltI (b := 64) (by omega) (by omega)
  refine e_X11_drawn fun E C => k_X11_drawn_0 C (fun p => ?_) (fun p q => ?_)
  · rw [noPlC ok h, e64] at p
    rw [if_pos (by
      rcases p with p | ⟨-, p⟩
      · exact Or.inl p
      · exact Or.inr (by omega))] at k
    exact k μ (fun _ _ => rfl) h
  · rw [noPlC ok h] at p
    rw [e64] at q
    rw [if_neg (by rintro (z | z); exact p z; omega)] at k
    have ok2 := ok.kpS p
    obtain ⟨⟨hW, hM, hz⟩, hro⟩ := ok.2.2.1.2.2.2 p
    have hC8 := hW.ct.2.2.2
    have loop : ∀ (d c : Nat) (a : dS) (μ' : mM), c + d = zC (ys σ) → RwOk (zP (ys σ)) a.1 → (∀ j, c ≤ j → a.1 j = 0) → (∀ j, j < c → a.1 j ≠ 0) → a.2.2 = digN a.1 c → a.2.1 < 2 ^ 31 → (∀ c, 132 ≤ c → μ' c = μ c) → Cr (sS (kpS σ) (sX (ys σ) a.2.1)) μ' → drR (zP (ys σ)) d c a = dr0 (ys σ) →
        Wm G mX11_drawn E (bm G mX11_drawn E (pI Q)) μ' 32 [(0, .ref (gb G + 0)), (1, .int (rowI a.1)), (2, .int (nI c))] [] := by
      intro d
      induction d with
      | zero =>
        intro c a μ' hcd h1 h2 h3 h4 hx F hms e
        have e15 : μ' 15 0 = nI (zC (ys σ)) := hms.c
        have hcc : c = zC (ys σ) := by omega
        have okx : SgOk (sS (kpS σ) (sX (ys σ) a.2.1)) := ok2.sS (ok.2.2.1.x hx)
        refine k_X11_drawn_32 C (fun _ => ?_) (fun z => ?_)
        · refine c_append okx hms p (show zn (ys σ) < 64 from q) h1.1 fun μ2 F2 hm2 => k_X11_drawn_113 C ?_
          have e' : a = dr0 (ys σ) := e
          have hp2 : PlC 15 (zP (ys σ)) μ2 := (hm2.rw (σ := sS (sS (kpS σ) (sX (ys σ) a.2.1)) (sAdd (sX (ys σ) a.2.1) a.1)) p).1
          refine s_digitsOf h15 hW hp2 (fun c => RwOk.le4 hW h1.1 c) (fun c' hc' => h3 c' (by
            have : zC (ys σ) = qC (zP (ys σ)) := rfl
            omega)) (k_X11_drawn_124 C ?_)
          have e5 : nI (digN a.1 (qC (zP (ys σ)))) = nI (dr0 (ys σ)).2.2 := by
            rw [← e', h4, hcc]
          rw [e5]
          refine k μ2 (fun c hc => by rw [F2 c (by simp; omega)]; exact F c hc) ?_
          unfold sDr
          rw [← e']
          exact hm2
        · exfalso
          apply z
          rw [e15, hcc]
          exact (nI_leI (by have : zC (ys σ) = qC (zP (ys σ)) := rfl; omega) (by have : zC (ys σ) = qC (zP (ys σ)) := rfl; omega)).mpr (Nat.le_refl _)
      | succ d ih =>
        intro c a μ' hcd h1 h2 h3 h4 hx F hms e
        have hC8' : zC (ys σ) ≤ 8 := hC8
        have e15 : μ' 15 0 = nI (zC (ys σ)) := hms.c
        have hcC : c < zC (ys σ) := by omega
        have hcC' : c < qC (zP (ys σ)) := hcC
        have hp1 : PlC 15 (zP (ys σ)) μ' := (hms.rw (σ := sS (kpS σ) (sX (ys σ) a.2.1)) p).1
        have l4 := hW.lv hcC'
        obtain ⟨cp, cp4⟩ := cnL_pos hW h1 hcC' (h2 c (Nat.le_refl c))
        refine k_X11_drawn_32 C (fun z => ?_) (fun _ => ?_)
        · exfalso
          rw [e15, nI_leI (by omega) (by omega)] at z
          omega
        · refine s_levelsLeft h15 hW hp1 h1.1 hcC' (h2 c (Nat.le_refl c)) (k_X11_drawn_58 C (s_bitCount (k_X11_drawn_64 C ?_)))
          rw [show bcI (lfI (zP (ys σ)) a.1 c (qL (zP (ys σ)) c)) = nI (cnL (zP (ys σ)) a.1 c) by rw [lf_b4 l4.2, bc_all, bb_sum l4.2]]
          refine c_drawOf (s := sX (ys σ) a.2.1) (y := dx a.2.1) (ok.2.2.1.x hx) hms cp cp4 rfl (dx_lt _) fun μ2 F2 h2' => k_X11_drawn_67 C ?_
          have hpk : dx a.2.1 / 65536 % cnL (zP (ys σ)) a.1 c < cnL (zP (ys σ)) a.1 c := Nat.mod_lt _ cp
          obtain ⟨dv1, dv2⟩ := drV_ok (a := a) hW h1 hcC' (h2 c (Nat.le_refl c))
          have clrs : ∀ (f i : Nat), i + f = dx a.2.1 / 65536 % cnL (zP (ys σ)) a.1 c → Wm G mX11_drawn E (bm G mX11_drawn E (pI Q)) μ2 72 [(0, .ref (gb G + 0)), (1, .int (rowI a.1)), (2, .int (nI c)), (3, .int (clr (lfI (zP (ys σ)) a.1 c (qL (zP (ys σ)) c)) i)), (4, .int (nI (dx a.2.1 / 65536 % cnL (zP (ys σ)) a.1 c))), (5, .int (nI i))] [] := by
            intro f
            induction f with
            | zero =>
              intro i hi
              have hii : i = dx a.2.1 / 65536 % cnL (zP (ys σ)) a.1 c := by omega
              rw [hii]
              refine k_X11_drawn_72 C (fun _ => ?_) (fun z => ?_)
              · rw [dr_bits l4.2 hpk]
                have e5 : rowI a.1 ||| nI (2 ^ drK (fun v => canB (zP (ys σ)) (up a.1 c (v + 1))) (qL (zP (ys σ)) c) 0 (dx a.2.1 / 65536 % cnL (zP (ys σ)) a.1 c)) <<< ((4 * nI c) &&& 31) = rowI (up a.1 c (drV (zP (ys σ)) c a + 1)) := by
                  rw [← row_bit (by omega) (show drV (zP (ys σ)) c a < 4 by omega) (h2 c (Nat.le_refl c))]
                  congr 1
                  refine b_ext fun i hi => ?_
                  have e6 : (4 * nI c + nI (drV (zP (ys σ)) c a) : Int32) = nI (4 * c + drV (zP (ys σ)) c a) := by rw [show (4 : Int32) = nI 4 from rfl, pk_mul, nI_add]
                  rw [e6, b_bit (by omega) hi]
                  exact b_nsh (show drV (zP (ys σ)) c a < 4 by omega) (by omega) hi
                rw [e5, nI_1]
                refine ih (c + 1) (up a.1 c (drV (zP (ys σ)) c a + 1), dx a.2.1, 10 * a.2.2 + drV (zP (ys σ)) c a) μ2 (by omega) dv2 (fun j hj => ?_) (fun j hj => ?_) ?_ (Nat.lt_of_lt_of_le (dx_lt _) (by decide)) (fun c hc => by rw [F2 c (by simp; omega)]; exact F c hc) h2' (by rw [drR] at e; exact e)
                · show up a.1 c _ j = 0
                  rw [up_at, if_neg (by omega)]
                  exact h2 j (by omega)
                · show up a.1 c _ j ≠ 0
                  rw [up_at]
                  by_cases u : j = c
                  · rw [if_pos u]; omega
                  · rw [if_neg u]; exact h3 j (by omega)
                · show 10 * a.2.2 + drV (zP (ys σ)) c a = 10 * digN (up a.1 c (drV (zP (ys σ)) c a + 1)) c + (up a.1 c (drV (zP (ys σ)) c a + 1) c - 1)
                  rw [h4, digN_congr (r := up a.1 c (drV (zP (ys σ)) c a + 1)) (r' := a.1) (fun j hj => by rw [up_at, if_neg (by omega)]), up_hit]
                  rfl
              · exfalso
                apply z
                exact (nI_leI (by omega) (by omega)).mpr (Nat.le_refl _)
            | succ f ihf =>
              intro i hi
              refine k_X11_drawn_72 C (fun z => ?_) (fun _ => ?_)
              · exfalso
                rw [nI_leI (by omega) (by omega)] at z
                omega
              · rw [nI_1]
                exact ihf (i + 1) (by omega)
          exact clrs _ 0 (Nat.zero_add _)
    refine c_remember ok h fun μ1 F1 h1 => k_X11_drawn_28 C ?_
    have := loop (zC (ys σ)) 0 (fun _ => 0, zx (ys σ), 0) μ1 (Nat.zero_add _) ⟨fun _ => Nat.zero_le _, hz⟩ (fun _ _ => rfl) (fun j hj => absurd hj (Nat.not_lt_zero j)) rfl ok.2.2.1.1 (fun c hc => F1 c (by omega) (by omega)) h1 rfl
    rw [show rowI (((fun _ => 0, zx (ys σ), 0) : dS)).1 = 0 from rowI_0] at this
    exact this

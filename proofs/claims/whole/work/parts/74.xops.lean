/-! THE CLASS: calls that ask -/
theorem noPlC {σ : Sg} {μ : mM} (ok : SgOk σ) (h : Cr σ μ) : μ 15 0 ≤ 0 ↔ zC (ys σ) = 0 := by
  have := zC_le ok.2.2.1
  have e : μ 15 0 = nI (zC (ys σ)) := h.2.1.1.1.1
  rw [e]
  exact (nI_leI (b := 0) (by omega) (by omega)).trans (by omega)
theorem Cr.n {σ : Sg} {μ : mM} (h : Cr σ μ) : μ 19 0 = nI (zn (ys σ)) := h.2.1.1.2.1.1
theorem Cr.c {σ : Sg} {μ : mM} (h : Cr σ μ) : μ 15 0 = nI (zC (ys σ)) := h.2.1.1.1.1
theorem rwN_b {P : Pl} {R : Nat → Nat → Nat} {n : Nat} (hn : n ≤ 64) : ∀ m, m < MM P → rwN P R m n < 2 ^ 31 := fun m _ => by
  have := rwN_le P R m n
  omega
theorem x_end {G : mG} {μ : mM} {σ : Sg} (ok : SgOk σ) (h : Cr σ μ) (x : Int32) : Kc G mX11_end [.ref (gb G + 0), .int x] μ (o_end σ x) := by
  intro Q k
  have hz := ok.2.1
  have ht := h.1
  unfold o_end at k
  have le : ∀ {x y : Int32}, ¬ x ≤ y ↔ y < x := fun {x y} => by
    rw [Int32.le_iff_toInt_le, Int32.lt_iff_toInt_lt]
    omega
  have top : nI (yz σ) < x ↔ nI (yz σ + 1) ≤ x := by
    have := ix_top (x := x) (n := yz σ + 1) (by omega) (by omega)
    exact this
  refine a_X11_end (fun p => ?_) (fun p1 p2 => ?_)
  · rw [ht.1, le, top] at p
    rw [ix_or p] at k
    exact k μ (fun _ _ => rfl) h
  · have p2' : ¬ nI (yz σ + 1) ≤ x := by
      rw [← top, ← le, Classical.not_not, ← ht.1]
      exact p2
    obtain ⟨j, hj, rfl⟩ := ix_not (by omega) p1 p2'
    rw [ix_s hj (by omega)] at k
    have e : ∀ c, c ≠ 1 → ms μ 1 1 (nI j) c = μ c := fun c hc => ms_ne hc
    refine k _ (fun c hc => e c (by omega)) ⟨⟨by rw [ms_row, upd_at, if_pos rfl]; rfl, fun i hi => ?_⟩, h.2.1.of fun c h1 h2 => e c (by omega), h.2.2.1.of ?_ ?_ ?_, h.2.2.2.1.of (e 0 (by omega)) (fun c h1 h2 => e c (by omega)), h.2.2.2.2.of fun c h1 h2 => e c (by omega)⟩
    · rw [e 2 (by omega)]
      exact ht.2 i (by show i < yz σ; have : i < j := hi; omega)
    · rw [e 10 (by omega)]
    · rw [e 25 (by omega)]
    · rw [e 47 (by omega)]
theorem x_levels {G : mG} {μ : mM} {σ : Sg} (ok : SgOk σ) (h : Cr σ μ) (x : Int32) : Kc G mX11_levels [.ref (gb G + 0), .int x] μ (o_levels σ x) := by
  intro Q k
  have h8 := zC_le ok.2.2.1
  unfold o_levels at k
  refine a_X11_levels (fun p => ?_) (fun p1 p2 => ?_) (fun p1 p2 => ?_)
  · rw [h.c] at p
    rw [ix_or p] at k
    exact k μ (fun _ _ => rfl) h
  · rw [h.c] at p2
    obtain ⟨j, hj, rfl⟩ := ix_not (by omega) p1 p2
    simp (disch := omega) only [ofNat_nI, nI_add, pk_mul, nI_clamp, nI_leI, nI_ltI, nI_eq, vp_in_nI_iff, nI_subr, nI_m1r, m1_eq, m1_eq2, m1_le, m1_le2, m1_lt, m1_lt2, m1_self, cv_sub, cv_add1, cv_eq, cv_eqI, cv_eqI2, cv_m1, cv_lt0, cv_leI, cv_Ile, cv_le, cv_lt, cv_Ilt, cv_ltI, not_true, not_false_iff, true_implies, false_implies, false_or, or_false, true_and, and_true, false_and, and_false, true_or, or_true]
    omega
  · rw [h.c] at p2
    obtain ⟨j, hj, rfl⟩ := ix_not (by omega) p1 p2
    rw [ix_s hj (by omega)] at k
    rw [nI_clamp (by omega), show μ 16 j = nI (qL (zP (ys σ)) j) from h.2.1.1.1.2.2.2.2.1 j hj]
    exact k μ (fun _ _ => rfl) h
/-- the level of a row, as the class reads it -/
theorem lv_read {r : Nat → Nat} {c : Nat} (hc : c < 8) (hr : r c ≤ 4) : (iush (rowI r) (4 * nI c) &&& 15 = 0 ↔ r c = 0) ∧ (r c ≠ 0 → (((iush (rowI r) (4 * nI c) &&& 15) >>> (1 &&& 31)) - ((iush (rowI r) (4 * nI c) &&& 15) >>> (3 &&& 31))) = cv (r c)) := by
  rw [nib_row hc hr]
  exact ⟨pw_0 _ (by omega), pw_v _ (by omega)⟩
theorem x_cell {G : mG} {μ : mM} {σ : Sg} (ok : SgOk σ) (h : Cr σ μ) (x y : Int32) : Kc G mX11_cell [.ref (gb G + 0), .int x, .int y] μ (o_cell σ x y) := by
  intro Q k
  have h8 := zC_le ok.2.2.1
  have hn := ok.2.2.1.2.1
  unfold o_cell at k
  have both : ¬ x < 0 → ¬ μ 19 0 ≤ x → ¬ y < 0 → ¬ μ 15 0 ≤ y → ∃ j c, j < zn (ys σ) ∧ c < zC (ys σ) ∧ x = nI j ∧ y = nI c := fun p1 p2 p3 p4 => by
    rw [h.n] at p2
    rw [h.c] at p4
    obtain ⟨j, hj, e1⟩ := ix_not (by omega) p1 p2
    obtain ⟨c, hc, e2⟩ := ix_not (by omega) p3 p4
    exact ⟨j, c, hj, hc, e1, e2⟩
  have val : ∀ {j c}, j < zn (ys σ) → c < zC (ys σ) → μ 20 (nI j).toNatClampNeg = rowI (zR (ys σ) j) ∧ zR (ys σ) j c ≤ 4 := fun {j c} hj hc => by
    have hC : zC (ys σ) ≠ 0 := by omega
    obtain ⟨⟨hW, hM, -⟩, hrow⟩ := ok.2.2.1.2.2.2 hC
    exact ⟨by rw [nI_clamp (by omega)]; exact h.2.1.1.2.1.2.1 j hj, RwOk.le4 hW (hrow j hj).1.1 c⟩
  refine a_X11_cell (fun p => ?_) (fun p1 p2 p3 p4 => ?_) (fun p1 p2 p3 p4 p5 => ?_) (fun p1 p2 p3 p4 p5 => ?_)
  · rw [h.n, h.c] at p
    rcases p with p | ⟨-, -, p⟩
    · rw [ix_or p] at k
      exact k μ (fun _ _ => rfl) h
    · rw [ix_or p] at k
      cases e2 : ix x (zn (ys σ)) with
      | none => rw [e2] at k; exact k μ (fun _ _ => rfl) h
      | some j => rw [e2] at k; exact k μ (fun _ _ => rfl) h
  all_goals
    obtain ⟨j, c, hj, hc, rfl, rfl⟩ := both p1 p2 p3 p4
  · simp (disch := omega) only [ofNat_nI, nI_add, pk_mul, nI_clamp, nI_leI, nI_ltI, nI_eq, vp_in_nI_iff, nI_subr, nI_m1r, m1_eq, m1_eq2, m1_le, m1_le2, m1_lt, m1_lt2, m1_self, cv_sub, cv_add1, cv_eq, cv_eqI, cv_eqI2, cv_m1, cv_lt0, cv_leI, cv_Ile, cv_le, cv_lt, cv_Ilt, cv_ltI, not_true, not_false_iff, true_implies, false_implies, false_or, or_false, true_and, and_true, false_and, and_false, true_or, or_true]
    omega
  · obtain ⟨e1, e2⟩ := val hj hc
    obtain ⟨f1, f2⟩ := lv_read (r := zR (ys σ) j) (c := c) (by omega) e2
    rw [ix_s hj (by omega), ix_s hc (by omega)] at k
    rw [e1, f1] at p5
    rw [e1, f2 p5]
    exact k μ (fun _ _ => rfl) h
  · obtain ⟨e1, e2⟩ := val hj hc
    obtain ⟨f1, f2⟩ := lv_read (r := zR (ys σ) j) (c := c) (by omega) e2
    rw [ix_s hj (by omega), ix_s hc (by omega)] at k
    rw [e1, f1] at p5
    have k' : Q (cv (zR (ys σ) j c)) μ := k μ (fun _ _ => rfl) h
    rw [p5] at k'
    exact k'
theorem x_open {G : mG} {μ : mM} {σ : Sg} (ok : SgOk σ) (h : Cr σ μ) : Kc G mX11_open [.ref (gb G + 0)] μ (o_open σ) := by
  intro Q k
  unfold o_open at k
  refine e_X11_open fun E C => k_X11_open_0 C (fun p => ?_) (fun p => ?_)
  · rw [noPlC ok h] at p
    rw [if_pos p] at k
    exact k μ (fun _ _ => rfl) h
  · rw [noPlC ok h] at p
    rw [if_neg p] at k
    obtain ⟨⟨hW, hM, -⟩, -⟩ := ok.2.2.1.2.2.2 p
    exact s_openCount hW hM (h.rw p).2.2 (rwN_b ok.2.2.1.2.1) (k_X11_open_14 C (k μ (fun _ _ => rfl) h))
theorem x_openMix {G : mG} {μ : mM} {σ : Sg} (ok : SgOk σ) (h : Cr σ μ) (x : Int32) : Kc G mX11_openMix [.ref (gb G + 0), .int x] μ (o_openMix σ x) := by
  intro Q k
  unfold o_openMix at k
  refine e_X11_openMix fun E C => k_X11_openMix_0 C (fun p => ?_) (fun p q => ?_)
  · rw [noPlC ok h] at p
    rw [if_pos (by
      rcases p with p | p
      · exact Or.inl p
      · exact Or.inr p.2)] at k
    exact k μ (fun _ _ => rfl) h
  · rw [noPlC ok h] at p
    rw [if_neg (by rintro (z | z); exact p z; exact q z)] at k
    obtain ⟨⟨hW, hM, -⟩, -⟩ := ok.2.2.1.2.2.2 p
    obtain ⟨j, hj, rfl⟩ := nI_of q
    rw [nI_clamp hj] at k
    exact s_openAt hW hM (h.rw p).2.2 (rwN_b ok.2.2.1.2.1) hj (k_X11_openMix_19 C (k μ (fun _ _ => rfl) h))
theorem x_gain {G : mG} {μ : mM} {σ : Sg} (ok : SgOk σ) (h : Cr σ μ) (x : Int32) : Kc G mX11_gain [.ref (gb G + 0), .int x] μ (o_gain σ x) := by
  intro Q k
  have hn := ok.2.2.1.2.1
  unfold o_gain at k
  refine e_X11_gain fun E C => k_X11_gain_0 C (fun p => ?_) (fun p1 p2 => ?_)
  · rw [h.n] at p
    rw [ix_or p] at k
    exact k μ (fun _ _ => rfl) h
  · rw [h.n] at p2
    obtain ⟨j, hj, rfl⟩ := ix_not (by omega) p1 p2
    rw [ix_s hj (by omega)] at k
    have hC := zn_C ok.2.2.1 (by omega)
    obtain ⟨⟨hW, hM, -⟩, hrow⟩ := ok.2.2.1.2.2.2 hC
    obtain ⟨hp, hr, hX⟩ := h.rw hC
    exact s_gainOfC (by rfl) hW hM hn hj hX hr (fun j hj => (hrow j hj).1.1) (k_X11_gain_23 C (k μ (fun _ _ => rfl) h))
theorem x_least {G : mG} {μ : mM} {σ : Sg} (ok : SgOk σ) (h : Cr σ μ) : Kc G mX11_least [.ref (gb G + 0)] μ (o_least σ) := by
  intro Q k
  unfold o_least at k
  refine e_X11_least fun E C => k_X11_least_0 C (fun p => ?_) (fun p => ?_)
  · rw [noPlC ok h] at p
    rw [if_pos p] at k
    exact k μ (fun _ _ => rfl) h
  · rw [noPlC ok h] at p
    rw [if_neg p] at k
    obtain ⟨⟨hW, hM, -⟩, -⟩ := ok.2.2.1.2.2.2 p
    exact s_mostOfOneSet hW hM (h.rw p).2.2 (k_X11_least_14 C (k μ (fun _ _ => rfl) h))
/-- a row by digits, -1 if there is none -/
theorem c_rowBy {G : mG} {Q : Int32 → mM → Prop} {σ : Sg} {μ : mM} (ok : SgOk σ) (h : Cr σ μ) (x : Int32) (k0 : giv (zP (ys σ)) x = none → Q (-1) μ) (k1 : ∀ d, zC (ys σ) ≠ 0 → giv (zP (ys σ)) x = some d → okD (zC (ys σ)) (qL (zP (ys σ))) d → Q (rowI (rowD (zC (ys σ)) d)) μ) : CtI G mX11_rowBy [.ref (gb G + 0), .int x] μ Q := by
  refine e_X11_rowBy fun E C => k_X11_rowBy_0 C (fun p => ?_) (fun p => ?_)
  · rw [noPlC ok h] at p
    exact k0 (if_pos (Or.inl p))
  · rw [noPlC ok h] at p
    obtain ⟨⟨hW, hM, -⟩, -⟩ := ok.2.2.1.2.2.2 p
    exact s_rowOfDigits (by rfl) hW (h.rw p).1 (fun e => k_X11_rowBy_18 C (k0 e)) (fun d e1 e2 => k_X11_rowBy_18 C (k1 d p e1 e2))
theorem rowI_m1 {P : Pl} (h : PW P) {r : Nat → Nat} : ¬ rowI r = -1 := fun z => by
  have h0 := congrArg (fun x => bt x (4 * 0 + 0)) z
  have h1 := congrArg (fun x => bt x (4 * 0 + 1)) z
  simp only [b_rowc r (show 0 < 8 by omega) (show 0 < 4 by omega), b_rowc r (show 0 < 8 by omega) (show 1 < 4 by omega), b_m1 _ (show 4 * 0 + 0 < 32 by omega), b_m1 _ (show 4 * 0 + 1 < 32 by omega), decide_eq_true_eq] at h0 h1
  omega
theorem x_lawful {G : mG} {μ : mM} {σ : Sg} (ok : SgOk σ) (h : Cr σ μ) (x : Int32) : Kc G mX11_lawful [.ref (gb G + 0), .int x] μ (o_lawful σ x) := by
  intro Q k
  unfold o_lawful at k
  refine e_X11_lawful fun E C => k_X11_lawful_0 C (c_rowBy ok h x (fun e => ?_) (fun d hC e hd => ?_))
  · rw [e] at k
    exact k_X11_lawful_5 C (fun z => absurd rfl z) (fun _ => k_X11_lawful_37 C (k μ (fun _ _ => rfl) h))
  · rw [e] at k
    obtain ⟨⟨hW, hM, -⟩, -⟩ := ok.2.2.1.2.2.2 hC
    have hp := (h.rw hC).1
    refine k_X11_lawful_5 C (fun _ => ?_) (fun z => absurd z (rowI_m1 hW))
    rw [show μ 15 3 = allI (zP (ys σ)) from hp.2.2.2.1]
    have hle := rowD_le hd
    refine s_lawfulIn (by rfl) hW hp 32 0 59 _ _ (bcn_le32 _) (by omega) (by omega) (left_Lf hW hle) (k_X11_lawful_37 C ?_)
    have e2 := cntX_left hW hle
    have k' := k μ (fun _ _ => rfl) h
    show Q (nI (cntX (zP (ys σ)) (leftI (zP (ys σ)) (rowI (rowD (zC (ys σ)) d))))) μ
    rw [e2]
    exact k'
theorem x_hope {G : mG} {μ : mM} {σ : Sg} (ok : SgOk σ) (h : Cr σ μ) (x : Int32) : KcL G mX11_hope [.ref (gb G + 0), .int x] μ (o_hope σ x) := by
  intro Q k
  unfold o_hope at k
  refine e_X11_hope fun E C => k_X11_hope_0 C (c_rowBy ok h x (fun e => ?_) (fun d hC e hd => ?_))
  · rw [e] at k
    exact k_X11_hope_5 C (fun z => absurd rfl z) (fun _ => k_X11_hope_36 C (k μ (fun _ _ => rfl) h))
  · rw [e] at k
    obtain ⟨⟨hW, hM, -⟩, -⟩ := ok.2.2.1.2.2.2 hC
    obtain ⟨hp, hr, hX⟩ := h.rw hC
    exact k_X11_hope_5 C (fun _ => s_hopeOfC (by rfl) hW hM hX hp (rwN_b ok.2.2.1.2.1) (rowD_le hd) (k_X11_hope_36 C (k μ (fun _ _ => rfl) h))) (fun z => absurd z (rowI_m1 hW))
theorem x_mix {G : mG} {μ : mM} {σ : Sg} (ok : SgOk σ) (h : Cr σ μ) (x y : Int32) : Kc G mX11_mix [.ref (gb G + 0), .int x, .int y] μ (o_mix σ x y) := by
  intro Q k
  have y9 : ¬ y < 0 → (y ≤ 8 ↔ ¬ nI 9 ≤ y) := fun _ => by
    rw [Int32.le_iff_toInt_le, Int32.le_iff_toInt_le, nI_toInt (by omega)]
    have : ((8 : Int32)).toInt = 8 := by decide
    omega
  by_cases hC : zC (ys σ) = 0
  · rw [o_mix_none (Or.inl hC)] at k
    have h0 : μ 15 0 ≤ 0 := (noPlC ok h).mpr hC
    have le0 : ¬ x < 0 → 0 ≤ x := fun z => by
      rw [Int32.lt_iff_toInt_lt] at z
      rw [Int32.le_iff_toInt_le]
      omega
    have no : ∀ {A B : Prop}, ¬ x < 0 → (μ 15 0 ≤ 0 ∧ ¬ 0 ≤ x ∧ A) ∨ (¬ μ 15 0 ≤ 0 ∧ B) → False := fun {A B} z y => by
      rcases y with ⟨-, y, -⟩ | ⟨y, -⟩
      · exact y (le0 z)
      · exact y h0
    refine e_X11_mix fun E C => k_X11_mix_0 C (fun _ => k μ (fun _ _ => rfl) h) (fun _ z => absurd h0 z) (fun z y => (no z y).elim) (fun z y => (no z y).elim) (fun z y => (no z y).elim) (fun z y => (no z y).elim) (fun z y => (no z y).elim) (fun z y => (no z y).elim) (fun z y => (no z y).elim)
  · obtain ⟨⟨hW, hM, -⟩, hrow⟩ := ok.2.2.1.2.2.2 hC
    obtain ⟨hp, hr, hX⟩ := h.rw hC
    have n56 := (ns_pos hW.ct).2
    have hT3 := hW.ct.2.1
    obtain ⟨z1, z2⟩ := size_eq hM hX.1 n56
    have h0 : ¬ μ 15 0 ≤ 0 := fun z => hC ((noPlC ok h).mp z)
    have both : ∀ {A B : Prop}, ¬ x < 0 → (μ 15 0 ≤ 0 ∧ A) ∨ (¬ μ 15 0 ≤ 0 ∧ ¬ (if 1200 < μ 25 (μ 23 0).toNatClampNeg then 1200 else μ 25 (μ 23 0).toNatClampNeg) ≤ x ∧ ¬ y < 0 ∧ y ≤ 8 ∧ B) → (∃ m w, m < MM (zP (ys σ)) ∧ w < 9 ∧ x = nI m ∧ y = nI w) ∧ B := fun {A B} p q => by
      rcases q with ⟨q, -⟩ | ⟨-, q1, q2, q3, q4⟩
      · exact absurd q h0
      · rw [z2] at q1
        obtain ⟨m, hm, e1⟩ := ix_not (by omega) p q1
        obtain ⟨w, hw, e2⟩ := ix_not (n := 9) (by omega) q2 ((y9 q2).mp q3)
        exact ⟨⟨m, w, hm, hw, e1, e2⟩, q4⟩
    have key : ∀ {m w : Nat}, m < MM (zP (ys σ)) → w < 9 → x = nI m → y = nI w → ∀ v, v = mxA (ys σ) m w → Q v μ := fun {m w} hm' hw ex ey v ev => by
      rw [ex, ey, o_mix_some hC hM hm' hw] at k
      rw [ev]
      exact k μ (fun _ _ => rfl) h
    refine e_X11_mix fun E C => k_X11_mix_0 C (fun z => ?_) (fun _ _ => z1) (fun p q => ?_) (fun p q => ?_) (fun p q => ?_) (fun p q => ?_) (fun p q => ?_) (fun p q => ?_) (fun p q => ?_)
    · rw [z2] at z
      have e : zC (ys σ) = 0 ∨ ix x (MM (zP (ys σ))) = none ∨ ix y 9 = none := by
        rcases z with z | ⟨-, ⟨z, -⟩ | ⟨-, z | ⟨-, z | ⟨z, w⟩⟩⟩⟩
        · exact Or.inr (Or.inl (ix_n1 z))
        · exact absurd z h0
        · exact Or.inr (Or.inl (ix_n2 z))
        · exact Or.inr (Or.inr (ix_n1 z))
        · refine Or.inr (Or.inr (ix_n2 (Classical.byContradiction fun u => w ((y9 z).mpr u))))
      rw [o_mix_none e] at k
      exact k μ (fun _ _ => rfl) h
    all_goals
      obtain ⟨⟨m, w, hm, hw, ex, ey⟩, r⟩ := both p q
      clear q
      have kk := fun v ev => key hm hw ex ey v ev
      subst ex
      subst ey
      have em : (nI m).toNatClampNeg = m := nI_clamp (by omega)
      have c3 : 3 ≤ nI w ↔ 3 ≤ w := nI_leI (a := 3) (by omega) (by omega)
      have c6 : 6 ≤ nI w ↔ 6 ≤ w := nI_leI (a := 6) (by omega) (by omega)
      have d6 : nI w = 6 ↔ w = 6 := nI_eq (b := 6) (by omega) (by omega)
      have d7 : nI w = 7 ↔ w = 7 := nI_eq (b := 7) (by omega) (by omega)
      try rw [c3] at r
      try rw [c6] at r
      try rw [d6] at r
      try rw [d7] at r
    · simp (disch := omega) only [ofNat_nI, nI_add, pk_mul, nI_clamp, nI_leI, nI_ltI, nI_eq, vp_in_nI_iff, nI_subr, nI_m1r, m1_eq, m1_eq2, m1_le, m1_le2, m1_lt, m1_lt2, m1_self, cv_sub, cv_add1, cv_eq, cv_eqI, cv_eqI2, cv_m1, cv_lt0, cv_leI, cv_Ile, cv_le, cv_lt, cv_Ilt, cv_ltI, not_true, not_false_iff, true_implies, false_implies, false_or, or_false, true_and, and_true, false_and, and_false, true_or, or_true]
      omega
    · have w8 : w = 8 := by omega
      subst w8
      rw [em, hX.2.1 m hm]
      exact s_firstThatHas (by rfl) hW ok.2.2.1.2.1 hm hr (k_X11_mix_118 C (kk _ rfl))
    · have w7 : w = 7 := r.2.2.2
      subst w7
      rw [em, hX.2.2.2.1 m hm]
      exact k_X11_mix_118 C (kk _ rfl)
    · have w6 : w = 6 := r.2.2.1
      subst w6
      have e29 := (mx_can hW hX hm).mp (by rw [← em]; exact r.2.2.2)
      refine kk _ ?_
      show _ = nI (canB (zP (ys σ)) (mrow (zP (ys σ)) m)).toNat
      rw [e29]
      rfl
    · have w6 : w = 6 := r.2.2.1
      subst w6
      have e29 : canB (zP (ys σ)) (mrow (zP (ys σ)) m) = true := by
        cases e : canB (zP (ys σ)) (mrow (zP (ys σ)) m) with
        | true => rfl
        | false =>
          have := (mx_can hW hX hm).mpr e
          rw [em] at r
          exact absurd this r.2.2.2
      refine kk _ ?_
      show _ = nI (canB (zP (ys σ)) (mrow (zP (ys σ)) m)).toNat
      rw [e29]
      rfl
    · rw [show (3 : Int32) = nI 3 from rfl, nI_subr (by omega)]
      refine s_levelOfC hW hM hX hm (by omega) (k_X11_mix_56 C (kk _ ?_))
      unfold mxA
      rw [if_pos (show w < 6 by omega), show w % 3 = w - 3 by omega]
      by_cases u : w - 3 < qT (zP (ys σ))
      · rw [if_pos u, if_pos u, if_neg (by omega)]
      · rw [if_neg u, if_neg u]
    · refine s_columnOf hW hM hX.1 hm (by omega) (k_X11_mix_38 C (kk _ ?_))
      unfold mxA
      rw [if_pos (show w < 6 by omega), show w % 3 = w by omega]
      by_cases u : w < qT (zP (ys σ))
      · rw [if_pos u, if_pos u, if_pos (by omega)]
      · rw [if_neg u, if_neg u]

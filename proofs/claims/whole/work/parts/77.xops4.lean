/-! THE CLASS: undo, keep, back, order, thin, greed, fill, widen, plan -/
theorem x_undo {G : mG} {μ : mM} {σ : Sg} (ok : SgOk σ) (h : Cr σ μ) : Kc G mX11_undo [.ref (gb G + 0)] μ (o_undo σ) := by
  intro Q k
  have hu := ok.2.2.2.1
  obtain ⟨hT, hN, hF, ⟨e, he, u8, u9, hA⟩, hK⟩ := id h
  unfold o_undo at k
  have z9 : μ 0 9 = 0 ↔ yu σ = 0 := by
    rw [u9]
    exact nI_eq (b := 0) (by omega) (by omega)
  have e1 : (nI e + 8 - 1) - (nI e + 8 - 1) / 8 * 8 = nI ((e + 7) % 8) := by
    have : ∀ e, e < 8 → (nI e + 8 - 1) - (nI e + 8 - 1) / 8 * 8 = nI ((e + 7) % 8) := by decide
    exact this e he
  refine e_X11_undo fun E C => k_X11_undo_0 C (fun z => ?_) (fun z => ?_) (fun z => ?_)
  · rw [u8, e1]
    simp (disch := omega) only [ofNat_nI, nI_add, pk_mul, nI_clamp, nI_leI, nI_ltI, nI_eq, vp_in_nI_iff, nI_subr, nI_m1r, m1_eq, m1_eq2, m1_le, m1_le2, m1_lt, m1_lt2, m1_self, cv_sub, cv_add1, cv_eq, cv_eqI, cv_eqI2, cv_m1, cv_lt0, cv_leI, cv_Ile, cv_le, cv_lt, cv_Ilt, cv_ltI, not_true, not_false_iff, true_implies, false_implies, false_or, or_false, true_and, and_true, false_and, and_false, true_or, or_true]
    omega
  · rw [z9] at z
    rw [if_neg z] at k
    obtain ⟨o1, o2⟩ := ok.2.2.2.2.1 (yu σ - 1) (by omega)
    obtain ⟨-, s1, s2, s3⟩ := shPast ((e + 7) % 8) (by omega)
    have e2 : μ 0 9 - 1 = nI (yu σ - 1) := by rw [u9, show (1 : Int32) = nI 1 from rfl, nI_subr (by omega)]
    rw [u8, e1, nI_clamp (by omega), stO_50.1]
    have g0 : ∀ v w c, c ≠ 0 → ms (ms μ 0 8 v) 0 9 w c = μ c := fun v w c hc => by rw [ms_ne hc, ms_ne hc]
    have eS : StC (52 + 8 * ((e + 7) % 8)) (yA σ (yu σ - 1)) μ := by
      have := hA (yu σ - 1) (by omega)
      have er : rgI e (yu σ) (yu σ - 1) = (e + 7) % 8 := by
        unfold rgI
        omega
      rw [er] at this
      exact this
    have e3 : (ms μ 0 8 (nI ((e + 7) % 8))) 0 9 - 1 = nI (yu σ - 1) := by rw [ms_row, upd_at, if_neg (by decide)]; exact e2
    first
      | rw [e3]
      | rw [e2]
    refine c_restore (s := ys σ) s1 s2 s3 (by omega) (by omega) ok.2.2.1 (hN.of fun c h1 h2 => g0 _ _ _ (by omega)) o1 o2 (eS.of fun i hi => g0 _ _ _ (by omega)) (by rw [g0 _ _ _ (by decide)]; exact hF.2.1) fun μ1 F1 N1 => k_X11_undo_48 C ?_
    have f1 : ∀ c, c ≠ 0 → (c < 14 ∨ 31 ≤ c) → μ1 c = μ c := fun c h1 h2 => by rw [F1 c h2, g0 _ _ _ h1]
    have g8 : μ1 0 8 = nI ((e + 7) % 8) := by rw [F1 0 (by omega), ms_row, upd_at, if_neg (by decide), ms_row, upd_at, if_pos rfl]
    have g9 : μ1 0 9 = nI (yu σ - 1) := by rw [F1 0 (by omega), ms_row, upd_at, if_pos rfl]
    rw [g9]
    refine k μ1 (fun c hc => f1 c (by omega) (by omega)) ⟨hT.of (f1 1 (by omega) (by omega)) (f1 2 (by omega) (by omega)), N1, ⟨?_, (N1.2 o2).f25, ?_⟩, ⟨(e + 7) % 8, by omega, g8, g9, fun i hi => ?_⟩, hK.of fun c h1 h2 => f1 c (by omega) (by omega)⟩
    · rw [f1 10 (by omega) (by omega)]; exact hF.1
    · rw [f1 47 (by omega) (by omega)]; exact hF.2.2
    · replace hi : i < yu σ - 1 := hi
      have er : rgI ((e + 7) % 8) (yu σ - 1) i = rgI e (yu σ) i := by
        unfold rgI
        omega
      show StC (52 + 8 * rgI ((e + 7) % 8) (yu σ - 1) i) (yA σ i) μ1
      rw [er]
      exact (hA i (by omega)).of fun j hj => f1 _ (by omega) (by omega)
  · rw [z9] at z
    rw [if_pos z] at k
    exact k μ (fun _ _ => rfl) h
theorem x_keep {G : mG} {μ : mM} {σ : Sg} (ok : SgOk σ) (h : Cr σ μ) (x : Int32) : Kc G mX11_keep [.ref (gb G + 0), .int x] μ (o_keep σ x) := by
  intro Q k
  unfold o_keep at k
  refine e_X11_keep fun E C => k_X11_keep_0 C (fun p => ?_) (fun p1 p2 p3 => ?_) (fun p1 p2 p3 => ?_)
  · rw [noPlC ok h] at p
    by_cases hC : zC (ys σ) = 0
    · rw [if_pos hC] at k
      exact k μ (fun _ _ => rfl) h
    · rw [if_neg hC] at k
      have e : ix x 2 = none := by
        rcases p with p | ⟨-, p | ⟨-, p⟩⟩
        · exact ix_n1 p
        · exact ix_n2 p
        · exact absurd p hC
      rw [e] at k
      exact k μ (fun _ _ => rfl) h
  · obtain ⟨i, hi, rfl⟩ := ix_not (n := 2) (by omega) p1 p2
    simp (disch := omega) only [ofNat_nI, nI_add, pk_mul, nI_clamp, nI_leI, nI_ltI, nI_eq, vp_in_nI_iff, nI_subr, nI_m1r, m1_eq, m1_eq2, m1_le, m1_le2, m1_lt, m1_lt2, m1_self, cv_sub, cv_add1, cv_eq, cv_eqI, cv_eqI2, cv_m1, cv_lt0, cv_leI, cv_Ile, cv_le, cv_lt, cv_Ilt, cv_ltI, not_true, not_false_iff, true_implies, false_implies, false_or, or_false, true_and, and_true, false_and, and_false, true_or, or_true]
    omega
  · rw [noPlC ok h] at p3
    obtain ⟨i, hi, rfl⟩ := ix_not (n := 2) (by omega) p1 p2
    rw [if_neg p3, ix_s hi (by omega)] at k
    obtain ⟨s1, s2, s3⟩ := shShelf i hi
    rw [nI_clamp (by omega), stO_50.2]
    refine s_copyState s1 (by rfl) s2 s3 (by rfl) (by rfl) (by omega) ok.2.2.1 h.2.1.1 fun μ1 F1 S1 => k_X11_keep_31 C ?_
    have f1 : ∀ c, c < 116 + 8 * i ∨ 116 + 8 * i + 8 ≤ c → μ1 c = μ c := fun c hc => F1 c (by simp; omega)
    rw [f1 19 (by omega), h.n]
    refine k μ1 (fun c hc => f1 c (by omega)) ⟨h.1.of (f1 1 (by omega)) (f1 2 (by omega)), h.2.1.of fun c h1 h2 => f1 c (by omega), h.2.2.1.of ?_ ?_ ?_, h.2.2.2.1.of (f1 0 (by omega)) (fun c h1 h2 => f1 c (by omega)), fun j hj => ?_⟩
    · rw [f1 10 (by omega)]
    · rw [f1 25 (by omega)]
    · rw [f1 47 (by omega)]
    · show ((if j = i then some (ys σ) else yK σ j) = none → μ1 (117 + 8 * j) 0 = 0) ∧ ∀ s, (if j = i then some (ys σ) else yK σ j) = some s → StC (116 + 8 * j) s μ1
      by_cases q : j = i
      · rw [if_pos q, q]
        exact ⟨fun z => (Option.some_ne_none _ z).elim, fun s hs => (Option.some.inj hs) ▸ S1⟩
      · rw [if_neg q]
        obtain ⟨a, b⟩ := h.2.2.2.2 j hj
        exact ⟨fun z => by rw [f1 _ (by omega)]; exact a z, fun s hs => (b s hs).of fun l hl => f1 _ (by omega)⟩
theorem x_back {G : mG} {μ : mM} {σ : Sg} (ok : SgOk σ) (h : Cr σ μ) (x : Int32) : Kc G mX11_back [.ref (gb G + 0), .int x] μ (o_back σ x) := by
  intro Q k
  unfold o_back at k
  have x2 : x < 2 ↔ ¬ nI 2 ≤ x := by
    rw [Int32.lt_iff_toInt_lt, Int32.le_iff_toInt_le, nI_toInt (by omega)]
    have : ((2 : Int32)).toInt = 2 := by decide
    omega
  refine e_X11_back fun E C => k_X11_back_0 C (fun p => ?_) (fun p1 p2 => ?_) (fun p1 p2 p3 => ?_) (fun p1 p2 p3 => ?_)
  · rw [x2, Classical.not_not] at p
    rw [ix_or p] at k
    exact k μ (fun _ _ => rfl) h
  all_goals
    obtain ⟨i, hi, ex⟩ := ix_not (n := 2) (by omega) p1 (x2.mp p2)
    subst ex
  · simp (disch := omega) only [ofNat_nI, nI_add, pk_mul, nI_clamp, nI_leI, nI_ltI, nI_eq, vp_in_nI_iff, nI_subr, nI_m1r, m1_eq, m1_eq2, m1_le, m1_le2, m1_lt, m1_lt2, m1_self, cv_sub, cv_add1, cv_eq, cv_eqI, cv_eqI2, cv_m1, cv_lt0, cv_leI, cv_Ile, cv_le, cv_lt, cv_Ilt, cv_ltI, not_true, not_false_iff, true_implies, false_implies, false_or, or_false, true_and, and_true, false_and, and_false, true_or, or_true]
    omega
  all_goals
    rw [ix_s hi (by omega)] at k
    rw [nI_clamp (by omega), stO_50.2] at p3
    obtain ⟨kn, ks⟩ := h.2.2.2.2 i hi
  · cases es : yK σ i with
    | none => exact absurd (by rw [show 116 + 8 * i + 1 = 117 + 8 * i by omega]; exact kn es) p3
    | some s =>
      replace k : ∀ μ', (∀ c, 132 ≤ c → μ' c = μ c) → Cr (match yK σ i with
    | none => (-2, σ)
    | some s => (nI (zn s), sS (sU σ 0 (yA σ)) s)).2 μ' → Q (match yK σ i with
    | none => (-2, σ)
    | some s => (nI (zn s), sS (sU σ 0 (yA σ)) s)).1 μ' := k
      rw [es] at k
      obtain ⟨o1, o2⟩ := ok.2.2.2.2.2 i s es
      obtain ⟨s1, s2, s3⟩ := shShelf i hi
      rw [nI_clamp (by omega), stO_50.2]
      refine c_restore (s := ys σ) s1 s2 s3 (by omega) (by omega) ok.2.2.1 h.2.1 o1 o2 (ks s es) h.2.2.1.2.1 fun μ1 F1 N1 => k_X11_back_39 C ?_
      rw [show μ1 19 0 = nI (zn s) from N1.1.2.1.1]
      have f1 : ∀ c, c ≠ 0 → (c < 14 ∨ 31 ≤ c) → ms μ1 0 9 0 c = μ c := fun c h1 h2 => by rw [ms_ne h1, F1 c h2]
      obtain ⟨e, he, u8, u9, hA⟩ := h.2.2.2.1
      refine k _ (fun c hc => f1 c (by omega) (by omega)) ⟨h.1.of (f1 1 (by omega) (by omega)) (f1 2 (by omega) (by omega)), N1.of fun c h1 h2 => ms_ne (by omega), ⟨?_, ?_, ?_⟩, ⟨e, he, ?_, ?_, fun j hj => absurd hj (Nat.not_lt_zero j)⟩, h.2.2.2.2.of fun c h1 h2 => f1 c (by omega) (by omega)⟩
      · rw [f1 10 (by omega) (by omega)]; exact h.2.2.1.1
      · rw [ms_ne (by omega)]; exact (N1.2 o2).f25
      · rw [f1 47 (by omega) (by omega)]; exact h.2.2.1.2.2
      · rw [ms_row, upd_at, if_neg (by decide), F1 0 (by omega)]; exact u8
      · rw [ms_row, upd_at, if_pos rfl]
        rfl
  · cases es : yK σ i with
    | none =>
      replace k : ∀ μ', (∀ c, 132 ≤ c → μ' c = μ c) → Cr (match yK σ i with
    | none => (-2, σ)
    | some s => (nI (zn s), sS (sU σ 0 (yA σ)) s)).2 μ' → Q (match yK σ i with
    | none => (-2, σ)
    | some s => (nI (zn s), sS (sU σ 0 (yA σ)) s)).1 μ' := k
      rw [es] at k
      exact k μ (fun _ _ => rfl) h
    | some s =>
      exfalso
      obtain ⟨o1, o2⟩ := ok.2.2.2.2.2 i s es
      have := zC_le o1
      have e0 : μ (116 + 8 * i + 1) 0 = nI (zC s) := (ks s es).1.1
      rw [e0] at p3
      exact o2 ((nI_eq (b := 0) (by omega) (by omega)).mp p3)
theorem sm_bi {f : Nat → Nat} {a j n : Nat} (h1 : a ≤ j) (h2 : j < n) : sm n (fun i => f (biN j a i)) = sm n f := by
  obtain ⟨d, rfl⟩ : ∃ d, j = a + d := ⟨j - a, by omega⟩
  obtain ⟨r, rfl⟩ : ∃ r, n = a + (d + 1) + r := ⟨n - (a + (d + 1)), by omega⟩
  rw [sm_app (a + (d + 1)) r, sm_app (a + (d + 1)) r, sm_app a (d + 1), sm_app a (d + 1)]
  have b1 : sm a (fun i => f (biN (a + d) a i)) = sm a f := sm_congr fun i hi => by
    unfold biN
    rw [if_neg (by omega), if_neg (by omega)]
  have b2 : sm (d + 1) (fun i => f (biN (a + d) a (a + i))) = sm (d + 1) (fun i => f (a + i)) := by
    rw [sm_front]
    have c1 : biN (a + d) a (a + 0) = a + d := by unfold biN; rw [if_pos (by omega)]
    have c2 : sm d (fun i => f (biN (a + d) a (a + (i + 1)))) = sm d (fun i => f (a + i)) := sm_congr fun i hi => by
      have : biN (a + d) a (a + (i + 1)) = a + i := by unfold biN; rw [if_neg (by omega), if_pos (by omega)]; omega
      rw [this]
    rw [c1, c2]
    show _ = sm d (fun i => f (a + i)) + f (a + d)
    omega
  have b3 : sm r (fun i => f (biN (a + d) a (a + (d + 1) + i))) = sm r (fun i => f (a + (d + 1) + i)) := sm_congr fun i hi => by
    unfold biN
    rw [if_neg (by omega), if_neg (by omega)]
  rw [b1, b2, b3]
theorem rwN_brg {P : Pl} {R : Nat → Nat → Nat} {m n a j : Nat} (h1 : a ≤ j) (h2 : j < n) : rwN P (brg R j a) m n = rwN P R m n := by
  unfold rwN
  rw [← sm_bi (f := fun i => (hasM P (R i) m).toNat) h1 h2]
  refine sm_congr fun i _ => ?_
  rw [brg_bi]
theorem orS_keep : ∀ (d a : Nat) (q : Ps × Nat), a + d = zn q.1 → zP (orS d a q).1 = zP q.1 ∧ zn (orS d a q).1 = zn q.1 ∧ zx (orS d a q).1 = zx q.1 ∧ ∀ m, rwN (zP q.1) (zR (orS d a q).1) m (zn q.1) = rwN (zP q.1) (zR q.1) m (zn q.1)
  | 0, _, _, _ => ⟨rfl, rfl, rfl, fun _ => rfl⟩
  | d + 1, a, q, hd => by
    obtain ⟨o1, o2⟩ := orB_1 q.1 a d
    rw [orS]
    obtain ⟨a1, a2, a3, a4⟩ := orS_keep d (a + 1) (sOr q.1 a (a + ((orB q.1 a (d + 1)).1 - 1)), q.2 + (decide (0 < (orB q.1 a (d + 1)).2 - 1)).toNat) (by show a + 1 + d = zn q.1; omega)
    refine ⟨a1, a2, a3, fun m => ?_⟩
    have := a4 m
    refine this.trans ?_
    show rwN (zP q.1) (brg (zR q.1) (a + ((orB q.1 a (d + 1)).1 - 1)) a) m (zn q.1) = _
    exact rwN_brg (by omega) (by omega)
theorem x_order {G : mG} {μ : mM} {σ : Sg} (ok : SgOk σ) (h : Cr σ μ) : Kc G mX11_order [.ref (gb G + 0)] μ (o_order σ) := by
  intro Q k
  unfold o_order at k
  refine e_X11_order fun E C => k_X11_order_0 C (fun p => ?_) (fun p => ?_)
  · rw [noPlC ok h] at p
    rw [if_pos p] at k
    exact k μ (fun _ _ => rfl) h
  · rw [noPlC ok h] at p
    rw [if_neg p] at k
    refine c_remember ok h fun μ1 F1 h1 => k_X11_order_13 C ?_
    obtain ⟨hp, hr, hX⟩ := h1.rw (σ := kpS σ) p
    refine s_place (s := ys σ) (by rfl) (by omega) ok.2.2.1 p hX hr fun μ2 F2 r2 => k_X11_order_31 C ?_
    obtain ⟨a1, a2, a3, a4⟩ := orS_keep (zn (ys σ)) 0 (ys σ, 0) (Nat.zero_add _)
    have e : ∀ c, (c < 19 ∨ 22 ≤ c) → (c < 37 ∨ 42 ≤ c) → μ2 c = μ1 c := fun c h1 h2 => F2 c (by simp; omega)
    have hX2 : MxC (zP (ys σ)) (fun m => rwN (zP (ys σ)) (zR (orS (zn (ys σ)) 0 (ys σ, 0)).1) m (zn (ys σ))) μ2 := (hX.of fun c hc => e c (by omega) (by omega)).had fun m _ => (a4 m).symm
    refine k μ2 (fun c hc => by rw [e c (by omega) (by omega), F1 c (by omega) (by omega)]) (h1.now (σ := kpS σ) (fun c hc => e c (by omega) (by omega)) ⟨⟨?_, ?_, ?_⟩, fun hC => ?_⟩ ⟨?_, hX2.f25, ?_⟩)
    · rw [a1]
      exact hp.of (e 15 (by decide) (by decide)) (e 16 (by decide) (by decide)) (e 17 (by decide) (by decide)) (e 18 (by decide) (by decide))
    · rw [a2]; exact r2
    · rw [a3, e 14 (by decide) (by decide)]; exact h1.2.1.1.2.2
    · rw [a1, a2]; exact hX2
    · rw [e 10 (by decide) (by decide)]; exact h1.2.2.1.1
    · rw [e 47 (by decide) (by decide)]; exact h1.2.2.1.2.2
theorem x_thin {G : mG} {μ : mM} {σ : Sg} (ok : SgOk σ) (h : Cr σ μ) : Kc G mX11_thin [.ref (gb G + 0)] μ (o_thin σ) := by
  intro Q k
  unfold o_thin at k
  have hn := ok.2.2.1.2.1
  refine e_X11_thin fun E C => k_X11_thin_0 C (fun p => ?_) (fun p => ?_)
  · rw [noPlC ok h] at p
    rw [if_pos p] at k
    exact k μ (fun _ _ => rfl) h
  · rw [noPlC ok h] at p
    rw [if_neg p] at k
    refine c_remember ok h fun μ1 F1 h1 => k_X11_thin_13 C ?_
    have loop : ∀ (r : Nat) (s : Ps) (μ' : mM), r ≤ zn s → zn s ≤ zn (ys σ) → PsOk s → zP s = zP (ys σ) → (∀ c, 132 ≤ c → μ' c = μ c) → Cr (sS (kpS σ) s) μ' → thS r s = thS (zn (ys σ)) (ys σ) → Wm G mX11_thin E (bm G mX11_thin E (pI Q)) μ' 28 [(0, .ref (gb G + 0)), (1, .int (nI (zn (ys σ)))), (2, .int (cv r))] [] := by
      intro r
      induction r with
      | zero =>
        intro s μ' _ hle hs hP F hc e
        refine k_X11_thin_28 C (fun _ => ?_) (fun z => absurd (show cv 0 < 0 by decide) z) (fun z => absurd (show cv 0 < 0 by decide) z)
        have e' : s = thS (zn (ys σ)) (ys σ) := e
        have e19 : μ' 19 0 = nI (zn s) := hc.n
        rw [e19, nI_subr hle]
        rw [← e'] at k
        exact k μ' F hc
      | succ r ih =>
        intro s μ' hr hle hs hP F hc e
        have hsn := hs.2.1
        have hCs : zC s ≠ 0 := by show qC (zP s) ≠ 0; rw [hP]; exact p
        obtain ⟨⟨hW, hM, -⟩, hrow⟩ := hs.2.2.2 hCs
        obtain ⟨hp, hrw, hX⟩ := hc.rw (σ := sS (kpS σ) s) hCs
        have er : μ' 20 (nI r).toNatClampNeg = rowI (zR s r) := by rw [nI_clamp (by omega)]; exact hrw.2.1 r (by show r < zn s; omega)
        have oks : SgOk (sS (kpS σ) s) := (ok.kpS p).sS hs
        rw [cv_s]
        refine k_X11_thin_28 C (fun z => absurd z (nI_pos (by omega))) (fun _ => ?_) (fun _ => ?_)
        · simp (disch := omega) only [ofNat_nI, nI_add, pk_mul, nI_clamp, nI_leI, nI_ltI, nI_eq, vp_in_nI_iff, nI_subr, nI_m1r, m1_eq, m1_eq2, m1_le, m1_le2, m1_lt, m1_lt2, m1_self, cv_sub, cv_add1, cv_eq, cv_eqI, cv_eqI2, cv_m1, cv_lt0, cv_leI, cv_Ile, cv_le, cv_lt, cv_Ilt, cv_ltI, not_true, not_false_iff, true_implies, false_implies, false_or, or_false, true_and, and_true, false_and, and_false, true_or, or_true]
          omega
        · rw [er]
          refine s_hadBesides hW hM hX (rwN_b hsn) (hrow r (by omega)).1.1 (fun hall => k_X11_thin_51 C (fun z => absurd z (by decide)) (fun _ => ?_)) (fun hex => k_X11_thin_51 C (fun _ => ?_) (fun z => absurd rfl z))
          · have nb : needB (zP s) (zn s) (zR s) r = false := decide_eq_false fun ⟨m, m1, m2, m3⟩ => by
              have : 2 ≤ rwN (zP s) (zR s) m (zn s) := hall m m1 m2
              omega
            rw [thS, if_neg (by rw [nb]; exact Bool.false_ne_true)] at e
            refine c_takeAway oks hc (show r < zn s by omega) fun μ2 F2 h2 => k_X11_thin_59 C ?_
            rw [show nI r + (-1) = cv r from cv_sub r]
            exact ih (sDrop s r) μ2 (by show r ≤ zn s - 1; omega) (by show zn s - 1 ≤ _; omega) (hs.drop (by omega)) hP (fun c hc => by rw [F2 c (by simp; omega)]; exact F c hc) h2 e
          · have nb : needB (zP s) (zn s) (zR s) r = true := decide_eq_true (by
              obtain ⟨m, m1, m2, m3⟩ := hex
              have m3' : rwN (zP s) (zR s) m (zn s) < 2 := m3
              have := has_pos (P := zP s) (R := zR s) (m := m) (n := zn s) (j := r) (by omega) m2
              exact ⟨m, m1, m2, by omega⟩)
            rw [thS, if_pos nb] at e
            refine k_X11_thin_59 C ?_
            rw [show nI r + (-1) = cv r from cv_sub r]
            exact ih s μ' (by omega) hle hs hP F hc e
    rw [h1.n, show nI (zn (ys (kpS σ))) - 1 = cv (zn (ys σ)) from cv_sub1 _]
    exact loop (zn (ys σ)) (ys σ) μ1 (Nat.le_refl _) (Nat.le_refl _) ok.2.2.1 rfl (fun c hc => F1 c (by omega) (by omega)) h1 rfl
theorem Cr.mk35 {σ : Sg} {μ μ' : mM} (h : Cr σ μ) (F : Fr [31, 32, 33, 34, 35] μ μ') : Cr σ μ' :=
  h.fr (fun c hc => F c (by simp; omega)) (by rw [F 10 (by decide)]; exact h.2.2.1.1) (by rw [F 47 (by decide)]; exact h.2.2.1.2.2)
theorem x_greed {G : mG} {μ : mM} {σ : Sg} (ok : SgOk σ) (h : Cr σ μ) : Kc G mX11_greed [.ref (gb G + 0)] μ (o_greed σ) := by
  intro Q k
  unfold o_greed at k
  have hn := ok.2.2.1.2.1
  have e64 : μ 19 0 < 64 ↔ zn (ys σ) < 64 := by
    rw [h.n]
    exact nI_ltI (b := 64) (by omega) (by omega)
  refine e_X11_greed fun E C => k_X11_greed_0 C (fun p => ?_) (fun p q => ?_)
  · rw [noPlC ok h, e64] at p
    rw [if_pos (by
      rcases p with p | ⟨-, p⟩
      · exact Or.inl p
      · exact Or.inr (by omega))] at k
    exact k μ (fun _ _ => rfl) h
  · rw [noPlC ok h] at p
    rw [e64] at q
    rw [if_neg (by rintro (z | z); exact p z; omega)] at k
    obtain ⟨⟨hW, hM, -⟩, hrow⟩ := ok.2.2.1.2.2.2 p
    have hop : zo (ys σ) ≤ MM (zP (ys σ)) := opN_le (zP (ys σ)) (zn (ys σ)) (zR (ys σ))
    refine s_openCount hW hM (h.rw p).2.2 (rwN_b hn) (k_X11_greed_31 C (fun z => ?_) (fun z => ?_))
    · have z' : zo (ys σ) ≠ 0 := fun y => z (by
        show nI (zo (ys σ)) = 0
        rw [y]
        rfl)
      rw [if_neg z'] at k
      refine c_remember ok h fun μ1 F1 h1 => k_X11_greed_41 C ?_
      obtain ⟨hp1, hr1, hX1⟩ := h1.rw (σ := kpS σ) p
      refine s_makeRow (by rfl) (by omega) hW hM hX1 hp1 (rwN_b hn) fun μ2 F2 => k_X11_greed_60 C ?_
      have h2 := h1.mk35 F2
      refine c_append (σ := kpS σ) (ok.kpS p) h2 p q (fun c => grR_le (zP (ys σ)) _) fun μ3 F3 h3 => k_X11_greed_63 C ?_
      have okG : PsOk (sGr (ys σ)) := ok.2.2.1.gr p q
      have h3' : Cr (sS (kpS σ) (sGr (ys σ))) μ3 := h3
      obtain ⟨hp3, hr3, hX3⟩ := h3'.rw (σ := sS (kpS σ) (sGr (ys σ))) p
      have e19 : μ3 19 0 - 1 = nI (zn (ys σ)) := by
        rw [h3'.n]
        show nI (zn (ys σ) + 1) - 1 = _
        rw [show (1 : Int32) = nI 1 from rfl, nI_subr (by omega), Nat.add_sub_cancel]
      rw [e19]
      refine s_gainOfC (P := zP (ys σ)) (by rfl) hW hM (show zn (ys σ) + 1 ≤ 64 by omega) (show zn (ys σ) < zn (ys σ) + 1 by omega) hX3 hr3 (fun j hj => ((okG.2.2.2 p).2 j hj).1.1) (k_X11_greed_89 C ?_)
      exact k μ3 (fun c hc => by rw [F3 c (by simp; omega), F2 c (by simp; omega), F1 c (by omega) (by omega)]) h3'
    · have z' : zo (ys σ) = 0 := (nI_eq (b := 0) (by omega) (by omega)).mp (show nI (zo (ys σ)) = 0 from z)
      rw [if_pos z'] at k
      exact k μ (fun _ _ => rfl) h
theorem x_fill {G : mG} {μ : mM} {σ : Sg} (ok : SgOk σ) (h : Cr σ μ) : Kc G mX11_fill [.ref (gb G + 0)] μ (o_fill σ) := by
  intro Q k
  unfold o_fill at k
  have hn := ok.2.2.1.2.1
  have e64 : 64 ≤ μ 19 0 ↔ zn (ys σ) = 64 := by
    rw [h.n]
    exact (nI_leI (a := 64) (by omega) (by omega)).trans (by omega)
  refine e_X11_fill fun E C => k_X11_fill_0 C (fun p => ?_) (fun p q => ?_) (fun p q => ?_)
  · rw [noPlC ok h] at p
    rw [if_pos p] at k
    exact k μ (fun _ _ => rfl) h
  · rw [noPlC ok h] at p
    rw [e64] at q
    rw [if_neg p, if_pos (Or.inl q)] at k
    exact k μ (fun _ _ => rfl) h
  · rw [noPlC ok h] at p
    rw [e64] at q
    rw [if_neg p] at k
    obtain ⟨⟨hW, hM, -⟩, hrow⟩ := ok.2.2.1.2.2.2 p
    have hop : zo (ys σ) ≤ MM (zP (ys σ)) := opN_le (zP (ys σ)) (zn (ys σ)) (zR (ys σ))
    refine s_openCount hW hM (h.rw p).2.2 (rwN_b hn) (k_X11_fill_33 C (fun z => ?_) (fun z => ?_))
    · have z' : zo (ys σ) ≠ 0 := fun y => z (by
        show nI (zo (ys σ)) = 0
        rw [y]
        rfl)
      rw [if_neg (by rintro (y | y); exact q y; exact z' y)] at k
      rw [h.n]
      refine c_remember ok h fun μ1 F1 h1 => k_X11_fill_42 C ?_
      have fin : ∀ (s : Ps) (μ' : mM), zn (ys σ) ≤ zn s → zn s ≤ 64 → (∀ c, 132 ≤ c → μ' c = μ c) → Cr (sS (kpS σ) s) μ' → s = flS 64 (ys σ) → Wm G mX11_fill E (bm G mX11_fill E (pI Q)) μ' 88 [(0, .ref (gb G + 0)), (1, .int (nI (zn (ys σ))))] [] := fun s μ' l1 l2 F hc e => by
        refine k_X11_fill_88 C ?_
        have e19 : μ' 19 0 = nI (zn s) := hc.n
        rw [e19, nI_subr l1]
        rw [← e] at k
        exact k μ' F hc
      have loop : ∀ (d f : Nat) (s : Ps) (μ' : mM), zn s + d = 64 → d ≤ f → zn (ys σ) ≤ zn s → PsOk s → zP s = zP (ys σ) → (∀ c, 132 ≤ c → μ' c = μ c) → Cr (sS (kpS σ) s) μ' → flS f s = flS 64 (ys σ) → Wm G mX11_fill E (bm G mX11_fill E (pI Q)) μ' 44 [(0, .ref (gb G + 0)), (1, .int (nI (zn (ys σ)))), (2, .int (nI (zn s)))] [] := by
        intro d
        induction d with
        | zero =>
          intro f s μ' hd hf hle hs hP F hc e
          have hs64 : zn s = 64 := by omega
          have e' : s = flS 64 (ys σ) := by
            rw [← e]
            cases f with
            | zero => rfl
            | succ f => rw [flS, if_neg (by rintro ⟨z, -⟩; omega)]
          refine k_X11_fill_44 C (fun _ => fin s μ' hle (by omega) F hc e') (fun z => ?_)
          exfalso
          apply z
          rw [hs64]
          decide
        | succ d ih =>
          intro f s μ' hd hf hle hs hP F hc e
          have hsn := hs.2.1
          have hCs : zC s ≠ 0 := by show qC (zP s) ≠ 0; rw [hP]; exact p
          obtain ⟨⟨hW, hM, -⟩, hrow⟩ := hs.2.2.2 hCs
          obtain ⟨hp, hrw, hX⟩ := hc.rw (σ := sS (kpS σ) s) hCs
          obtain ⟨f', rfl⟩ : ∃ f', f = f' + 1 := ⟨f - 1, by omega⟩
          have hop : zo s ≤ MM (zP s) := opN_le (zP s) (zn s) (zR s)
          refine k_X11_fill_44 C (fun z => ?_) (fun _ => ?_)
          · exfalso
            rw [show (64 : Int32) = nI 64 from rfl, nI_leI (by omega) (by omega)] at z
            omega
          · refine s_openCount hW hM hX (rwN_b hsn) (k_X11_fill_57 C (fun y => ?_) (fun y => ?_))
            · have y' : zo s = 0 := by
                have := (nI_leI (b := 0) (by omega) (by omega)).mp (show nI (zo s) ≤ 0 from y)
                omega
              rw [flS, if_neg (fun w => w.2 y')] at e
              exact fin s μ' hle (by omega) F hc e
            · have y' : zo s ≠ 0 := fun w => y (by
                show nI (zo s) ≤ 0
                rw [w]
                decide)
              rw [flS, if_pos ⟨by omega, y'⟩] at e
              refine s_makeRow (by rfl) (by omega) hW hM hX hp (rwN_b hsn) fun μ2 F2 => k_X11_fill_79 C ?_
              have h2 := hc.mk35 F2
              refine c_append (σ := sS (kpS σ) s) ((ok.kpS p).sS hs) h2 hCs (show zn s < 64 by omega) (fun c => grR_le (zP s) _) fun μ3 F3 h3 => k_X11_fill_82 C ?_
              rw [nI_1]
              exact ih f' (sGr s) μ3 (by show zn s + 1 + d = 64; omega) (by omega) (by show _ ≤ zn s + 1; omega) (hs.gr hCs (by omega)) hP (fun c hc => by rw [F3 c (by simp; omega), F2 c (by simp; omega)]; exact F c hc) h3 e
      exact loop (64 - zn (ys σ)) 64 (ys σ) μ1 (by omega) (by omega) (Nat.le_refl _) ok.2.2.1 rfl (fun c hc => F1 c (by omega) (by omega)) h1 rfl
    · have z' : zo (ys σ) = 0 := (nI_eq (b := 0) (by omega) (by omega)).mp (show nI (zo (ys σ)) = 0 from z)
      rw [if_pos (Or.inr z')] at k
      exact k μ (fun _ _ => rfl) h

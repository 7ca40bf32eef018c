/-! THE CLASS: results, suspects, acts undone, shelves, the tape -/
theorem x_result {G : mG} {μ : mM} {σ : Sg} (ok : SgOk σ) (h : Cr σ μ) (x y : Int32) : Kc G mX11_result [.ref (gb G + 0), .int x, .int y] μ (o_result σ x y) := by
  intro Q k
  have hn := ok.2.2.1.2.1
  unfold o_result at k
  have y3 : ¬ y < 0 → (y ≤ 2 ↔ ¬ nI 3 ≤ y) := fun _ => by
    rw [Int32.le_iff_toInt_le, Int32.le_iff_toInt_le, nI_toInt (by omega)]
    have : ((2 : Int32)).toInt = 2 := by decide
    omega
  have both : ¬ x < 0 → ¬ μ 19 0 ≤ x → ¬ y < 0 → y ≤ 2 → ∃ j v, j < zn (ys σ) ∧ v < 3 ∧ x = nI j ∧ y = nI v := fun p1 p2 p3 p4 => by
    rw [h.n] at p2
    obtain ⟨j, hj, e1⟩ := ix_not (by omega) p1 p2
    obtain ⟨v, hv, e2⟩ := ix_not (n := 3) (by omega) p3 ((y3 p3).mp p4)
    exact ⟨j, v, hj, hv, e1, e2⟩
  refine e_X11_result fun E C => k_X11_result_0 C (fun p => ?_) (fun p1 p2 p3 p4 => ?_) (fun p1 p2 p3 p4 p5 => ?_) (fun p1 p2 p3 p4 p5 => ?_)
  · rw [h.n] at p
    rcases p with p | ⟨-, -, p⟩
    · rw [ix_or p] at k
      exact k μ (fun _ _ => rfl) h
    · have e : ix y 3 = none := by
        rcases p with p | ⟨p, q⟩
        · exact ix_n1 p
        · exact ix_n2 (Classical.byContradiction fun u => q ((y3 p).mpr u))
      rw [e] at k
      cases e2 : ix x (zn (ys σ)) with
      | none => rw [e2] at k; exact k μ (fun _ _ => rfl) h
      | some j => rw [e2] at k; exact k μ (fun _ _ => rfl) h
  all_goals
    obtain ⟨j, v, hj, hv, ex, ey⟩ := both p1 p2 p3 p4
    subst ex
    subst ey
  · simp (disch := omega) only [ofNat_nI, nI_add, pk_mul, nI_clamp, nI_leI, nI_ltI, nI_eq, vp_in_nI_iff, nI_subr, nI_m1r, m1_eq, m1_eq2, m1_le, m1_le2, m1_lt, m1_lt2, m1_self, cv_sub, cv_add1, cv_eq, cv_eqI, cv_eqI2, cv_m1, cv_lt0, cv_leI, cv_Ile, cv_le, cv_lt, cv_Ilt, cv_ltI, not_true, not_false_iff, true_implies, false_implies, false_or, or_false, true_and, and_true, false_and, and_false, true_or, or_true]
    omega
  all_goals
    rw [ix_s hj (by omega), ix_s hv (by omega)] at k
    replace k : ∀ μ', (∀ c, 132 ≤ c → μ' c = μ c) → Cr (if zt (ys σ) j = v then (-2, σ) else (nI (zt (ys σ) j), sS (kpS σ) (sTold (ys σ) j v))).2 μ' → Q (if zt (ys σ) j = v then (-2, σ) else (nI (zt (ys σ) j), sS (kpS σ) (sTold (ys σ) j v))).1 μ' := k
    have hC := zn_C ok.2.2.1 (by omega)
    have htj := ((ok.2.2.1.2.2.2 hC).2 j hj).2
    have e21 : μ 21 (nI j).toNatClampNeg = nI (zt (ys σ) j) := by rw [nI_clamp (by omega)]; exact h.2.1.1.2.1.2.2 j hj
    rw [e21, nI_eq (by omega) (by omega)] at p5
  · rw [if_neg p5] at k
    rw [e21]
    refine c_remember ok h fun μ1 F1 h1 => k_X11_result_44 C ?_ ?_
    · simp (disch := omega) only [ofNat_nI, nI_add, pk_mul, nI_clamp, nI_leI, nI_ltI, nI_eq, vp_in_nI_iff, nI_subr, nI_m1r, m1_eq, m1_eq2, m1_le, m1_le2, m1_lt, m1_lt2, m1_self, cv_sub, cv_add1, cv_eq, cv_eqI, cv_eqI2, cv_m1, cv_lt0, cv_leI, cv_Ile, cv_le, cv_lt, cv_Ilt, cv_ltI, not_true, not_false_iff, true_implies, false_implies, false_or, or_false, true_and, and_true, false_and, and_false, true_or, or_true]
      omega
    · rw [nI_clamp (by omega)]
      have e : ∀ c, c ≠ 21 → ms μ1 21 j (nI v) c = μ1 c := fun c hc => ms_ne hc
      refine k _ (fun c hc => by rw [e c (by omega), F1 c (by omega) (by omega)]) (h1.now (σ := kpS σ) (fun c hc => e c (by omega)) ⟨⟨?_, ⟨?_, ?_, fun i hi => ?_⟩, ?_⟩, fun hC => ?_⟩ (h1.2.2.1.of ?_ ?_ ?_))
      · exact h1.2.1.1.1.of (e 15 (by decide)) (e 16 (by decide)) (e 17 (by decide)) (e 18 (by decide))
      · rw [e 19 (by decide)]; exact h1.2.1.1.2.1.1
      · rw [e 20 (by decide)]; exact h1.2.1.1.2.1.2.1
      · rw [ms_row, upd_at]
        show _ = nI (up (zt (ys σ)) j v i)
        rw [up_at]
        by_cases q : i = j
        · rw [if_pos q, if_pos q]
        · rw [if_neg q, if_neg q]; exact h1.2.1.1.2.1.2.2 i hi
      · rw [e 14 (by decide)]; exact h1.2.1.1.2.2
      · exact (h1.2.1.2 hC).of fun c hc => e c (by omega)
      · rw [e 10 (by decide)]
      · rw [e 25 (by decide)]
      · rw [e 47 (by decide)]
  · rw [if_pos p5] at k
    exact k μ (fun _ _ => rfl) h
/-- bytes -/
theorem byt_c (v : Int32) {s : Nat} (hs : s ≤ 24) : iush v (nI s) &&& 255 = nI (byt v s) := b_ext fun i hi => by
  have e : ∀ j, j < 32 → bt 255 j = decide (j < 8) := by decide +kernel
  rw [b_and, b_ush s (by omega), e i hi, b_nI hi]
  unfold byt
  rw [show (256 : Nat) = 2 ^ 8 from rfl, Nat.testBit_mod_two_pow, Nat.testBit_div_two_pow, Bool.and_comm]
  congr 1
  show v.toBitVec.getLsbD (s + i) = v.toBitVec.toNat.testBit (i + s)
  rw [Nat.add_comm]
  rfl
theorem c_put {G : mG} {Q : mM → Prop} {μ : mM} {z : Nat} (v : Int32) (hz : z ≤ 196) (h1 : μ 1 1 = nI z) (k : ∀ μ', Fr [1, 2] μ μ' → μ' 1 1 = nI (z + 4) → (∀ i, i < z + 4 → μ' 2 i = if i < z then μ 2 i else nI (byt v (24 - 8 * (i - z)))) → Q μ') : CtV G mX10_put [.ref (gb G + 1), .int v] μ Q := by
  refine e_X10_put fun E C => k_X10_put_0 C ?_
  have sh0 : ∀ d, d ≤ 4 → ((if d = 0 then (-8 : Int32) else nI (8 * (d - 1))) < 0 ↔ d = 0) ∧ (d ≠ 0 → (if d = 0 then (-8 : Int32) else nI (8 * (d - 1))) + (-8) = if d - 1 = 0 then (-8 : Int32) else nI (8 * (d - 1 - 1))) := by decide
  have loop : ∀ (d a : Nat) (μ' : mM), a + d = 4 → Fr [1, 2] μ μ' → μ' 1 1 = nI (z + a) → (∀ i, i < z + a → μ' 2 i = if i < z then μ 2 i else nI (byt v (24 - 8 * (i - z)))) → Wm G mX10_put E (bm G mX10_put E (pV Q)) μ' 3 [(0, .ref (gb G + 1)), (1, .int v), (2, .int (if d = 0 then -8 else nI (8 * (d - 1))))] [] := by
    intro d
    induction d with
    | zero =>
      intro a μ' ha F e1 e2
      have ha4 : a = 4 := by omega
      subst ha4
      obtain ⟨s1, -⟩ := sh0 0 (by omega)
      exact k_X10_put_3 C (fun _ => k μ' F e1 e2) (fun y => absurd (s1.mpr rfl) y) (fun y => absurd (s1.mpr rfl) y)
    | succ d ih =>
      intro a μ' ha F e1 e2
      obtain ⟨s1, s2⟩ := sh0 (d + 1) (by omega)
      have n200 : ¬ 200 ≤ μ' 1 1 := by
        rw [e1, show (200 : Int32) = nI 200 from rfl, nI_leI (by omega) (by omega)]
        omega
      refine k_X10_put_3 C (fun y => ?_) (fun _ _ => ?_) (fun _ _ => ?_)
      · exfalso
        rcases y with y | ⟨-, y⟩
        · have := s1.mp y; omega
        · exact n200 y
      · rw [e1]
        simp (disch := omega) only [ofNat_nI, nI_add, pk_mul, nI_clamp, nI_leI, nI_ltI, nI_eq, vp_in_nI_iff, nI_subr, nI_m1r, m1_eq, m1_eq2, m1_le, m1_le2, m1_lt, m1_lt2, m1_self, cv_sub, cv_add1, cv_eq, cv_eqI, cv_eqI2, cv_m1, cv_lt0, cv_leI, cv_Ile, cv_le, cv_lt, cv_Ilt, cv_ltI, not_true, not_false_iff, true_implies, false_implies, false_or, or_false, true_and, and_true, false_and, and_false, true_or, or_true]
        omega
      · rw [s2 (by omega), if_neg (show ¬ d + 1 = 0 by omega), Nat.add_sub_cancel, byt_c v (show 8 * d ≤ 24 by omega), e1, nI_clamp (by omega), nI_1]
        refine ih (a + 1) _ (by omega) ((F.ms (by decide)).ms (by decide)) ?_ (fun i hi => ?_)
        · rw [ms_row, upd_at, if_pos rfl]
          rfl
        · rw [ms_ne (by decide), ms_row, upd_at]
          by_cases q : i = z + a
          · rw [if_pos q, q, if_neg (by omega), show 24 - 8 * (z + a - z) = 8 * d by omega]
          · rw [if_neg q]
            exact e2 i (by omega)
  have := loop 4 0 μ (by omega) (Fr.rf _ _) h1 (fun i hi => by rw [if_pos (by omega)])
  exact this
theorem x_feed {G : mG} {μ : mM} {σ : Sg} (ok : SgOk σ) (h : Cr σ μ) (a b c d e : Int32) : Kc G mX11_feed [.ref (gb G + 0), .int a, .int b, .int c, .int d, .int e] μ (o_feed σ a b c d e) := by
  intro Q k
  have hz := ok.2.1
  unfold o_feed at k
  have e0 : μ 1 1 + 20 ≤ 200 ↔ ¬ 180 < yz σ := by
    rw [h.1.1, show (20 : Int32) = nI 20 from rfl, nI_add, show (200 : Int32) = nI 200 from rfl, nI_leI (by omega) (by omega)]
    omega
  refine e_X11_feed fun E C => k_X11_feed_0 C (fun p => ?_) (fun p => ?_)
  · rw [e0] at p
    rw [if_neg p] at k
    refine c_put a (by omega) h.1.1 fun μ1 F1 s1 t1 => k_X11_feed_26 C ?_
    refine c_put b (by omega) s1 fun μ2 F2 s2 t2 => k_X11_feed_34 C ?_
    refine c_put c (by omega) s2 fun μ3 F3 s3 t3 => k_X11_feed_42 C ?_
    refine c_put d (by omega) s3 fun μ4 F4 s4 t4 => k_X11_feed_51 C ?_
    refine c_put e (by omega) s4 fun μ5 F5 s5 t5 => k_X11_feed_60 C ?_
    have F : Fr [1, 2] μ μ5 := (((F1.tr F2).tr F3).tr F4).tr F5
    have s5' : μ5 1 1 = nI (yz σ + 20) := by rw [s5]
    rw [s5']
    refine k μ5 (fun c hc => F c (by simp; omega)) ⟨⟨s5', fun i hi => ?_⟩, h.2.1.of fun c h1 h2 => F c (by simp; omega), h.2.2.1.of ?_ ?_ ?_, h.2.2.2.1.of (F 0 (by decide)) (fun c h1 h2 => F c (by simp; omega)), h.2.2.2.2.of fun c h1 h2 => F c (by simp; omega)⟩
    · replace hi : i < yz σ + 20 := hi
      show μ5 2 i = nI (feT σ a b c d e i)
      rw [t5 i (by omega)]
      unfold feT feB fw
      by_cases q5 : i < yz σ + 16
      · rw [if_pos (by omega), t4 i (by omega)]
        by_cases q4 : i < yz σ + 12
        · rw [if_pos (by omega), t3 i (by omega)]
          by_cases q3 : i < yz σ + 8
          · rw [if_pos (by omega), t2 i (by omega)]
            by_cases q2 : i < yz σ + 4
            · rw [if_pos (by omega), t1 i (by omega)]
              by_cases q1 : i < yz σ
              · rw [if_pos q1, if_neg (by omega)]
                exact h.1.2 i q1
              · rw [if_neg q1, if_pos (by omega), if_pos (by omega), show 24 - 8 * (i - yz σ) = 24 - 8 * ((i - yz σ) % 4) by omega]
            · rw [if_neg (by omega), if_pos (by omega), if_neg (by omega), if_pos (by omega), show 24 - 8 * (i - (yz σ + 4)) = 24 - 8 * ((i - yz σ) % 4) by omega]
          · rw [if_neg (by omega), if_pos (by omega), if_neg (by omega), if_neg (by omega), if_pos (by omega), show 24 - 8 * (i - (yz σ + 4 + 4)) = 24 - 8 * ((i - yz σ) % 4) by omega]
        · rw [if_neg (by omega), if_pos (by omega), if_neg (by omega), if_neg (by omega), if_neg (by omega), if_pos (by omega), show 24 - 8 * (i - (yz σ + 4 + 4 + 4)) = 24 - 8 * ((i - yz σ) % 4) by omega]
      · rw [if_neg (by omega), if_pos (by omega), if_neg (by omega), if_neg (by omega), if_neg (by omega), if_neg (by omega), show 24 - 8 * (i - (yz σ + 4 + 4 + 4 + 4)) = 24 - 8 * ((i - yz σ) % 4) by omega]
    · rw [F 10 (by decide)]
    · rw [F 25 (by decide)]
    · rw [F 47 (by decide)]
  · rw [e0, Classical.not_not] at p
    rw [if_pos p] at k
    exact k μ (fun _ _ => rfl) h
theorem Cr.sus {σ : Sg} {μ μ' : mM} (h : Cr σ μ) (F : Fr [42, 43, 44, 45, 46, 47, 48, 49] μ μ') (e : μ' 47 0 = 0) : Cr σ μ' :=
  h.fr (fun c hc => F c (by simp; omega)) (by rw [F 10 (by decide)]; exact h.2.2.1.1) e
theorem x_guilty {G : mG} {μ : mM} {σ : Sg} (ok : SgOk σ) (h : Cr σ μ) (x y : Int32) : Kc G mX11_guilty [.ref (gb G + 0), .int x, .int y] μ (o_guilty σ x y) := by
  intro Q k
  unfold o_guilty at k
  have hn := ok.2.2.1.2.1
  have n1y : ∀ y : Int32, -1 ≤ y ↔ ¬ y < -1 := fun y => by
    rw [Int32.le_iff_toInt_le, Int32.lt_iff_toInt_lt]
    omega
  by_cases hC : zC (ys σ) = 0
  · rw [if_pos hC] at k
    have h0 : μ 15 0 ≤ 0 := (noPlC ok h).mpr hC
    exact e_X11_guilty fun E C => k_X11_guilty_0 C (fun _ => k μ (fun _ _ => rfl) h) (fun z => absurd h0 z)
  · rw [if_neg hC] at k
    obtain ⟨⟨hW, hM, -⟩, hrow⟩ := ok.2.2.1.2.2.2 hC
    obtain ⟨hp, hr, hX⟩ := h.rw hC
    have hT3 := hW.ct.2.1
    have top : nI (qT (zP (ys σ))) < x ↔ nI (qT (zP (ys σ)) + 1) ≤ x := ix_top (x := x) (n := qT (zP (ys σ)) + 1) (by omega) (by omega)
    have h0 : ¬ μ 15 0 ≤ 0 := fun z => hC ((noPlC ok h).mp z)
    refine e_X11_guilty fun E C => k_X11_guilty_0 C (fun p => ?_) (fun _ p1 p2 p3 => ?_)
    · rw [hp.2.1] at p
      have x1 : x < 1 → ix x (qT (zP (ys σ)) + 1) = none ∨ ix x (qT (zP (ys σ)) + 1) = some 0 := fun z => by
        by_cases q : x < 0
        · exact Or.inl (ix_n1 q)
        · have e : x = nI 0 := by
            obtain ⟨j, hj, rfl⟩ := nI_of q
            have := (nI_ltI (b := 1) (by omega) (by omega)).mp z
            rw [show j = 0 by omega]
          rw [e]
          exact Or.inr (ix_s (by omega) (by omega))
      rcases p with p | ⟨-, p | ⟨-, p | ⟨-, p⟩⟩⟩
      · exact absurd p h0
      · rcases x1 p with e | e
        · rw [e] at k
          exact k μ (fun _ _ => rfl) h
        · rw [e] at k
          replace k : ∀ μ', (∀ c, 132 ≤ c → μ' c = μ c) → Cr (if 0 = 0 ∨ y < -1 then (-1, σ) else (guA (qw (zP (ys σ)) 0) (zn (ys σ)) (zR (ys σ)) (zt (ys σ)) (if y = -1 then 0 else y.toNatClampNeg + 1), σ)).2 μ' → Q (if 0 = 0 ∨ y < -1 then (-1, σ) else (guA (qw (zP (ys σ)) 0) (zn (ys σ)) (zR (ys σ)) (zt (ys σ)) (if y = -1 then 0 else y.toNatClampNeg + 1), σ)).1 μ' := k
          rw [if_pos (Or.inl rfl)] at k
          exact k μ (fun _ _ => rfl) h
      · rw [ix_n2 (top.mp p)] at k
        exact k μ (fun _ _ => rfl) h
      · rw [n1y, Classical.not_not] at p
        cases e2 : ix x (qT (zP (ys σ)) + 1) with
        | none => rw [e2] at k; exact k μ (fun _ _ => rfl) h
        | some t =>
          rw [e2] at k
          replace k : ∀ μ', (∀ c, 132 ≤ c → μ' c = μ c) → Cr (if t = 0 ∨ y < -1 then (-1, σ) else (guA (qw (zP (ys σ)) t) (zn (ys σ)) (zR (ys σ)) (zt (ys σ)) (if y = -1 then 0 else y.toNatClampNeg + 1), σ)).2 μ' → Q (if t = 0 ∨ y < -1 then (-1, σ) else (guA (qw (zP (ys σ)) t) (zn (ys σ)) (zR (ys σ)) (zt (ys σ)) (if y = -1 then 0 else y.toNatClampNeg + 1), σ)).1 μ' := k
          rw [if_pos (Or.inr p)] at k
          exact k μ (fun _ _ => rfl) h
    · rw [hp.2.1, top] at p2
      have x0 : ¬ x < 0 := fun z => p1 (by
        rw [Int32.lt_iff_toInt_lt] at z ⊢
        have e0 : ((0 : Int32)).toInt = 0 := by decide
        have e1 : ((1 : Int32)).toInt = 1 := by decide
        omega)
      obtain ⟨t, ht, ex⟩ := ix_not (by omega) x0 p2
      subst ex
      have t1 : 1 ≤ t := Nat.pos_of_ne_zero fun z => p1 (by rw [z]; decide)
      rw [ix_s ht (by omega)] at k
      rw [n1y] at p3
      replace k : ∀ μ', (∀ c, 132 ≤ c → μ' c = μ c) → Cr (if t = 0 ∨ y < -1 then (-1, σ) else (guA (qw (zP (ys σ)) t) (zn (ys σ)) (zR (ys σ)) (zt (ys σ)) (if y = -1 then 0 else y.toNatClampNeg + 1), σ)).2 μ' → Q (if t = 0 ∨ y < -1 then (-1, σ) else (guA (qw (zP (ys σ)) t) (zn (ys σ)) (zR (ys σ)) (zt (ys σ)) (if y = -1 then 0 else y.toNatClampNeg + 1), σ)).1 μ' := k
      rw [if_neg (by rintro (z | z); omega; exact p3 z)] at k
      refine s_find (tt := t) (by rfl) (by rfl) (by omega) (by omega) (hW.qw t1 (by omega)) hp.1 hp.2.2.2.2.1 hn hr (fun j hj => (hrow j hj).1.1) (fun j hj => (hrow j hj).2) h.2.2.1.2.2 fun μ1 F1 e47 hS => ?_
      have h1 := h.sus F1 e47
      have f1 : ∀ c, 132 ≤ c → μ1 c = μ c := fun c hc => F1 c (by simp; omega)
      have hle := hS.2.1
      have sz := hS.1
      refine k_X11_guilty_55 C (fun z1 z2 => ?_) (fun z1 z2 => ?_) (fun z1 z2 => ?_) (fun z => ?_)
      · rw [if_neg z1] at k
        obtain ⟨q, hq, ey⟩ : ∃ q, q < 2 ^ 31 ∧ y = nI q := by
          refine nI_of fun u => p3 ?_
          rw [Int32.lt_iff_toInt_lt] at u ⊢
          have e0 : ((0 : Int32)).toInt = 0 := by decide
          have e1 : ((-1 : Int32)).toInt = -1 := by decide
          have : y.toInt ≠ -1 := fun w => z1 (i32_eq.mpr (w.trans e1.symm))
          omega
        subst ey
        rw [sz, nI_leI (by omega) hq] at z2
        rw [nI_clamp hq] at k
        have e := (Su_num hS q).2 (by omega)
        have k' := k μ1 f1 h1
        have eg : guA (qw (zP (ys σ)) t) (zn (ys σ)) (zR (ys σ)) (zt (ys σ)) (q + 1) = kth (guiB (qw (zP (ys σ)) t) (zn (ys σ)) (zR (ys σ)) (zt (ys σ))) q (MM (qw (zP (ys σ)) t)) 0 0 := if_neg (by omega)
        show Q (-2) μ1
        rw [← e, ← eg]
        exact k'
      all_goals
        try
          obtain ⟨q, hq, ey⟩ : ∃ q, q < 2 ^ 31 ∧ y = nI q := by
            refine nI_of fun u => p3 ?_
            rw [Int32.lt_iff_toInt_lt] at u ⊢
            have e0 : ((0 : Int32)).toInt = 0 := by decide
            have e1 : ((-1 : Int32)).toInt = -1 := by decide
            have : y.toInt ≠ -1 := fun w => z1 (i32_eq.mpr (w.trans e1.symm))
            omega
          rw [ey, sz, nI_leI (by omega) hq] at z2
      · rw [ey]
        simp (disch := omega) only [ofNat_nI, nI_add, pk_mul, nI_clamp, nI_leI, nI_ltI, nI_eq, vp_in_nI_iff, nI_subr, nI_m1r, m1_eq, m1_eq2, m1_le, m1_le2, m1_lt, m1_lt2, m1_self, cv_sub, cv_add1, cv_eq, cv_eqI, cv_eqI2, cv_m1, cv_lt0, cv_leI, cv_Ile, cv_le, cv_lt, cv_Ilt, cv_ltI, not_true, not_false_iff, true_implies, false_implies, false_or, or_false, true_and, and_true, false_and, and_false, true_or, or_true]
        omega
      · rw [if_neg z1, ey, nI_clamp hq] at k
        have e := (Su_num hS q).1 (by omega)
        have k' := k μ1 f1 h1
        have eg : guA (qw (zP (ys σ)) t) (zn (ys σ)) (zR (ys σ)) (zt (ys σ)) (q + 1) = kth (guiB (qw (zP (ys σ)) t) (zn (ys σ)) (zR (ys σ)) (zt (ys σ))) q (MM (qw (zP (ys σ)) t)) 0 0 := if_neg (by omega)
        rw [ey, nI_clamp hq, ← e, ← eg]
        exact k'
      · rw [if_pos z] at k
        rw [sz]
        exact k μ1 f1 h1
theorem x_ask {G : mG} {μ : mM} {σ : Sg} (ok : SgOk σ) (h : Cr σ μ) (x : Int32) : Kc G mX11_ask [.ref (gb G + 0), .int x] μ (o_ask σ x) := by
  intro Q k
  unfold o_ask at k
  have hn := ok.2.2.1.2.1
  have x2 : ¬ x < 0 → (x ≤ 1 ↔ ¬ nI 2 ≤ x) := fun _ => by
    rw [Int32.le_iff_toInt_le, Int32.le_iff_toInt_le, nI_toInt (by omega)]
    have : ((1 : Int32)).toInt = 1 := by decide
    omega
  by_cases hC : zC (ys σ) = 0
  · rw [if_pos hC] at k
    have h0 : μ 15 0 ≤ 0 := (noPlC ok h).mpr hC
    exact e_X11_ask fun E C => k_X11_ask_0 C (fun _ => k μ (fun _ _ => rfl) h) (fun z => absurd h0 z)
  · rw [if_neg hC] at k
    obtain ⟨⟨hW, hM, -⟩, hrow⟩ := ok.2.2.1.2.2.2 hC
    obtain ⟨hp, hr, hX⟩ := h.rw hC
    have h0 : ¬ μ 15 0 ≤ 0 := fun z => hC ((noPlC ok h).mp z)
    refine e_X11_ask fun E C => k_X11_ask_0 C (fun p => ?_) (fun _ p1 p2 => ?_)
    · have e : ix x 2 = none := by
        rcases p with p | ⟨-, p | ⟨p, q⟩⟩
        · exact absurd p h0
        · exact ix_n1 p
        · exact ix_n2 (Classical.byContradiction fun u => q ((x2 p).mpr u))
      rw [e] at k
      exact k μ (fun _ _ => rfl) h
    · obtain ⟨w, hw, ex⟩ := ix_not (n := 2) (by omega) p1 ((x2 p1).mp p2)
      subst ex
      rw [ix_s hw (by omega)] at k
      replace k : ∀ μ', (∀ c, 132 ≤ c → μ' c = μ c) → Cr σ μ' → Q (akA (guN (zP (ys σ)) (zn (ys σ)) (zR (ys σ)) (zt (ys σ))) (akB (ys σ) (zn (ys σ))) w) μ' := k
      rw [hp.2.1]
      refine s_find (P := zP (ys σ)) (tt := qT (zP (ys σ))) (by rfl) (by rfl) (by omega) (by omega) hW hp.1 hp.2.2.2.2.1 hn hr (fun j hj => (hrow j hj).1.1) (fun j hj => (hrow j hj).2) h.2.2.1.2.2 fun μ1 F1 e47 hS => k_X11_ask_49 C ?_
      have h1 := h.sus F1 e47
      have f1 : ∀ c, 132 ≤ c → μ1 c = μ c := fun c hc => F1 c (by simp; omega)
      have kk := k μ1 f1 h1
      have hb1 : (akB (ys σ) (zn (ys σ))).1 ≤ zn (ys σ) := bst_le _ _ _
      refine s_partsBest (by rfl) ok.2.2.1 hC (h1.rw hC).2.1 hS ?_
      by_cases g0 : guN (zP (ys σ)) (zn (ys σ)) (zR (ys σ)) (zt (ys σ)) = 0
      · rw [if_pos g0]
        have ea : akA (guN (zP (ys σ)) (zn (ys σ)) (zR (ys σ)) (zt (ys σ))) (akB (ys σ) (zn (ys σ))) w = -2 := if_pos (Or.inl g0)
        rw [ea] at kk
        exact k_X11_ask_63 C (fun z => absurd rfl z) (fun z => absurd rfl z) (fun z => absurd rfl z) (fun _ => kk)
      · rw [if_neg g0]
        by_cases b0 : (akB (ys σ) (zn (ys σ))).1 = 0
        · rw [b0]
          have ea : akA (guN (zP (ys σ)) (zn (ys σ)) (zR (ys σ)) (zt (ys σ))) (akB (ys σ) (zn (ys σ))) w = -2 := if_pos (Or.inr b0)
          rw [ea] at kk
          exact k_X11_ask_63 C (fun z => absurd rfl z) (fun z => absurd rfl z) (fun z => absurd rfl z) (fun _ => kk)
        · have ea : akA (guN (zP (ys σ)) (zn (ys σ)) (zR (ys σ)) (zt (ys σ))) (akB (ys σ) (zn (ys σ))) w = if w = 0 then nI ((akB (ys σ) (zn (ys σ))).1 - 1) else nI ((akB (ys σ) (zn (ys σ))).2 - 1) := if_neg (by rintro (z | z); exact g0 z; exact b0 z)
          rw [ea] at kk
          rw [cv_pos b0]
          have w0 : nI w = 0 ↔ w = 0 := nI_eq (b := 0) (by omega) (by omega)
          refine k_X11_ask_63 C (fun _ _ => ?_) (fun _ z => ?_) (fun _ z => ?_) (fun z => absurd z (noI_m' (by omega)))
          · simp (disch := omega) only [ofNat_nI, nI_add, pk_mul, nI_clamp, nI_leI, nI_ltI, nI_eq, vp_in_nI_iff, nI_subr, nI_m1r, m1_eq, m1_eq2, m1_le, m1_le2, m1_lt, m1_lt2, m1_self, cv_sub, cv_add1, cv_eq, cv_eqI, cv_eqI2, cv_m1, cv_lt0, cv_leI, cv_Ile, cv_le, cv_lt, cv_Ilt, cv_ltI, not_true, not_false_iff, true_implies, false_implies, false_or, or_false, true_and, and_true, false_and, and_false, true_or, or_true]
            omega
          · rw [w0] at z
            rw [if_neg z] at kk
            have er : μ1 20 (nI ((akB (ys σ) (zn (ys σ))).1 - 1)).toNatClampNeg = rowI (zR (ys σ) ((akB (ys σ) (zn (ys σ))).1 - 1)) := by
              rw [nI_clamp (by omega)]
              exact (h1.rw hC).2.1.2.1 _ (by omega)
            rw [er]
            refine s_lesserPart (P := zP (ys σ)) hW hS (k_X11_ask_99 C ?_)
            have eb : akB (ys σ) (zn (ys σ)) = ((akB (ys σ) (zn (ys σ))).1, (akB (ys σ) (zn (ys σ))).2) := rfl
            have ev := bst_val eb b0
            rw [ev, Nat.add_sub_cancel] at kk
            exact kk
          · rw [w0] at z
            rw [if_pos z] at kk
            exact k_X11_ask_99 C kk

/-! THE CLASS: a plan is read -/
theorem s_mixesOf {G : mG} {Q : Int32 → mM → Prop} {μ : mM} {P : Pl} (hW : PW P) (hp : PlC 4 P μ) (hf : μ 10 0 = 0) (k : ∀ μ', Fr [8, 9, 10, 11, 12] μ μ' → μ' 10 0 = 0 → Q (nI (MM P)) μ') : CtI G mX5_mixesOf [.ref (gb G + 3), .ref (gb G + 4)] μ Q := by
  have h4 : sh 4 = (0, 3) := rfl
  have h8 : sh 8 = (0, 0) := rfl
  have n56 := (ns_pos hW.ct).2
  refine e_X5_mixesOf h4 fun E C => k_X5_mixesOf_0 C h4 ?_
  rw [hp.2.1]
  refine s_buildSets (P := P) (t := qT P) h8 h4 (by omega) hW hp.1 hp.2.2.2.2.1 hf fun ν F hS => k_X5_mixesOf_12 C ?_ ?_
  · have : ν 8 0 = nI (ns (qC P) (qT P)) := hS.1
    rw [this]
    simp (disch := omega) only [ofNat_nI, nI_add, pk_mul, nI_clamp, nI_leI, nI_ltI, nI_eq, vp_in_nI_iff, nI_subr, nI_m1r, m1_eq, m1_eq2, m1_le, m1_le2, m1_lt, m1_lt2, m1_self, cv_sub, cv_add1, cv_eq, cv_eqI, cv_eqI2, cv_m1, cv_lt0, cv_leI, cv_Ile, cv_le, cv_lt, cv_Ilt, cv_ltI, not_true, not_false_iff, true_implies, false_implies, false_or, or_false, true_and, and_true, false_and, and_false, true_or, or_true]
    omega
  · have e0 : ν 8 0 = nI (ns (qC P) (qT P)) := hS.1
    have e1 : ν 10 (ns (qC P) (qT P)) = nI (MM P) := hS.2.2.2.1 _ (Nat.le_refl _)
    rw [e0, nI_clamp (by omega), e1]
    exact k ν F (hS.2.2.2.1 0 (Nat.zero_le _))
theorem s_mixesIfWider {G : mG} {Q : Int32 → mM → Prop} {μ : mM} {P : Pl} {c1 lv : Nat} (h1 : sh c1 = (0, 3)) (hc1 : 13 < c1) (hW : PW P) (hC : qC P < 8) (hl : 2 ≤ lv ∧ lv ≤ 4) (hp : PlC c1 P μ) (hf : μ 10 0 = 0) (k : ∀ μ', Fr [4, 5, 6, 7, 8, 9, 10, 11, 12] μ μ' → μ' 10 0 = 0 → Q (nI (MM (pWd P lv))) μ') :
    CtI G mX5_mixesIfWider [.ref (gb G + 3), .ref (gb G + c1), .int (nI lv)] μ Q := by
  have h4 : sh 4 = (0, 3) := rfl
  refine e_X5_mixesIfWider h1 fun E C => k_X5_mixesIfWider_0 C h1 ?_
  refine s_copyPlan h4 h1 (by omega) hW.ct.2.2.2 hW.2.2.2.2.1 hp fun ν F hp1 => k_X5_mixesIfWider_8 C ?_
  refine s_addColumn h4 hp1 hC hl.2 hW.2.2.2.1 fun ν2 F2 hp2 => k_X5_mixesIfWider_16 C ?_
  refine s_mixesOf (hW.wd hC hl.1 hl.2) hp2 ?_ fun ν3 F3 e => k_X5_mixesIfWider_24 C (k ν3 (((F.mono (by simp)).tr (F2.mono (by simp))).tr (F3.mono (by simp))) e)
  rw [F2 10 (by decide), F 10 (by decide)]
  exact hf
theorem cl_ge (T : Tx) (C : Nat) (L : Nat → Nat) : ∀ (f a k : Nat) (V : Nat → Nat) (q : Nat × (Nat → Nat)), clP T C L f a k V = .inr q → a ≤ q.1
  | 0, _, _, _, _, h => by cases h
  | f + 1, a, k, V, q, h => by
    rw [cl_ce] at h
    have hce : ∀ p, ceP T C L a k V = .inr p → a ≤ p.1 := fun p e => by
      unfold ceP at e
      have g1 := (sd_ge T a).1
      have g2 := (sb_ge T (sd T a)).1
      have g3 := (sb_ge T (sb T (sd T a) + 1)).1
      have g4 := (sd_ge T (sb T (sb T (sd T a) + 1))).1
      have g5 := (sb_ge T (sd T (sb T (sb T (sd T a) + 1)))).1
      split at e
      · split at e
        · cases e
        · split at e
          · cases e
          · split at e
            · split at e
              · split at e
                · cases e
                · cases e
                  show a ≤ sb T (sd T (sb T (sb T (sd T a) + 1)))
                  omega
              · cases e
            · cases e
      · cases e
    split at h
    · cases h
    · rename_i p hp
      have g0 := hce p hp
      split at h
      · have := cl_ge T C L f _ _ _ q h
        have g1 := (sb_ge T (p.1 + 1)).1
        omega
      · cases h
        exact g0
abbrev cRd : List Nat := [3, 4, 5, 6, 7, 8, 9, 10, 11, 12]
theorem s_read {G : mG} {Q : Int32 → mM → Prop} {μ : mM} {T : Tx} (hT : TxOk T) (hz : μ 1 1 = nI T.2) (ht : ∀ k, k < T.2 → μ 2 k = nI (T.1 k)) (hf : μ 10 0 = 0)
    (kF : ∀ f μ', Fr cRd μ μ' → μ' 10 0 = 0 → f < 2 ^ 30 → (prP T = .inl f ∨ ∃ P, prP T = .inr P ∧ (1200 < MM P ∨ canB P (fun _ => 0) = false) ∧ f = 8 * T.2 + 4) → Q (nI f) μ')
    (kP : ∀ P μ', Fr cRd μ μ' → μ' 10 0 = 0 → prP T = .inr P → PlOk P → PlC 4 P μ' → Q (-1) μ') : CtI G mX5_read [.ref (gb G + 3), .ref (gb G + 1)] μ Q := by
  have h200 := hT.1
  have h4 : sh 4 = (0, 3) := rfl
  refine e_X5_read fun E C => k_X5_read_0 C ?_
  have R0 : ∀ ν : mM, ν = (ms (ms (ms (ms (ms (ms (ms (ms (ms μ 3 2 (nI 2)) 3 3 (μ 1 1)) 3 4 0) 3 5 (-1)) 3 6 0) 4 0 0) 4 1 2) 4 2 0) 4 3 0) → Rd T 0 false ν ∧ PlC 4 (0, 2, fun _ => 0, 0, fun _ _ => 0) ν ∧ Fr [3, 4] μ ν := by
    intro ν e
    have r3 : ∀ j, ν 3 j = if j = 6 then 0 else if j = 5 then -1 else if j = 4 then 0 else if j = 3 then nI T.2 else if j = 2 then nI 2 else μ 3 j := fun j => by
      rw [e, ms_ne (by decide), ms_ne (by decide), ms_ne (by decide), ms_ne (by decide), ms_row, upd_at, ms_row, upd_at, ms_row, upd_at, ms_row, upd_at, ms_row, upd_at, hz]
    have r4 : ∀ j, ν 4 j = if j = 3 then 0 else if j = 2 then 0 else if j = 1 then 2 else if j = 0 then 0 else μ 4 j := fun j => by
      rw [e, ms_row, upd_at, ms_row, upd_at, ms_row, upd_at, ms_row, upd_at, ms_ne (by decide), ms_ne (by decide), ms_ne (by decide), ms_ne (by decide), ms_ne (by decide)]
    have F : Fr [3, 4] μ ν := by
      rw [e]
      exact (((((((((Fr.rf _ μ).ms (by decide)).ms (by decide)).ms (by decide)).ms (by decide)).ms (by decide)).ms (by decide)).ms (by decide)).ms (by decide)).ms (by decide)
    refine ⟨⟨?_, ?_, ?_, ?_, ?_, ?_, Nat.zero_le _⟩, ⟨?_, ?_, ?_, ?_, fun c hc => absurd hc (Nat.not_lt_zero c), fun i hi => absurd hi (Nat.not_lt_zero i)⟩, F⟩
    · rw [r3]; rfl
    · rw [r3]; rfl
    · rw [r3]; rfl
    · rw [r3]; rfl
    · rw [r3]; rfl
    · rw [F 2 (by decide)]; exact ht
    · rw [r4]; rfl
    · rw [r4]; rfl
    · rw [r4]; rfl
    · rw [r4]
      refine b_ext fun i hi => ?_
      rw [show (if (3 : Nat) = 3 then (0 : Int32) else _) = 0 from if_pos rfl, b_0]
      show _ = bt (mkI _) i
      rw [b_mk _ hi]
      exact (decide_eq_false (Nat.not_lt_zero _)).symm
  obtain ⟨R1, hp1, F1⟩ := R0 _ rfl
  generalize (ms (ms (ms (ms (ms (ms (ms (ms (ms μ 3 2 (nI 2)) 3 3 (μ 1 1)) 3 4 0) 3 5 (-1)) 3 6 0) 4 0 0) 4 1 2) 4 2 0) 4 3 0) = ν1 at R1 hp1 F1
  refine s_skip hT R1 fun ν2 F2 R2 => k_X5_read_42 C ?_
  have Fr12 : Fr [3, 4, 5, 6, 7] μ ν2 := (F1.mono (by simp)).tr (F2.mono (by simp))
  -- the end, at a fault
  have t126 : ∀ (ν : mM) (f : Nat), Fr cRd μ ν → ν 10 0 = 0 → Rf f ν → (prP T = .inl f ∨ ∃ P, prP T = .inr P ∧ (1200 < MM P ∨ canB P (fun _ => 0) = false) ∧ f = 8 * T.2 + 4) → Wm G mX5_read E (bm G mX5_read E (pI Q)) ν 126 [(0, .ref (gb G + 3))] [] := fun ν f F e R h => by
    refine k_X5_read_126 C ?_
    show Q (ν 3 5) ν
    rw [R.1]
    exact kF f ν F e R.2 h
  have f10 : ∀ ν, Fr [3, 4, 5, 6, 7] μ ν → Fr cRd μ ν ∧ ν 10 0 = 0 := fun ν F => ⟨F.mono (by simp), by rw [F 10 (by decide)]; exact hf⟩
  have t48 : ∀ (ν : mM) (f : Nat) (x : Int32), Fr [3, 4, 5, 6, 7] μ ν → Rf f ν → prP T = .inl f → Wm G mX5_read E (bm G mX5_read E (pI Q)) ν 48 [(0, .ref (gb G + 3)), (2, .int x)] [] := fun ν f x F R e =>
    k_X5_read_48 C (fun _ => k_X5_read_84 C (fun _ => t126 ν f (f10 ν F).1 (f10 ν F).2 R (Or.inl e)) (fun w => absurd w R.ne)) (fun w => absurd w R.ne)
  refine s_readLevels hT R2 (hp1.of (F2 4 (by decide)) (F2 5 (by decide)) (F2 6 (by decide)) (F2 7 (by decide))) (fun f ν F R e => k_X5_read_46 C (t48 ν f _ (Fr12.tr (F.mono (by simp))) R ?_)) (fun b CC L ν F R ew el hp => k_X5_read_46 C ?_)
  · unfold prP
    rcases e with ⟨e1, e2⟩ | ⟨e1, e2⟩
    · rw [if_neg (by rw [e1]; exact Bool.false_ne_true), e2]
    · rw [if_pos e1, e2]
  · have hW0 := lvP_ok T 10 _ 0 (fun _ => 0) _ (by omega) (fun c hc => absurd hc (Nat.not_lt_zero c)) (fun _ _ => rfl) el
    have epr : prP T = lnP T (T.2 + 1) b false (CC, 2, L, 0, fun _ _ => 0) := by
      unfold prP
      rw [if_pos ew, el]
    have loop : ∀ (d n a f : Nat) (h : Bool) (P : Pl) (μ' : mM), n + d = 201 → Fr [3, 4, 5, 6, 7] μ μ' → Rd T a h μ' → PW P → PlC 4 P μ' → n ≤ a → T.2 + 1 ≤ f + a → lnP T f a h P = prP T → Wm G mX5_read E (bm G mX5_read E (pI Q)) μ' 48 [(0, .ref (gb G + 3)), (2, .int (nI n))] [] := by
      intro d
      induction d with
      | zero => intro n a f h P μ' hn F R _ _ hna _ _; have := R.2.2.2.2.2.2; omega
      | succ d ih =>
        intro n a f h P μ' hn F R hW hp hna hfa he
        have hle := R.2.2.2.2.2.2
        obtain ⟨f', rfl⟩ : ∃ f', f = f' + 1 := ⟨f - 1, by omega⟩
        rw [ln_s] at he
        by_cases q : T.2 ≤ a
        · rw [if_pos q] at he
          refine k_X5_read_48 C (fun _ => k_X5_read_84 C (fun w => absurd R.2.2.2.1 w) (fun _ => ?_)) (fun _ w => absurd ((R.le hT).mpr q) w)
          refine s_mixesOf hW hp ((f10 μ' F).2) fun ν2 F2 e10 => ?_
          have hp2 : PlC 4 P ν2 := hp.of (F2 4 (by decide)) (F2 5 (by decide)) (F2 6 (by decide)) (F2 7 (by decide))
          have R2 : Rd T a h ν2 := R.of (F2 3 (by decide)) (F2 2 (by decide))
          have F3 : Fr cRd μ ν2 := (f10 μ' F).1.tr (F2.mono (by simp))
          have hMM := hW.MM_le
          have e12 : 1200 < nI (MM P) ↔ 1200 < MM P := nI_ltI (a := 1200) (by omega) (by omega)
          have bad : (1200 < MM P ∨ canB P (fun _ => 0) = false) → Wm G mX5_read E (bm G mX5_read E (pI Q)) ν2 117 [(0, .ref (gb G + 3))] [] := fun hb => by
            refine k_X5_read_117 C ?_
            show CtV G mX5_fail [.ref (gb G + 3), .int (ν2 3 3), .int 4] ν2 _
            rw [R2.2.1]
            refine s_failN (c := 4) R2 (by omega) (by omega) fun ν3 F4 R3 => t126 ν3 _ (F3.tr (F4.mono (by simp))) (by rw [F4 10 (by decide)]; exact e10) R3 (Or.inr ⟨P, he.symm, hb, rfl⟩)
          refine k_X5_read_100 C (fun z => bad (Or.inl (e12.mp z))) (fun z => ?_)
          rw [← rowI_0]
          refine s_allows h4 hW hp2 (fun _ => Nat.zero_le _) (k_X5_read_114 C (fun y => ?_) (fun y => bad (Or.inr ((nI_b0 _).mp y))))
          have hc : canB P (fun _ => 0) = true := by
            cases q : canB P (fun _ => 0) with
            | true => rfl
            | false => rw [q] at y; exact absurd rfl y
          refine k_X5_read_126 C ?_
          show Q (ν2 3 5) ν2
          rw [R2.2.2.2.1]
          exact kP P ν2 F3 e10 he.symm ⟨hW, by rw [e12] at z; omega, hc⟩ hp2
        · rw [if_neg q] at he
          have n200 : ¬ 200 ≤ nI n := by
            rw [show (200 : Int32) = nI 200 from rfl, nI_leI (by omega) (by omega)]
            omega
          refine k_X5_read_48 C (fun z => ?_) (fun _ _ _ => ?_)
          · exfalso
            rcases z with z | ⟨-, z | ⟨-, z⟩⟩
            · exact z R.2.2.2.1
            · exact q ((R.le hT).mp z)
            · exact n200 z
          · refine s_readLine hT R hW hp (fun f ν2 F2 R2 e => k_X5_read_78 C (t48 ν2 f _ (F.tr (F2.mono (by simp))) R2 ?_)) (fun b2 h2 P2 ν2 F2 R2 e hp2 => k_X5_read_78 C ?_)
            · rw [e] at he
              exact he.symm
            · rw [e] at he
              rw [nI_1]
              have hb2 : a < b2 ∧ PW P2 := by
                unfold lnS at e
                have g1 := (sb_ge T (a + 1)).1
                split at e
                · split at e
                  · unfold stR at e
                    split at e
                    · rename_i x hx
                      cases e
                    · rename_i x hx
                      cases e
                      split at hx
                      · cases hx
                      · split at hx
                        · split at hx
                          · cases hx
                          · rename_i y3
                            cases hx
                            have g2 := (sb_ge T (sb T (a + 1) + 8)).1
                            have g3 := (sd_ge T (sb T (sb T (a + 1) + 8))).1
                            have g4 := (sb_ge T (sd T (sb T (sb T (a + 1) + 8)))).1
                            exact ⟨by show a < sb T (sd T (sb T (sb T (a + 1) + 8))); omega, hW.str (by omega) (by omega)⟩
                        · cases hx
                  · split at e
                    · cases e
                    · rename_i x hx
                      cases e
                      unfold npR at hx
                      split at hx
                      · split at hx
                        · cases hx
                        · rename_i n12
                          have hcl := cl_ge T (qC P) (qL P) 4 _ 0 (fun _ => 0) x hx
                          have g2 := (sb_ge T (sb T (a + 1) + 5)).1
                          obtain ⟨a1, a2⟩ := clP_ok T (qC P) (qL P) 4 _ 0 (fun _ => 0) x (fun c hc => absurd rfl hc) hx
                          exact ⟨by omega, hW.nev (by have := hW.2.2.2.2.1; omega) a1 a2⟩
                      · cases hx
                · cases e
              exact ih (n + 1) b2 f' h2 P2 ν2 (by omega) (F.tr (F2.mono (by simp))) R2 hb2.2 hp2 (by omega) (by omega) he
    refine loop 201 0 b (T.2 + 1) false _ ν (by omega) (Fr12.tr (F.mono (by simp))) R hW0 hp (Nat.zero_le _) (by omega) epr.symm

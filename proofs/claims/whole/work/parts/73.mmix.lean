/-! THE MODEL: what a mix is asked; THE CLASS: simple calls -/
def mxA (s : Ps) (m w : Nat) : Int32 := if w < 6 then (if w % 3 < qT (zP s) then (if w < 3 then nI (mcol (zP s) m w) else nI (mlev (zP s) m (w - 3))) else -2) else if w = 6 then nI (canB (zP s) (mrow (zP s) m)).toNat else if w = 7 then nI (rwN (zP s) (zR s) m (zn s)) else fstN (zP s) (zR s) m (zn s) 0
def o_mix (σ : Sg) (x y : Int32) : Int32 × Sg := if zC (ys σ) = 0 then (-1, σ) else match ix x (MM (zP (ys σ))), ix y 9 with | some m, some w => (mxA (ys σ) m w, σ) | _, _ => (-1, σ)
theorem MM_pos {P : Pl} (h : PW P) : 1 ≤ MM P := by
  have n1 := (ns_pos h.ct).1
  have := fi_lt (P := P) (i := 0) (w := 0) (by omega) (by have := (h.pp_le (i := 0) (by omega)).1; omega)
  omega
theorem ix_top {x : Int32} {n : Nat} (h1 : 1 ≤ n) (hn : n < 2 ^ 31) : nI (n - 1) < x ↔ nI n ≤ x := by
  rw [Int32.lt_iff_toInt_lt, Int32.le_iff_toInt_le, nI_toInt (by omega), nI_toInt (by omega)]
  omega
theorem o_mix_none {σ : Sg} {x y : Int32} (h : zC (ys σ) = 0 ∨ ix x (MM (zP (ys σ))) = none ∨ ix y 9 = none) : o_mix σ x y = (-1, σ) := by
  unfold o_mix
  by_cases q : zC (ys σ) = 0
  · rw [if_pos q]
  · rw [if_neg q]
    rcases h with h | h | h
    · exact absurd h q
    · rw [h]
    · rw [h]
      cases ix x (MM (zP (ys σ))) <;> rfl
theorem o_mix_some {σ : Sg} {m w : Nat} (hC : zC (ys σ) ≠ 0) (hM : MM (zP (ys σ)) ≤ 1200) (hm : m < MM (zP (ys σ))) (hw : w < 9) : o_mix σ (nI m) (nI w) = (mxA (ys σ) m w, σ) := by
  unfold o_mix
  rw [if_neg hC, ix_s hm (by omega), ix_s hw (by omega)]
theorem m_mix {G : mG} {μ : mM} {σ : Sg} (ok : SgOk σ) (hm : Mr σ μ) (x y : Int32) : Km G mX12_mix [.ref (gb G + 132), .int x, .int y] μ (o_mix σ x y) := by
  intro Q k
  by_cases hC : zC (ys σ) = 0
  · rw [o_mix_none (Or.inl hC)] at k
    have h0 : μ 135 0 ≤ 0 := (noPl ok.2.2.1 hm.2.1.1).mpr hC
    exact e_X12_mix fun E C => k_X12_mix_0 C (fun _ => k μ (Fr.rf _ μ) hm) (fun z => absurd h0 z) (fun z => absurd h0 z) (fun z => absurd h0 z) (fun z => absurd h0 z) (fun z => absurd h0 z) (fun z => absurd h0 z) (fun z => absurd h0 z) (fun z => absurd h0 z) (fun z => absurd h0 z)
  · obtain ⟨hP, hr, hX⟩ := MrN.row hm hC
    obtain ⟨⟨hW, hM, -⟩, -⟩ := ok.2.2.1.2.2.2 hC
    have h1 := MM_pos hW
    have hT3 := hW.ct.2.1
    have e13 : μ 132 13 - 1 = nI (MM (zP (ys σ)) - 1) := by
      rw [hX.1, show (1 : Int32) = nI 1 from rfl, nI_subr h1]
    have np := fun z => hC ((noPl ok.2.2.1 hm.2.1.1).mp z)
    -- where both are in
    have both : (¬ lg_cmp x.toInt64 0 < 0) → ¬ 0 < lg_cmp x.toInt64 (μ 132 13 - 1).toInt64 → ¬ lg_cmp y.toInt64 0 < 0 → ¬ 0 < lg_cmp y.toInt64 8 → ∃ m w, m < MM (zP (ys σ)) ∧ w < 9 ∧ x = nI m ∧ y = nI w := by
      rw [lg0_lt, e13, lgi_gt, lg0_lt, lg8_gt, ix_top h1 (by omega)]
      intro p1 p2 p3 p4
      obtain ⟨m, hm, rfl⟩ := ix_not (by omega) p1 p2
      obtain ⟨w, hw, rfl⟩ := ix_not (n := 9) (by omega) p3 (by
        rw [← ix_top (by omega) (by omega)]
        exact p4)
      exact ⟨m, w, hm, hw, rfl, rfl⟩
    have key : ∀ {m w : Nat}, m < MM (zP (ys σ)) → w < 9 → x = nI m → y = nI w → ∀ v, v = mxA (ys σ) m w → Q v μ := fun {m w} hm' hw ex ey v ev => by
      rw [ex, ey, o_mix_some hC hM hm' hw] at k
      rw [ev]
      exact k μ (Fr.rf _ μ) hm
    refine e_X12_mix fun E C => k_X12_mix_0 C (fun z => ?_) (fun _ p1 p2 p3 p4 q1 q2 q3 => ?_) (fun _ p1 p2 p3 p4 q1 q2 q3 => ?_) (fun _ p1 p2 p3 p4 _ _ => ?_) (fun _ p1 p2 p3 p4 q1 q2 q3 => ?_) (fun _ p1 p2 p3 p4 q1 q2 q3 => ?_) (fun _ p1 p2 p3 p4 q1 q2 => ?_) (fun _ p1 p2 p3 p4 q1 q2 q3 => ?_) (fun _ p1 p2 p3 p4 q1 q2 q3 => ?_) (fun _ p1 p2 p3 p4 q1 q2 => ?_)
    · rw [lg0_lt, e13, lgi_gt, lg0_lt, lg8_gt, ix_top h1 (by omega)] at z
      have e : zC (ys σ) = 0 ∨ ix x (MM (zP (ys σ))) = none ∨ ix y 9 = none := by
        rcases z with z | ⟨-, (z | ⟨-, z⟩) | ⟨-, -, z | ⟨-, z⟩⟩⟩
        · exact absurd z np
        · exact Or.inr (Or.inl (ix_n1 z))
        · exact Or.inr (Or.inl (ix_n2 z))
        · exact Or.inr (Or.inr (ix_n1 z))
        · exact Or.inr (Or.inr (ix_n2 ((ix_top (n := 9) (by omega) (by omega)).mp z)))
      rw [o_mix_none e] at k
      exact k μ (Fr.rf _ μ) hm
    all_goals
      obtain ⟨m, w, hm', hw, ex, ey⟩ := both p1 p2 p3 p4
      have kk := fun v ev => key hm' hw ex ey v ev
      subst ex
      subst ey
    · have w8 : w = 8 := by
        have a1 : ¬ w < 6 := fun u => by
          have : ¬ 6 ≤ nI w := fun z => by
            have := (nI_leI (a := 6) (by omega) (by omega)).mp z
            omega
          exact this q1
        have a2 : w ≠ 6 := fun u => q2 (by rw [u]; rfl)
        have a3 : w ≠ 7 := fun u => q3 (by rw [u]; rfl)
        omega
      subst w8
      exact s_firstWith hW hP.2.1 hM hX.2.1 hm' hr (k_X12_mix_140 C (kk _ rfl))
    · have w7 : w = 7 := (nI_eq (b := 7) (by omega) (by omega)).mp q3
      subst w7
      rw [hr.1]
      exact s_rowsWith hW hP.2.1 hM hX.2.1 hr.2.1 hm' hr.2.2.1 (k_X12_mix_132 C (k_X12_mix_140 C (kk _ rfl)))
    · simp (disch := omega) only [ofNat_nI, nI_add, pk_mul, nI_clamp, nI_leI, nI_ltI, nI_eq, vp_in_nI_iff, nI_subr, nI_m1r, m1_eq, m1_eq2, m1_le, m1_le2, m1_lt, m1_lt2, m1_self, cv_sub, cv_add1, cv_eq, cv_eqI, cv_eqI2, cv_m1, cv_lt0, cv_leI, cv_Ile, cv_le, cv_lt, cv_Ilt, cv_ltI, not_true, not_false_iff, true_implies, false_implies, false_or, or_false, true_and, and_true, false_and, and_false, true_or, or_true]
      omega
    · have w6 : w = 6 := (nI_eq (b := 6) (by omega) (by omega)).mp q2
      subst w6
      rw [nI_clamp (by omega), hX.2.2 m hm', nI_b0] at q3
      refine k_X12_mix_140 C (kk _ ?_)
      show _ = nI (canB (zP (ys σ)) (mrow (zP (ys σ)) m)).toNat
      rw [q3]
      rfl
    · have w6 : w = 6 := (nI_eq (b := 6) (by omega) (by omega)).mp q2
      subst w6
      rw [nI_clamp (by omega), hX.2.2 m hm', nI_b0] at q3
      refine k_X12_mix_140 C (kk _ ?_)
      show _ = nI (canB (zP (ys σ)) (mrow (zP (ys σ)) m)).toNat
      have : canB (zP (ys σ)) (mrow (zP (ys σ)) m) = true := by cases e : canB (zP (ys σ)) (mrow (zP (ys σ)) m) with | true => rfl | false => exact absurd e q3
      rw [this]
      rfl
    all_goals
      have w6 : w < 6 := Nat.lt_of_not_le fun u => q1 ((nI_leI (a := 6) (by omega) (by omega)).mpr u)
      have er : nI w - nI w / 3 * 3 = nI (w % 3) := pk_rem (d := 3) (by omega) (by omega) (by omega)
      rw [er, hP.2.1, nI_ltI (by omega) (by omega)] at q2
    · rw [er, show (3 : Int32) = nI 3 from rfl, pk_mul, nI_add]
      simp (disch := omega) only [ofNat_nI, nI_add, pk_mul, nI_clamp, nI_leI, nI_ltI, nI_eq, vp_in_nI_iff, nI_subr, nI_m1r, m1_eq, m1_eq2, m1_le, m1_le2, m1_lt, m1_lt2, m1_self, cv_sub, cv_add1, cv_eq, cv_eqI, cv_eqI2, cv_m1, cv_lt0, cv_leI, cv_Ile, cv_le, cv_lt, cv_Ilt, cv_ltI, not_true, not_false_iff, true_implies, false_implies, false_or, or_false, true_and, and_true, false_and, and_false, true_or, or_true]
      omega
    · have w3 : 3 ≤ w := (nI_leI (a := 3) (by omega) (by omega)).mp q3
      rw [er, show (3 : Int32) = nI 3 from rfl, pk_mul, nI_add, nI_clamp (by omega), (hX.2.1 m hm' _ q2).2]
      refine kk _ ?_
      unfold mxA
      rw [if_pos w6, if_pos q2, if_neg (by omega), show w % 3 = w - 3 by omega]
    · have w3 : w < 3 := Nat.lt_of_not_le fun u => q3 ((nI_leI (a := 3) (by omega) (by omega)).mpr u)
      rw [er, show (3 : Int32) = nI 3 from rfl, pk_mul, nI_add, nI_clamp (by omega), (hX.2.1 m hm' _ q2).1]
      refine kk _ ?_
      unfold mxA
      rw [if_pos w6, if_pos q2, if_pos w3, show w % 3 = w by omega]
    · refine kk _ ?_
      unfold mxA
      rw [if_pos w6, if_neg q2]
theorem ok_mix {σ : Sg} {x y : Int32} (ok : SgOk σ) : SgOk (o_mix σ x y).2 := by
  unfold o_mix
  split
  · exact ok
  · split <;> exact ok

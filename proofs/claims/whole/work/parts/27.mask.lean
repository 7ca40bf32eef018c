/-! THE MODEL: the k-th guilty one, how many a row has, the row to ask -/
def guN (P : Pl) (n : Nat) (R : Nat → Nat → Nat) (told : Nat → Nat) : Nat := sm (MM P) (fun m => (guiB P n R told m).toNat)
/-- the k-th guilty one (kk = k + 1), how many for kk 0 -/
def guA (P : Pl) (n : Nat) (R : Nat → Nat → Nat) (told : Nat → Nat) (kk : Nat) : Int32 := if kk = 0 then nI (guN P n R told) else kth (guiB P n R told) (kk - 1) (MM P) 0 0
theorem s_guiltyLoop {G : mG} {E : mE} {Q : Int32 → mM → Prop} (C : Cx G mX12_guilty E) {P : Pl} (h : PW P) {μ : mM} (h0 : μ 135 0 = nI (qC P)) (hL : ∀ c, c < qC P → μ 135 (5 + c) = nI (qL P c)) {n kk : Nat} {R : Nat → Nat → Nat} {told : Nat → Nat} (hr : RowsM (μ 135) n R told) {x : Int32} (hx1 : x = -1 ↔ kk = 0) (hx2 : ∀ f, f ≤ 3584 → (nI f = x ↔ kk = f + 1))
    (k : ∀ μ', Fr [143] μ μ' → Q (guA P n R told kk) μ') :
    ∀ (d i : Nat) (μ' : mM), i + d + 1 = ns (qC P) (qT P) → Fr [143] μ μ' → (∀ j, j < qT P → μ' 143 j = nI (st (qC P) (qT P) i j)) → (kk = 0 ∨ kth (guiB P n R told) (kk - 1) (MM P - fi P i) (fi P i) (sm (fi P i) (fun m => (guiB P n R told m).toNat)) = kth (guiB P n R told) (kk - 1) (MM P) 0 0) →
      Wm G mX12_guilty E (bm G mX12_guilty E (pI Q)) μ' 43 [(0, .ref (gb G + 132)), (1, .int (nI (qT P))), (2, .int x), (3, .int (nI (fi P i))), (4, .int (nI (sm (fi P i) (fun m => (guiB P n R told m).toNat)))), (5, .int 1)] [] := by
  obtain ⟨t1, t3, tC, C8⟩ := h.ct
  have hMM := h.MM_le
  -- behind a set's last one
  have wl : ∀ (i : Nat), i < ns (qC P) (qT P) → ∀ (μ' : mM), Fr [143] μ μ' → (∀ j, j < qT P → μ' 143 j = nI (st (qC P) (qT P) i j)) →
      ∀ (cont : (kk = 0 ∨ kth (guiB P n R told) (kk - 1) (MM P - fi P (i + 1)) (fi P (i + 1)) (sm (fi P (i + 1)) (fun m => (guiB P n R told m).toNat)) = kth (guiB P n R told) (kk - 1) (MM P) 0 0) →
        Wm G mX12_guilty E (bm G mX12_guilty E (pI Q)) μ' 58 [(0, .ref (gb G + 132)), (1, .int (nI (qT P))), (2, .int x), (3, .int (nI (fi P (i + 1)))), (4, .int (nI (sm (fi P (i + 1)) (fun m => (guiB P n R told m).toNat)))), (6, .int (nI (pp P i))), (7, .int (nI (pp P i)))] []),
      ∀ (e w : Nat), w + e = pp P i → (kk = 0 ∨ kth (guiB P n R told) (kk - 1) (MM P - (fi P i + w)) (fi P i + w) (sm (fi P i + w) (fun m => (guiB P n R told m).toNat)) = kth (guiB P n R told) (kk - 1) (MM P) 0 0) →
        Wm G mX12_guilty E (bm G mX12_guilty E (pI Q)) μ' 58 [(0, .ref (gb G + 132)), (1, .int (nI (qT P))), (2, .int x), (3, .int (nI (fi P i + w))), (4, .int (nI (sm (fi P i + w) (fun m => (guiB P n R told m).toNat)))), (6, .int (nI (pp P i))), (7, .int (nI w))] [] := by
    intro i hi μ' F hset cont e
    have hpp := (h.pp_le hi).2
    induction e with
    | zero =>
      intro w hw hkt
      have e : w = pp P i := by omega
      subst e
      rw [← fi_s] at hkt ⊢
      exact cont hkt
    | succ e ih =>
      intro w hw hkt
      have hwp : w < pp P i := by omega
      have hlt := fi_lt hi hwp
      have hsm := sm_le (n := fi P i + w) (B := 1) (f := fun m => (guiB P n R told m).toNat) (fun i _ => bool_lt _)
      refine k_X12_guilty_58 C (fun p => ?_) (fun _ => ?_)
      · exfalso
        revert p
        simp (disch := omega) only [ofNat_nI, nI_add, pk_mul, nI_clamp, nI_leI, nI_ltI, nI_eq, vp_in_nI_iff, nI_subr, nI_m1r, m1_eq, m1_eq2, m1_le, m1_le2, m1_lt, m1_lt2, m1_self, cv_sub, cv_add1, cv_eq, cv_eqI, cv_eqI2, cv_m1, cv_lt0, cv_leI, cv_Ile, cv_le, cv_lt, cv_Ilt, cv_ltI, not_true, not_false_iff, true_implies, false_implies, false_or, or_false, true_and, and_true, false_and, and_false, true_or, or_true]
        omega
      · refine s_isGuilty h (by rw [F 135 (by decide)]; exact hL) hi hwp hset (by rw [F 135 (by decide)]; exact hr) (k_X12_guilty_72 C (fun p => ?_) (fun p p2 => ?_) (fun p p2 => ?_))
        · rw [nI_b0] at p
          simp (disch := omega) only [ofNat_nI, nI_add, pk_mul, nI_clamp, nI_leI, nI_ltI, nI_eq, vp_in_nI_iff, nI_subr, nI_m1r, m1_eq, m1_eq2, m1_le, m1_le2, m1_lt, m1_lt2, m1_self, cv_sub, cv_add1, cv_eq, cv_eqI, cv_eqI2, cv_m1, cv_lt0, cv_leI, cv_Ile, cv_le, cv_lt, cv_Ilt, cv_ltI, not_true, not_false_iff, true_implies, false_implies, false_or, or_false, true_and, and_true, false_and, and_false, true_or, or_true]
          have nxt := ih (w + 1) (by omega) (by
            rcases hkt with z | z
            · exact Or.inl z
            · right
              rw [← z, show MM P - (fi P i + w) = (MM P - (fi P i + (w + 1))) + 1 by omega, kth, p, ← Nat.add_assoc, sm, p]
              rfl)
          rw [← Nat.add_assoc, sm, p] at nxt
          exact nxt
        · have e1 : guiB P n R told (fi P i + w) = true := by cases q : guiB P n R told (fi P i + w) with | true => rfl | false => exact absurd (by rw [q]; rfl) p
          simp (disch := omega) only [ofNat_nI, nI_add, pk_mul, nI_clamp, nI_leI, nI_ltI, nI_eq, vp_in_nI_iff, nI_subr, nI_m1r, m1_eq, m1_eq2, m1_le, m1_le2, m1_lt, m1_lt2, m1_self, cv_sub, cv_add1, cv_eq, cv_eqI, cv_eqI2, cv_m1, cv_lt0, cv_leI, cv_Ile, cv_le, cv_lt, cv_Ilt, cv_ltI, not_true, not_false_iff, true_implies, false_implies, false_or, or_false, true_and, and_true, false_and, and_false, true_or, or_true]
          rw [hx2 _ (by omega)] at p2
          have nxt := ih (w + 1) (by omega) (by
            rcases hkt with z | z
            · exact Or.inl z
            · by_cases y : kk = 0
              · exact Or.inl y
              · right
                rw [← z, show MM P - (fi P i + w) = (MM P - (fi P i + (w + 1))) + 1 by omega, kth, e1, ← Nat.add_assoc, sm, e1, if_pos rfl, if_neg (by omega)]
                rfl)
          rw [← Nat.add_assoc, sm, e1] at nxt
          exact nxt
        · have e1 : guiB P n R told (fi P i + w) = true := by cases q : guiB P n R told (fi P i + w) with | true => rfl | false => exact absurd (by rw [q]; rfl) p
          rw [hx2 _ (by omega)] at p2
          have := k μ' F
          unfold guA at this
          rw [if_neg (by omega)] at this
          rcases hkt with z | z
          · omega
          · rw [← z, show MM P - (fi P i + w) = (MM P - (fi P i + (w + 1))) + 1 by omega, kth, e1, if_pos rfl, if_pos (by omega)] at this
            exact this
  intro d
  induction d with
  | zero =>
    intro i μ' hid F hset hkt
    have hi : i < ns (qC P) (qT P) := by omega
    refine k_X12_guilty_43 C (fun p => absurd p (by decide)) (fun p => absurd p (by decide)) (fun _ => ?_)
    refine s_levelsOfSet (s := st (qC P) (qT P) i) (L := qS P i) t3 (fun j hj => ⟨hset j hj, by have := st_lt h.ct hi hj; omega, by rw [F 135 (by decide)]; exact hL _ (st_lt h.ct hi hj).1⟩) (k_X12_guilty_53 C ?_)
    refine wl i hi μ' F hset (fun hkt2 => ?_) (pp P i) 0 (by omega) hkt
    have hpp := (h.pp_le hi).2
    refine k_X12_guilty_58 C (fun _ => ?_) (fun p => ?_)
    · refine s_nextSet (s := st (qC P) (qT P) i) (by rw [F 135 (by decide)]; exact h0) ⟨t1, t3, tC, C8⟩ (fun j hj => ⟨hset j hj, (st_lt h.ct hi hj).2.1⟩) (fun _ => ?_) (fun a ha1 ha2 ha3 g hg => ?_)
      · have e : fi P (i + 1) = MM P := by unfold MM; rw [show i + 1 = ns (qC P) (qT P) by omega]
        rw [e] at hkt2 ⊢
        have hk0 := k μ' F
        unfold guA at hk0
        refine k_X12_guilty_100 C (k_X12_guilty_43 C (fun _ p => ?_) (fun _ p => ?_) (fun p => absurd rfl p))
        · have hne : kk ≠ 0 := fun z => p (hx1.mpr z)
          rw [if_neg hne] at hk0
          rcases hkt2 with z | z
          · exact absurd z hne
          · rw [← z, Nat.sub_self, kth] at hk0
            exact hk0
        · have hz : kk = 0 := hx1.mp p
          rw [if_pos hz] at hk0
          exact hk0
      · exact absurd ((st_end h.ct hi).mpr (by omega) a ha1) ha2
    · exfalso
      revert p
      simp (disch := omega) only [ofNat_nI, nI_add, pk_mul, nI_clamp, nI_leI, nI_ltI, nI_eq, vp_in_nI_iff, nI_subr, nI_m1r, m1_eq, m1_eq2, m1_le, m1_le2, m1_lt, m1_lt2, m1_self, cv_sub, cv_add1, cv_eq, cv_eqI, cv_eqI2, cv_m1, cv_lt0, cv_leI, cv_Ile, cv_le, cv_lt, cv_Ilt, cv_ltI, not_true, not_false_iff, true_implies, false_implies, false_or, or_false, true_and, and_true, false_and, and_false, true_or, or_true]
      omega
  | succ d ih =>
    intro i μ' hid F hset hkt
    have hi : i < ns (qC P) (qT P) := by omega
    refine k_X12_guilty_43 C (fun p => absurd p (by decide)) (fun p => absurd p (by decide)) (fun _ => ?_)
    refine s_levelsOfSet (s := st (qC P) (qT P) i) (L := qS P i) t3 (fun j hj => ⟨hset j hj, by have := st_lt h.ct hi hj; omega, by rw [F 135 (by decide)]; exact hL _ (st_lt h.ct hi hj).1⟩) (k_X12_guilty_53 C ?_)
    refine wl i hi μ' F hset (fun hkt2 => ?_) (pp P i) 0 (by omega) hkt
    have hpp := (h.pp_le hi).2
    refine k_X12_guilty_58 C (fun _ => ?_) (fun p => ?_)
    · refine s_nextSet (s := st (qC P) (qT P) i) (by rw [F 135 (by decide)]; exact h0) ⟨t1, t3, tC, C8⟩ (fun j hj => ⟨hset j hj, (st_lt h.ct hi hj).2.1⟩) (fun hall => ?_) (fun a ha1 ha2 ha3 g hg => ?_)
      · have := (st_end h.ct hi).mp hall
        omega
      · refine k_X12_guilty_100 C (ih (i + 1) _ (by omega) (F.mrw (by decide)) (fun j hj => ?_) hkt2)
        rw [mrw_at, hg j hj, st_next h.ct (by omega) ha1 ha2 ha3 hj]
    · exfalso
      revert p
      simp (disch := omega) only [ofNat_nI, nI_add, pk_mul, nI_clamp, nI_leI, nI_ltI, nI_eq, vp_in_nI_iff, nI_subr, nI_m1r, m1_eq, m1_eq2, m1_le, m1_le2, m1_lt, m1_lt2, m1_self, cv_sub, cv_add1, cv_eq, cv_eqI, cv_eqI2, cv_m1, cv_lt0, cv_leI, cv_Ile, cv_le, cv_lt, cv_Ilt, cv_ltI, not_true, not_false_iff, true_implies, false_implies, false_or, or_false, true_and, and_true, false_and, and_false, true_or, or_true]
      omega
/-- how many guilty ones a row has; all for none -/
def guR (P : Pl) (n : Nat) (R : Nat → Nat → Nat) (told : Nat → Nat) (r : Nat → Nat) : Nat := sm (MM P) (fun m => (guiB P n R told m && hasM P r m).toNat)
theorem s_guiltyIn {G : mG} {Q : Int32 → mM → Prop} {P : Pl} (h : PW P) {μ : mM} (hn : NowP (μ 135) P) {n : Nat} {R : Nat → Nat → Nat} {told : Nat → Nat} (hr : RowsM (μ 135) n R told) {x : Int32} {t : Nat → Bool}
    (hx : (x < 0 ∧ ∀ m, t m = true) ∨ ∃ j, j < n ∧ x = nI j ∧ ∀ m, t m = hasM P (R j) m)
    (k : ∀ μ', Fr [143] μ μ' → Q (nI (sm (MM P) (fun m => (guiB P n R told m && t m).toNat))) μ') : CtI G mX12_guiltyIn [.ref (gb G + 132), .int x] μ Q := by
  obtain ⟨t1, t3, tC, C8⟩ := h.ct
  have hMM := h.MM_le
  have h0 := hn.1
  have h1 := hn.2.1
  have hL := hn.2.2.2.1
  obtain ⟨r3, r64, rr, rt⟩ := hr
  refine e_X12_guiltyIn fun E C => k_X12_guiltyIn_0 C ?_
  have wl : ∀ (i : Nat), i < ns (qC P) (qT P) → ∀ (μ' : mM), Fr [143] μ μ' → (∀ j, j < qT P → μ' 143 j = nI (st (qC P) (qT P) i j)) →
      ∀ (cont : Wm G mX12_guiltyIn E (bm G mX12_guiltyIn E (pI Q)) μ' 33 [(0, .ref (gb G + 132)), (1, .int x), (2, .int (nI (sm (fi P (i + 1)) (fun m => (guiB P n R told m && t m).toNat)))), (4, .int (nI (pp P i))), (5, .int (nI (pp P i)))] []),
      ∀ (e w : Nat), w + e = pp P i →
        Wm G mX12_guiltyIn E (bm G mX12_guiltyIn E (pI Q)) μ' 33 [(0, .ref (gb G + 132)), (1, .int x), (2, .int (nI (sm (fi P i + w) (fun m => (guiB P n R told m && t m).toNat)))), (4, .int (nI (pp P i))), (5, .int (nI w))] [] := by
    intro i hi μ' F hset cont e
    have hpp := (h.pp_le hi).2
    induction e with
    | zero =>
      intro w hw
      have e : w = pp P i := by omega
      subst e
      exact cont
    | succ e ih =>
      intro w hw
      have hwp : w < pp P i := by omega
      have hlt := fi_lt hi hwp
      have nxt := ih (w + 1) (by omega)
      rw [← Nat.add_assoc, sm] at nxt
      refine k_X12_guiltyIn_33 C (fun p => ?_) (fun _ => ?_)
      · exfalso
        revert p
        simp (disch := omega) only [ofNat_nI, nI_add, pk_mul, nI_clamp, nI_leI, nI_ltI, nI_eq, vp_in_nI_iff, nI_subr, nI_m1r, m1_eq, m1_eq2, m1_le, m1_le2, m1_lt, m1_lt2, m1_self, cv_sub, cv_add1, cv_eq, cv_eqI, cv_eqI2, cv_m1, cv_lt0, cv_leI, cv_Ile, cv_le, cv_lt, cv_Ilt, cv_ltI, not_true, not_false_iff, true_implies, false_implies, false_or, or_false, true_and, and_true, false_and, and_false, true_or, or_true]
        omega
      · rw [F 135 (by decide), h1]
        refine s_isGuilty h (by rw [F 135 (by decide)]; exact hL) hi hwp hset (by rw [F 135 (by decide)]; exact ⟨r3, r64, rr, rt⟩) (k_X12_guiltyIn_53 C (fun p => ?_) (fun p p2 => ?_) (fun p p2 => ?_))
        · rw [nI_b0] at p
          rw [p, Bool.false_and] at nxt
          simp (disch := omega) only [ofNat_nI, nI_add, pk_mul, nI_clamp, nI_leI, nI_ltI, nI_eq, vp_in_nI_iff, nI_subr, nI_m1r, m1_eq, m1_eq2, m1_le, m1_le2, m1_lt, m1_lt2, m1_self, cv_sub, cv_add1, cv_eq, cv_eqI, cv_eqI2, cv_m1, cv_lt0, cv_leI, cv_Ile, cv_le, cv_lt, cv_Ilt, cv_ltI, not_true, not_false_iff, true_implies, false_implies, false_or, or_false, true_and, and_true, false_and, and_false, true_or, or_true]
          exact nxt
        · have e1 : guiB P n R told (fi P i + w) = true := by cases q : guiB P n R told (fi P i + w) with | true => rfl | false => exact absurd (by rw [q]; rfl) p
          rcases hx with ⟨-, z⟩ | ⟨j, z1, rfl, -⟩
          · rw [e1, z, Bool.and_self] at nxt
            simp (disch := omega) only [ofNat_nI, nI_add, pk_mul, nI_clamp, nI_leI, nI_ltI, nI_eq, vp_in_nI_iff, nI_subr, nI_m1r, m1_eq, m1_eq2, m1_le, m1_le2, m1_lt, m1_lt2, m1_self, cv_sub, cv_add1, cv_eq, cv_eqI, cv_eqI2, cv_m1, cv_lt0, cv_leI, cv_Ile, cv_le, cv_lt, cv_Ilt, cv_ltI, not_true, not_false_iff, true_implies, false_implies, false_or, or_false, true_and, and_true, false_and, and_false, true_or, or_true]
            exact nxt
          · exact absurd p2 (nI_pos (by omega))
        · have e1 : guiB P n R told (fi P i + w) = true := by cases q : guiB P n R told (fi P i + w) with | true => rfl | false => exact absurd (by rw [q]; rfl) p
          rcases hx with ⟨z, -⟩ | ⟨j, z1, rfl, z3⟩
          · exact absurd z p2
          · rw [F 135 (by decide), h1]
            refine s_hasLevels h (by rw [F 135 (by decide)]; exact hL) hi hwp hset (by omega) (by rw [F 135 (by decide)]; exact rr j z1) (k_X12_guiltyIn_73 C (fun v hv => ?_))
            rw [phB hv, ← z3]
            rw [e1, Bool.true_and] at nxt
            simp (disch := omega) only [ofNat_nI, nI_add, pk_mul, nI_clamp, nI_leI, nI_ltI, nI_eq, vp_in_nI_iff, nI_subr, nI_m1r, m1_eq, m1_eq2, m1_le, m1_le2, m1_lt, m1_lt2, m1_self, cv_sub, cv_add1, cv_eq, cv_eqI, cv_eqI2, cv_m1, cv_lt0, cv_leI, cv_Ile, cv_le, cv_lt, cv_Ilt, cv_ltI, not_true, not_false_iff, true_implies, false_implies, false_or, or_false, true_and, and_true, false_and, and_false, true_or, or_true]
            exact nxt
  have loop : ∀ (d i : Nat) (μ' : mM), i + d + 1 = ns (qC P) (qT P) → Fr [143] μ μ' → (∀ j, j < qT P → μ' 143 j = nI (st (qC P) (qT P) i j)) →
      Wm G mX12_guiltyIn E (bm G mX12_guiltyIn E (pI Q)) μ' 14 [(0, .ref (gb G + 132)), (1, .int x), (2, .int (nI (sm (fi P i) (fun m => (guiB P n R told m && t m).toNat)))), (3, .int 1)] [] := by
    intro d
    induction d with
    | zero =>
      intro i μ' hid F hset
      have hi : i < ns (qC P) (qT P) := by omega
      have hpp := (h.pp_le hi).2
      refine k_X12_guiltyIn_14 C (fun p => absurd p (by decide)) (fun _ => ?_)
      rw [F 135 (by decide), h1]
      refine s_levelsOfSet (s := st (qC P) (qT P) i) (L := qS P i) t3 (fun j hj => ⟨hset j hj, by have := st_lt h.ct hi hj; omega, by rw [F 135 (by decide)]; exact hL _ (st_lt h.ct hi hj).1⟩) (k_X12_guiltyIn_28 C ?_)
      refine wl i hi μ' F hset ?_ (pp P i) 0 (by omega)
      refine k_X12_guiltyIn_33 C (fun _ => ?_) (fun p => ?_)
      · rw [F 135 (by decide), h1]
        refine s_nextSet (s := st (qC P) (qT P) i) (by rw [F 135 (by decide)]; exact h0) ⟨t1, t3, tC, C8⟩ (fun j hj => ⟨hset j hj, (st_lt h.ct hi hj).2.1⟩) (fun _ => ?_) (fun a ha1 ha2 ha3 g hg => ?_)
        · have e : fi P (i + 1) = MM P := by unfold MM; rw [show i + 1 = ns (qC P) (qT P) by omega]
          rw [e]
          exact k_X12_guiltyIn_99 C (k_X12_guiltyIn_14 C (fun _ => k μ' F) (fun p => absurd rfl p))
        · exact absurd ((st_end h.ct hi).mpr (by omega) a ha1) ha2
      · exfalso
        revert p
        simp (disch := omega) only [ofNat_nI, nI_add, pk_mul, nI_clamp, nI_leI, nI_ltI, nI_eq, vp_in_nI_iff, nI_subr, nI_m1r, m1_eq, m1_eq2, m1_le, m1_le2, m1_lt, m1_lt2, m1_self, cv_sub, cv_add1, cv_eq, cv_eqI, cv_eqI2, cv_m1, cv_lt0, cv_leI, cv_Ile, cv_le, cv_lt, cv_Ilt, cv_ltI, not_true, not_false_iff, true_implies, false_implies, false_or, or_false, true_and, and_true, false_and, and_false, true_or, or_true]
        omega
    | succ d ih =>
      intro i μ' hid F hset
      have hi : i < ns (qC P) (qT P) := by omega
      have hpp := (h.pp_le hi).2
      refine k_X12_guiltyIn_14 C (fun p => absurd p (by decide)) (fun _ => ?_)
      rw [F 135 (by decide), h1]
      refine s_levelsOfSet (s := st (qC P) (qT P) i) (L := qS P i) t3 (fun j hj => ⟨hset j hj, by have := st_lt h.ct hi hj; omega, by rw [F 135 (by decide)]; exact hL _ (st_lt h.ct hi hj).1⟩) (k_X12_guiltyIn_28 C ?_)
      refine wl i hi μ' F hset ?_ (pp P i) 0 (by omega)
      refine k_X12_guiltyIn_33 C (fun _ => ?_) (fun p => ?_)
      · rw [F 135 (by decide), h1]
        refine s_nextSet (s := st (qC P) (qT P) i) (by rw [F 135 (by decide)]; exact h0) ⟨t1, t3, tC, C8⟩ (fun j hj => ⟨hset j hj, (st_lt h.ct hi hj).2.1⟩) (fun hall => ?_) (fun a ha1 ha2 ha3 g hg => ?_)
        · have := (st_end h.ct hi).mp hall
          omega
        · refine k_X12_guiltyIn_99 C (ih (i + 1) _ (by omega) (F.mrw (by decide)) (fun j hj => ?_))
          rw [mrw_at, hg j hj, st_next h.ct (by omega) ha1 ha2 ha3 hj]
      · exfalso
        revert p
        simp (disch := omega) only [ofNat_nI, nI_add, pk_mul, nI_clamp, nI_leI, nI_ltI, nI_eq, vp_in_nI_iff, nI_subr, nI_m1r, m1_eq, m1_eq2, m1_le, m1_le2, m1_lt, m1_lt2, m1_self, cv_sub, cv_add1, cv_eq, cv_eqI, cv_eqI2, cv_m1, cv_lt0, cv_leI, cv_Ile, cv_le, cv_lt, cv_Ilt, cv_ltI, not_true, not_false_iff, true_implies, false_implies, false_or, or_false, true_and, and_true, false_and, and_false, true_or, or_true]
        omega
  rw [h1]
  refine s_beginsSet t3 fun g hg => k_X12_guiltyIn_12 C ?_
  refine loop (ns (qC P) (qT P) - 1) 0 _ (by have := ns_pos h.ct; omega) ((Fr.rf _ _).mrw (by decide)) (fun j hj => ?_)
  rw [mrw_at, st_0 h.ct hj]
  exact hg j hj

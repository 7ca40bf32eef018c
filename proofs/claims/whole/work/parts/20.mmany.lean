/-! THE MODEL: how many mixes there would be; rows brought ahead; what a cell brings -/
def ls (f : List Nat → Nat) : List (List Nat) → Nat
  | [] => 0
  | l :: t => f l + ls f t
theorem ls_app (f : List Nat → Nat) (a b : List (List Nat)) : ls f (a ++ b) = ls f a + ls f b := by
  induction a with
  | nil => simp [ls]
  | cons l t ih => simp only [List.cons_append, ls, ih]; omega
theorem ls_map (f : List Nat → Nat) (g : List Nat → List Nat) (a : List (List Nat)) : ls f (a.map g) = ls (fun l => f (g l)) a := by
  induction a with
  | nil => rfl
  | cons l t ih => simp only [List.map_cons, ls, ih]
theorem ls_mul (f : List Nat → Nat) (c : Nat) (a : List (List Nat)) : ls (fun l => c * f l) a = c * ls f a := by
  induction a with
  | nil => rfl
  | cons l t ih => simp only [ls, ih, Nat.mul_add]
theorem sm_front (n : Nat) (f : Nat → Nat) : sm (n + 1) f = f 0 + sm n (fun i => f (i + 1)) := by
  rw [Nat.add_comm n 1, sm_app]
  simp only [sm, Nat.zero_add]
  congr 1
  exact sm_congr (fun i _ => by rw [Nat.add_comm])
theorem pd_front (n : Nat) (f : Nat → Nat) : pd (n + 1) f = f 0 * pd n (fun i => f (i + 1)) := by
  induction n with
  | zero => simp [pd]
  | succ n ih => rw [pd, ih, pd, Nat.mul_assoc]
theorem ls_rng (f : List Nat → Nat) (F : Nat → List (List Nat)) : ∀ (n lo : Nat), ls f ((List.range' lo n).flatMap F) = sm n (fun i => ls f (F (lo + i)))
  | 0, lo => rfl
  | n + 1, lo => by
    rw [List.range'_succ, List.flatMap_cons, ls_app, ls_rng f F n (lo + 1), sm_front]
    congr 1
    exact sm_congr (fun i _ => by rw [show lo + 1 + i = lo + (i + 1) by omega])
theorem ls_get (f : List Nat → Nat) (a : List (List Nat)) : sm a.length (fun i => f (a.getD i [])) = ls f a := by
  induction a with
  | nil => rfl
  | cons l t ih =>
    rw [List.length_cons, sm_front, ls, ← ih]
    rfl
def nx (C : Nat) (L : Nat → Nat) : Nat → Nat → Nat
  | 0, _ => 1
  | T + 1, lo => sm (C - lo) (fun i => L (lo + i) * nx C L T (lo + i + 1))
theorem ls_comb (C : Nat) (L : Nat → Nat) : ∀ (T lo : Nat), ls (fun l => pd T (fun k => L (l.getD k 0))) (comb C T lo) = nx C L T lo
  | 0, lo => rfl
  | T + 1, lo => by
    rw [comb, ls_rng, nx]
    refine sm_congr fun i _ => ?_
    rw [ls_map, ← ls_comb C L T (lo + i + 1), ← ls_mul]
    congr 1
    funext l
    rw [pd_front]
    rfl
theorem MM_nx (P : Pl) : MM P = nx (qC P) (qL P) (qT P) 0 := by
  rw [← ls_comb, ← ls_get]
  rfl
theorem s_mixMany {G : mG} {Q : Int32 → mM → Prop} {μ : mM} {C T : Nat} {L : Nat → Nat} (hc : ctOk C T) (h0 : μ 135 0 = nI C) (h1 : μ 135 1 = nI T) (hL : ∀ c, c < C → μ 135 (5 + c) = nI (L c)) (k : Q (nI (nx C L T 0)) μ) : CtI G mX12_mixMany [.ref (gb G + 132)] μ Q := by
  obtain ⟨t1, t3, tC, tC8⟩ := hc
  refine e_X12_mixMany fun E X => k_X12_mixMany_0 X ?_
  obtain ⟨U, rfl⟩ : ∃ U, T = U + 1 := ⟨T - 1, by omega⟩
  rw [nx] at k
  simp only [Nat.sub_zero, Nat.zero_add] at k
  refine lp_up (W := fun i => Wm G mX12_mixMany E (bm G mX12_mixMany E (pI Q)) μ 4 [(0, .ref (gb G + 132)), (1, .int (nI (sm i (fun i => L i * nx C L U (i + 1))))), (2, .int (nI i))] []) C ?_ (fun a ha ih => ?_)
  · refine k_X12_mixMany_4 X (fun _ => k) (fun p => ?_) (fun p => ?_)
    all_goals
      exfalso
      revert p
      rw [h0]
      simp (disch := omega) only [ofNat_nI, nI_add, pk_mul, nI_clamp, nI_leI, nI_ltI, nI_eq, vp_in_nI_iff, nI_subr, nI_m1r, m1_eq, m1_eq2, m1_le, m1_le2, m1_lt, m1_lt2, m1_self, cv_sub, cv_add1, cv_eq, cv_eqI, cv_eqI2, cv_m1, cv_lt0, cv_leI, cv_Ile, cv_le, cv_lt, cv_Ilt, cv_ltI, not_true, not_false_iff, true_implies, false_implies, false_or, or_false, true_and, and_true, false_and, and_false, true_or, or_true]
      all_goals omega
  · refine k_X12_mixMany_4 X (fun p => ?_) (fun _ _ => ?_) (fun _ v hv => ?_)
    · exfalso
      revert p
      rw [h0]
      simp (disch := omega) only [ofNat_nI, nI_add, pk_mul, nI_clamp, nI_leI, nI_ltI, nI_eq, vp_in_nI_iff, nI_subr, nI_m1r, m1_eq, m1_eq2, m1_le, m1_le2, m1_lt, m1_lt2, m1_self, cv_sub, cv_add1, cv_eq, cv_eqI, cv_eqI2, cv_m1, cv_lt0, cv_leI, cv_Ile, cv_le, cv_lt, cv_Ilt, cv_ltI, not_true, not_false_iff, true_implies, false_implies, false_or, or_false, true_and, and_true, false_and, and_false, true_or, or_true]
      omega
    · simp (disch := omega) only [ofNat_nI, nI_add, pk_mul, nI_clamp, nI_leI, nI_ltI, nI_eq, vp_in_nI_iff, nI_subr, nI_m1r, m1_eq, m1_eq2, m1_le, m1_le2, m1_lt, m1_lt2, m1_self, cv_sub, cv_add1, cv_eq, cv_eqI, cv_eqI2, cv_m1, cv_lt0, cv_leI, cv_Ile, cv_le, cv_lt, cv_Ilt, cv_ltI, not_true, not_false_iff, true_implies, false_implies, false_or, or_false, true_and, and_true, false_and, and_false, true_or, or_true]
      omega
    · revert hv
      simp (disch := omega) only [ofNat_nI, nI_add, pk_mul, nI_clamp, nI_leI, nI_ltI, nI_eq, vp_in_nI_iff, nI_subr, nI_m1r, m1_eq, m1_eq2, m1_le, m1_le2, m1_lt, m1_lt2, m1_self, cv_sub, cv_add1, cv_eq, cv_eqI, cv_eqI2, cv_m1, cv_lt0, cv_leI, cv_Ile, cv_le, cv_lt, cv_Ilt, cv_ltI, not_true, not_false_iff, true_implies, false_implies, false_or, or_false, true_and, and_true, false_and, and_false, true_or, or_true, h1, hL a ha]
      intro hv
      rcases U with _ | U
      · have ev : v = nI (sm (a + 1) (fun i => L i * nx C L 0 (i + 1))) := by
          rcases hv with hv | hv
          · omega
          · rw [hv.2, sm, nx, Nat.mul_one]
        rw [ev]
        refine k_X12_mixMany_39 X (fun _ => ?_) (fun _ p => ?_) (fun _ p => ?_) (fun _ p => ?_)
        · simp (disch := omega) only [ofNat_nI, nI_add, pk_mul, nI_clamp, nI_leI, nI_ltI, nI_eq, vp_in_nI_iff, nI_subr, nI_m1r, m1_eq, m1_eq2, m1_le, m1_le2, m1_lt, m1_lt2, m1_self, cv_sub, cv_add1, cv_eq, cv_eqI, cv_eqI2, cv_m1, cv_lt0, cv_leI, cv_Ile, cv_le, cv_lt, cv_Ilt, cv_ltI, not_true, not_false_iff, true_implies, false_implies, false_or, or_false, true_and, and_true, false_and, and_false, true_or, or_true]
          exact ih
        all_goals
          exfalso
          revert p
          rw [h1]
          simp (disch := omega) only [ofNat_nI, nI_add, pk_mul, nI_clamp, nI_leI, nI_ltI, nI_eq, vp_in_nI_iff, nI_subr, nI_m1r, m1_eq, m1_eq2, m1_le, m1_le2, m1_lt, m1_lt2, m1_self, cv_sub, cv_add1, cv_eq, cv_eqI, cv_eqI2, cv_m1, cv_lt0, cv_leI, cv_Ile, cv_le, cv_lt, cv_Ilt, cv_ltI, not_true, not_false_iff, true_implies, false_implies, false_or, or_false, true_and, and_true, false_and, and_false, true_or, or_true]
          all_goals omega
      · have ev : v = nI (sm a (fun i => L i * nx C L (U + 1) (i + 1))) := by
          rcases hv with hv | hv
          · exact hv.2
          · omega
        rw [ev]
        rw [sm, nx] at ih
        refine lp_up (W := fun e => Wm G mX12_mixMany E (bm G mX12_mixMany E (pI Q)) μ 39 [(0, .ref (gb G + 132)), (1, .int (nI (sm a (fun i => L i * nx C L (U + 1) (i + 1)) + L a * sm e (fun i => L (a + 1 + i) * nx C L U (a + 1 + i + 1))))), (2, .int (nI a)), (3, .int (nI (a + 1 + e)))] []) (C - (a + 1)) ?_ (fun e he ihe => ?_)
        · refine k_X12_mixMany_39 X (fun _ => ?_) (fun p => ?_) (fun p => ?_) (fun p => ?_)
          · simp (disch := omega) only [ofNat_nI, nI_add, pk_mul, nI_clamp, nI_leI, nI_ltI, nI_eq, vp_in_nI_iff, nI_subr, nI_m1r, m1_eq, m1_eq2, m1_le, m1_le2, m1_lt, m1_lt2, m1_self, cv_sub, cv_add1, cv_eq, cv_eqI, cv_eqI2, cv_m1, cv_lt0, cv_leI, cv_Ile, cv_le, cv_lt, cv_Ilt, cv_ltI, not_true, not_false_iff, true_implies, false_implies, false_or, or_false, true_and, and_true, false_and, and_false, true_or, or_true]
            exact ih
          all_goals
            exfalso
            revert p
            rw [h0]
            simp (disch := omega) only [ofNat_nI, nI_add, pk_mul, nI_clamp, nI_leI, nI_ltI, nI_eq, vp_in_nI_iff, nI_subr, nI_m1r, m1_eq, m1_eq2, m1_le, m1_le2, m1_lt, m1_lt2, m1_self, cv_sub, cv_add1, cv_eq, cv_eqI, cv_eqI2, cv_m1, cv_lt0, cv_leI, cv_Ile, cv_le, cv_lt, cv_Ilt, cv_ltI, not_true, not_false_iff, true_implies, false_implies, false_or, or_false, true_and, and_true, false_and, and_false, true_or, or_true]
            all_goals omega
        · refine k_X12_mixMany_39 X (fun p => ?_) (fun _ _ _ => ?_) (fun _ _ _ => ?_) (fun _ _ v hv => ?_)
          · exfalso
            revert p
            rw [h0, h1]
            simp (disch := omega) only [ofNat_nI, nI_add, pk_mul, nI_clamp, nI_leI, nI_ltI, nI_eq, vp_in_nI_iff, nI_subr, nI_m1r, m1_eq, m1_eq2, m1_le, m1_le2, m1_lt, m1_lt2, m1_self, cv_sub, cv_add1, cv_eq, cv_eqI, cv_eqI2, cv_m1, cv_lt0, cv_leI, cv_Ile, cv_le, cv_lt, cv_Ilt, cv_ltI, not_true, not_false_iff, true_implies, false_implies, false_or, or_false, true_and, and_true, false_and, and_false, true_or, or_true]
            all_goals omega
          · simp (disch := omega) only [ofNat_nI, nI_add, pk_mul, nI_clamp, nI_leI, nI_ltI, nI_eq, vp_in_nI_iff, nI_subr, nI_m1r, m1_eq, m1_eq2, m1_le, m1_le2, m1_lt, m1_lt2, m1_self, cv_sub, cv_add1, cv_eq, cv_eqI, cv_eqI2, cv_m1, cv_lt0, cv_leI, cv_Ile, cv_le, cv_lt, cv_Ilt, cv_ltI, not_true, not_false_iff, true_implies, false_implies, false_or, or_false, true_and, and_true, false_and, and_false, true_or, or_true]
            omega
          · simp (disch := omega) only [ofNat_nI, nI_add, pk_mul, nI_clamp, nI_leI, nI_ltI, nI_eq, vp_in_nI_iff, nI_subr, nI_m1r, m1_eq, m1_eq2, m1_le, m1_le2, m1_lt, m1_lt2, m1_self, cv_sub, cv_add1, cv_eq, cv_eqI, cv_eqI2, cv_m1, cv_lt0, cv_leI, cv_Ile, cv_le, cv_lt, cv_Ilt, cv_ltI, not_true, not_false_iff, true_implies, false_implies, false_or, or_false, true_and, and_true, false_and, and_false, true_or, or_true]
            omega
          · revert hv
            simp (disch := omega) only [ofNat_nI, nI_add, pk_mul, nI_clamp, nI_leI, nI_ltI, nI_eq, vp_in_nI_iff, nI_subr, nI_m1r, m1_eq, m1_eq2, m1_le, m1_le2, m1_lt, m1_lt2, m1_self, cv_sub, cv_add1, cv_eq, cv_eqI, cv_eqI2, cv_m1, cv_lt0, cv_leI, cv_Ile, cv_le, cv_lt, cv_Ilt, cv_ltI, not_true, not_false_iff, true_implies, false_implies, false_or, or_false, true_and, and_true, false_and, and_false, true_or, or_true, h1, hL a ha, hL (a + 1 + e) (by omega)]
            intro hv
            rcases U with _ | U
            · have ev : v = nI (sm a (fun i => L i * nx C L 1 (i + 1)) + L a * sm (e + 1) (fun i => L (a + 1 + i) * nx C L 0 (a + 1 + i + 1))) := by
                rcases hv with hv | hv
                · omega
                · rw [hv.2, sm, nx, Nat.mul_one, Nat.mul_add, Nat.add_assoc]
              rw [ev]
              refine k_X12_mixMany_94 X (fun _ => ?_) (fun _ p => ?_) (fun _ p => ?_) (fun _ p => ?_) (fun _ p => ?_)
              · simp (disch := omega) only [ofNat_nI, nI_add, pk_mul, nI_clamp, nI_leI, nI_ltI, nI_eq, vp_in_nI_iff, nI_subr, nI_m1r, m1_eq, m1_eq2, m1_le, m1_le2, m1_lt, m1_lt2, m1_self, cv_sub, cv_add1, cv_eq, cv_eqI, cv_eqI2, cv_m1, cv_lt0, cv_leI, cv_Ile, cv_le, cv_lt, cv_Ilt, cv_ltI, not_true, not_false_iff, true_implies, false_implies, false_or, or_false, true_and, and_true, false_and, and_false, true_or, or_true]
                exact ihe
              all_goals
                exfalso
                revert p
                rw [h1]
                simp (disch := omega) only [ofNat_nI, nI_add, pk_mul, nI_clamp, nI_leI, nI_ltI, nI_eq, vp_in_nI_iff, nI_subr, nI_m1r, m1_eq, m1_eq2, m1_le, m1_le2, m1_lt, m1_lt2, m1_self, cv_sub, cv_add1, cv_eq, cv_eqI, cv_eqI2, cv_m1, cv_lt0, cv_leI, cv_Ile, cv_le, cv_lt, cv_Ilt, cv_ltI, not_true, not_false_iff, true_implies, false_implies, false_or, or_false, true_and, and_true, false_and, and_false, true_or, or_true]
                all_goals omega
            · have hU : U = 0 := by omega
              subst hU
              have ev : v = nI (sm a (fun i => L i * nx C L 2 (i + 1)) + L a * sm e (fun i => L (a + 1 + i) * nx C L 1 (a + 1 + i + 1))) := by
                rcases hv with hv | hv
                · exact hv.2
                · omega
              rw [ev]
              rw [sm, nx] at ihe
              refine lp_up (W := fun f => Wm G mX12_mixMany E (bm G mX12_mixMany E (pI Q)) μ 94 [(0, .ref (gb G + 132)), (1, .int (nI (sm a (fun i => L i * nx C L 2 (i + 1)) + L a * (sm e (fun i => L (a + 1 + i) * nx C L 1 (a + 1 + i + 1)) + L (a + 1 + e) * sm f (fun i => L (a + 1 + e + 1 + i) * nx C L 0 (a + 1 + e + 1 + i + 1)))))), (2, .int (nI a)), (3, .int (nI (a + 1 + e))), (4, .int (nI (a + 1 + e + 1 + f)))] []) (C - (a + 1 + e + 1)) ?_ (fun f hf ihf => ?_)
              · refine k_X12_mixMany_94 X (fun _ => ?_) (fun p => ?_) (fun p => ?_) (fun p => ?_) (fun p => ?_)
                · simp (disch := omega) only [ofNat_nI, nI_add, pk_mul, nI_clamp, nI_leI, nI_ltI, nI_eq, vp_in_nI_iff, nI_subr, nI_m1r, m1_eq, m1_eq2, m1_le, m1_le2, m1_lt, m1_lt2, m1_self, cv_sub, cv_add1, cv_eq, cv_eqI, cv_eqI2, cv_m1, cv_lt0, cv_leI, cv_Ile, cv_le, cv_lt, cv_Ilt, cv_ltI, not_true, not_false_iff, true_implies, false_implies, false_or, or_false, true_and, and_true, false_and, and_false, true_or, or_true]
                  exact ihe
                all_goals
                  exfalso
                  revert p
                  rw [h0]
                  simp (disch := omega) only [ofNat_nI, nI_add, pk_mul, nI_clamp, nI_leI, nI_ltI, nI_eq, vp_in_nI_iff, nI_subr, nI_m1r, m1_eq, m1_eq2, m1_le, m1_le2, m1_lt, m1_lt2, m1_self, cv_sub, cv_add1, cv_eq, cv_eqI, cv_eqI2, cv_m1, cv_lt0, cv_leI, cv_Ile, cv_le, cv_lt, cv_Ilt, cv_ltI, not_true, not_false_iff, true_implies, false_implies, false_or, or_false, true_and, and_true, false_and, and_false, true_or, or_true]
                  all_goals omega
              · refine k_X12_mixMany_94 X (fun p => ?_) (fun _ _ => ?_) (fun _ _ => ?_) (fun _ _ => ?_) (fun _ _ => ?_)
                · exfalso
                  revert p
                  rw [h0, h1]
                  simp (disch := omega) only [ofNat_nI, nI_add, pk_mul, nI_clamp, nI_leI, nI_ltI, nI_eq, vp_in_nI_iff, nI_subr, nI_m1r, m1_eq, m1_eq2, m1_le, m1_le2, m1_lt, m1_lt2, m1_self, cv_sub, cv_add1, cv_eq, cv_eqI, cv_eqI2, cv_m1, cv_lt0, cv_leI, cv_Ile, cv_le, cv_lt, cv_Ilt, cv_ltI, not_true, not_false_iff, true_implies, false_implies, false_or, or_false, true_and, and_true, false_and, and_false, true_or, or_true]
                  all_goals omega
                · simp (disch := omega) only [ofNat_nI, nI_add, pk_mul, nI_clamp, nI_leI, nI_ltI, nI_eq, vp_in_nI_iff, nI_subr, nI_m1r, m1_eq, m1_eq2, m1_le, m1_le2, m1_lt, m1_lt2, m1_self, cv_sub, cv_add1, cv_eq, cv_eqI, cv_eqI2, cv_m1, cv_lt0, cv_leI, cv_Ile, cv_le, cv_lt, cv_Ilt, cv_ltI, not_true, not_false_iff, true_implies, false_implies, false_or, or_false, true_and, and_true, false_and, and_false, true_or, or_true]
                  omega
                · simp (disch := omega) only [ofNat_nI, nI_add, pk_mul, nI_clamp, nI_leI, nI_ltI, nI_eq, vp_in_nI_iff, nI_subr, nI_m1r, m1_eq, m1_eq2, m1_le, m1_le2, m1_lt, m1_lt2, m1_self, cv_sub, cv_add1, cv_eq, cv_eqI, cv_eqI2, cv_m1, cv_lt0, cv_leI, cv_Ile, cv_le, cv_lt, cv_Ilt, cv_ltI, not_true, not_false_iff, true_implies, false_implies, false_or, or_false, true_and, and_true, false_and, and_false, true_or, or_true]
                  omega
                · simp (disch := omega) only [ofNat_nI, nI_add, pk_mul, nI_clamp, nI_leI, nI_ltI, nI_eq, vp_in_nI_iff, nI_subr, nI_m1r, m1_eq, m1_eq2, m1_le, m1_le2, m1_lt, m1_lt2, m1_self, cv_sub, cv_add1, cv_eq, cv_eqI, cv_eqI2, cv_m1, cv_lt0, cv_leI, cv_Ile, cv_le, cv_lt, cv_Ilt, cv_ltI, not_true, not_false_iff, true_implies, false_implies, false_or, or_false, true_and, and_true, false_and, and_false, true_or, or_true]
                  omega
                · simp (disch := omega) only [ofNat_nI, nI_add, pk_mul, nI_clamp, nI_leI, nI_ltI, nI_eq, vp_in_nI_iff, nI_subr, nI_m1r, m1_eq, m1_eq2, m1_le, m1_le2, m1_lt, m1_lt2, m1_self, cv_sub, cv_add1, cv_eq, cv_eqI, cv_eqI2, cv_m1, cv_lt0, cv_leI, cv_Ile, cv_le, cv_lt, cv_Ilt, cv_ltI, not_true, not_false_iff, true_implies, false_implies, false_or, or_false, true_and, and_true, false_and, and_false, true_or, or_true, hL a ha, hL (a + 1 + e) (by omega), hL (a + 1 + e + 1 + f) (by omega)]
                  rw [sm, nx, Nat.mul_one] at ihf
                  have e1 : sm a (fun i => L i * nx C L 2 (i + 1)) + L a * (sm e (fun i => L (a + 1 + i) * nx C L 1 (a + 1 + i + 1)) + L (a + 1 + e) * sm f (fun i => L (a + 1 + e + 1 + i) * nx C L 0 (a + 1 + e + 1 + i + 1))) + L a * L (a + 1 + e) * L (a + 1 + e + 1 + f) =
                      sm a (fun i => L i * nx C L 2 (i + 1)) + L a * (sm e (fun i => L (a + 1 + i) * nx C L 1 (a + 1 + i + 1)) + L (a + 1 + e) * (sm f (fun i => L (a + 1 + e + 1 + i) * nx C L 0 (a + 1 + e + 1 + i + 1)) + L (a + 1 + e + 1 + f))) := by
                    simp only [Nat.mul_add, Nat.mul_assoc, Nat.add_assoc]
                  rw [e1]
                  exact ihf
/-- row j comes to place a, those between go one on -/
def brg {α : Type} (f : Nat → α) (j a : Nat) : Nat → α := fun i => if i = a then f j else if a < i ∧ i ≤ j then f (i - 1) else f i
theorem s_bringsTo {G : mG} {Q : mM → Prop} {μ : mM} {n j a : Nat} {R : Nat → Nat → Nat} {told : Nat → Nat} (hr : RowsM (μ 135) n R told) (hj : j < n) (ha : a ≤ j)
    (k : ∀ g f : Nat → Int32, (∀ i, i < 97 → g i = μ 135 i) → RowsM g n (brg R j a) (brg told j a) → Q (mrw (mrw μ 148 f) 135 g)) : CtV G mX12_bringsTo [.ref (gb G + 132), .int (nI j), .int (nI a)] μ Q := by
  obtain ⟨r3, r64, rr, rt⟩ := hr
  refine e_X12_bringsTo fun E C => k_X12_bringsTo_0 C ?_
  have part3 : ∀ (f g : Nat → Int32) (d i : Nat), i + d = 8 → (∀ c, c < 8 → f c = cv (R j c)) → f 8 = nI (told j) → (∀ i, i < 97 → g i = μ 135 i) →
      (∀ b, b < n → b ≠ a → RowM g b (brg R j a b) ∧ g (97 + b) = nI (brg told j a b)) → (∀ c, c < i → g (161 + 8 * a + c) = cv (R j c)) →
      Wm G mX12_bringsTo E (bm G mX12_bringsTo E (pV Q)) (mrw (mrw μ 148 f) 135 g) 65 [(0, .ref (gb G + 132)), (2, .int (nI a)), (3, .int (nI i))] [] := by
    intro f g d
    induction d generalizing g with
    | zero =>
      intro i hi hf hf8 hg hrow hcur
      refine k_X12_bringsTo_65 C (fun _ => ?_) (fun _ => ?_) (fun p => ?_) (fun p => ?_) (fun p => ?_)
      · simp (disch := omega) only [ofNat_nI, nI_add, pk_mul, nI_clamp, nI_leI, nI_ltI, nI_eq, vp_in_nI_iff, nI_subr, nI_m1r, m1_eq, m1_eq2, m1_le, m1_le2, m1_lt, m1_lt2, m1_self, cv_sub, cv_add1, cv_eq, cv_eqI, cv_eqI2, cv_m1, cv_lt0, cv_leI, cv_Ile, cv_le, cv_lt, cv_Ilt, cv_ltI, not_true, not_false_iff, true_implies, false_implies, false_or, or_false, true_and, and_true, false_and, and_false, true_or, or_true]
        omega
      · rw [ms_mrw, mrw_ne (by decide), mrw_at, hf8]
        simp (disch := omega) only [ofNat_nI, nI_add, pk_mul, nI_clamp, nI_leI, nI_ltI, nI_eq, vp_in_nI_iff, nI_subr, nI_m1r, m1_eq, m1_eq2, m1_le, m1_le2, m1_lt, m1_lt2, m1_self, cv_sub, cv_add1, cv_eq, cv_eqI, cv_eqI2, cv_m1, cv_lt0, cv_leI, cv_Ile, cv_le, cv_lt, cv_Ilt, cv_ltI, not_true, not_false_iff, true_implies, false_implies, false_or, or_false, true_and, and_true, false_and, and_false, true_or, or_true]
        refine k _ f (fun i hi => by rw [upd_at, if_neg (by omega)]; exact hg i hi) ⟨?_, r64, fun b hb => ?_, fun b hb => ?_⟩
        · rw [upd_at, if_neg (by omega), hg 3 (by omega)]; exact r3
        · by_cases q : b = a
          · subst q
            intro c hc
            rw [upd_at, if_neg (by omega), hcur c (by omega)]
            unfold brg
            rw [if_pos rfl]
            exact ⟨rfl, ((rr j hj) c hc).2⟩
          · exact (hrow b hb q).1.of (fun c hc => by rw [upd_at, if_neg (by omega)])
        · by_cases q : b = a
          · subst q
            rw [upd_at, if_pos rfl]
            unfold brg
            rw [if_pos rfl]
            exact ⟨rfl, (rt j hj).2⟩
          · rw [upd_at, if_neg (by omega)]
            refine ⟨(hrow b hb q).2, ?_⟩
            unfold brg
            rw [if_neg q]
            split
            · exact (rt _ (by omega)).2
            · exact (rt _ hb).2
      all_goals
        exfalso
        revert p
        simp (disch := omega) only [ofNat_nI, nI_add, pk_mul, nI_clamp, nI_leI, nI_ltI, nI_eq, vp_in_nI_iff, nI_subr, nI_m1r, m1_eq, m1_eq2, m1_le, m1_le2, m1_lt, m1_lt2, m1_self, cv_sub, cv_add1, cv_eq, cv_eqI, cv_eqI2, cv_m1, cv_lt0, cv_leI, cv_Ile, cv_le, cv_lt, cv_Ilt, cv_ltI, not_true, not_false_iff, true_implies, false_implies, false_or, or_false, true_and, and_true, false_and, and_false, true_or, or_true]
        all_goals omega
    | succ d ih =>
      intro i hi hf hf8 hg hrow hcur
      refine k_X12_bringsTo_65 C (fun p => ?_) (fun p => ?_) (fun _ => ?_) (fun _ => ?_) (fun _ => ?_)
      · exfalso
        revert p
        simp (disch := omega) only [ofNat_nI, nI_add, pk_mul, nI_clamp, nI_leI, nI_ltI, nI_eq, vp_in_nI_iff, nI_subr, nI_m1r, m1_eq, m1_eq2, m1_le, m1_le2, m1_lt, m1_lt2, m1_self, cv_sub, cv_add1, cv_eq, cv_eqI, cv_eqI2, cv_m1, cv_lt0, cv_leI, cv_Ile, cv_le, cv_lt, cv_Ilt, cv_ltI, not_true, not_false_iff, true_implies, false_implies, false_or, or_false, true_and, and_true, false_and, and_false, true_or, or_true]
        all_goals omega
      · exfalso
        revert p
        simp (disch := omega) only [ofNat_nI, nI_add, pk_mul, nI_clamp, nI_leI, nI_ltI, nI_eq, vp_in_nI_iff, nI_subr, nI_m1r, m1_eq, m1_eq2, m1_le, m1_le2, m1_lt, m1_lt2, m1_self, cv_sub, cv_add1, cv_eq, cv_eqI, cv_eqI2, cv_m1, cv_lt0, cv_leI, cv_Ile, cv_le, cv_lt, cv_Ilt, cv_ltI, not_true, not_false_iff, true_implies, false_implies, false_or, or_false, true_and, and_true, false_and, and_false, true_or, or_true]
        all_goals omega
      · simp (disch := omega) only [ofNat_nI, nI_add, pk_mul, nI_clamp, nI_leI, nI_ltI, nI_eq, vp_in_nI_iff, nI_subr, nI_m1r, m1_eq, m1_eq2, m1_le, m1_le2, m1_lt, m1_lt2, m1_self, cv_sub, cv_add1, cv_eq, cv_eqI, cv_eqI2, cv_m1, cv_lt0, cv_leI, cv_Ile, cv_le, cv_lt, cv_Ilt, cv_ltI, not_true, not_false_iff, true_implies, false_implies, false_or, or_false, true_and, and_true, false_and, and_false, true_or, or_true]
        omega
      · simp (disch := omega) only [ofNat_nI, nI_add, pk_mul, nI_clamp, nI_leI, nI_ltI, nI_eq, vp_in_nI_iff, nI_subr, nI_m1r, m1_eq, m1_eq2, m1_le, m1_le2, m1_lt, m1_lt2, m1_self, cv_sub, cv_add1, cv_eq, cv_eqI, cv_eqI2, cv_m1, cv_lt0, cv_leI, cv_Ile, cv_le, cv_lt, cv_Ilt, cv_ltI, not_true, not_false_iff, true_implies, false_implies, false_or, or_false, true_and, and_true, false_and, and_false, true_or, or_true]
        omega
      · rw [ms_mrw, mrw_ne (by decide), mrw_at]
        simp (disch := omega) only [ofNat_nI, nI_add, pk_mul, nI_clamp, nI_leI, nI_ltI, nI_eq, vp_in_nI_iff, nI_subr, nI_m1r, m1_eq, m1_eq2, m1_le, m1_le2, m1_lt, m1_lt2, m1_self, cv_sub, cv_add1, cv_eq, cv_eqI, cv_eqI2, cv_m1, cv_lt0, cv_leI, cv_Ile, cv_le, cv_lt, cv_Ilt, cv_ltI, not_true, not_false_iff, true_implies, false_implies, false_or, or_false, true_and, and_true, false_and, and_false, true_or, or_true]
        rw [hf i (by omega)]
        refine ih _ (i + 1) (by omega) hf hf8 (fun i hi => by rw [upd_at, if_neg (by omega)]; exact hg i hi) (fun b hb hba => ?_) (fun c hc => ?_)
        · obtain ⟨z1, z2⟩ := hrow b hb hba
          refine ⟨z1.of (fun c hc => by rw [upd_at, if_neg (by omega)]), ?_⟩
          rw [upd_at, if_neg (by omega)]; exact z2
        · rw [upd_at]
          by_cases q : c = i
          · rw [if_pos (by omega), q]
          · rw [if_neg (by omega)]; exact hcur c (by omega)
  have part2 : ∀ (f : Nat → Int32) (d r : Nat) (g : Nat → Int32), r = a + d → r ≤ j → (∀ c, c < 8 → f c = cv (R j c)) → f 8 = nI (told j) → (∀ i, i < 97 → g i = μ 135 i) →
      (∀ b, b < n → r < b → RowM g b (brg R j a b) ∧ g (97 + b) = nI (brg told j a b)) → (∀ b, b < n → b < r → RowM g b (R b) ∧ g (97 + b) = nI (told b)) →
      Wm G mX12_bringsTo E (bm G mX12_bringsTo E (pV Q)) (mrw (mrw μ 148 f) 135 g) 44 [(0, .ref (gb G + 132)), (2, .int (nI a)), (3, .int (nI r))] [] := by
    intro f d
    induction d with
    | zero =>
      intro r g hr hrj hf hf8 hg hhi hlo
      refine k_X12_bringsTo_44 C (fun _ => ?_) (fun p => ?_)
      · refine part3 f g 8 0 (by omega) hf hf8 hg (fun b hb hba => ?_) (fun c hc => by omega)
        by_cases q : r < b
        · exact hhi b hb q
        · have e : ∀ {α : Type} (h : Nat → α), brg h j a b = h b := fun h => by
            unfold brg
            rw [if_neg hba, if_neg (by omega)]
          rw [e R, e told]
          exact hlo b hb (by omega)
      · exfalso
        revert p
        simp (disch := omega) only [ofNat_nI, nI_add, pk_mul, nI_clamp, nI_leI, nI_ltI, nI_eq, vp_in_nI_iff, nI_subr, nI_m1r, m1_eq, m1_eq2, m1_le, m1_le2, m1_lt, m1_lt2, m1_self, cv_sub, cv_add1, cv_eq, cv_eqI, cv_eqI2, cv_m1, cv_lt0, cv_leI, cv_Ile, cv_le, cv_lt, cv_Ilt, cv_ltI, not_true, not_false_iff, true_implies, false_implies, false_or, or_false, true_and, and_true, false_and, and_false, true_or, or_true]
        all_goals omega
    | succ d ih =>
      intro r g hr hrj hf hf8 hg hhi hlo
      refine k_X12_bringsTo_44 C (fun p => ?_) (fun _ => ?_)
      · exfalso
        revert p
        simp (disch := omega) only [ofNat_nI, nI_add, pk_mul, nI_clamp, nI_leI, nI_ltI, nI_eq, vp_in_nI_iff, nI_subr, nI_m1r, m1_eq, m1_eq2, m1_le, m1_le2, m1_lt, m1_lt2, m1_self, cv_sub, cv_add1, cv_eq, cv_eqI, cv_eqI2, cv_m1, cv_lt0, cv_leI, cv_Ile, cv_le, cv_lt, cv_Ilt, cv_ltI, not_true, not_false_iff, true_implies, false_implies, false_or, or_false, true_and, and_true, false_and, and_false, true_or, or_true]
        all_goals omega
      · simp (disch := omega) only [ofNat_nI, nI_add, pk_mul, nI_clamp, nI_leI, nI_ltI, nI_eq, vp_in_nI_iff, nI_subr, nI_m1r, m1_eq, m1_eq2, m1_le, m1_le2, m1_lt, m1_lt2, m1_self, cv_sub, cv_add1, cv_eq, cv_eqI, cv_eqI2, cv_m1, cv_lt0, cv_leI, cv_Ile, cv_le, cv_lt, cv_Ilt, cv_ltI, not_true, not_false_iff, true_implies, false_implies, false_or, or_false, true_and, and_true, false_and, and_false, true_or, or_true]
        refine s_copiesRow (by omega) (by omega) (by omega) fun g' q1 q2 q3 => k_X12_bringsTo_57 C ?_
        rw [mrw_mrw]
        simp only [mrw_at] at q1 q2 q3
        simp (disch := omega) only [ofNat_nI, nI_add, pk_mul, nI_clamp, nI_leI, nI_ltI, nI_eq, vp_in_nI_iff, nI_subr, nI_m1r, m1_eq, m1_eq2, m1_le, m1_le2, m1_lt, m1_lt2, m1_self, cv_sub, cv_add1, cv_eq, cv_eqI, cv_eqI2, cv_m1, cv_lt0, cv_leI, cv_Ile, cv_le, cv_lt, cv_Ilt, cv_ltI, not_true, not_false_iff, true_implies, false_implies, false_or, or_false, true_and, and_true, false_and, and_false, true_or, or_true]
        refine ih (r - 1) g' (by omega) (by omega) hf hf8 (fun i hi => by rw [q1 i (by omega) (by omega)]; exact hg i hi) (fun b hb hrb => ?_) (fun b hb hrb => ?_)
        · by_cases q : b = r
          · subst q
            have e : ∀ {α : Type} (h : Nat → α), brg h j a b = h (b - 1) := fun h => by
              unfold brg
              rw [if_neg (by omega), if_pos (by omega)]
            rw [e R, e told]
            obtain ⟨z1, z2⟩ := hlo (b - 1) (by omega) (by omega)
            refine ⟨fun c hc => ?_, ?_⟩
            · rw [q3 c hc]; exact z1 c hc
            · rw [q2]; exact z2
          · obtain ⟨z1, z2⟩ := hhi b hb (by omega)
            refine ⟨z1.of (fun c hc => q1 _ (by omega) (by omega)), ?_⟩
            rw [q1 _ (by omega) (by omega)]; exact z2
        · obtain ⟨z1, z2⟩ := hlo b hb (by omega)
          refine ⟨z1.of (fun c hc => q1 _ (by omega) (by omega)), ?_⟩
          rw [q1 _ (by omega) (by omega)]; exact z2
  have part1 : ∀ (d i : Nat) (f : Nat → Int32), i + d = 8 → (∀ c, c < i → f c = cv (R j c)) → Wm G mX12_bringsTo E (bm G mX12_bringsTo E (pV Q)) (mrw μ 148 f) 2 [(0, .ref (gb G + 132)), (1, .int (nI j)), (2, .int (nI a)), (3, .int (nI i))] [] := by
    intro d
    induction d with
    | zero =>
      intro i f hi hf
      refine k_X12_bringsTo_2 C (fun _ => ?_) (fun _ => ?_) (fun p => ?_) (fun p => ?_) (fun p => ?_)
      · simp (disch := omega) only [ofNat_nI, nI_add, pk_mul, nI_clamp, nI_leI, nI_ltI, nI_eq, vp_in_nI_iff, nI_subr, nI_m1r, m1_eq, m1_eq2, m1_le, m1_le2, m1_lt, m1_lt2, m1_self, cv_sub, cv_add1, cv_eq, cv_eqI, cv_eqI2, cv_m1, cv_lt0, cv_leI, cv_Ile, cv_le, cv_lt, cv_Ilt, cv_ltI, not_true, not_false_iff, true_implies, false_implies, false_or, or_false, true_and, and_true, false_and, and_false, true_or, or_true]
        omega
      · rw [ms_mrw, mrw_ne (by decide)]
        simp (disch := omega) only [ofNat_nI, nI_add, pk_mul, nI_clamp, nI_leI, nI_ltI, nI_eq, vp_in_nI_iff, nI_subr, nI_m1r, m1_eq, m1_eq2, m1_le, m1_le2, m1_lt, m1_lt2, m1_self, cv_sub, cv_add1, cv_eq, cv_eqI, cv_eqI2, cv_m1, cv_lt0, cv_leI, cv_Ile, cv_le, cv_lt, cv_Ilt, cv_ltI, not_true, not_false_iff, true_implies, false_implies, false_or, or_false, true_and, and_true, false_and, and_false, true_or, or_true]
        have := part2 (upd f 8 (μ 135 (97 + j))) (j - a) j (μ 135) (by omega) (Nat.le_refl j) (fun c hc => by rw [upd_at, if_neg (by omega)]; exact hf c (by omega)) (by rw [upd_at, if_pos rfl]; exact (rt j hj).1) (fun i _ => rfl) (fun b hb hjb => ?_) (fun b hb _ => ⟨rr b hb, (rt b hb).1⟩)
        · have e : mrw (mrw μ 148 (upd f 8 (μ 135 (97 + j)))) 135 (μ 135) = mrw μ 148 (upd f 8 (μ 135 (97 + j))) := by
            have := mrw_self (mrw μ 148 (upd f 8 (μ 135 (97 + j)))) 135
            rw [mrw_ne (by decide)] at this
            exact this
          rw [e] at this
          exact this
        · have e : ∀ {α : Type} (h : Nat → α), brg h j a b = h b := fun h => by
            unfold brg
            rw [if_neg (by omega), if_neg (by omega)]
          rw [e R, e told]
          exact ⟨rr b hb, (rt b hb).1⟩
      all_goals
        exfalso
        revert p
        simp (disch := omega) only [ofNat_nI, nI_add, pk_mul, nI_clamp, nI_leI, nI_ltI, nI_eq, vp_in_nI_iff, nI_subr, nI_m1r, m1_eq, m1_eq2, m1_le, m1_le2, m1_lt, m1_lt2, m1_self, cv_sub, cv_add1, cv_eq, cv_eqI, cv_eqI2, cv_m1, cv_lt0, cv_leI, cv_Ile, cv_le, cv_lt, cv_Ilt, cv_ltI, not_true, not_false_iff, true_implies, false_implies, false_or, or_false, true_and, and_true, false_and, and_false, true_or, or_true]
        all_goals omega
    | succ d ih =>
      intro i f hi hf
      refine k_X12_bringsTo_2 C (fun p => ?_) (fun p => ?_) (fun _ => ?_) (fun _ => ?_) (fun _ => ?_)
      · exfalso
        revert p
        simp (disch := omega) only [ofNat_nI, nI_add, pk_mul, nI_clamp, nI_leI, nI_ltI, nI_eq, vp_in_nI_iff, nI_subr, nI_m1r, m1_eq, m1_eq2, m1_le, m1_le2, m1_lt, m1_lt2, m1_self, cv_sub, cv_add1, cv_eq, cv_eqI, cv_eqI2, cv_m1, cv_lt0, cv_leI, cv_Ile, cv_le, cv_lt, cv_Ilt, cv_ltI, not_true, not_false_iff, true_implies, false_implies, false_or, or_false, true_and, and_true, false_and, and_false, true_or, or_true]
        all_goals omega
      · exfalso
        revert p
        simp (disch := omega) only [ofNat_nI, nI_add, pk_mul, nI_clamp, nI_leI, nI_ltI, nI_eq, vp_in_nI_iff, nI_subr, nI_m1r, m1_eq, m1_eq2, m1_le, m1_le2, m1_lt, m1_lt2, m1_self, cv_sub, cv_add1, cv_eq, cv_eqI, cv_eqI2, cv_m1, cv_lt0, cv_leI, cv_Ile, cv_le, cv_lt, cv_Ilt, cv_ltI, not_true, not_false_iff, true_implies, false_implies, false_or, or_false, true_and, and_true, false_and, and_false, true_or, or_true]
        all_goals omega
      · simp (disch := omega) only [ofNat_nI, nI_add, pk_mul, nI_clamp, nI_leI, nI_ltI, nI_eq, vp_in_nI_iff, nI_subr, nI_m1r, m1_eq, m1_eq2, m1_le, m1_le2, m1_lt, m1_lt2, m1_self, cv_sub, cv_add1, cv_eq, cv_eqI, cv_eqI2, cv_m1, cv_lt0, cv_leI, cv_Ile, cv_le, cv_lt, cv_Ilt, cv_ltI, not_true, not_false_iff, true_implies, false_implies, false_or, or_false, true_and, and_true, false_and, and_false, true_or, or_true]
        omega
      · simp (disch := omega) only [ofNat_nI, nI_add, pk_mul, nI_clamp, nI_leI, nI_ltI, nI_eq, vp_in_nI_iff, nI_subr, nI_m1r, m1_eq, m1_eq2, m1_le, m1_le2, m1_lt, m1_lt2, m1_self, cv_sub, cv_add1, cv_eq, cv_eqI, cv_eqI2, cv_m1, cv_lt0, cv_leI, cv_Ile, cv_le, cv_lt, cv_Ilt, cv_ltI, not_true, not_false_iff, true_implies, false_implies, false_or, or_false, true_and, and_true, false_and, and_false, true_or, or_true]
        omega
      · rw [ms_mrw, mrw_ne (by decide)]
        simp (disch := omega) only [ofNat_nI, nI_add, pk_mul, nI_clamp, nI_leI, nI_ltI, nI_eq, vp_in_nI_iff, nI_subr, nI_m1r, m1_eq, m1_eq2, m1_le, m1_le2, m1_lt, m1_lt2, m1_self, cv_sub, cv_add1, cv_eq, cv_eqI, cv_eqI2, cv_m1, cv_lt0, cv_leI, cv_Ile, cv_le, cv_lt, cv_Ilt, cv_ltI, not_true, not_false_iff, true_implies, false_implies, false_or, or_false, true_and, and_true, false_and, and_false, true_or, or_true]
        refine ih (i + 1) _ (by omega) (fun c hc => ?_)
        rw [upd_at]
        by_cases q : c = i
        · rw [if_pos q, q]; exact ((rr j hj) i (by omega)).1
        · rw [if_neg q]; exact hf c (by omega)
  have := part1 8 0 (μ 148) (by omega) (fun c hc => by omega)
  rw [mrw_self] at this
  exact this

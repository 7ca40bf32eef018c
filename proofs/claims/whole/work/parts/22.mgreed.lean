/-! THE MODEL: rows made by greed; cells settled -/
/-- the first best of n levels (0 none, v + 1), and how much it brings, plus 1 -/
def bst (can : Nat → Bool) (h : Nat → Nat) : Nat → Nat × Nat
  | 0 => (0, 0)
  | v + 1 => if can v = true ∧ (bst can h v).2 < h v + 1 then (v + 1, h v + 1) else bst can h v
theorem bst_le (can : Nat → Bool) (h : Nat → Nat) : ∀ n, (bst can h n).1 ≤ n
  | 0 => Nat.le_refl 0
  | v + 1 => by
    rw [bst]
    split
    · exact Nat.le_refl _
    · exact Nat.le_succ_of_le (bst_le can h v)
theorem bst2_le {can : Nat → Bool} {h : Nat → Nat} {B : Nat} : ∀ {n}, (∀ v, v < n → h v ≤ B) → (bst can h n).2 ≤ B + 1
  | 0, _ => Nat.zero_le _
  | v + 1, hb => by
    rw [bst]
    split
    · exact Nat.succ_le_succ (hb v (by omega))
    · exact bst2_le (fun v hv => hb v (by omega))
theorem bst_congr {can can' : Nat → Bool} {h h' : Nat → Nat} : ∀ {n}, (∀ v, v < n → can v = can' v ∧ (can v = true → h v = h' v)) → bst can h n = bst can' h' n
  | 0, _ => rfl
  | v + 1, hb => by
    rw [bst, bst, bst_congr (fun v hv => hb v (by omega))]
    obtain ⟨e1, e2⟩ := hb v (by omega)
    by_cases q : can v = true
    · rw [e2 q, ← e1]
    · rw [if_neg (fun z => q z.1), if_neg (fun z => q (by rw [e1]; exact z.1))]
def cvL (a : Nat) : Int64 := if a = 0 then -1 else lN (a - 1)
theorem cvL_lt {a h : Nat} (ha : a < 2 ^ 31) (hh : h < 2 ^ 31) : cvL a < lN h ↔ a < h + 1 := by
  unfold cvL
  by_cases q : a = 0
  · rw [if_pos q]
    refine ⟨fun _ => by omega, fun _ => ?_⟩
    rw [Int64.lt_iff_toInt_lt, lN_toInt hh]
    have : ((-1 : Int64)).toInt = -1 := by decide
    omega
  · rw [if_neg q, lN_lt (by omega) hh]
    omega
/-- the row that greed makes, column by column -/
def grR (P : Pl) (o : Nat → Bool) : Nat → Nat → Nat
  | 0 => fun _ => 0
  | c + 1 => up (grR P o c) c (bst (fun v => canB P (up (grR P o c) c (v + 1))) (fun v => hopN P o (up (grR P o c) c (v + 1)) (MM P)) (qL P c)).1
theorem grR_hi (P : Pl) (o : Nat → Bool) : ∀ {c j : Nat}, c ≤ j → grR P o c j = 0
  | 0, _, _ => rfl
  | c + 1, j, h => by
    rw [grR, up_at, if_neg (by omega)]
    exact grR_hi P o (by omega)
theorem grR_le (P : Pl) (o : Nat → Bool) : ∀ {c j : Nat}, grR P o c j ≤ qL P j
  | 0, _ => Nat.zero_le _
  | c + 1, j => by
    rw [grR, up_at]
    by_cases q : j = c
    · rw [if_pos q, q]; exact bst_le _ _ _
    · rw [if_neg q]; exact grR_le P o
theorem up_hit (f : Nat → Nat) (c v : Nat) : up f c v c = v := if_pos rfl
theorem up_miss {f : Nat → Nat} {c v j : Nat} (h : j ≠ c) : up f c v j = f j := if_neg h
theorem b01 (b : Bool) : b = true ∨ b = false := by cases b <;> simp
theorem s_laysGreedy {G : mG} {Q : mM → Prop} {μ : mM} {P : Pl} (h : PW P) (hn : NowP (μ 135) P) (hM : MM P ≤ 1200) (h13 : μ 132 13 = nI (MM P)) (hL : LM μ P (MM P)) {o : Nat → Bool} (ho : ∀ m, m < MM P → μ 144 m = nI (o m).toNat)
    (k : ∀ μ', Fr [138, 139, 146] μ μ' → (∀ c, c < qC P → μ' 146 c = cv (grR P o (qC P) c)) → Q μ') : CtV G mX12_laysGreedy [.ref (gb G + 132)] μ Q := by
  have hC8 : qC P ≤ 8 := h.ct.2.2.2
  refine e_X12_laysGreedy fun E C => k_X12_laysGreedy_0 C ?_
  have two : ∀ (d c : Nat) (μ' : mM), c + d = qC P → Fr [138, 139, 146] μ μ' → (∀ j, j < qC P → μ' 146 j = cv (grR P o c j)) → Wm G mX12_laysGreedy E (bm G mX12_laysGreedy E (pV Q)) μ' 27 [(0, .ref (gb G + 132)), (1, .int (nI c))] [] := by
    intro d
    induction d with
    | zero =>
      intro c μ' hc F hg
      have e0 : μ' 135 0 = nI (qC P) := by rw [F 135 (by decide)]; exact hn.1
      have hcc : c = qC P := by omega
      subst hcc
      refine k_X12_laysGreedy_27 C (fun _ => k μ' F hg) (fun p => ?_)
      exfalso
      revert p
      rw [e0]
      simp (disch := omega) only [ofNat_nI, nI_add, pk_mul, nI_clamp, nI_leI, nI_ltI, nI_eq, vp_in_nI_iff, nI_subr, nI_m1r, m1_eq, m1_eq2, m1_le, m1_le2, m1_lt, m1_lt2, m1_self, cv_sub, cv_add1, cv_eq, cv_eqI, cv_eqI2, cv_m1, cv_lt0, cv_leI, cv_Ile, cv_le, cv_lt, cv_Ilt, cv_ltI, not_true, not_false_iff, true_implies, false_implies, false_or, or_false, true_and, and_true, false_and, and_false, true_or, or_true]
      all_goals omega
    | succ d ih =>
      intro c μ' hc F hg
      have hcC : c < qC P := by omega
      obtain ⟨l2, l4⟩ := h.lv hcC
      have e0 : μ' 135 0 = nI (qC P) := by rw [F 135 (by decide)]; exact hn.1
      refine k_X12_laysGreedy_27 C (fun p => ?_) (fun _ => ?_)
      · exfalso
        revert p
        rw [e0]
        simp (disch := omega) only [ofNat_nI, nI_add, pk_mul, nI_clamp, nI_leI, nI_ltI, nI_eq, vp_in_nI_iff, nI_subr, nI_m1r, m1_eq, m1_eq2, m1_le, m1_le2, m1_lt, m1_lt2, m1_self, cv_sub, cv_add1, cv_eq, cv_eqI, cv_eqI2, cv_m1, cv_lt0, cv_leI, cv_Ile, cv_le, cv_lt, cv_Ilt, cv_ltI, not_true, not_false_iff, true_implies, false_implies, false_or, or_false, true_and, and_true, false_and, and_false, true_or, or_true]
        all_goals omega
      · have inner : ∀ (e v : Nat) (ν : mM), v + e = qL P c → Fr [138, 139, 146] μ ν → (∀ j, j < qC P → j ≠ c → ν 146 j = cv (grR P o c j)) →
            Wm G mX12_laysGreedy E (bm G mX12_laysGreedy E (pV Q)) ν 46 [(0, .ref (gb G + 132)), (1, .int (nI c)), (2, .int (cv (bst (fun v => canB P (up (grR P o c) c (v + 1))) (fun v => hopN P o (up (grR P o c) c (v + 1)) (MM P)) v).1)), (3, .long (cvL (bst (fun v => canB P (up (grR P o c) c (v + 1))) (fun v => hopN P o (up (grR P o c) c (v + 1)) (MM P)) v).2)), (5, .int (nI v))] [] := by
          intro e
          induction e with
          | zero =>
            intro v ν hv F hg
            have eL : ν 135 (5 + c) = nI (qL P c) := by rw [F 135 (by decide)]; exact hn.2.2.2.1 c hcC
            refine k_X12_laysGreedy_46 C ?_ ?_ (fun _ => ?_) (fun p => ?_)
            · simp (disch := omega) only [ofNat_nI, nI_add, pk_mul, nI_clamp, nI_leI, nI_ltI, nI_eq, vp_in_nI_iff, nI_subr, nI_m1r, m1_eq, m1_eq2, m1_le, m1_le2, m1_lt, m1_lt2, m1_self, cv_sub, cv_add1, cv_eq, cv_eqI, cv_eqI2, cv_m1, cv_lt0, cv_leI, cv_Ile, cv_le, cv_lt, cv_Ilt, cv_ltI, not_true, not_false_iff, true_implies, false_implies, false_or, or_false, true_and, and_true, false_and, and_false, true_or, or_true]
              omega
            · simp (disch := omega) only [ofNat_nI, nI_add, pk_mul, nI_clamp, nI_leI, nI_ltI, nI_eq, vp_in_nI_iff, nI_subr, nI_m1r, m1_eq, m1_eq2, m1_le, m1_le2, m1_lt, m1_lt2, m1_self, cv_sub, cv_add1, cv_eq, cv_eqI, cv_eqI2, cv_m1, cv_lt0, cv_leI, cv_Ile, cv_le, cv_lt, cv_Ilt, cv_ltI, not_true, not_false_iff, true_implies, false_implies, false_or, or_false, true_and, and_true, false_and, and_false, true_or, or_true]
              omega
            · simp (disch := omega) only [ofNat_nI, nI_add, pk_mul, nI_clamp, nI_leI, nI_ltI, nI_eq, vp_in_nI_iff, nI_subr, nI_m1r, m1_eq, m1_eq2, m1_le, m1_le2, m1_lt, m1_lt2, m1_self, cv_sub, cv_add1, cv_eq, cv_eqI, cv_eqI2, cv_m1, cv_lt0, cv_leI, cv_Ile, cv_le, cv_lt, cv_Ilt, cv_ltI, not_true, not_false_iff, true_implies, false_implies, false_or, or_false, true_and, and_true, false_and, and_false, true_or, or_true]
              refine ih (c + 1) _ (by omega) (F.ms (by decide)) (fun j hj => ?_)
              rw [ms_mrw0, mrw_at, upd_at]
              show _ = cv (up (grR P o c) c _ j)
              rw [up_at]
              by_cases q : j = c
              · rw [if_pos q, if_pos q, show qL P c = v by omega]
              · rw [if_neg q, if_neg q]; exact hg j hj q
            · exfalso
              revert p
              simp (disch := omega) only [ofNat_nI, nI_add, pk_mul, nI_clamp, nI_leI, nI_ltI, nI_eq, vp_in_nI_iff, nI_subr, nI_m1r, m1_eq, m1_eq2, m1_le, m1_le2, m1_lt, m1_lt2, m1_self, cv_sub, cv_add1, cv_eq, cv_eqI, cv_eqI2, cv_m1, cv_lt0, cv_leI, cv_Ile, cv_le, cv_lt, cv_Ilt, cv_ltI, not_true, not_false_iff, true_implies, false_implies, false_or, or_false, true_and, and_true, false_and, and_false, true_or, or_true, eL]
              all_goals omega
          | succ e ihe =>
            intro v ν hv F hg
            have hvL : v < qL P c := by omega
            have eL : ν 135 (5 + c) = nI (qL P c) := by rw [F 135 (by decide)]; exact hn.2.2.2.1 c hcC
            refine k_X12_laysGreedy_46 C ?_ ?_ (fun p => ?_) (fun _ => ?_)
            · simp (disch := omega) only [ofNat_nI, nI_add, pk_mul, nI_clamp, nI_leI, nI_ltI, nI_eq, vp_in_nI_iff, nI_subr, nI_m1r, m1_eq, m1_eq2, m1_le, m1_le2, m1_lt, m1_lt2, m1_self, cv_sub, cv_add1, cv_eq, cv_eqI, cv_eqI2, cv_m1, cv_lt0, cv_leI, cv_Ile, cv_le, cv_lt, cv_Ilt, cv_ltI, not_true, not_false_iff, true_implies, false_implies, false_or, or_false, true_and, and_true, false_and, and_false, true_or, or_true]
              omega
            · simp (disch := omega) only [ofNat_nI, nI_add, pk_mul, nI_clamp, nI_leI, nI_ltI, nI_eq, vp_in_nI_iff, nI_subr, nI_m1r, m1_eq, m1_eq2, m1_le, m1_le2, m1_lt, m1_lt2, m1_self, cv_sub, cv_add1, cv_eq, cv_eqI, cv_eqI2, cv_m1, cv_lt0, cv_leI, cv_Ile, cv_le, cv_lt, cv_Ilt, cv_ltI, not_true, not_false_iff, true_implies, false_implies, false_or, or_false, true_and, and_true, false_and, and_false, true_or, or_true]
              omega
            · exfalso
              revert p
              simp (disch := omega) only [ofNat_nI, nI_add, pk_mul, nI_clamp, nI_leI, nI_ltI, nI_eq, vp_in_nI_iff, nI_subr, nI_m1r, m1_eq, m1_eq2, m1_le, m1_le2, m1_lt, m1_lt2, m1_self, cv_sub, cv_add1, cv_eq, cv_eqI, cv_eqI2, cv_m1, cv_lt0, cv_leI, cv_Ile, cv_le, cv_lt, cv_Ilt, cv_ltI, not_true, not_false_iff, true_implies, false_implies, false_or, or_false, true_and, and_true, false_and, and_false, true_or, or_true, eL]
              all_goals omega
            · simp (disch := omega) only [ofNat_nI, nI_add, pk_mul, nI_clamp, nI_leI, nI_ltI, nI_eq, vp_in_nI_iff, nI_subr, nI_m1r, m1_eq, m1_eq2, m1_le, m1_le2, m1_lt, m1_lt2, m1_self, cv_sub, cv_add1, cv_eq, cv_eqI, cv_eqI2, cv_m1, cv_lt0, cv_leI, cv_Ile, cv_le, cv_lt, cv_Ilt, cv_ltI, not_true, not_false_iff, true_implies, false_implies, false_or, or_false, true_and, and_true, false_and, and_false, true_or, or_true]
              have F1 : Fr [138, 139, 146] μ (ms ν 146 c (nI v)) := F.ms (by decide)
              have hg1 : ∀ j, j < qC P → ms ν 146 c (nI v) 146 j = cv (up (grR P o c) c (v + 1) j) := fun j hj => by
                rw [ms_mrw0, mrw_at, upd_at, up_at]
                by_cases q : j = c
                · rw [if_pos q, if_pos q, cv_s]
                · rw [if_neg q, if_neg q]; exact hg j hj q
              have hle : ∀ j, j < qC P → up (grR P o c) c (v + 1) j ≤ qL P j := fun j hj => by
                rw [up_at]
                by_cases q : j = c
                · rw [if_pos q, q]; omega
                · rw [if_neg q]; exact grR_le P o
              refine s_probes (c1 := 146) (n1 := 8) rfl (by decide) (by decide) (by decide) hC8 (by rw [F1 135 (by decide)]; exact hn.1) hg1 fun g0 hg0 => k_X12_laysGreedy_75 C ?_
              have F2 : Fr [138, 139, 146] μ (mrw (ms ν 146 c (nI v)) 138 g0) := F1.mrw (by decide)
              refine s_canProbe (r := up (grR P o c) c (v + 1)) h (by rw [F2 135 (by decide)]; exact hn) (fun j hj => ⟨by rw [mrw_at]; exact hg0 j hj, hle j hj⟩) fun g1 => ?_
              have F3 : Fr [138, 139, 146] μ (mrw (mrw (ms ν 146 c (nI v)) 138 g0) 139 g1) := F2.mrw (by decide)
              have hg3 : ∀ j, j < qC P → mrw (mrw (ms ν 146 c (nI v)) 138 g0) 139 g1 146 j = cv (up (grR P o c) c (v + 1) j) := fun j hj => by
                rw [mrw_ne (by decide), mrw_ne (by decide)]; exact hg1 j hj
              have hg4 : ∀ ν', Fr [138, 139] (mrw (mrw (ms ν 146 c (nI v)) 138 g0) 139 g1) ν' → ∀ j, j < qC P → j ≠ c → ν' 146 j = cv (grR P o c j) := fun ν' F' j hj hjc => by
                rw [F' 146 (by decide), hg3 j hj, up_miss hjc]
              refine k_X12_laysGreedy_79 C (fun p => ?_) (fun p => ?_)
              · have ec : canB P (up (grR P o c) c (v + 1)) = true := by
                  rw [nI_b0] at p
                  rcases b01 (canB P (up (grR P o c) c (v + 1))) with q | q
                  · exact q
                  · exact absurd q p
                refine s_hopeOf (c1 := 146) (n1 := 8) (r := up (grR P o c) c (v + 1)) (o := o) h (by rw [F3 135 (by decide)]; exact hn) hM (by rw [F3 132 (by decide)]; exact h13) (hL.of (F3 140 (by decide)) (F3 141 (by decide))) rfl (by decide) (by decide) (by decide)
                  (fun m hm => by rw [F3 144 (by decide)]; exact ho m hm) (fun j hj => ⟨hg3 j hj, hle j hj⟩) fun ν' F' => ?_
                have F4 : Fr [138, 139, 146] μ ν' := F3.tr (F'.mono (by decide))
                have hB : ∀ v, hopN P o (up (grR P o c) c (v + 1)) (MM P) ≤ 259200000 := fun v => Nat.le_trans (hopN_le P h o _ _) (by omega)
                have b2 := bst2_le (can := fun v => canB P (up (grR P o c) c (v + 1))) (n := v) (fun v _ => hB v)
                have hv0 := hB v
                refine k_X12_laysGreedy_93 C (fun p => ?_) (fun p => ?_)
                · rw [lg_cmp_gt, cvL_lt (by omega) (by omega)] at p
                  have := ihe (v + 1) ν' (by omega) F4 (hg4 ν' F')
                  rw [bst, if_pos ⟨ec, p⟩] at this
                  simp (disch := omega) only [ofNat_nI, nI_add, pk_mul, nI_clamp, nI_leI, nI_ltI, nI_eq, vp_in_nI_iff, nI_subr, nI_m1r, m1_eq, m1_eq2, m1_le, m1_le2, m1_lt, m1_lt2, m1_self, cv_sub, cv_add1, cv_eq, cv_eqI, cv_eqI2, cv_m1, cv_lt0, cv_leI, cv_Ile, cv_le, cv_lt, cv_Ilt, cv_ltI, not_true, not_false_iff, true_implies, false_implies, false_or, or_false, true_and, and_true, false_and, and_false, true_or, or_true]
                  have e1 : cv (v + 1) = nI v := cv_s v
                  have e2 : cvL (hopN P o (up (grR P o c) c (v + 1)) (MM P) + 1) = lN (hopN P o (up (grR P o c) c (v + 1)) (MM P)) := rfl
                  rw [e1, e2] at this
                  exact this
                · rw [lg_cmp_gt, cvL_lt (by omega) (by omega)] at p
                  have := ihe (v + 1) ν' (by omega) F4 (hg4 ν' F')
                  rw [bst, if_neg (fun z => p z.2)] at this
                  simp (disch := omega) only [ofNat_nI, nI_add, pk_mul, nI_clamp, nI_leI, nI_ltI, nI_eq, vp_in_nI_iff, nI_subr, nI_m1r, m1_eq, m1_eq2, m1_le, m1_le2, m1_lt, m1_lt2, m1_self, cv_sub, cv_add1, cv_eq, cv_eqI, cv_eqI2, cv_m1, cv_lt0, cv_leI, cv_Ile, cv_le, cv_lt, cv_Ilt, cv_ltI, not_true, not_false_iff, true_implies, false_implies, false_or, or_false, true_and, and_true, false_and, and_false, true_or, or_true]
                  exact this
              · have ec : canB P (up (grR P o c) c (v + 1)) = false := (nI_b0 _).mp p
                have := ihe (v + 1) _ (by omega) F3 (hg4 _ (Fr.rf _ _))
                rw [bst, if_neg (fun z => by rw [ec] at z; cases z.1)] at this
                simp (disch := omega) only [ofNat_nI, nI_add, pk_mul, nI_clamp, nI_leI, nI_ltI, nI_eq, vp_in_nI_iff, nI_subr, nI_m1r, m1_eq, m1_eq2, m1_le, m1_le2, m1_lt, m1_lt2, m1_self, cv_sub, cv_add1, cv_eq, cv_eqI, cv_eqI2, cv_m1, cv_lt0, cv_leI, cv_Ile, cv_le, cv_lt, cv_Ilt, cv_ltI, not_true, not_false_iff, true_implies, false_implies, false_or, or_false, true_and, and_true, false_and, and_false, true_or, or_true]
                exact this
        have := inner (qL P c) 0 μ' (by omega) F (fun j hj _ => hg j hj)
        exact this
  have one : ∀ (d i : Nat) (g : Nat → Int32), i + d = qC P → (∀ j, j < i → g j = cv 0) → Wm G mX12_laysGreedy E (bm G mX12_laysGreedy E (pV Q)) (mrw μ 146 g) 2 [(0, .ref (gb G + 132)), (1, .int (nI i))] [] := by
    intro d
    induction d with
    | zero =>
      intro i g hi hg
      refine k_X12_laysGreedy_2 C (fun _ => ?_) (fun p => ?_) (fun p => ?_)
      · exact two (qC P) 0 _ (by omega) ((Fr.rf _ μ).mrw (by decide)) (fun j hj => by rw [mrw_at]; exact hg j (by omega))
      all_goals
        exfalso
        revert p
        rw [mrw_ne (by decide), hn.1]
        simp (disch := omega) only [ofNat_nI, nI_add, pk_mul, nI_clamp, nI_leI, nI_ltI, nI_eq, vp_in_nI_iff, nI_subr, nI_m1r, m1_eq, m1_eq2, m1_le, m1_le2, m1_lt, m1_lt2, m1_self, cv_sub, cv_add1, cv_eq, cv_eqI, cv_eqI2, cv_m1, cv_lt0, cv_leI, cv_Ile, cv_le, cv_lt, cv_Ilt, cv_ltI, not_true, not_false_iff, true_implies, false_implies, false_or, or_false, true_and, and_true, false_and, and_false, true_or, or_true]
        all_goals omega
    | succ d ih =>
      intro i g hi hg
      refine k_X12_laysGreedy_2 C (fun p => ?_) (fun _ => ?_) (fun _ => ?_)
      · exfalso
        revert p
        rw [mrw_ne (by decide), hn.1]
        simp (disch := omega) only [ofNat_nI, nI_add, pk_mul, nI_clamp, nI_leI, nI_ltI, nI_eq, vp_in_nI_iff, nI_subr, nI_m1r, m1_eq, m1_eq2, m1_le, m1_le2, m1_lt, m1_lt2, m1_self, cv_sub, cv_add1, cv_eq, cv_eqI, cv_eqI2, cv_m1, cv_lt0, cv_leI, cv_Ile, cv_le, cv_lt, cv_Ilt, cv_ltI, not_true, not_false_iff, true_implies, false_implies, false_or, or_false, true_and, and_true, false_and, and_false, true_or, or_true]
        all_goals omega
      · simp (disch := omega) only [ofNat_nI, nI_add, pk_mul, nI_clamp, nI_leI, nI_ltI, nI_eq, vp_in_nI_iff, nI_subr, nI_m1r, m1_eq, m1_eq2, m1_le, m1_le2, m1_lt, m1_lt2, m1_self, cv_sub, cv_add1, cv_eq, cv_eqI, cv_eqI2, cv_m1, cv_lt0, cv_leI, cv_Ile, cv_le, cv_lt, cv_Ilt, cv_ltI, not_true, not_false_iff, true_implies, false_implies, false_or, or_false, true_and, and_true, false_and, and_false, true_or, or_true]
        omega
      · rw [ms_mrw]
        have e : (nI i).toNatClampNeg = i := nI_clamp (by omega)
        rw [e]
        have e1 : nI i + 1 = nI (i + 1) := nI_1 i
        rw [e1]
        refine ih (i + 1) _ (by omega) (fun j hj => ?_)
        rw [upd_at]
        by_cases q : j = i
        · rw [if_pos q]; rfl
        · rw [if_neg q]; exact hg j (by omega)
  have := one (qC P) 0 (μ 146) (by omega) (fun j hj => by omega)
  rw [mrw_self] at this
  exact this

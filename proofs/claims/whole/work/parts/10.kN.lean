/-! written by wip/tools/mkk.py: steps between cut points -/
set_option maxRecDepth 4000 in
theorem k_X12_drops_0 {G : mG} {E : mE} {B : mB} {μ : mM} (C : Cx G mX12_drops E) {x1 : Int32} (kk1 : Wm G mX12_drops E B μ 4 [(0, .ref (gb G + 132)), (2, .int (x1 + (1 : Int32)))] []) : Wm G mX12_drops E B μ 0 [(0, .ref (gb G + 132)), (1, .int x1)] [] := by
  refine L_iload_n C (i := 1) dX12_drops_0 rfl rfl ?_
  refine L_iconst C (v := 1) dX12_drops_1 rfl ?_
  refine L_iadd C dX12_drops_2 ?_
  refine L_istore_n C (i := 2) dX12_drops_3 rfl (Nat.le_of_ble_eq_true rfl) ?_
  refine L_sub [0, 2] rfl ?_
  exact kk1
theorem e_X12_drops {G : mG} {Q : mM → Prop} {μ : mM} {x1 : Int32} (k : ∀ E, Cx G mX12_drops E → Wm G mX12_drops E (bm G mX12_drops E (pV Q)) μ 0 [(0, .ref (gb G + 132)), (1, .int x1)] []) : CtV G mX12_drops [.ref (gb G + 132), .int x1] μ Q := CtV.of pn_X12 (Nat.le_of_ble_eq_true rfl) k
set_option maxRecDepth 4000 in
theorem k_X12_drops_4 {G : mG} {E : mE} {Q : mM → Prop} {μ : mM} (C : Cx G mX12_drops E) {x2 : Int32} (rr1 : (μ 135 3) ≤ x2 → Q (ms μ 135 3 ((μ 135 3) - (1 : Int32)))) (cc2 : ¬ (μ 135 3) ≤ x2 → CtV G mX12_copiesRow [.ref (gb G + 132), .int x2, .int (x2 - (1 : Int32))] μ (fun μ' => Wm G mX12_drops E (bm G mX12_drops E (pV Q)) μ' 22 [(0, .ref (gb G + 132)), (2, .int x2)] [])) : Wm G mX12_drops E (bm G mX12_drops E (pV Q)) μ 4 [(0, .ref (gb G + 132)), (2, .int x2)] [] := by
  refine L_iload_n C (i := 2) dX12_drops_4 rfl rfl ?_
  refine L_aload_n C (i := 0) dX12_drops_5 rfl rfl ?_
  refine L_getC C (c' := 135) dX12_drops_6 sh_132 fl_X12_16 rfl rfl ?_
  refine L_iconst C (v := 3) dX12_drops_9 rfl ?_
  refine L_iald C dX12_drops_10 sh_135 (by unfold vp_in; decide) ?_
  refine L_icmp_ge C (tgt := 28) dX12_drops_11 rfl (fun p1 => ?_) (fun p1 => ?_)
  · refine L_aload_n C (i := 0) dX12_drops_28 rfl rfl ?_
    refine L_getC C (c' := 135) dX12_drops_29 sh_132 fl_X12_16 rfl rfl ?_
    refine L_iconst C (v := 3) dX12_drops_32 rfl ?_
    refine L_dup2 C dX12_drops_33 rfl rfl ?_
    refine L_iald C dX12_drops_34 sh_135 (by unfold vp_in; decide) ?_
    refine L_iconst C (v := 1) dX12_drops_35 rfl ?_
    refine L_isub C dX12_drops_36 ?_
    refine L_iast C dX12_drops_37 sh_135 (by unfold vp_in; decide) ?_
    exact L_irV C dX12_drops_38 rfl (rr1 p1)
  · refine L_aload_n C (i := 0) dX12_drops_14 rfl rfl ?_
    refine L_iload_n C (i := 2) dX12_drops_15 rfl rfl ?_
    refine L_iload_n C (i := 2) dX12_drops_16 rfl rfl ?_
    refine L_iconst C (v := 1) dX12_drops_17 rfl ?_
    refine L_isub C dX12_drops_18 ?_
    refine L_invV2v C dX12_drops_19 sh_132 cal_X12_copiesRow lk_X12_244 ⟨Nat.le_of_ble_eq_true rfl, Nat.le_of_ble_eq_true rfl⟩ ⟨Nat.le_of_ble_eq_true rfl, Nat.le_of_ble_eq_true rfl⟩ (Nat.le_of_ble_eq_true rfl) ?_
    exact cc2 p1
set_option maxRecDepth 4000 in
theorem k_X12_drops_22 {G : mG} {E : mE} {B : mB} {μ : mM} (C : Cx G mX12_drops E) {x2 : Int32} (kk1 : Wm G mX12_drops E B μ 4 [(0, .ref (gb G + 132)), (2, .int (x2 + (1 : Int32)))] []) : Wm G mX12_drops E B μ 22 [(0, .ref (gb G + 132)), (2, .int x2)] [] := by
  refine L_iinc C (v := 1) dX12_drops_22 rfl rfl (Nat.le_of_ble_eq_true rfl) ?_
  refine L_goto C (tgt := 4) dX12_drops_25 rfl ?_
  exact kk1
set_option maxRecDepth 4000 in
theorem k_X12_drop_0 {G : mG} {E : mE} {Q : Int32 → mM → Prop} {μ : mM} (C : Cx G mX12_drop E) {x1 : Int32} (rr1 : (x1 < 0 ∨ (¬ x1 < 0 ∧ (μ 135 3) ≤ x1)) → Q (-1) μ) (cc2 : ¬ x1 < 0 → ¬ (μ 135 3) ≤ x1 → CtV G mX12_keepsAct [.ref (gb G + 132)] μ (fun μ' => Wm G mX12_drop E (bm G mX12_drop E (pI Q)) μ' 14 [(0, .ref (gb G + 132)), (1, .int x1)] [])) : Wm G mX12_drop E (bm G mX12_drop E (pI Q)) μ 0 [(0, .ref (gb G + 132)), (1, .int x1)] [] := by
  refine L_aload_n C (i := 0) dX12_drop_0 rfl rfl ?_
  refine L_iload_n C (i := 1) dX12_drop_1 rfl rfl ?_
  refine L_invV1i C dX12_drop_2 sh_132 cal_X12_isRow lk_X12_236 ⟨Nat.le_of_ble_eq_true rfl, Nat.le_of_ble_eq_true rfl⟩ ⟨Nat.le_of_ble_eq_true rfl, Nat.le_of_ble_eq_true rfl⟩ (Nat.le_of_ble_eq_true rfl) (a_X12_isRow (fun p1 => ?_) (fun p2 p3 => ?_))
  · refine L_if_ne C (tgt := 10) dX12_drop_5 rfl (fun p4 => absurd p4 (by decide)) (fun p4 => ?_)
    refine L_iconst C (v := (-1)) dX12_drop_8 rfl ?_
    exact L_irI C dX12_drop_9 rfl (rr1 p1)
  · refine L_if_ne C (tgt := 10) dX12_drop_5 rfl (fun p5 => ?_) (fun p5 => absurd p5 (by decide))
    refine L_aload_n C (i := 0) dX12_drop_10 rfl rfl ?_
    refine L_invV0v C dX12_drop_11 sh_132 cal_X12_keepsAct lk_X12_230 ⟨Nat.le_of_ble_eq_true rfl, Nat.le_of_ble_eq_true rfl⟩ ⟨Nat.le_of_ble_eq_true rfl, Nat.le_of_ble_eq_true rfl⟩ (Nat.le_of_ble_eq_true rfl) ?_
    exact cc2 p2 p3
theorem e_X12_drop {G : mG} {Q : Int32 → mM → Prop} {μ : mM} {x1 : Int32} (k : ∀ E, Cx G mX12_drop E → Wm G mX12_drop E (bm G mX12_drop E (pI Q)) μ 0 [(0, .ref (gb G + 132)), (1, .int x1)] []) : CtI G mX12_drop [.ref (gb G + 132), .int x1] μ Q := CtI.of pn_X12 (Nat.le_of_ble_eq_true rfl) k
set_option maxRecDepth 4000 in
theorem k_X12_drop_14 {G : mG} {E : mE} {Q : Int32 → mM → Prop} {μ : mM} (C : Cx G mX12_drop E) {x1 : Int32} (cc1 : CtV G mX12_drops [.ref (gb G + 132), .int x1] μ (fun μ' => Wm G mX12_drop E (bm G mX12_drop E (pI Q)) μ' 19 [(0, .ref (gb G + 132))] [])) : Wm G mX12_drop E (bm G mX12_drop E (pI Q)) μ 14 [(0, .ref (gb G + 132)), (1, .int x1)] [] := by
  refine L_aload_n C (i := 0) dX12_drop_14 rfl rfl ?_
  refine L_iload_n C (i := 1) dX12_drop_15 rfl rfl ?_
  refine L_sub [0] rfl ?_
  refine L_invV1v C dX12_drop_16 sh_132 cal_X12_drops lk_X12_248 ⟨Nat.le_of_ble_eq_true rfl, Nat.le_of_ble_eq_true rfl⟩ ⟨Nat.le_of_ble_eq_true rfl, Nat.le_of_ble_eq_true rfl⟩ (Nat.le_of_ble_eq_true rfl) ?_
  exact cc1
set_option maxRecDepth 4000 in
theorem k_X12_drop_19 {G : mG} {E : mE} {Q : Int32 → mM → Prop} {μ : mM} (C : Cx G mX12_drop E)  (rr1 : Q (μ 135 3) μ) : Wm G mX12_drop E (bm G mX12_drop E (pI Q)) μ 19 [(0, .ref (gb G + 132))] [] := by
  refine L_aload_n C (i := 0) dX12_drop_19 rfl rfl ?_
  refine L_getC C (c' := 135) dX12_drop_20 sh_132 fl_X12_16 rfl rfl ?_
  refine L_iconst C (v := 3) dX12_drop_23 rfl ?_
  refine L_iald C dX12_drop_24 sh_135 (by unfold vp_in; decide) ?_
  exact L_irI C dX12_drop_25 rfl (rr1)
set_option maxRecDepth 4000 in
theorem k_X12_open_0 {G : mG} {E : mE} {Q : Int32 → mM → Prop} {μ : mM} (C : Cx G mX12_open E)  (rr1 : (μ 135 0) ≤ 0 → Q (-1) μ) (cc2 : ¬ (μ 135 0) ≤ 0 → CtI G mX12_laysOpen [.ref (gb G + 132)] μ (fun r μ' => Wm G mX12_open E (bm G mX12_open E (pI Q)) μ' 11 [] [.int r])) : Wm G mX12_open E (bm G mX12_open E (pI Q)) μ 0 [(0, .ref (gb G + 132))] [] := by
  refine L_aload_n C (i := 0) dX12_open_0 rfl rfl ?_
  refine L_invV0i C dX12_open_1 sh_132 cal_X12_isPlan lk_X12_212 ⟨Nat.le_of_ble_eq_true rfl, Nat.le_of_ble_eq_true rfl⟩ ⟨Nat.le_of_ble_eq_true rfl, Nat.le_of_ble_eq_true rfl⟩ (Nat.le_of_ble_eq_true rfl) (a_X12_isPlan (fun p1 => ?_) (fun p2 => ?_))
  · refine L_if_eq C (tgt := 14) dX12_open_4 rfl (fun p3 => ?_) (fun p3 => absurd p3 (by decide))
    refine L_iconst C (v := (-1)) dX12_open_14 rfl ?_
    exact L_irI C dX12_open_15 rfl (rr1 p1)
  · refine L_if_eq C (tgt := 14) dX12_open_4 rfl (fun p4 => absurd p4 (by decide)) (fun p4 => ?_)
    refine L_aload_n C (i := 0) dX12_open_7 rfl rfl ?_
    refine L_sub [] rfl ?_
    refine L_invV0i C dX12_open_8 sh_132 cal_X12_laysOpen lk_X12_251 ⟨Nat.le_of_ble_eq_true rfl, Nat.le_of_ble_eq_true rfl⟩ ⟨Nat.le_of_ble_eq_true rfl, Nat.le_of_ble_eq_true rfl⟩ (Nat.le_of_ble_eq_true rfl) ?_
    exact cc2 p2
theorem e_X12_open {G : mG} {Q : Int32 → mM → Prop} {μ : mM}  (k : ∀ E, Cx G mX12_open E → Wm G mX12_open E (bm G mX12_open E (pI Q)) μ 0 [(0, .ref (gb G + 132))] []) : CtI G mX12_open [.ref (gb G + 132)] μ Q := CtI.of pn_X12 (Nat.le_of_ble_eq_true rfl) k
set_option maxRecDepth 4000 in
theorem k_X12_open_11 {G : mG} {E : mE} {Q : Int32 → mM → Prop} {μ : mM} (C : Cx G mX12_open E) {sx0 : Int32} (rr1 : Q sx0 μ) : Wm G mX12_open E (bm G mX12_open E (pI Q)) μ 11 [] [.int sx0] := by
  refine L_goto C (tgt := 15) dX12_open_11 rfl ?_
  exact L_irI C dX12_open_15 rfl (rr1)
set_option maxRecDepth 4000 in
theorem k_X12_openMix_0 {G : mG} {E : mE} {Q : Int32 → mM → Prop} {μ : mM} (C : Cx G mX12_openMix E) {x1 : Int32} (rr1 : ((μ 135 0) ≤ 0 ∨ (¬ (μ 135 0) ≤ 0 ∧ ¬ 0 ≤ x1)) → Q (-1) μ) (cc2 : ¬ (μ 135 0) ≤ 0 → 0 ≤ x1 → CtI G mX12_laysOpen [.ref (gb G + 132)] μ (fun r μ' => Wm G mX12_openMix E (bm G mX12_openMix E (pI Q)) μ' 17 [(0, .ref (gb G + 132)), (1, .int x1)] [.int r])) : Wm G mX12_openMix E (bm G mX12_openMix E (pI Q)) μ 0 [(0, .ref (gb G + 132)), (1, .int x1)] [] := by
  refine L_aload_n C (i := 0) dX12_openMix_0 rfl rfl ?_
  refine L_invV0i C dX12_openMix_1 sh_132 cal_X12_isPlan lk_X12_212 ⟨Nat.le_of_ble_eq_true rfl, Nat.le_of_ble_eq_true rfl⟩ ⟨Nat.le_of_ble_eq_true rfl, Nat.le_of_ble_eq_true rfl⟩ (Nat.le_of_ble_eq_true rfl) (a_X12_isPlan (fun p1 => ?_) (fun p2 => ?_))
  · refine L_if_eq C (tgt := 11) dX12_openMix_4 rfl (fun p3 => ?_) (fun p3 => absurd p3 (by decide))
    refine L_iconst C (v := (-1)) dX12_openMix_11 rfl ?_
    exact L_irI C dX12_openMix_12 rfl (rr1 (Or.inl p1))
  · refine L_if_eq C (tgt := 11) dX12_openMix_4 rfl (fun p4 => absurd p4 (by decide)) (fun p4 => ?_)
    refine L_iload_n C (i := 1) dX12_openMix_7 rfl rfl ?_
    refine L_if_ge C (tgt := 13) dX12_openMix_8 rfl (fun p5 => ?_) (fun p5 => ?_)
    · refine L_aload_n C (i := 0) dX12_openMix_13 rfl rfl ?_
      refine L_invV0i C dX12_openMix_14 sh_132 cal_X12_laysOpen lk_X12_251 ⟨Nat.le_of_ble_eq_true rfl, Nat.le_of_ble_eq_true rfl⟩ ⟨Nat.le_of_ble_eq_true rfl, Nat.le_of_ble_eq_true rfl⟩ (Nat.le_of_ble_eq_true rfl) ?_
      exact cc2 p2 p5
    · refine L_iconst C (v := (-1)) dX12_openMix_11 rfl ?_
      exact L_irI C dX12_openMix_12 rfl (rr1 (Or.inr ⟨p2, p5⟩))
theorem e_X12_openMix {G : mG} {Q : Int32 → mM → Prop} {μ : mM} {x1 : Int32} (k : ∀ E, Cx G mX12_openMix E → Wm G mX12_openMix E (bm G mX12_openMix E (pI Q)) μ 0 [(0, .ref (gb G + 132)), (1, .int x1)] []) : CtI G mX12_openMix [.ref (gb G + 132), .int x1] μ Q := CtI.of pn_X12 (Nat.le_of_ble_eq_true rfl) k
set_option maxRecDepth 4000 in
theorem k_X12_openMix_17 {G : mG} {E : mE} {B : mB} {μ : mM} (C : Cx G mX12_openMix E) {x1 : Int32} {sx0 : Int32} (kk1 : Wm G mX12_openMix E B μ 23 [(0, .ref (gb G + 132)), (1, .int x1), (3, .int 0), (4, .int 0)] []) : Wm G mX12_openMix E B μ 17 [(0, .ref (gb G + 132)), (1, .int x1)] [.int sx0] := by
  refine L_istore_n C (i := 2) dX12_openMix_17 rfl (Nat.le_of_ble_eq_true rfl) ?_
  refine L_iconst C (v := 0) dX12_openMix_18 rfl ?_
  refine L_istore_n C (i := 3) dX12_openMix_19 rfl (Nat.le_of_ble_eq_true rfl) ?_
  refine L_iconst C (v := 0) dX12_openMix_20 rfl ?_
  refine L_istore C dX12_openMix_21 (Nat.le_of_ble_eq_true rfl) ?_
  refine L_sub [0, 1, 3, 4] rfl ?_
  exact kk1
set_option maxRecDepth 4000 in
theorem k_X12_openMix_23 {G : mG} {E : mE} {Q : Int32 → mM → Prop} {μ : mM} (C : Cx G mX12_openMix E) {x1 : Int32} {x3 : Int32} {x4 : Int32} (rr1 : (μ 132 13) ≤ x4 → Q (-2) μ) (ss2 : ¬ (μ 132 13) ≤ x4 → vp_in x4 1200) (kk3 : ¬ (μ 132 13) ≤ x4 → ¬ (μ 144 x4.toNatClampNeg) = 0 → ¬ x3 = x1 → Wm G mX12_openMix E (bm G mX12_openMix E (pI Q)) μ 23 [(0, .ref (gb G + 132)), (1, .int x1), (3, .int (x3 + (1 : Int32))), (4, .int (x4 + (1 : Int32)))] []) (rr4 : ¬ (μ 132 13) ≤ x4 → ¬ (μ 144 x4.toNatClampNeg) = 0 → x3 = x1 → Q x4 μ) (kk5 : ¬ (μ 132 13) ≤ x4 → (μ 144 x4.toNatClampNeg) = 0 → Wm G mX12_openMix E (bm G mX12_openMix E (pI Q)) μ 23 [(0, .ref (gb G + 132)), (1, .int x1), (3, .int x3), (4, .int (x4 + (1 : Int32)))] []) : Wm G mX12_openMix E (bm G mX12_openMix E (pI Q)) μ 23 [(0, .ref (gb G + 132)), (1, .int x1), (3, .int x3), (4, .int x4)] [] := by
  refine L_iload C dX12_openMix_23 rfl ?_
  refine L_aload_n C (i := 0) dX12_openMix_25 rfl rfl ?_
  refine L_getI C dX12_openMix_26 sh_132 fl_X12_168 rfl ?_
  refine L_icmp_ge C (tgt := 62) dX12_openMix_29 rfl (fun p1 => ?_) (fun p1 => ?_)
  · refine L_bipush C (v := (-2)) dX12_openMix_62 rfl ?_
    exact L_irI C dX12_openMix_64 rfl (rr1 p1)
  · refine L_aload_n C (i := 0) dX12_openMix_32 rfl rfl ?_
    refine L_getC C (c' := 144) dX12_openMix_33 sh_132 fl_X12_45 rfl rfl ?_
    refine L_iload C dX12_openMix_36 rfl ?_
    refine L_zald C dX12_openMix_38 sh_144 (ss2 p1) ?_
    refine L_if_ne C (tgt := 45) dX12_openMix_39 rfl (fun p2 => ?_) (fun p2 => ?_)
    · refine L_iload_n C (i := 3) dX12_openMix_45 rfl rfl ?_
      refine L_iload_n C (i := 1) dX12_openMix_46 rfl rfl ?_
      refine L_icmp_ne C (tgt := 53) dX12_openMix_47 rfl (fun p3 => ?_) (fun p3 => ?_)
      · refine L_iinc C (v := 1) dX12_openMix_53 rfl rfl (Nat.le_of_ble_eq_true rfl) ?_
        refine L_iinc C (v := 1) dX12_openMix_56 rfl rfl (Nat.le_of_ble_eq_true rfl) ?_
        refine L_goto C (tgt := 23) dX12_openMix_59 rfl ?_
        exact kk3 p1 p2 p3
      · refine L_iload C dX12_openMix_50 rfl ?_
        exact L_irI C dX12_openMix_52 rfl (rr4 p1 p2 p3)
    · refine L_goto C (tgt := 56) dX12_openMix_42 rfl ?_
      refine L_iinc C (v := 1) dX12_openMix_56 rfl rfl (Nat.le_of_ble_eq_true rfl) ?_
      refine L_goto C (tgt := 23) dX12_openMix_59 rfl ?_
      exact kk5 p1 p2
set_option maxRecDepth 4000 in
theorem k_X12_weight_0 {G : mG} {E : mE} {B : mB} {μ : mM} (C : Cx G mX12_weight E) {n1 : Nat} {c1 : Nat} (h1 : sh c1 = (1, n1)) {x2 : Int32} (kk1 : Wm G mX12_weight E B μ 5 [(0, .ref (gb G + 132)), (1, .ref (gb G + c1)), (2, .int x2), (3, .long 1), (5, .int 0)] []) : Wm G mX12_weight E B μ 0 [(0, .ref (gb G + 132)), (1, .ref (gb G + c1)), (2, .int x2)] [] := by
  refine L_lconst C (v := 1) dX12_weight_0 rfl ?_
  refine L_lstore_n C (i := 3) dX12_weight_1 rfl (Nat.le_of_ble_eq_true rfl) ?_
  refine L_iconst C (v := 0) dX12_weight_2 rfl ?_
  refine L_istore C dX12_weight_3 (Nat.le_of_ble_eq_true rfl) ?_
  exact kk1
theorem e_X12_weight {G : mG} {Q : Int64 → mM → Prop} {μ : mM} {n1 : Nat} {c1 : Nat} (h1 : sh c1 = (1, n1)) {x2 : Int32} (k : ∀ E, Cx G mX12_weight E → Wm G mX12_weight E (bm G mX12_weight E (pL Q)) μ 0 [(0, .ref (gb G + 132)), (1, .ref (gb G + c1)), (2, .int x2)] []) : CtL G mX12_weight [.ref (gb G + 132), .ref (gb G + c1), .int x2] μ Q := CtL.of pn_X12 (Nat.le_of_ble_eq_true rfl) k
set_option maxRecDepth 4000 in
theorem k_X12_weight_5 {G : mG} {E : mE} {Q : Int64 → mM → Prop} {μ : mM} (C : Cx G mX12_weight E) {n1 : Nat} {c1 : Nat} (h1 : sh c1 = (1, n1)) {x2 : Int32} {y3 : Int64} {x5 : Int32} (rr1 : (μ 135 1) ≤ x5 → Q y3 μ) (ss2 : ¬ (μ 135 1) ≤ x5 → vp_in (((3 : Int32) * x2) + x5) 3600) (ss3 : ¬ (μ 135 1) ≤ x5 → vp_in (μ 140 (((3 : Int32) * x2) + x5).toNatClampNeg) n1) (kk4 : ¬ (μ 135 1) ≤ x5 → ((μ c1 (μ 140 (((3 : Int32) * x2) + x5).toNatClampNeg).toNatClampNeg) = (-1) ∨ (¬ (μ c1 (μ 140 (((3 : Int32) * x2) + x5).toNatClampNeg).toNatClampNeg) = (-1) ∧ (μ c1 (μ 140 (((3 : Int32) * x2) + x5).toNatClampNeg).toNatClampNeg) = (μ 141 (((3 : Int32) * x2) + x5).toNatClampNeg))) → Wm G mX12_weight E (bm G mX12_weight E (pL Q)) μ 61 [(0, .ref (gb G + 132)), (1, .ref (gb G + c1)), (2, .int x2), (3, .long y3), (5, .int x5), (6, .int (μ 140 (((3 : Int32) * x2) + x5).toNatClampNeg)), (7, .int (μ 141 (((3 : Int32) * x2) + x5).toNatClampNeg))] []) (rr5 : ¬ (μ 135 1) ≤ x5 → ¬ (μ c1 (μ 140 (((3 : Int32) * x2) + x5).toNatClampNeg).toNatClampNeg) = (-1) → ¬ (μ c1 (μ 140 (((3 : Int32) * x2) + x5).toNatClampNeg).toNatClampNeg) = (μ 141 (((3 : Int32) * x2) + x5).toNatClampNeg) → Q 0 μ) : Wm G mX12_weight E (bm G mX12_weight E (pL Q)) μ 5 [(0, .ref (gb G + 132)), (1, .ref (gb G + c1)), (2, .int x2), (3, .long y3), (5, .int x5)] [] := by
  refine L_iload C dX12_weight_5 rfl ?_
  refine L_aload_n C (i := 0) dX12_weight_7 rfl rfl ?_
  refine L_getC C (c' := 135) dX12_weight_8 sh_132 fl_X12_16 rfl rfl ?_
  refine L_iconst C (v := 1) dX12_weight_11 rfl ?_
  refine L_iald C dX12_weight_12 sh_135 (by unfold vp_in; decide) ?_
  refine L_icmp_ge C (tgt := 99) dX12_weight_13 rfl (fun p1 => ?_) (fun p1 => ?_)
  · refine L_lload_n C (i := 3) dX12_weight_99 rfl rfl ?_
    exact L_irL C dX12_weight_100 rfl (rr1 p1)
  · refine L_aload_n C (i := 0) dX12_weight_16 rfl rfl ?_
    refine L_getC C (c' := 140) dX12_weight_17 sh_132 fl_X12_32 rfl rfl ?_
    refine L_iconst C (v := 3) dX12_weight_20 rfl ?_
    refine L_iload_n C (i := 2) dX12_weight_21 rfl rfl ?_
    refine L_imul C dX12_weight_22 ?_
    refine L_iload C dX12_weight_23 rfl ?_
    refine L_iadd C dX12_weight_25 ?_
    refine L_iald C dX12_weight_26 sh_140 (ss2 p1) ?_
    refine L_istore C dX12_weight_27 (Nat.le_of_ble_eq_true rfl) ?_
    refine L_aload_n C (i := 0) dX12_weight_29 rfl rfl ?_
    refine L_getC C (c' := 141) dX12_weight_30 sh_132 fl_X12_35 rfl rfl ?_
    refine L_iconst C (v := 3) dX12_weight_33 rfl ?_
    refine L_iload_n C (i := 2) dX12_weight_34 rfl rfl ?_
    refine L_imul C dX12_weight_35 ?_
    refine L_iload C dX12_weight_36 rfl ?_
    refine L_iadd C dX12_weight_38 ?_
    refine L_iald C dX12_weight_39 sh_141 (ss2 p1) ?_
    refine L_istore C dX12_weight_40 (Nat.le_of_ble_eq_true rfl) ?_
    refine L_aload_n C (i := 1) dX12_weight_42 rfl rfl ?_
    refine L_iload C dX12_weight_43 rfl ?_
    refine L_iald C dX12_weight_45 h1 (ss3 p1) ?_
    refine L_iconst C (v := (-1)) dX12_weight_46 rfl ?_
    refine L_icmp_eq C (tgt := 61) dX12_weight_47 rfl (fun p2 => ?_) (fun p2 => ?_)
    · exact kk4 p1 (Or.inl p2)
    · refine L_aload_n C (i := 1) dX12_weight_50 rfl rfl ?_
      refine L_iload C dX12_weight_51 rfl ?_
      refine L_iald C dX12_weight_53 h1 (ss3 p1) ?_
      refine L_iload C dX12_weight_54 rfl ?_
      refine L_icmp_eq C (tgt := 61) dX12_weight_56 rfl (fun p3 => ?_) (fun p3 => ?_)
      · exact kk4 p1 (Or.inr ⟨p2, p3⟩)
      · refine L_lconst C (v := 0) dX12_weight_59 rfl ?_
        exact L_irL C dX12_weight_60 rfl (rr5 p1 p2 p3)
set_option maxRecDepth 4000 in
theorem k_X12_weight_61 {G : mG} {E : mE} {B : mB} {μ : mM} (C : Cx G mX12_weight E) {n1 : Nat} {c1 : Nat} (h1 : sh c1 = (1, n1)) {x2 : Int32} {y3 : Int64} {x5 : Int32} {x6 : Int32} {x7 : Int32} (ss1 : vp_in x6 n1) (ss2 : ¬ (μ c1 x6.toNatClampNeg) = x7 → vp_in ((5 : Int32) + x6) 673) (dd3 : ¬ (μ c1 x6.toNatClampNeg) = x7 → ¬ (μ 135 ((5 : Int32) + x6).toNatClampNeg).toInt64 = 0) (kk4 : ¬ (μ c1 x6.toNatClampNeg) = x7 → Wm G mX12_weight E B μ 5 [(0, .ref (gb G + 132)), (1, .ref (gb G + c1)), (2, .int x2), (3, .long (y3 * (60 / (μ 135 ((5 : Int32) + x6).toNatClampNeg).toInt64))), (5, .int (x5 + (1 : Int32)))] []) (kk5 : (μ c1 x6.toNatClampNeg) = x7 → Wm G mX12_weight E B μ 5 [(0, .ref (gb G + 132)), (1, .ref (gb G + c1)), (2, .int x2), (3, .long (y3 * (60 : Int64))), (5, .int (x5 + (1 : Int32)))] []) : Wm G mX12_weight E B μ 61 [(0, .ref (gb G + 132)), (1, .ref (gb G + c1)), (2, .int x2), (3, .long y3), (5, .int x5), (6, .int x6), (7, .int x7)] [] := by
  refine L_lload_n C (i := 3) dX12_weight_61 rfl rfl ?_
  refine L_aload_n C (i := 1) dX12_weight_62 rfl rfl ?_
  refine L_iload C dX12_weight_63 rfl ?_
  refine L_iald C dX12_weight_65 h1 (ss1) ?_
  refine L_iload C dX12_weight_66 rfl ?_
  refine L_icmp_ne C (tgt := 77) dX12_weight_68 rfl (fun p1 => ?_) (fun p1 => ?_)
  · refine L_ldc2 C dX12_weight_77 cn_X12_254 ?_
    refine L_aload_n C (i := 0) dX12_weight_80 rfl rfl ?_
    refine L_getC C (c' := 135) dX12_weight_81 sh_132 fl_X12_16 rfl rfl ?_
    refine L_iconst C (v := 5) dX12_weight_84 rfl ?_
    refine L_iload C dX12_weight_85 rfl ?_
    refine L_iadd C dX12_weight_87 ?_
    refine L_iald C dX12_weight_88 sh_135 (ss2 p1) ?_
    refine L_i2l C dX12_weight_89 ?_
    refine L_ldiv C dX12_weight_90 (dd3 p1) ?_
    refine L_lmul C dX12_weight_91 ?_
    refine L_lstore_n C (i := 3) dX12_weight_92 rfl (Nat.le_of_ble_eq_true rfl) ?_
    refine L_iinc C (v := 1) dX12_weight_93 rfl rfl (Nat.le_of_ble_eq_true rfl) ?_
    refine L_goto C (tgt := 5) dX12_weight_96 rfl ?_
    refine L_sub [0, 1, 2, 3, 4] rfl ?_
    exact kk4 p1
  · refine L_ldc2 C dX12_weight_71 cn_X12_254 ?_
    refine L_goto C (tgt := 91) dX12_weight_74 rfl ?_
    refine L_lmul C dX12_weight_91 ?_
    refine L_lstore_n C (i := 3) dX12_weight_92 rfl (Nat.le_of_ble_eq_true rfl) ?_
    refine L_iinc C (v := 1) dX12_weight_93 rfl rfl (Nat.le_of_ble_eq_true rfl) ?_
    refine L_goto C (tgt := 5) dX12_weight_96 rfl ?_
    refine L_sub [0, 1, 2, 3, 4] rfl ?_
    exact kk5 p1
set_option maxRecDepth 4000 in
theorem k_X12_canWith_0 {G : mG} {E : mE} {Q : Int32 → mM → Prop} {μ : mM} (C : Cx G mX12_canWith E) {n1 : Nat} {c1 : Nat} (h1 : sh c1 = (1, n1)) {x2 : Int32} (cc1 : CtV G mX12_probes [.ref (gb G + 132), .ref (gb G + c1)] μ (fun μ' => Wm G mX12_canWith E (bm G mX12_canWith E (pI Q)) μ' 5 [(0, .ref (gb G + 132)), (2, .int x2)] [])) : Wm G mX12_canWith E (bm G mX12_canWith E (pI Q)) μ 0 [(0, .ref (gb G + 132)), (1, .ref (gb G + c1)), (2, .int x2)] [] := by
  refine L_aload_n C (i := 0) dX12_canWith_0 rfl rfl ?_
  refine L_aload_n C (i := 1) dX12_canWith_1 rfl rfl ?_
  refine L_sub [0, 2] rfl ?_
  refine L_invV1v C dX12_canWith_2 sh_132 cal_X12_probes lk_X12_226 ⟨Nat.le_of_ble_eq_true rfl, Nat.le_of_ble_eq_true rfl⟩ ⟨Nat.le_of_ble_eq_true rfl, Nat.le_of_ble_eq_true rfl⟩ (Nat.le_of_ble_eq_true rfl) ?_
  exact cc1
theorem e_X12_canWith {G : mG} {Q : Int32 → mM → Prop} {μ : mM} {n1 : Nat} {c1 : Nat} (h1 : sh c1 = (1, n1)) {x2 : Int32} (k : ∀ E, Cx G mX12_canWith E → Wm G mX12_canWith E (bm G mX12_canWith E (pI Q)) μ 0 [(0, .ref (gb G + 132)), (1, .ref (gb G + c1)), (2, .int x2)] []) : CtI G mX12_canWith [.ref (gb G + 132), .ref (gb G + c1), .int x2] μ Q := CtI.of pn_X12 (Nat.le_of_ble_eq_true rfl) k
set_option maxRecDepth 4000 in
theorem k_X12_canWith_5 {G : mG} {E : mE} {B : mB} {μ : mM} (C : Cx G mX12_canWith E) {x2 : Int32} (kk1 : Wm G mX12_canWith E B μ 7 [(0, .ref (gb G + 132)), (2, .int x2), (3, .int 0)] []) : Wm G mX12_canWith E B μ 5 [(0, .ref (gb G + 132)), (2, .int x2)] [] := by
  refine L_iconst C (v := 0) dX12_canWith_5 rfl ?_
  refine L_istore_n C (i := 3) dX12_canWith_6 rfl (Nat.le_of_ble_eq_true rfl) ?_
  exact kk1
set_option maxRecDepth 4000 in
theorem k_X12_canWith_7 {G : mG} {E : mE} {Q : Int32 → mM → Prop} {μ : mM} (C : Cx G mX12_canWith E) {x2 : Int32} {x3 : Int32} (cc1 : (μ 135 1) ≤ x3 → CtI G mX12_canProbe [.ref (gb G + 132)] μ (fun r μ' => Wm G mX12_canWith E (bm G mX12_canWith E (pI Q)) μ' 52 [] [.int r])) (ss2 : ¬ (μ 135 1) ≤ x3 → vp_in (((3 : Int32) * x2) + x3) 3600) (ss3 : ¬ (μ 135 1) ≤ x3 → vp_in (μ 140 (((3 : Int32) * x2) + x3).toNatClampNeg) 8) (kk4 : ¬ (μ 135 1) ≤ x3 → Wm G mX12_canWith E (bm G mX12_canWith E (pI Q)) (ms μ 138 (μ 140 (((3 : Int32) * x2) + x3).toNatClampNeg).toNatClampNeg (μ 141 (((3 : Int32) * x2) + x3).toNatClampNeg)) 7 [(0, .ref (gb G + 132)), (2, .int x2), (3, .int (x3 + (1 : Int32)))] []) : Wm G mX12_canWith E (bm G mX12_canWith E (pI Q)) μ 7 [(0, .ref (gb G + 132)), (2, .int x2), (3, .int x3)] [] := by
  refine L_iload_n C (i := 3) dX12_canWith_7 rfl rfl ?_
  refine L_aload_n C (i := 0) dX12_canWith_8 rfl rfl ?_
  refine L_getC C (c' := 135) dX12_canWith_9 sh_132 fl_X12_16 rfl rfl ?_
  refine L_iconst C (v := 1) dX12_canWith_12 rfl ?_
  refine L_iald C dX12_canWith_13 sh_135 (by unfold vp_in; decide) ?_
  refine L_icmp_ge C (tgt := 48) dX12_canWith_14 rfl (fun p1 => ?_) (fun p1 => ?_)
  · refine L_aload_n C (i := 0) dX12_canWith_48 rfl rfl ?_
    refine L_sub [] rfl ?_
    refine L_invV0i C dX12_canWith_49 sh_132 cal_X12_canProbe lk_X12_162 ⟨Nat.le_of_ble_eq_true rfl, Nat.le_of_ble_eq_true rfl⟩ ⟨Nat.le_of_ble_eq_true rfl, Nat.le_of_ble_eq_true rfl⟩ (Nat.le_of_ble_eq_true rfl) ?_
    exact cc1 p1
  · refine L_aload_n C (i := 0) dX12_canWith_17 rfl rfl ?_
    refine L_getC C (c' := 138) dX12_canWith_18 sh_132 fl_X12_26 rfl rfl ?_
    refine L_aload_n C (i := 0) dX12_canWith_21 rfl rfl ?_
    refine L_getC C (c' := 140) dX12_canWith_22 sh_132 fl_X12_32 rfl rfl ?_
    refine L_iconst C (v := 3) dX12_canWith_25 rfl ?_
    refine L_iload_n C (i := 2) dX12_canWith_26 rfl rfl ?_
    refine L_imul C dX12_canWith_27 ?_
    refine L_iload_n C (i := 3) dX12_canWith_28 rfl rfl ?_
    refine L_iadd C dX12_canWith_29 ?_
    refine L_iald C dX12_canWith_30 sh_140 (ss2 p1) ?_
    refine L_aload_n C (i := 0) dX12_canWith_31 rfl rfl ?_
    refine L_getC C (c' := 141) dX12_canWith_32 sh_132 fl_X12_35 rfl rfl ?_
    refine L_iconst C (v := 3) dX12_canWith_35 rfl ?_
    refine L_iload_n C (i := 2) dX12_canWith_36 rfl rfl ?_
    refine L_imul C dX12_canWith_37 ?_
    refine L_iload_n C (i := 3) dX12_canWith_38 rfl rfl ?_
    refine L_iadd C dX12_canWith_39 ?_
    refine L_iald C dX12_canWith_40 sh_141 (ss2 p1) ?_
    refine L_iast C dX12_canWith_41 sh_138 (ss3 p1) ?_
    refine L_iinc C (v := 1) dX12_canWith_42 rfl rfl (Nat.le_of_ble_eq_true rfl) ?_
    refine L_goto C (tgt := 7) dX12_canWith_45 rfl ?_
    exact kk4 p1
set_option maxRecDepth 4000 in
theorem k_X12_canWith_52 {G : mG} {E : mE} {Q : Int32 → mM → Prop} {μ : mM} (C : Cx G mX12_canWith E) {sx0 : Int32} (zz1 : (sx0 = 0 ∨ sx0 = 1)) (rr2 : Q sx0 μ) : Wm G mX12_canWith E (bm G mX12_canWith E (pI Q)) μ 52 [] [.int sx0] := by
  exact L_irZ C dX12_canWith_52 rfl (zz1) (rr2)
set_option maxRecDepth 4000 in
theorem k_X12_hopeOf_0 {G : mG} {E : mE} {B : mB} {μ : mM} (C : Cx G mX12_hopeOf E) {n1 : Nat} {c1 : Nat} (h1 : sh c1 = (1, n1)) (kk1 : Wm G mX12_hopeOf E B μ 5 [(0, .ref (gb G + 132)), (1, .ref (gb G + c1)), (2, .long 0), (4, .int 0)] []) : Wm G mX12_hopeOf E B μ 0 [(0, .ref (gb G + 132)), (1, .ref (gb G + c1))] [] := by
  refine L_lconst C (v := 0) dX12_hopeOf_0 rfl ?_
  refine L_lstore_n C (i := 2) dX12_hopeOf_1 rfl (Nat.le_of_ble_eq_true rfl) ?_
  refine L_iconst C (v := 0) dX12_hopeOf_2 rfl ?_
  refine L_istore C dX12_hopeOf_3 (Nat.le_of_ble_eq_true rfl) ?_
  exact kk1
theorem e_X12_hopeOf {G : mG} {Q : Int64 → mM → Prop} {μ : mM} {n1 : Nat} {c1 : Nat} (h1 : sh c1 = (1, n1)) (k : ∀ E, Cx G mX12_hopeOf E → Wm G mX12_hopeOf E (bm G mX12_hopeOf E (pL Q)) μ 0 [(0, .ref (gb G + 132)), (1, .ref (gb G + c1))] []) : CtL G mX12_hopeOf [.ref (gb G + 132), .ref (gb G + c1)] μ Q := CtL.of pn_X12 (Nat.le_of_ble_eq_true rfl) k
set_option maxRecDepth 4000 in
theorem k_X12_hopeOf_5 {G : mG} {E : mE} {Q : Int64 → mM → Prop} {μ : mM} (C : Cx G mX12_hopeOf E) {n1 : Nat} {c1 : Nat} (h1 : sh c1 = (1, n1)) {y2 : Int64} {x4 : Int32} (rr1 : (μ 132 13) ≤ x4 → Q y2 μ) (ss2 : ¬ (μ 132 13) ≤ x4 → vp_in x4 1200) (cc3 : ¬ (μ 132 13) ≤ x4 → ¬ (μ 144 x4.toNatClampNeg) = 0 → CtL G mX12_weight [.ref (gb G + 132), .ref (gb G + c1), .int x4] μ (fun r μ' => Wm G mX12_hopeOf E (bm G mX12_hopeOf E (pL Q)) μ' 34 [(0, .ref (gb G + 132)), (1, .ref (gb G + c1)), (2, .long y2), (4, .int x4)] [.long r])) (kk4 : ¬ (μ 132 13) ≤ x4 → (μ 144 x4.toNatClampNeg) = 0 → Wm G mX12_hopeOf E (bm G mX12_hopeOf E (pL Q)) μ 5 [(0, .ref (gb G + 132)), (1, .ref (gb G + c1)), (2, .long y2), (4, .int (x4 + (1 : Int32)))] []) : Wm G mX12_hopeOf E (bm G mX12_hopeOf E (pL Q)) μ 5 [(0, .ref (gb G + 132)), (1, .ref (gb G + c1)), (2, .long y2), (4, .int x4)] [] := by
  refine L_iload C dX12_hopeOf_5 rfl ?_
  refine L_aload_n C (i := 0) dX12_hopeOf_7 rfl rfl ?_
  refine L_getI C dX12_hopeOf_8 sh_132 fl_X12_168 rfl ?_
  refine L_icmp_ge C (tgt := 68) dX12_hopeOf_11 rfl (fun p1 => ?_) (fun p1 => ?_)
  · refine L_lload_n C (i := 2) dX12_hopeOf_68 rfl rfl ?_
    exact L_irL C dX12_hopeOf_69 rfl (rr1 p1)
  · refine L_aload_n C (i := 0) dX12_hopeOf_14 rfl rfl ?_
    refine L_getC C (c' := 144) dX12_hopeOf_15 sh_132 fl_X12_45 rfl rfl ?_
    refine L_iload C dX12_hopeOf_18 rfl ?_
    refine L_zald C dX12_hopeOf_20 sh_144 (ss2 p1) ?_
    refine L_if_ne C (tgt := 27) dX12_hopeOf_21 rfl (fun p2 => ?_) (fun p2 => ?_)
    · refine L_aload_n C (i := 0) dX12_hopeOf_27 rfl rfl ?_
      refine L_aload_n C (i := 1) dX12_hopeOf_28 rfl rfl ?_
      refine L_iload C dX12_hopeOf_29 rfl ?_
      refine L_invV2l C dX12_hopeOf_31 sh_132 cal_X12_weight lk_X12_256 ⟨Nat.le_of_ble_eq_true rfl, Nat.le_of_ble_eq_true rfl⟩ ⟨Nat.le_of_ble_eq_true rfl, Nat.le_of_ble_eq_true rfl⟩ (Nat.le_of_ble_eq_true rfl) ?_
      exact cc3 p1 p2
    · refine L_goto C (tgt := 62) dX12_hopeOf_24 rfl ?_
      refine L_iinc C (v := 1) dX12_hopeOf_62 rfl rfl (Nat.le_of_ble_eq_true rfl) ?_
      refine L_goto C (tgt := 5) dX12_hopeOf_65 rfl ?_
      exact kk4 p1 p2
set_option maxRecDepth 4000 in
theorem k_X12_hopeOf_34 {G : mG} {E : mE} {Q : Int64 → mM → Prop} {μ : mM} (C : Cx G mX12_hopeOf E) {n1 : Nat} {c1 : Nat} (h1 : sh c1 = (1, n1)) {y2 : Int64} {x4 : Int32} {sy0 : Int64} (kk1 : (lg_cmp sy0 0) ≤ 0 → Wm G mX12_hopeOf E (bm G mX12_hopeOf E (pL Q)) μ 5 [(0, .ref (gb G + 132)), (1, .ref (gb G + c1)), (2, .long (y2 + (0 : Int64))), (4, .int (x4 + (1 : Int32)))] []) (cc2 : ¬ (lg_cmp sy0 0) ≤ 0 → CtI G mX12_canWith [.ref (gb G + 132), .ref (gb G + c1), .int x4] μ (fun r μ' => Wm G mX12_hopeOf E (bm G mX12_hopeOf E (pL Q)) μ' 51 [(0, .ref (gb G + 132)), (1, .ref (gb G + c1)), (4, .int x4), (5, .long sy0)] [.int r, .long y2])) : Wm G mX12_hopeOf E (bm G mX12_hopeOf E (pL Q)) μ 34 [(0, .ref (gb G + 132)), (1, .ref (gb G + c1)), (2, .long y2), (4, .int x4)] [.long sy0] := by
  refine L_lstore C dX12_hopeOf_34 (Nat.le_of_ble_eq_true rfl) ?_
  refine L_lload_n C (i := 2) dX12_hopeOf_36 rfl rfl ?_
  refine L_lload C dX12_hopeOf_37 rfl ?_
  refine L_lconst C (v := 0) dX12_hopeOf_39 rfl ?_
  refine L_lcmp C dX12_hopeOf_40 ?_
  refine L_if_le C (tgt := 59) dX12_hopeOf_41 rfl (fun p1 => ?_) (fun p1 => ?_)
  · refine L_lconst C (v := 0) dX12_hopeOf_59 rfl ?_
    refine L_ladd C dX12_hopeOf_60 ?_
    refine L_lstore_n C (i := 2) dX12_hopeOf_61 rfl (Nat.le_of_ble_eq_true rfl) ?_
    refine L_iinc C (v := 1) dX12_hopeOf_62 rfl rfl (Nat.le_of_ble_eq_true rfl) ?_
    refine L_goto C (tgt := 5) dX12_hopeOf_65 rfl ?_
    refine L_sub [0, 1, 2, 3] rfl ?_
    exact kk1 p1
  · refine L_aload_n C (i := 0) dX12_hopeOf_44 rfl rfl ?_
    refine L_aload_n C (i := 1) dX12_hopeOf_45 rfl rfl ?_
    refine L_iload C dX12_hopeOf_46 rfl ?_
    refine L_sub [0, 1, 3, 4] rfl ?_
    refine L_invV2i C dX12_hopeOf_48 sh_132 cal_X12_canWith lk_X12_260 ⟨Nat.le_of_ble_eq_true rfl, Nat.le_of_ble_eq_true rfl⟩ ⟨Nat.le_of_ble_eq_true rfl, Nat.le_of_ble_eq_true rfl⟩ (Nat.le_of_ble_eq_true rfl) ?_
    exact cc2 p1
set_option maxRecDepth 4000 in
theorem k_X12_hopeOf_51 {G : mG} {E : mE} {B : mB} {μ : mM} (C : Cx G mX12_hopeOf E) {n1 : Nat} {c1 : Nat} (h1 : sh c1 = (1, n1)) {x4 : Int32} {y5 : Int64} {sy0 : Int64} {sx1 : Int32} (kk1 : sx1 = 0 → Wm G mX12_hopeOf E B μ 5 [(0, .ref (gb G + 132)), (1, .ref (gb G + c1)), (2, .long (sy0 + (0 : Int64))), (4, .int (x4 + (1 : Int32)))] []) (kk2 : ¬ sx1 = 0 → Wm G mX12_hopeOf E B μ 5 [(0, .ref (gb G + 132)), (1, .ref (gb G + c1)), (2, .long (sy0 + y5)), (4, .int (x4 + (1 : Int32)))] []) : Wm G mX12_hopeOf E B μ 51 [(0, .ref (gb G + 132)), (1, .ref (gb G + c1)), (4, .int x4), (5, .long y5)] [.int sx1, .long sy0] := by
  refine L_if_eq C (tgt := 59) dX12_hopeOf_51 rfl (fun p1 => ?_) (fun p1 => ?_)
  · refine L_lconst C (v := 0) dX12_hopeOf_59 rfl ?_
    refine L_ladd C dX12_hopeOf_60 ?_
    refine L_lstore_n C (i := 2) dX12_hopeOf_61 rfl (Nat.le_of_ble_eq_true rfl) ?_
    refine L_iinc C (v := 1) dX12_hopeOf_62 rfl rfl (Nat.le_of_ble_eq_true rfl) ?_
    refine L_goto C (tgt := 5) dX12_hopeOf_65 rfl ?_
    refine L_sub [0, 1, 2, 3] rfl ?_
    exact kk1 p1
  · refine L_lload C dX12_hopeOf_54 rfl ?_
    refine L_goto C (tgt := 60) dX12_hopeOf_56 rfl ?_
    refine L_ladd C dX12_hopeOf_60 ?_
    refine L_lstore_n C (i := 2) dX12_hopeOf_61 rfl (Nat.le_of_ble_eq_true rfl) ?_
    refine L_iinc C (v := 1) dX12_hopeOf_62 rfl rfl (Nat.le_of_ble_eq_true rfl) ?_
    refine L_goto C (tgt := 5) dX12_hopeOf_65 rfl ?_
    refine L_sub [0, 1, 2, 3] rfl ?_
    exact kk2 p1
set_option maxRecDepth 4000 in
theorem k_X12_hope_0 {G : mG} {E : mE} {Q : Int64 → mM → Prop} {μ : mM} (C : Cx G mX12_hope E) {x1 : Int32} (cc1 : CtI G mX12_isGiven [.ref (gb G + 132), .int x1] μ (fun r μ' => Wm G mX12_hope E (bm G mX12_hope E (pL Q)) μ' 5 [(0, .ref (gb G + 132))] [.int r])) : Wm G mX12_hope E (bm G mX12_hope E (pL Q)) μ 0 [(0, .ref (gb G + 132)), (1, .int x1)] [] := by
  refine L_aload_n C (i := 0) dX12_hope_0 rfl rfl ?_
  refine L_iload_n C (i := 1) dX12_hope_1 rfl rfl ?_
  refine L_sub [0] rfl ?_
  refine L_invV1i C dX12_hope_2 sh_132 cal_X12_isGiven lk_X12_223 ⟨Nat.le_of_ble_eq_true rfl, Nat.le_of_ble_eq_true rfl⟩ ⟨Nat.le_of_ble_eq_true rfl, Nat.le_of_ble_eq_true rfl⟩ (Nat.le_of_ble_eq_true rfl) ?_
  exact cc1
theorem e_X12_hope {G : mG} {Q : Int64 → mM → Prop} {μ : mM} {x1 : Int32} (k : ∀ E, Cx G mX12_hope E → Wm G mX12_hope E (bm G mX12_hope E (pL Q)) μ 0 [(0, .ref (gb G + 132)), (1, .int x1)] []) : CtL G mX12_hope [.ref (gb G + 132), .int x1] μ Q := CtL.of pn_X12 (Nat.le_of_ble_eq_true rfl) k
set_option maxRecDepth 4000 in
theorem k_X12_hope_5 {G : mG} {E : mE} {Q : Int64 → mM → Prop} {μ : mM} (C : Cx G mX12_hope E) {sx0 : Int32} (cc1 : ¬ sx0 = 0 → CtI G mX12_laysOpen [.ref (gb G + 132)] μ (fun r μ' => Wm G mX12_hope E (bm G mX12_hope E (pL Q)) μ' 16 [(0, .ref (gb G + 132))] [.int r])) (rr2 : sx0 = 0 → Q (-1) μ) : Wm G mX12_hope E (bm G mX12_hope E (pL Q)) μ 5 [(0, .ref (gb G + 132))] [.int sx0] := by
  refine L_if_ne C (tgt := 12) dX12_hope_5 rfl (fun p1 => ?_) (fun p1 => ?_)
  · refine L_aload_n C (i := 0) dX12_hope_12 rfl rfl ?_
    refine L_invV0i C dX12_hope_13 sh_132 cal_X12_laysOpen lk_X12_251 ⟨Nat.le_of_ble_eq_true rfl, Nat.le_of_ble_eq_true rfl⟩ ⟨Nat.le_of_ble_eq_true rfl, Nat.le_of_ble_eq_true rfl⟩ (Nat.le_of_ble_eq_true rfl) ?_
    exact cc1 p1
  · refine L_ldc2 C dX12_hope_8 cn_X12_239 ?_
    exact L_irL C dX12_hope_11 rfl (rr2 p1)
set_option maxRecDepth 4000 in
theorem k_X12_hope_16 {G : mG} {E : mE} {Q : Int64 → mM → Prop} {μ : mM} (C : Cx G mX12_hope E) {sx0 : Int32} (cc1 : CtL G mX12_hopeOf [.ref (gb G + 132), .ref (gb G + 145)] μ (fun r μ' => Wm G mX12_hope E (bm G mX12_hope E (pL Q)) μ' 25 [] [.long r])) : Wm G mX12_hope E (bm G mX12_hope E (pL Q)) μ 16 [(0, .ref (gb G + 132))] [.int sx0] := by
  refine L_istore_n C (i := 2) dX12_hope_16 rfl (Nat.le_of_ble_eq_true rfl) ?_
  refine L_aload_n C (i := 0) dX12_hope_17 rfl rfl ?_
  refine L_aload_n C (i := 0) dX12_hope_18 rfl rfl ?_
  refine L_getC C (c' := 145) dX12_hope_19 sh_132 fl_X12_48 rfl rfl ?_
  refine L_sub [] rfl ?_
  refine L_invV1l C dX12_hope_22 sh_132 cal_X12_hopeOf lk_X12_264 ⟨Nat.le_of_ble_eq_true rfl, Nat.le_of_ble_eq_true rfl⟩ ⟨Nat.le_of_ble_eq_true rfl, Nat.le_of_ble_eq_true rfl⟩ (Nat.le_of_ble_eq_true rfl) ?_
  exact cc1
set_option maxRecDepth 4000 in
theorem k_X12_hope_25 {G : mG} {E : mE} {Q : Int64 → mM → Prop} {μ : mM} (C : Cx G mX12_hope E) {sy0 : Int64} (rr1 : Q sy0 μ) : Wm G mX12_hope E (bm G mX12_hope E (pL Q)) μ 25 [] [.long sy0] := by
  exact L_irL C dX12_hope_25 rfl (rr1)
set_option maxRecDepth 4000 in
theorem k_X12_laysGreedy_0 {G : mG} {E : mE} {B : mB} {μ : mM} (C : Cx G mX12_laysGreedy E)  (kk1 : Wm G mX12_laysGreedy E B μ 2 [(0, .ref (gb G + 132)), (1, .int 0)] []) : Wm G mX12_laysGreedy E B μ 0 [(0, .ref (gb G + 132))] [] := by
  refine L_iconst C (v := 0) dX12_laysGreedy_0 rfl ?_
  refine L_istore_n C (i := 1) dX12_laysGreedy_1 rfl (Nat.le_of_ble_eq_true rfl) ?_
  exact kk1
theorem e_X12_laysGreedy {G : mG} {Q : mM → Prop} {μ : mM}  (k : ∀ E, Cx G mX12_laysGreedy E → Wm G mX12_laysGreedy E (bm G mX12_laysGreedy E (pV Q)) μ 0 [(0, .ref (gb G + 132))] []) : CtV G mX12_laysGreedy [.ref (gb G + 132)] μ Q := CtV.of pn_X12 (Nat.le_of_ble_eq_true rfl) k
set_option maxRecDepth 4000 in
theorem k_X12_laysGreedy_2 {G : mG} {E : mE} {B : mB} {μ : mM} (C : Cx G mX12_laysGreedy E) {x1 : Int32} (kk1 : (μ 135 0) ≤ x1 → Wm G mX12_laysGreedy E B μ 27 [(0, .ref (gb G + 132)), (1, .int 0)] []) (ss2 : ¬ (μ 135 0) ≤ x1 → vp_in x1 8) (kk3 : ¬ (μ 135 0) ≤ x1 → Wm G mX12_laysGreedy E B (ms μ 146 x1.toNatClampNeg (-1)) 2 [(0, .ref (gb G + 132)), (1, .int (x1 + (1 : Int32)))] []) : Wm G mX12_laysGreedy E B μ 2 [(0, .ref (gb G + 132)), (1, .int x1)] [] := by
  refine L_iload_n C (i := 1) dX12_laysGreedy_2 rfl rfl ?_
  refine L_aload_n C (i := 0) dX12_laysGreedy_3 rfl rfl ?_
  refine L_getC C (c' := 135) dX12_laysGreedy_4 sh_132 fl_X12_16 rfl rfl ?_
  refine L_iconst C (v := 0) dX12_laysGreedy_7 rfl ?_
  refine L_iald C dX12_laysGreedy_8 sh_135 (by unfold vp_in; decide) ?_
  refine L_icmp_ge C (tgt := 25) dX12_laysGreedy_9 rfl (fun p1 => ?_) (fun p1 => ?_)
  · refine L_iconst C (v := 0) dX12_laysGreedy_25 rfl ?_
    refine L_istore_n C (i := 1) dX12_laysGreedy_26 rfl (Nat.le_of_ble_eq_true rfl) ?_
    exact kk1 p1
  · refine L_aload_n C (i := 0) dX12_laysGreedy_12 rfl rfl ?_
    refine L_getC C (c' := 146) dX12_laysGreedy_13 sh_132 fl_X12_51 rfl rfl ?_
    refine L_iload_n C (i := 1) dX12_laysGreedy_16 rfl rfl ?_
    refine L_iconst C (v := (-1)) dX12_laysGreedy_17 rfl ?_
    refine L_iast C dX12_laysGreedy_18 sh_146 (ss2 p1) ?_
    refine L_iinc C (v := 1) dX12_laysGreedy_19 rfl rfl (Nat.le_of_ble_eq_true rfl) ?_
    refine L_goto C (tgt := 2) dX12_laysGreedy_22 rfl ?_
    exact kk3 p1
set_option maxRecDepth 4000 in
theorem k_X12_laysGreedy_27 {G : mG} {E : mE} {Q : mM → Prop} {μ : mM} (C : Cx G mX12_laysGreedy E) {x1 : Int32} (rr1 : (μ 135 0) ≤ x1 → Q μ) (kk2 : ¬ (μ 135 0) ≤ x1 → Wm G mX12_laysGreedy E (bm G mX12_laysGreedy E (pV Q)) μ 46 [(0, .ref (gb G + 132)), (1, .int x1), (2, .int (-1)), (3, .long (-1)), (5, .int 0)] []) : Wm G mX12_laysGreedy E (bm G mX12_laysGreedy E (pV Q)) μ 27 [(0, .ref (gb G + 132)), (1, .int x1)] [] := by
  refine L_iload_n C (i := 1) dX12_laysGreedy_27 rfl rfl ?_
  refine L_aload_n C (i := 0) dX12_laysGreedy_28 rfl rfl ?_
  refine L_getC C (c' := 135) dX12_laysGreedy_29 sh_132 fl_X12_16 rfl rfl ?_
  refine L_iconst C (v := 0) dX12_laysGreedy_32 rfl ?_
  refine L_iald C dX12_laysGreedy_33 sh_135 (by unfold vp_in; decide) ?_
  refine L_icmp_ge C (tgt := 130) dX12_laysGreedy_34 rfl (fun p1 => ?_) (fun p1 => ?_)
  · exact L_irV C dX12_laysGreedy_130 rfl (rr1 p1)
  · refine L_iconst C (v := (-1)) dX12_laysGreedy_37 rfl ?_
    refine L_istore_n C (i := 2) dX12_laysGreedy_38 rfl (Nat.le_of_ble_eq_true rfl) ?_
    refine L_ldc2 C dX12_laysGreedy_39 cn_X12_239 ?_
    refine L_lstore_n C (i := 3) dX12_laysGreedy_42 rfl (Nat.le_of_ble_eq_true rfl) ?_
    refine L_iconst C (v := 0) dX12_laysGreedy_43 rfl ?_
    refine L_istore C dX12_laysGreedy_44 (Nat.le_of_ble_eq_true rfl) ?_
    exact kk2 p1
set_option maxRecDepth 4000 in
theorem k_X12_laysGreedy_46 {G : mG} {E : mE} {Q : mM → Prop} {μ : mM} (C : Cx G mX12_laysGreedy E) {x1 : Int32} {x2 : Int32} {y3 : Int64} {x5 : Int32} (ss1 : vp_in ((5 : Int32) + x1) 673) (ss2 : vp_in x1 8) (kk3 : (μ 135 ((5 : Int32) + x1).toNatClampNeg) ≤ x5 → Wm G mX12_laysGreedy E (bm G mX12_laysGreedy E (pV Q)) (ms μ 146 x1.toNatClampNeg x2) 27 [(0, .ref (gb G + 132)), (1, .int (x1 + (1 : Int32)))] []) (cc4 : ¬ (μ 135 ((5 : Int32) + x1).toNatClampNeg) ≤ x5 → CtV G mX12_probes [.ref (gb G + 132), .ref (gb G + 146)] (ms μ 146 x1.toNatClampNeg x5) (fun μ' => Wm G mX12_laysGreedy E (bm G mX12_laysGreedy E (pV Q)) μ' 75 [(0, .ref (gb G + 132)), (1, .int x1), (2, .int x2), (3, .long y3), (5, .int x5)] [])) : Wm G mX12_laysGreedy E (bm G mX12_laysGreedy E (pV Q)) μ 46 [(0, .ref (gb G + 132)), (1, .int x1), (2, .int x2), (3, .long y3), (5, .int x5)] [] := by
  refine L_iload C dX12_laysGreedy_46 rfl ?_
  refine L_aload_n C (i := 0) dX12_laysGreedy_48 rfl rfl ?_
  refine L_getC C (c' := 135) dX12_laysGreedy_49 sh_132 fl_X12_16 rfl rfl ?_
  refine L_iconst C (v := 5) dX12_laysGreedy_52 rfl ?_
  refine L_iload_n C (i := 1) dX12_laysGreedy_53 rfl rfl ?_
  refine L_iadd C dX12_laysGreedy_54 ?_
  refine L_iald C dX12_laysGreedy_55 sh_135 (ss1) ?_
  refine L_icmp_ge C (tgt := 117) dX12_laysGreedy_56 rfl (fun p1 => ?_) (fun p1 => ?_)
  · refine L_aload_n C (i := 0) dX12_laysGreedy_117 rfl rfl ?_
    refine L_getC C (c' := 146) dX12_laysGreedy_118 sh_132 fl_X12_51 rfl rfl ?_
    refine L_iload_n C (i := 1) dX12_laysGreedy_121 rfl rfl ?_
    refine L_iload_n C (i := 2) dX12_laysGreedy_122 rfl rfl ?_
    refine L_iast C dX12_laysGreedy_123 sh_146 (ss2) ?_
    refine L_iinc C (v := 1) dX12_laysGreedy_124 rfl rfl (Nat.le_of_ble_eq_true rfl) ?_
    refine L_goto C (tgt := 27) dX12_laysGreedy_127 rfl ?_
    refine L_sub [0, 1] rfl ?_
    exact kk3 p1
  · refine L_aload_n C (i := 0) dX12_laysGreedy_59 rfl rfl ?_
    refine L_getC C (c' := 146) dX12_laysGreedy_60 sh_132 fl_X12_51 rfl rfl ?_
    refine L_iload_n C (i := 1) dX12_laysGreedy_63 rfl rfl ?_
    refine L_iload C dX12_laysGreedy_64 rfl ?_
    refine L_iast C dX12_laysGreedy_66 sh_146 (ss2) ?_
    refine L_aload_n C (i := 0) dX12_laysGreedy_67 rfl rfl ?_
    refine L_aload_n C (i := 0) dX12_laysGreedy_68 rfl rfl ?_
    refine L_getC C (c' := 146) dX12_laysGreedy_69 sh_132 fl_X12_51 rfl rfl ?_
    refine L_invV1v C dX12_laysGreedy_72 sh_132 cal_X12_probes lk_X12_226 ⟨Nat.le_of_ble_eq_true rfl, Nat.le_of_ble_eq_true rfl⟩ ⟨Nat.le_of_ble_eq_true rfl, Nat.le_of_ble_eq_true rfl⟩ (Nat.le_of_ble_eq_true rfl) ?_
    exact cc4 p1
set_option maxRecDepth 4000 in
theorem k_X12_laysGreedy_75 {G : mG} {E : mE} {Q : mM → Prop} {μ : mM} (C : Cx G mX12_laysGreedy E) {x1 : Int32} {x2 : Int32} {y3 : Int64} {x5 : Int32} (cc1 : CtI G mX12_canProbe [.ref (gb G + 132)] μ (fun r μ' => Wm G mX12_laysGreedy E (bm G mX12_laysGreedy E (pV Q)) μ' 79 [(0, .ref (gb G + 132)), (1, .int x1), (2, .int x2), (3, .long y3), (5, .int x5)] [.int r])) : Wm G mX12_laysGreedy E (bm G mX12_laysGreedy E (pV Q)) μ 75 [(0, .ref (gb G + 132)), (1, .int x1), (2, .int x2), (3, .long y3), (5, .int x5)] [] := by
  refine L_aload_n C (i := 0) dX12_laysGreedy_75 rfl rfl ?_
  refine L_invV0i C dX12_laysGreedy_76 sh_132 cal_X12_canProbe lk_X12_162 ⟨Nat.le_of_ble_eq_true rfl, Nat.le_of_ble_eq_true rfl⟩ ⟨Nat.le_of_ble_eq_true rfl, Nat.le_of_ble_eq_true rfl⟩ (Nat.le_of_ble_eq_true rfl) ?_
  exact cc1
set_option maxRecDepth 4000 in
theorem k_X12_laysGreedy_79 {G : mG} {E : mE} {Q : mM → Prop} {μ : mM} (C : Cx G mX12_laysGreedy E) {x1 : Int32} {x2 : Int32} {y3 : Int64} {x5 : Int32} {sx0 : Int32} (cc1 : ¬ sx0 = 0 → CtL G mX12_hopeOf [.ref (gb G + 132), .ref (gb G + 146)] μ (fun r μ' => Wm G mX12_laysGreedy E (bm G mX12_laysGreedy E (pV Q)) μ' 93 [(0, .ref (gb G + 132)), (1, .int x1), (2, .int x2), (3, .long y3), (5, .int x5)] [.long r])) (kk2 : sx0 = 0 → Wm G mX12_laysGreedy E (bm G mX12_laysGreedy E (pV Q)) μ 46 [(0, .ref (gb G + 132)), (1, .int x1), (2, .int x2), (3, .long y3), (5, .int (x5 + (1 : Int32)))] []) : Wm G mX12_laysGreedy E (bm G mX12_laysGreedy E (pV Q)) μ 79 [(0, .ref (gb G + 132)), (1, .int x1), (2, .int x2), (3, .long y3), (5, .int x5)] [.int sx0] := by
  refine L_if_ne C (tgt := 85) dX12_laysGreedy_79 rfl (fun p1 => ?_) (fun p1 => ?_)
  · refine L_aload_n C (i := 0) dX12_laysGreedy_85 rfl rfl ?_
    refine L_aload_n C (i := 0) dX12_laysGreedy_86 rfl rfl ?_
    refine L_getC C (c' := 146) dX12_laysGreedy_87 sh_132 fl_X12_51 rfl rfl ?_
    refine L_invV1l C dX12_laysGreedy_90 sh_132 cal_X12_hopeOf lk_X12_264 ⟨Nat.le_of_ble_eq_true rfl, Nat.le_of_ble_eq_true rfl⟩ ⟨Nat.le_of_ble_eq_true rfl, Nat.le_of_ble_eq_true rfl⟩ (Nat.le_of_ble_eq_true rfl) ?_
    exact cc1 p1
  · refine L_goto C (tgt := 111) dX12_laysGreedy_82 rfl ?_
    refine L_iinc C (v := 1) dX12_laysGreedy_111 rfl rfl (Nat.le_of_ble_eq_true rfl) ?_
    refine L_goto C (tgt := 46) dX12_laysGreedy_114 rfl ?_
    exact kk2 p1
set_option maxRecDepth 4000 in
theorem k_X12_laysGreedy_93 {G : mG} {E : mE} {B : mB} {μ : mM} (C : Cx G mX12_laysGreedy E) {x1 : Int32} {x2 : Int32} {y3 : Int64} {x5 : Int32} {sy0 : Int64} (kk1 : 0 < (lg_cmp sy0 y3) → Wm G mX12_laysGreedy E B μ 46 [(0, .ref (gb G + 132)), (1, .int x1), (2, .int x5), (3, .long sy0), (5, .int (x5 + (1 : Int32)))] []) (kk2 : ¬ 0 < (lg_cmp sy0 y3) → Wm G mX12_laysGreedy E B μ 46 [(0, .ref (gb G + 132)), (1, .int x1), (2, .int x2), (3, .long y3), (5, .int (x5 + (1 : Int32)))] []) : Wm G mX12_laysGreedy E B μ 93 [(0, .ref (gb G + 132)), (1, .int x1), (2, .int x2), (3, .long y3), (5, .int x5)] [.long sy0] := by
  refine L_lstore C dX12_laysGreedy_93 (Nat.le_of_ble_eq_true rfl) ?_
  refine L_lload C dX12_laysGreedy_95 rfl ?_
  refine L_lload_n C (i := 3) dX12_laysGreedy_97 rfl rfl ?_
  refine L_lcmp C dX12_laysGreedy_98 ?_
  refine L_if_gt C (tgt := 105) dX12_laysGreedy_99 rfl (fun p1 => ?_) (fun p1 => ?_)
  · refine L_iload C dX12_laysGreedy_105 rfl ?_
    refine L_istore_n C (i := 2) dX12_laysGreedy_107 rfl (Nat.le_of_ble_eq_true rfl) ?_
    refine L_lload C dX12_laysGreedy_108 rfl ?_
    refine L_lstore_n C (i := 3) dX12_laysGreedy_110 rfl (Nat.le_of_ble_eq_true rfl) ?_
    refine L_iinc C (v := 1) dX12_laysGreedy_111 rfl rfl (Nat.le_of_ble_eq_true rfl) ?_
    refine L_goto C (tgt := 46) dX12_laysGreedy_114 rfl ?_
    refine L_sub [0, 1, 2, 3, 4] rfl ?_
    exact kk1 p1
  · refine L_goto C (tgt := 111) dX12_laysGreedy_102 rfl ?_
    refine L_iinc C (v := 1) dX12_laysGreedy_111 rfl rfl (Nat.le_of_ble_eq_true rfl) ?_
    refine L_goto C (tgt := 46) dX12_laysGreedy_114 rfl ?_
    refine L_sub [0, 1, 2, 3, 4] rfl ?_
    exact kk2 p1
set_option maxRecDepth 4000 in
theorem k_X12_gainOf_0 {G : mG} {E : mE} {B : mB} {μ : mM} (C : Cx G mX12_gainOf E) {x1 : Int32} (kk1 : Wm G mX12_gainOf E B μ 4 [(0, .ref (gb G + 132)), (1, .int x1), (2, .int 0), (3, .int 0)] []) : Wm G mX12_gainOf E B μ 0 [(0, .ref (gb G + 132)), (1, .int x1)] [] := by
  refine L_iconst C (v := 0) dX12_gainOf_0 rfl ?_
  refine L_istore_n C (i := 2) dX12_gainOf_1 rfl (Nat.le_of_ble_eq_true rfl) ?_
  refine L_iconst C (v := 0) dX12_gainOf_2 rfl ?_
  refine L_istore_n C (i := 3) dX12_gainOf_3 rfl (Nat.le_of_ble_eq_true rfl) ?_
  exact kk1
theorem e_X12_gainOf {G : mG} {Q : Int32 → mM → Prop} {μ : mM} {x1 : Int32} (k : ∀ E, Cx G mX12_gainOf E → Wm G mX12_gainOf E (bm G mX12_gainOf E (pI Q)) μ 0 [(0, .ref (gb G + 132)), (1, .int x1)] []) : CtI G mX12_gainOf [.ref (gb G + 132), .int x1] μ Q := CtI.of pn_X12 (Nat.le_of_ble_eq_true rfl) k
set_option maxRecDepth 4000 in
theorem k_X12_gainOf_4 {G : mG} {E : mE} {Q : Int32 → mM → Prop} {μ : mM} (C : Cx G mX12_gainOf E) {x1 : Int32} {x2 : Int32} {x3 : Int32} (rr1 : (μ 132 13) ≤ x3 → Q x2 μ) (cc2 : ¬ (μ 132 13) ≤ x3 → CtI G mX12_hasMix [.ref (gb G + 132), .int x1, .int x3] μ (fun r μ' => Wm G mX12_gainOf E (bm G mX12_gainOf E (pI Q)) μ' 19 [(0, .ref (gb G + 132)), (1, .int x1), (3, .int x3)] [.int r, .int x2])) : Wm G mX12_gainOf E (bm G mX12_gainOf E (pI Q)) μ 4 [(0, .ref (gb G + 132)), (1, .int x1), (2, .int x2), (3, .int x3)] [] := by
  refine L_iload_n C (i := 3) dX12_gainOf_4 rfl rfl ?_
  refine L_aload_n C (i := 0) dX12_gainOf_5 rfl rfl ?_
  refine L_getI C dX12_gainOf_6 sh_132 fl_X12_168 rfl ?_
  refine L_icmp_ge C (tgt := 45) dX12_gainOf_9 rfl (fun p1 => ?_) (fun p1 => ?_)
  · refine L_iload_n C (i := 2) dX12_gainOf_45 rfl rfl ?_
    exact L_irI C dX12_gainOf_46 rfl (rr1 p1)
  · refine L_iload_n C (i := 2) dX12_gainOf_12 rfl rfl ?_
    refine L_aload_n C (i := 0) dX12_gainOf_13 rfl rfl ?_
    refine L_iload_n C (i := 1) dX12_gainOf_14 rfl rfl ?_
    refine L_iload_n C (i := 3) dX12_gainOf_15 rfl rfl ?_
    refine L_sub [0, 1, 3] rfl ?_
    refine L_invV2i C dX12_gainOf_16 sh_132 cal_X12_hasMix lk_X12_203 ⟨Nat.le_of_ble_eq_true rfl, Nat.le_of_ble_eq_true rfl⟩ ⟨Nat.le_of_ble_eq_true rfl, Nat.le_of_ble_eq_true rfl⟩ (Nat.le_of_ble_eq_true rfl) ?_
    exact cc2 p1
set_option maxRecDepth 4000 in
theorem k_X12_gainOf_19 {G : mG} {E : mE} {Q : Int32 → mM → Prop} {μ : mM} (C : Cx G mX12_gainOf E) {x1 : Int32} {x3 : Int32} {sx0 : Int32} {sx1 : Int32} (kk1 : sx1 = 0 → Wm G mX12_gainOf E (bm G mX12_gainOf E (pI Q)) μ 4 [(0, .ref (gb G + 132)), (1, .int x1), (2, .int (sx0 + (0 : Int32))), (3, .int (x3 + (1 : Int32)))] []) (cc2 : ¬ sx1 = 0 → CtI G mX12_rowsWith [.ref (gb G + 132), .int x3, .int 0, .int x1] μ (fun r μ' => Wm G mX12_gainOf E (bm G mX12_gainOf E (pI Q)) μ' 29 [(0, .ref (gb G + 132)), (1, .int x1), (3, .int x3)] [.int r, .int sx0])) : Wm G mX12_gainOf E (bm G mX12_gainOf E (pI Q)) μ 19 [(0, .ref (gb G + 132)), (1, .int x1), (3, .int x3)] [.int sx1, .int sx0] := by
  refine L_if_eq C (tgt := 36) dX12_gainOf_19 rfl (fun p1 => ?_) (fun p1 => ?_)
  · refine L_iconst C (v := 0) dX12_gainOf_36 rfl ?_
    refine L_iadd C dX12_gainOf_37 ?_
    refine L_istore_n C (i := 2) dX12_gainOf_38 rfl (Nat.le_of_ble_eq_true rfl) ?_
    refine L_iinc C (v := 1) dX12_gainOf_39 rfl rfl (Nat.le_of_ble_eq_true rfl) ?_
    refine L_goto C (tgt := 4) dX12_gainOf_42 rfl ?_
    exact kk1 p1
  · refine L_aload_n C (i := 0) dX12_gainOf_22 rfl rfl ?_
    refine L_iload_n C (i := 3) dX12_gainOf_23 rfl rfl ?_
    refine L_iconst C (v := 0) dX12_gainOf_24 rfl ?_
    refine L_iload_n C (i := 1) dX12_gainOf_25 rfl rfl ?_
    refine L_invV3i C dX12_gainOf_26 sh_132 cal_X12_rowsWith lk_X12_206 ⟨Nat.le_of_ble_eq_true rfl, Nat.le_of_ble_eq_true rfl⟩ ⟨Nat.le_of_ble_eq_true rfl, Nat.le_of_ble_eq_true rfl⟩ (Nat.le_of_ble_eq_true rfl) ?_
    exact cc2 p1
set_option maxRecDepth 4000 in
theorem k_X12_gainOf_29 {G : mG} {E : mE} {B : mB} {μ : mM} (C : Cx G mX12_gainOf E) {x1 : Int32} {x3 : Int32} {sx0 : Int32} {sx1 : Int32} (kk1 : ∀ v1 : Int32, ((¬ sx1 = 0 ∧ v1 = 0) ∨ (sx1 = 0 ∧ v1 = 1)) → Wm G mX12_gainOf E B μ 4 [(0, .ref (gb G + 132)), (1, .int x1), (2, .int (sx0 + v1)), (3, .int (x3 + (1 : Int32)))] []) : Wm G mX12_gainOf E B μ 29 [(0, .ref (gb G + 132)), (1, .int x1), (3, .int x3)] [.int sx1, .int sx0] := by
  refine phi (fun v1 : Int32 => Wm G mX12_gainOf E B μ 37 [(0, .ref (gb G + 132)), (1, .int x1), (3, .int x3)] [.int v1, .int sx0]) (fun v1 : Int32 => (¬ sx1 = 0 ∧ v1 = 0) ∨ (sx1 = 0 ∧ v1 = 1)) (fun H => ?_) (fun v1 hv1 => ?_)
  · refine L_if_ne C (tgt := 36) dX12_gainOf_29 rfl (fun p1 => ?_) (fun p1 => ?_)
    · refine L_iconst C (v := 0) dX12_gainOf_36 rfl ?_
      exact H _ (Or.inl ⟨p1, rfl⟩)
    · refine L_iconst C (v := 1) dX12_gainOf_32 rfl ?_
      refine L_goto C (tgt := 37) dX12_gainOf_33 rfl ?_
      exact H _ (Or.inr ⟨p1, rfl⟩)
  refine L_iadd C dX12_gainOf_37 ?_
  refine L_istore_n C (i := 2) dX12_gainOf_38 rfl (Nat.le_of_ble_eq_true rfl) ?_
  refine L_iinc C (v := 1) dX12_gainOf_39 rfl rfl (Nat.le_of_ble_eq_true rfl) ?_
  refine L_goto C (tgt := 4) dX12_gainOf_42 rfl ?_
  exact kk1 v1 hv1
set_option maxRecDepth 4000 in
theorem k_X12_greed_0 {G : mG} {E : mE} {Q : Int32 → mM → Prop} {μ : mM} (C : Cx G mX12_greed E)  (rr1 : ((μ 135 0) ≤ 0 ∨ (¬ (μ 135 0) ≤ 0 ∧ (μ 135 3) = 64)) → Q (-1) μ) (cc2 : ¬ (μ 135 0) ≤ 0 → ¬ (μ 135 3) = 64 → CtI G mX12_laysOpen [.ref (gb G + 132)] μ (fun r μ' => Wm G mX12_greed E (bm G mX12_greed E (pI Q)) μ' 24 [(0, .ref (gb G + 132))] [.int r])) : Wm G mX12_greed E (bm G mX12_greed E (pI Q)) μ 0 [(0, .ref (gb G + 132))] [] := by
  refine L_aload_n C (i := 0) dX12_greed_0 rfl rfl ?_
  refine L_invV0i C dX12_greed_1 sh_132 cal_X12_isPlan lk_X12_212 ⟨Nat.le_of_ble_eq_true rfl, Nat.le_of_ble_eq_true rfl⟩ ⟨Nat.le_of_ble_eq_true rfl, Nat.le_of_ble_eq_true rfl⟩ (Nat.le_of_ble_eq_true rfl) (a_X12_isPlan (fun p1 => ?_) (fun p2 => ?_))
  · refine L_if_eq C (tgt := 18) dX12_greed_4 rfl (fun p3 => ?_) (fun p3 => absurd p3 (by decide))
    refine L_iconst C (v := (-1)) dX12_greed_18 rfl ?_
    exact L_irI C dX12_greed_19 rfl (rr1 (Or.inl p1))
  · refine L_if_eq C (tgt := 18) dX12_greed_4 rfl (fun p4 => absurd p4 (by decide)) (fun p4 => ?_)
    refine L_aload_n C (i := 0) dX12_greed_7 rfl rfl ?_
    refine L_getC C (c' := 135) dX12_greed_8 sh_132 fl_X12_16 rfl rfl ?_
    refine L_iconst C (v := 3) dX12_greed_11 rfl ?_
    refine L_iald C dX12_greed_12 sh_135 (by unfold vp_in; decide) ?_
    refine L_bipush C (v := 64) dX12_greed_13 rfl ?_
    refine L_icmp_ne C (tgt := 20) dX12_greed_15 rfl (fun p5 => ?_) (fun p5 => ?_)
    · refine L_aload_n C (i := 0) dX12_greed_20 rfl rfl ?_
      refine L_invV0i C dX12_greed_21 sh_132 cal_X12_laysOpen lk_X12_251 ⟨Nat.le_of_ble_eq_true rfl, Nat.le_of_ble_eq_true rfl⟩ ⟨Nat.le_of_ble_eq_true rfl, Nat.le_of_ble_eq_true rfl⟩ (Nat.le_of_ble_eq_true rfl) ?_
      exact cc2 p2 p5
    · refine L_iconst C (v := (-1)) dX12_greed_18 rfl ?_
      exact L_irI C dX12_greed_19 rfl (rr1 (Or.inr ⟨p2, p5⟩))
theorem e_X12_greed {G : mG} {Q : Int32 → mM → Prop} {μ : mM}  (k : ∀ E, Cx G mX12_greed E → Wm G mX12_greed E (bm G mX12_greed E (pI Q)) μ 0 [(0, .ref (gb G + 132))] []) : CtI G mX12_greed [.ref (gb G + 132)] μ Q := CtI.of pn_X12 (Nat.le_of_ble_eq_true rfl) k
set_option maxRecDepth 4000 in
theorem k_X12_greed_24 {G : mG} {E : mE} {Q : Int32 → mM → Prop} {μ : mM} (C : Cx G mX12_greed E) {sx0 : Int32} (cc1 : ¬ sx0 = 0 → CtV G mX12_keepsAct [.ref (gb G + 132)] μ (fun μ' => Wm G mX12_greed E (bm G mX12_greed E (pI Q)) μ' 34 [(0, .ref (gb G + 132))] [])) (rr2 : sx0 = 0 → Q (-2) μ) : Wm G mX12_greed E (bm G mX12_greed E (pI Q)) μ 24 [(0, .ref (gb G + 132))] [.int sx0] := by
  refine L_if_ne C (tgt := 30) dX12_greed_24 rfl (fun p1 => ?_) (fun p1 => ?_)
  · refine L_aload_n C (i := 0) dX12_greed_30 rfl rfl ?_
    refine L_invV0v C dX12_greed_31 sh_132 cal_X12_keepsAct lk_X12_230 ⟨Nat.le_of_ble_eq_true rfl, Nat.le_of_ble_eq_true rfl⟩ ⟨Nat.le_of_ble_eq_true rfl, Nat.le_of_ble_eq_true rfl⟩ (Nat.le_of_ble_eq_true rfl) ?_
    exact cc1 p1
  · refine L_bipush C (v := (-2)) dX12_greed_27 rfl ?_
    exact L_irI C dX12_greed_29 rfl (rr2 p1)
set_option maxRecDepth 4000 in
theorem k_X12_greed_34 {G : mG} {E : mE} {Q : Int32 → mM → Prop} {μ : mM} (C : Cx G mX12_greed E)  (cc1 : CtV G mX12_laysGreedy [.ref (gb G + 132)] μ (fun μ' => Wm G mX12_greed E (bm G mX12_greed E (pI Q)) μ' 38 [(0, .ref (gb G + 132))] [])) : Wm G mX12_greed E (bm G mX12_greed E (pI Q)) μ 34 [(0, .ref (gb G + 132))] [] := by
  refine L_aload_n C (i := 0) dX12_greed_34 rfl rfl ?_
  refine L_invV0v C dX12_greed_35 sh_132 cal_X12_laysGreedy lk_X12_268 ⟨Nat.le_of_ble_eq_true rfl, Nat.le_of_ble_eq_true rfl⟩ ⟨Nat.le_of_ble_eq_true rfl, Nat.le_of_ble_eq_true rfl⟩ (Nat.le_of_ble_eq_true rfl) ?_
  exact cc1
set_option maxRecDepth 4000 in
theorem k_X12_greed_38 {G : mG} {E : mE} {Q : Int32 → mM → Prop} {μ : mM} (C : Cx G mX12_greed E)  (cc1 : CtV G mX12_comes [.ref (gb G + 132), .ref (gb G + 146)] μ (fun μ' => Wm G mX12_greed E (bm G mX12_greed E (pI Q)) μ' 46 [(0, .ref (gb G + 132))] [])) : Wm G mX12_greed E (bm G mX12_greed E (pI Q)) μ 38 [(0, .ref (gb G + 132))] [] := by
  refine L_aload_n C (i := 0) dX12_greed_38 rfl rfl ?_
  refine L_aload_n C (i := 0) dX12_greed_39 rfl rfl ?_
  refine L_getC C (c' := 146) dX12_greed_40 sh_132 fl_X12_51 rfl rfl ?_
  refine L_invV1v C dX12_greed_43 sh_132 cal_X12_comes lk_X12_233 ⟨Nat.le_of_ble_eq_true rfl, Nat.le_of_ble_eq_true rfl⟩ ⟨Nat.le_of_ble_eq_true rfl, Nat.le_of_ble_eq_true rfl⟩ (Nat.le_of_ble_eq_true rfl) ?_
  exact cc1
set_option maxRecDepth 4000 in
theorem k_X12_greed_46 {G : mG} {E : mE} {Q : Int32 → mM → Prop} {μ : mM} (C : Cx G mX12_greed E)  (cc1 : CtI G mX12_gainOf [.ref (gb G + 132), .int ((μ 135 3) - (1 : Int32))] μ (fun r μ' => Wm G mX12_greed E (bm G mX12_greed E (pI Q)) μ' 58 [] [.int r])) : Wm G mX12_greed E (bm G mX12_greed E (pI Q)) μ 46 [(0, .ref (gb G + 132))] [] := by
  refine L_aload_n C (i := 0) dX12_greed_46 rfl rfl ?_
  refine L_aload_n C (i := 0) dX12_greed_47 rfl rfl ?_
  refine L_getC C (c' := 135) dX12_greed_48 sh_132 fl_X12_16 rfl rfl ?_
  refine L_iconst C (v := 3) dX12_greed_51 rfl ?_
  refine L_iald C dX12_greed_52 sh_135 (by unfold vp_in; decide) ?_
  refine L_iconst C (v := 1) dX12_greed_53 rfl ?_
  refine L_isub C dX12_greed_54 ?_
  refine L_sub [] rfl ?_
  refine L_invV1i C dX12_greed_55 sh_132 cal_X12_gainOf lk_X12_271 ⟨Nat.le_of_ble_eq_true rfl, Nat.le_of_ble_eq_true rfl⟩ ⟨Nat.le_of_ble_eq_true rfl, Nat.le_of_ble_eq_true rfl⟩ (Nat.le_of_ble_eq_true rfl) ?_
  exact cc1
set_option maxRecDepth 4000 in
theorem k_X12_greed_58 {G : mG} {E : mE} {Q : Int32 → mM → Prop} {μ : mM} (C : Cx G mX12_greed E) {sx0 : Int32} (rr1 : Q sx0 μ) : Wm G mX12_greed E (bm G mX12_greed E (pI Q)) μ 58 [] [.int sx0] := by
  exact L_irI C dX12_greed_58 rfl (rr1)
set_option maxRecDepth 4000 in
theorem k_X12_fill_0 {G : mG} {E : mE} {Q : Int32 → mM → Prop} {μ : mM} (C : Cx G mX12_fill E)  (rr1 : (μ 135 0) ≤ 0 → Q (-1) μ) (rr2 : ¬ (μ 135 0) ≤ 0 → (μ 135 3) = 64 → Q 0 μ) (cc3 : ¬ (μ 135 0) ≤ 0 → ¬ (μ 135 3) = 64 → CtI G mX12_laysOpen [.ref (gb G + 132)] μ (fun r μ' => Wm G mX12_fill E (bm G mX12_fill E (pI Q)) μ' 24 [(0, .ref (gb G + 132))] [.int r])) : Wm G mX12_fill E (bm G mX12_fill E (pI Q)) μ 0 [(0, .ref (gb G + 132))] [] := by
  refine L_aload_n C (i := 0) dX12_fill_0 rfl rfl ?_
  refine L_invV0i C dX12_fill_1 sh_132 cal_X12_isPlan lk_X12_212 ⟨Nat.le_of_ble_eq_true rfl, Nat.le_of_ble_eq_true rfl⟩ ⟨Nat.le_of_ble_eq_true rfl, Nat.le_of_ble_eq_true rfl⟩ (Nat.le_of_ble_eq_true rfl) (a_X12_isPlan (fun p1 => ?_) (fun p2 => ?_))
  · refine L_if_ne C (tgt := 9) dX12_fill_4 rfl (fun p3 => absurd p3 (by decide)) (fun p3 => ?_)
    refine L_iconst C (v := (-1)) dX12_fill_7 rfl ?_
    exact L_irI C dX12_fill_8 rfl (rr1 p1)
  · refine L_if_ne C (tgt := 9) dX12_fill_4 rfl (fun p4 => ?_) (fun p4 => absurd p4 (by decide))
    refine L_aload_n C (i := 0) dX12_fill_9 rfl rfl ?_
    refine L_getC C (c' := 135) dX12_fill_10 sh_132 fl_X12_16 rfl rfl ?_
    refine L_iconst C (v := 3) dX12_fill_13 rfl ?_
    refine L_iald C dX12_fill_14 sh_135 (by unfold vp_in; decide) ?_
    refine L_bipush C (v := 64) dX12_fill_15 rfl ?_
    refine L_icmp_eq C (tgt := 27) dX12_fill_17 rfl (fun p5 => ?_) (fun p5 => ?_)
    · refine L_iconst C (v := 0) dX12_fill_27 rfl ?_
      exact L_irI C dX12_fill_28 rfl (rr2 p2 p5)
    · refine L_aload_n C (i := 0) dX12_fill_20 rfl rfl ?_
      refine L_invV0i C dX12_fill_21 sh_132 cal_X12_laysOpen lk_X12_251 ⟨Nat.le_of_ble_eq_true rfl, Nat.le_of_ble_eq_true rfl⟩ ⟨Nat.le_of_ble_eq_true rfl, Nat.le_of_ble_eq_true rfl⟩ (Nat.le_of_ble_eq_true rfl) ?_
      exact cc3 p2 p5
theorem e_X12_fill {G : mG} {Q : Int32 → mM → Prop} {μ : mM}  (k : ∀ E, Cx G mX12_fill E → Wm G mX12_fill E (bm G mX12_fill E (pI Q)) μ 0 [(0, .ref (gb G + 132))] []) : CtI G mX12_fill [.ref (gb G + 132)] μ Q := CtI.of pn_X12 (Nat.le_of_ble_eq_true rfl) k
set_option maxRecDepth 4000 in
theorem k_X12_fill_24 {G : mG} {E : mE} {Q : Int32 → mM → Prop} {μ : mM} (C : Cx G mX12_fill E) {sx0 : Int32} (cc1 : ¬ sx0 = 0 → CtV G mX12_keepsAct [.ref (gb G + 132)] μ (fun μ' => Wm G mX12_fill E (bm G mX12_fill E (pI Q)) μ' 33 [(0, .ref (gb G + 132))] [])) (rr2 : sx0 = 0 → Q 0 μ) : Wm G mX12_fill E (bm G mX12_fill E (pI Q)) μ 24 [(0, .ref (gb G + 132))] [.int sx0] := by
  refine L_if_ne C (tgt := 29) dX12_fill_24 rfl (fun p1 => ?_) (fun p1 => ?_)
  · refine L_aload_n C (i := 0) dX12_fill_29 rfl rfl ?_
    refine L_invV0v C dX12_fill_30 sh_132 cal_X12_keepsAct lk_X12_230 ⟨Nat.le_of_ble_eq_true rfl, Nat.le_of_ble_eq_true rfl⟩ ⟨Nat.le_of_ble_eq_true rfl, Nat.le_of_ble_eq_true rfl⟩ (Nat.le_of_ble_eq_true rfl) ?_
    exact cc1 p1
  · refine L_iconst C (v := 0) dX12_fill_27 rfl ?_
    exact L_irI C dX12_fill_28 rfl (rr2 p1)
set_option maxRecDepth 4000 in
theorem k_X12_fill_33 {G : mG} {E : mE} {B : mB} {μ : mM} (C : Cx G mX12_fill E)  (kk1 : Wm G mX12_fill E B μ 35 [(0, .ref (gb G + 132)), (1, .int 0)] []) : Wm G mX12_fill E B μ 33 [(0, .ref (gb G + 132))] [] := by
  refine L_iconst C (v := 0) dX12_fill_33 rfl ?_
  refine L_istore_n C (i := 1) dX12_fill_34 rfl (Nat.le_of_ble_eq_true rfl) ?_
  exact kk1
set_option maxRecDepth 4000 in
theorem k_X12_fill_35 {G : mG} {E : mE} {Q : Int32 → mM → Prop} {μ : mM} (C : Cx G mX12_fill E) {x1 : Int32} (rr1 : 64 ≤ (μ 135 3) → Q x1 μ) (cc2 : ¬ 64 ≤ (μ 135 3) → CtI G mX12_laysOpen [.ref (gb G + 132)] μ (fun r μ' => Wm G mX12_fill E (bm G mX12_fill E (pI Q)) μ' 50 [(0, .ref (gb G + 132)), (1, .int x1)] [.int r])) : Wm G mX12_fill E (bm G mX12_fill E (pI Q)) μ 35 [(0, .ref (gb G + 132)), (1, .int x1)] [] := by
  refine L_aload_n C (i := 0) dX12_fill_35 rfl rfl ?_
  refine L_getC C (c' := 135) dX12_fill_36 sh_132 fl_X12_16 rfl rfl ?_
  refine L_iconst C (v := 3) dX12_fill_39 rfl ?_
  refine L_iald C dX12_fill_40 sh_135 (by unfold vp_in; decide) ?_
  refine L_bipush C (v := 64) dX12_fill_41 rfl ?_
  refine L_icmp_ge C (tgt := 71) dX12_fill_43 rfl (fun p1 => ?_) (fun p1 => ?_)
  · refine L_iload_n C (i := 1) dX12_fill_71 rfl rfl ?_
    exact L_irI C dX12_fill_72 rfl (rr1 p1)
  · refine L_aload_n C (i := 0) dX12_fill_46 rfl rfl ?_
    refine L_invV0i C dX12_fill_47 sh_132 cal_X12_laysOpen lk_X12_251 ⟨Nat.le_of_ble_eq_true rfl, Nat.le_of_ble_eq_true rfl⟩ ⟨Nat.le_of_ble_eq_true rfl, Nat.le_of_ble_eq_true rfl⟩ (Nat.le_of_ble_eq_true rfl) ?_
    exact cc2 p1
set_option maxRecDepth 4000 in
theorem k_X12_fill_50 {G : mG} {E : mE} {Q : Int32 → mM → Prop} {μ : mM} (C : Cx G mX12_fill E) {x1 : Int32} {sx0 : Int32} (rr1 : sx0 ≤ 0 → Q x1 μ) (cc2 : ¬ sx0 ≤ 0 → CtV G mX12_laysGreedy [.ref (gb G + 132)] μ (fun μ' => Wm G mX12_fill E (bm G mX12_fill E (pI Q)) μ' 57 [(0, .ref (gb G + 132)), (1, .int x1)] [])) : Wm G mX12_fill E (bm G mX12_fill E (pI Q)) μ 50 [(0, .ref (gb G + 132)), (1, .int x1)] [.int sx0] := by
  refine L_if_le C (tgt := 71) dX12_fill_50 rfl (fun p1 => ?_) (fun p1 => ?_)
  · refine L_iload_n C (i := 1) dX12_fill_71 rfl rfl ?_
    exact L_irI C dX12_fill_72 rfl (rr1 p1)
  · refine L_aload_n C (i := 0) dX12_fill_53 rfl rfl ?_
    refine L_invV0v C dX12_fill_54 sh_132 cal_X12_laysGreedy lk_X12_268 ⟨Nat.le_of_ble_eq_true rfl, Nat.le_of_ble_eq_true rfl⟩ ⟨Nat.le_of_ble_eq_true rfl, Nat.le_of_ble_eq_true rfl⟩ (Nat.le_of_ble_eq_true rfl) ?_
    exact cc2 p1
set_option maxRecDepth 4000 in
theorem k_X12_fill_57 {G : mG} {E : mE} {Q : Int32 → mM → Prop} {μ : mM} (C : Cx G mX12_fill E) {x1 : Int32} (cc1 : CtV G mX12_comes [.ref (gb G + 132), .ref (gb G + 146)] μ (fun μ' => Wm G mX12_fill E (bm G mX12_fill E (pI Q)) μ' 65 [(0, .ref (gb G + 132)), (1, .int x1)] [])) : Wm G mX12_fill E (bm G mX12_fill E (pI Q)) μ 57 [(0, .ref (gb G + 132)), (1, .int x1)] [] := by
  refine L_aload_n C (i := 0) dX12_fill_57 rfl rfl ?_
  refine L_aload_n C (i := 0) dX12_fill_58 rfl rfl ?_
  refine L_getC C (c' := 146) dX12_fill_59 sh_132 fl_X12_51 rfl rfl ?_
  refine L_invV1v C dX12_fill_62 sh_132 cal_X12_comes lk_X12_233 ⟨Nat.le_of_ble_eq_true rfl, Nat.le_of_ble_eq_true rfl⟩ ⟨Nat.le_of_ble_eq_true rfl, Nat.le_of_ble_eq_true rfl⟩ (Nat.le_of_ble_eq_true rfl) ?_
  exact cc1
set_option maxRecDepth 4000 in
theorem k_X12_fill_65 {G : mG} {E : mE} {B : mB} {μ : mM} (C : Cx G mX12_fill E) {x1 : Int32} (kk1 : Wm G mX12_fill E B μ 35 [(0, .ref (gb G + 132)), (1, .int (x1 + (1 : Int32)))] []) : Wm G mX12_fill E B μ 65 [(0, .ref (gb G + 132)), (1, .int x1)] [] := by
  refine L_iinc C (v := 1) dX12_fill_65 rfl rfl (Nat.le_of_ble_eq_true rfl) ?_
  refine L_goto C (tgt := 35) dX12_fill_68 rfl ?_
  exact kk1
set_option maxRecDepth 4000 in
theorem k_X12_times_0 {G : mG} {E : mE} {Q : Int32 → mM → Prop} {μ : mM} (C : Cx G mX12_times E) {x0 : Int32} {x1 : Int32} {x2 : Int32} (rr1 : x0 = 4 → (x1 = 0 ∨ (¬ x1 = 0 ∧ x2 = 0)) → Q 0 μ) (rr2 : x0 = 4 → ¬ x1 = 0 → ¬ x2 = 0 → Q (((((x1 - (1 : Int32)) + x2) - (1 : Int32)) - (((x1 - (1 : Int32)) + x2) - (1 : Int32)) / 3 * 3) + (1 : Int32)) μ) (dd3 : ¬ x0 = 4 → ¬ x0 = 0) (rr4 : ¬ x0 = 4 → Q ((x1 * x2) - (x1 * x2) / x0 * x0) μ) : Wm G mX12_times E (bm G mX12_times E (pI Q)) μ 0 [(0, .int x0), (1, .int x1), (2, .int x2)] [] := by
  refine L_iload_n C (i := 0) dX12_times_0 rfl rfl ?_
  refine L_iconst C (v := 4) dX12_times_1 rfl ?_
  refine L_icmp_eq C (tgt := 11) dX12_times_2 rfl (fun p1 => ?_) (fun p1 => ?_)
  · refine L_iload_n C (i := 1) dX12_times_11 rfl rfl ?_
    refine L_if_eq C (tgt := 19) dX12_times_12 rfl (fun p2 => ?_) (fun p2 => ?_)
    · refine L_iconst C (v := 0) dX12_times_19 rfl ?_
      exact L_irI C dX12_times_20 rfl (rr1 p1 (Or.inl p2))
    · refine L_iload_n C (i := 2) dX12_times_15 rfl rfl ?_
      refine L_if_ne C (tgt := 21) dX12_times_16 rfl (fun p3 => ?_) (fun p3 => ?_)
      · refine L_iload_n C (i := 1) dX12_times_21 rfl rfl ?_
        refine L_iconst C (v := 1) dX12_times_22 rfl ?_
        refine L_isub C dX12_times_23 ?_
        refine L_iload_n C (i := 2) dX12_times_24 rfl rfl ?_
        refine L_iadd C dX12_times_25 ?_
        refine L_iconst C (v := 1) dX12_times_26 rfl ?_
        refine L_isub C dX12_times_27 ?_
        refine L_iconst C (v := 3) dX12_times_28 rfl ?_
        refine L_irem C dX12_times_29 (by decide) ?_
        refine L_iconst C (v := 1) dX12_times_30 rfl ?_
        refine L_iadd C dX12_times_31 ?_
        exact L_irI C dX12_times_32 rfl (rr2 p1 p2 p3)
      · refine L_iconst C (v := 0) dX12_times_19 rfl ?_
        exact L_irI C dX12_times_20 rfl (rr1 p1 (Or.inr ⟨p2, p3⟩))
  · refine L_iload_n C (i := 1) dX12_times_5 rfl rfl ?_
    refine L_iload_n C (i := 2) dX12_times_6 rfl rfl ?_
    refine L_imul C dX12_times_7 ?_
    refine L_iload_n C (i := 0) dX12_times_8 rfl rfl ?_
    refine L_irem C dX12_times_9 (dd3 p1) ?_
    exact L_irI C dX12_times_10 rfl (rr4 p1)
theorem a_X12_times {G : mG} {Q : Int32 → mM → Prop} {μ : mM} {x0 : Int32} {x1 : Int32} {x2 : Int32} (rr1 : x0 = 4 → (x1 = 0 ∨ (¬ x1 = 0 ∧ x2 = 0)) → Q 0 μ) (rr2 : x0 = 4 → ¬ x1 = 0 → ¬ x2 = 0 → Q (((((x1 - (1 : Int32)) + x2) - (1 : Int32)) - (((x1 - (1 : Int32)) + x2) - (1 : Int32)) / 3 * 3) + (1 : Int32)) μ) (dd3 : ¬ x0 = 4 → ¬ x0 = 0) (rr4 : ¬ x0 = 4 → Q ((x1 * x2) - (x1 * x2) / x0 * x0) μ) : CtI G mX12_times [.int x0, .int x1, .int x2] μ Q :=
  CtI.of pn_X12 (Nat.le_of_ble_eq_true rfl) (fun E C => k_X12_times_0 C rr1 rr2 dd3 rr4)
set_option maxRecDepth 4000 in
theorem k_X12_plus_0 {G : mG} {E : mE} {Q : Int32 → mM → Prop} {μ : mM} (C : Cx G mX12_plus E) {x0 : Int32} {x1 : Int32} {x2 : Int32} (dd1 : ¬ x0 = 4 → ¬ x0 = 0) (rr2 : ¬ x0 = 4 → Q ((x1 + x2) - (x1 + x2) / x0 * x0) μ) (rr3 : x0 = 4 → Q (x1 ^^^ x2) μ) : Wm G mX12_plus E (bm G mX12_plus E (pI Q)) μ 0 [(0, .int x0), (1, .int x1), (2, .int x2)] [] := by
  refine L_iload_n C (i := 0) dX12_plus_0 rfl rfl ?_
  refine L_iconst C (v := 4) dX12_plus_1 rfl ?_
  refine L_icmp_ne C (tgt := 11) dX12_plus_2 rfl (fun p1 => ?_) (fun p1 => ?_)
  · refine L_iload_n C (i := 1) dX12_plus_11 rfl rfl ?_
    refine L_iload_n C (i := 2) dX12_plus_12 rfl rfl ?_
    refine L_iadd C dX12_plus_13 ?_
    refine L_iload_n C (i := 0) dX12_plus_14 rfl rfl ?_
    refine L_irem C dX12_plus_15 (dd1 p1) ?_
    exact L_irI C dX12_plus_16 rfl (rr2 p1)
  · refine L_iload_n C (i := 1) dX12_plus_5 rfl rfl ?_
    refine L_iload_n C (i := 2) dX12_plus_6 rfl rfl ?_
    refine L_ixor C dX12_plus_7 ?_
    refine L_goto C (tgt := 16) dX12_plus_8 rfl ?_
    exact L_irI C dX12_plus_16 rfl (rr3 p1)
theorem a_X12_plus {G : mG} {Q : Int32 → mM → Prop} {μ : mM} {x0 : Int32} {x1 : Int32} {x2 : Int32} (dd1 : ¬ x0 = 4 → ¬ x0 = 0) (rr2 : ¬ x0 = 4 → Q ((x1 + x2) - (x1 + x2) / x0 * x0) μ) (rr3 : x0 = 4 → Q (x1 ^^^ x2) μ) : CtI G mX12_plus [.int x0, .int x1, .int x2] μ Q :=
  CtI.of pn_X12 (Nat.le_of_ble_eq_true rfl) (fun E C => k_X12_plus_0 C dd1 rr2 rr3)
set_option maxRecDepth 4000 in
theorem k_X12_fieldFor_0 {G : mG} {E : mE} {B : mB} {μ : mM} (C : Cx G mX12_fieldFor E)  (kk1 : Wm G mX12_fieldFor E B μ 11 [(0, .ref (gb G + 132)), (1, .int ((μ 135 0) - (1 : Int32))), (2, .int 0)] []) : Wm G mX12_fieldFor E B μ 0 [(0, .ref (gb G + 132))] [] := by
  refine L_aload_n C (i := 0) dX12_fieldFor_0 rfl rfl ?_
  refine L_getC C (c' := 135) dX12_fieldFor_1 sh_132 fl_X12_16 rfl rfl ?_
  refine L_iconst C (v := 0) dX12_fieldFor_4 rfl ?_
  refine L_iald C dX12_fieldFor_5 sh_135 (by unfold vp_in; decide) ?_
  refine L_iconst C (v := 1) dX12_fieldFor_6 rfl ?_
  refine L_isub C dX12_fieldFor_7 ?_
  refine L_istore_n C (i := 1) dX12_fieldFor_8 rfl (Nat.le_of_ble_eq_true rfl) ?_
  refine L_iconst C (v := 0) dX12_fieldFor_9 rfl ?_
  refine L_istore_n C (i := 2) dX12_fieldFor_10 rfl (Nat.le_of_ble_eq_true rfl) ?_
  exact kk1
theorem e_X12_fieldFor {G : mG} {Q : Int32 → mM → Prop} {μ : mM}  (k : ∀ E, Cx G mX12_fieldFor E → Wm G mX12_fieldFor E (bm G mX12_fieldFor E (pI Q)) μ 0 [(0, .ref (gb G + 132))] []) : CtI G mX12_fieldFor [.ref (gb G + 132)] μ Q := CtI.of pn_X12 (Nat.le_of_ble_eq_true rfl) k
set_option maxRecDepth 4000 in
theorem k_X12_fieldFor_11 {G : mG} {E : mE} {B : mB} {μ : mM} (C : Cx G mX12_fieldFor E) {x1 : Int32} {x2 : Int32} (kk1 : (μ 135 0) ≤ x2 → Wm G mX12_fieldFor E B μ 54 [(1, .int x1), (2, .int 2)] []) (ss2 : ¬ (μ 135 0) ≤ x2 → vp_in ((5 : Int32) + x2) 673) (kk3 : ¬ (μ 135 0) ≤ x2 → ∀ v1 : Int32, (((μ 135 ((5 : Int32) + x2).toNatClampNeg) ≤ x1 ∧ v1 = x1) ∨ (¬ (μ 135 ((5 : Int32) + x2).toNatClampNeg) ≤ x1 ∧ v1 = (μ 135 ((5 : Int32) + x2).toNatClampNeg))) → Wm G mX12_fieldFor E B μ 11 [(0, .ref (gb G + 132)), (1, .int v1), (2, .int (x2 + (1 : Int32)))] []) : Wm G mX12_fieldFor E B μ 11 [(0, .ref (gb G + 132)), (1, .int x1), (2, .int x2)] [] := by
  refine L_iload_n C (i := 2) dX12_fieldFor_11 rfl rfl ?_
  refine L_aload_n C (i := 0) dX12_fieldFor_12 rfl rfl ?_
  refine L_getC C (c' := 135) dX12_fieldFor_13 sh_132 fl_X12_16 rfl rfl ?_
  refine L_iconst C (v := 0) dX12_fieldFor_16 rfl ?_
  refine L_iald C dX12_fieldFor_17 sh_135 (by unfold vp_in; decide) ?_
  refine L_icmp_ge C (tgt := 52) dX12_fieldFor_18 rfl (fun p1 => ?_) (fun p1 => ?_)
  · refine L_iconst C (v := 2) dX12_fieldFor_52 rfl ?_
    refine L_istore_n C (i := 2) dX12_fieldFor_53 rfl (Nat.le_of_ble_eq_true rfl) ?_
    refine L_sub [1, 2] rfl ?_
    exact kk1 p1
  · refine L_aload_n C (i := 0) dX12_fieldFor_21 rfl rfl ?_
    refine L_getC C (c' := 135) dX12_fieldFor_22 sh_132 fl_X12_16 rfl rfl ?_
    refine L_iconst C (v := 5) dX12_fieldFor_25 rfl ?_
    refine L_iload_n C (i := 2) dX12_fieldFor_26 rfl rfl ?_
    refine L_iadd C dX12_fieldFor_27 ?_
    refine L_iald C dX12_fieldFor_28 sh_135 (ss2 p1) ?_
    refine L_iload_n C (i := 1) dX12_fieldFor_29 rfl rfl ?_
    refine phi (fun v1 : Int32 => Wm G mX12_fieldFor E B μ 45 [(0, .ref (gb G + 132)), (2, .int x2)] [.int v1]) (fun v1 : Int32 => ((μ 135 ((5 : Int32) + x2).toNatClampNeg) ≤ x1 ∧ v1 = x1) ∨ (¬ (μ 135 ((5 : Int32) + x2).toNatClampNeg) ≤ x1 ∧ v1 = (μ 135 ((5 : Int32) + x2).toNatClampNeg))) (fun H => ?_) (fun v1 hv1 => ?_)
    · refine L_icmp_le C (tgt := 44) dX12_fieldFor_30 rfl (fun p2 => ?_) (fun p2 => ?_)
      · refine L_iload_n C (i := 1) dX12_fieldFor_44 rfl rfl ?_
        refine L_sub [0, 2] rfl ?_
        exact H _ (Or.inl ⟨p2, rfl⟩)
      · refine L_aload_n C (i := 0) dX12_fieldFor_33 rfl rfl ?_
        refine L_getC C (c' := 135) dX12_fieldFor_34 sh_132 fl_X12_16 rfl rfl ?_
        refine L_iconst C (v := 5) dX12_fieldFor_37 rfl ?_
        refine L_iload_n C (i := 2) dX12_fieldFor_38 rfl rfl ?_
        refine L_iadd C dX12_fieldFor_39 ?_
        refine L_iald C dX12_fieldFor_40 sh_135 (ss2 p1) ?_
        refine L_goto C (tgt := 45) dX12_fieldFor_41 rfl ?_
        refine L_sub [0, 2] rfl ?_
        exact H _ (Or.inr ⟨p2, rfl⟩)
    refine L_istore_n C (i := 1) dX12_fieldFor_45 rfl (Nat.le_of_ble_eq_true rfl) ?_
    refine L_iinc C (v := 1) dX12_fieldFor_46 rfl rfl (Nat.le_of_ble_eq_true rfl) ?_
    refine L_goto C (tgt := 11) dX12_fieldFor_49 rfl ?_
    exact kk3 p1 v1 hv1
set_option maxRecDepth 4000 in
theorem k_X12_fieldFor_54 {G : mG} {E : mE} {Q : Int32 → mM → Prop} {μ : mM} (C : Cx G mX12_fieldFor E) {x1 : Int32} {x2 : Int32} (rr1 : 7 < x2 → Q (-1) μ) (kk2 : ¬ 7 < x2 → (x2 = 6 ∨ (¬ x2 = 6 ∧ x2 < x1)) → Wm G mX12_fieldFor E (bm G mX12_fieldFor E (pI Q)) μ 54 [(1, .int x1), (2, .int (x2 + (1 : Int32)))] []) (rr3 : ¬ 7 < x2 → ¬ x2 = 6 → ¬ x2 < x1 → Q x2 μ) : Wm G mX12_fieldFor E (bm G mX12_fieldFor E (pI Q)) μ 54 [(1, .int x1), (2, .int x2)] [] := by
  refine L_iload_n C (i := 2) dX12_fieldFor_54 rfl rfl ?_
  refine L_bipush C (v := 7) dX12_fieldFor_55 rfl ?_
  refine L_icmp_gt C (tgt := 79) dX12_fieldFor_57 rfl (fun p1 => ?_) (fun p1 => ?_)
  · refine L_iconst C (v := (-1)) dX12_fieldFor_79 rfl ?_
    exact L_irI C dX12_fieldFor_80 rfl (rr1 p1)
  · refine L_iload_n C (i := 2) dX12_fieldFor_60 rfl rfl ?_
    refine L_bipush C (v := 6) dX12_fieldFor_61 rfl ?_
    refine L_icmp_eq C (tgt := 73) dX12_fieldFor_63 rfl (fun p2 => ?_) (fun p2 => ?_)
    · refine L_iinc C (v := 1) dX12_fieldFor_73 rfl rfl (Nat.le_of_ble_eq_true rfl) ?_
      refine L_goto C (tgt := 54) dX12_fieldFor_76 rfl ?_
      exact kk2 p1 (Or.inl p2)
    · refine L_iload_n C (i := 2) dX12_fieldFor_66 rfl rfl ?_
      refine L_iload_n C (i := 1) dX12_fieldFor_67 rfl rfl ?_
      refine L_icmp_lt C (tgt := 73) dX12_fieldFor_68 rfl (fun p3 => ?_) (fun p3 => ?_)
      · refine L_iinc C (v := 1) dX12_fieldFor_73 rfl rfl (Nat.le_of_ble_eq_true rfl) ?_
        refine L_goto C (tgt := 54) dX12_fieldFor_76 rfl ?_
        exact kk2 p1 (Or.inr ⟨p2, p3⟩)
      · refine L_iload_n C (i := 2) dX12_fieldFor_71 rfl rfl ?_
        exact L_irI C dX12_fieldFor_72 rfl (rr3 p1 p2 p3)
set_option maxRecDepth 4000 in
theorem k_X12_valueAt_0 {G : mG} {E : mE} {Q : Int32 → mM → Prop} {μ : mM} (C : Cx G mX12_valueAt E) {x1 : Int32} {x2 : Int32} (kk1 : ¬ x2 = x1 → Wm G mX12_valueAt E (bm G mX12_valueAt E (pI Q)) μ 29 [(0, .ref (gb G + 132)), (1, .int x1), (2, .int x2), (4, .int 0), (5, .int ((μ 135 1) - (1 : Int32)))] []) (ss2 : x2 = x1 → vp_in ((μ 135 1) - (1 : Int32)) 3) (rr3 : x2 = x1 → Q (μ 147 ((μ 135 1) - (1 : Int32)).toNatClampNeg) μ) : Wm G mX12_valueAt E (bm G mX12_valueAt E (pI Q)) μ 0 [(0, .ref (gb G + 132)), (1, .int x1), (2, .int x2)] [] := by
  refine L_aload_n C (i := 0) dX12_valueAt_0 rfl rfl ?_
  refine L_getC C (c' := 135) dX12_valueAt_1 sh_132 fl_X12_16 rfl rfl ?_
  refine L_iconst C (v := 1) dX12_valueAt_4 rfl ?_
  refine L_iald C dX12_valueAt_5 sh_135 (by unfold vp_in; decide) ?_
  refine L_istore_n C (i := 3) dX12_valueAt_6 rfl (Nat.le_of_ble_eq_true rfl) ?_
  refine L_iload_n C (i := 2) dX12_valueAt_7 rfl rfl ?_
  refine L_iload_n C (i := 1) dX12_valueAt_8 rfl rfl ?_
  refine L_icmp_ne C (tgt := 21) dX12_valueAt_9 rfl (fun p1 => ?_) (fun p1 => ?_)
  · refine L_iconst C (v := 0) dX12_valueAt_21 rfl ?_
    refine L_istore C dX12_valueAt_22 (Nat.le_of_ble_eq_true rfl) ?_
    refine L_iload_n C (i := 3) dX12_valueAt_24 rfl rfl ?_
    refine L_iconst C (v := 1) dX12_valueAt_25 rfl ?_
    refine L_isub C dX12_valueAt_26 ?_
    refine L_istore C dX12_valueAt_27 (Nat.le_of_ble_eq_true rfl) ?_
    refine L_sub [0, 1, 2, 4, 5] rfl ?_
    exact kk1 p1
  · refine L_aload_n C (i := 0) dX12_valueAt_12 rfl rfl ?_
    refine L_getC C (c' := 147) dX12_valueAt_13 sh_132 fl_X12_54 rfl rfl ?_
    refine L_iload_n C (i := 3) dX12_valueAt_16 rfl rfl ?_
    refine L_iconst C (v := 1) dX12_valueAt_17 rfl ?_
    refine L_isub C dX12_valueAt_18 ?_
    refine L_iald C dX12_valueAt_19 sh_147 (ss2 p1) ?_
    exact L_irI C dX12_valueAt_20 rfl (rr3 p1)
theorem e_X12_valueAt {G : mG} {Q : Int32 → mM → Prop} {μ : mM} {x1 : Int32} {x2 : Int32} (k : ∀ E, Cx G mX12_valueAt E → Wm G mX12_valueAt E (bm G mX12_valueAt E (pI Q)) μ 0 [(0, .ref (gb G + 132)), (1, .int x1), (2, .int x2)] []) : CtI G mX12_valueAt [.ref (gb G + 132), .int x1, .int x2] μ Q := CtI.of pn_X12 (Nat.le_of_ble_eq_true rfl) k
set_option maxRecDepth 4000 in
theorem k_X12_valueAt_29 {G : mG} {E : mE} {Q : Int32 → mM → Prop} {μ : mM} (C : Cx G mX12_valueAt E) {x1 : Int32} {x2 : Int32} {x4 : Int32} {x5 : Int32} (rr1 : x5 < 0 → Q x4 μ) (dd2 : ¬ x5 < 0 → (¬ x1 = 4 ∨ (x1 = 4 ∧ (x4 = 0 ∨ (¬ x4 = 0 ∧ x2 = 0)) ∧ ¬ x1 = 4) ∨ (x1 = 4 ∧ ¬ x4 = 0 ∧ ¬ x2 = 0 ∧ ¬ x1 = 4) ∨ (¬ x1 = 4 ∧ ¬ x1 = 4)) → ¬ x1 = 0) (ss3 : ¬ x5 < 0 → ((x1 = 4 ∧ (x4 = 0 ∨ (¬ x4 = 0 ∧ x2 = 0))) ∨ (x1 = 4 ∧ ¬ x4 = 0 ∧ ¬ x2 = 0) ∨ ¬ x1 = 4) → vp_in x5 3) (kk4 : ¬ x5 < 0 → x1 = 4 → (x4 = 0 ∨ (¬ x4 = 0 ∧ x2 = 0)) → ¬ x1 = 4 → Wm G mX12_valueAt E (bm G mX12_valueAt E (pI Q)) μ 29 [(0, .ref (gb G + 132)), (1, .int x1), (2, .int x2), (4, .int (((0 : Int32) + (μ 147 x5.toNatClampNeg)) - ((0 : Int32) + (μ 147 x5.toNatClampNeg)) / x1 * x1)), (5, .int (x5 + ((-1) : Int32)))] []) (kk5 : ¬ x5 < 0 → x1 = 4 → (x4 = 0 ∨ (¬ x4 = 0 ∧ x2 = 0)) → x1 = 4 → Wm G mX12_valueAt E (bm G mX12_valueAt E (pI Q)) μ 29 [(0, .ref (gb G + 132)), (1, .int x1), (2, .int x2), (4, .int ((0 : Int32) ^^^ (μ 147 x5.toNatClampNeg))), (5, .int (x5 + ((-1) : Int32)))] []) (kk6 : ¬ x5 < 0 → x1 = 4 → ¬ x4 = 0 → ¬ x2 = 0 → ¬ x1 = 4 → Wm G mX12_valueAt E (bm G mX12_valueAt E (pI Q)) μ 29 [(0, .ref (gb G + 132)), (1, .int x1), (2, .int x2), (4, .int (((((((x4 - (1 : Int32)) + x2) - (1 : Int32)) - (((x4 - (1 : Int32)) + x2) - (1 : Int32)) / 3 * 3) + (1 : Int32)) + (μ 147 x5.toNatClampNeg)) - ((((((x4 - (1 : Int32)) + x2) - (1 : Int32)) - (((x4 - (1 : Int32)) + x2) - (1 : Int32)) / 3 * 3) + (1 : Int32)) + (μ 147 x5.toNatClampNeg)) / x1 * x1)), (5, .int (x5 + ((-1) : Int32)))] []) (kk7 : ¬ x5 < 0 → x1 = 4 → ¬ x4 = 0 → ¬ x2 = 0 → x1 = 4 → Wm G mX12_valueAt E (bm G mX12_valueAt E (pI Q)) μ 29 [(0, .ref (gb G + 132)), (1, .int x1), (2, .int x2), (4, .int ((((((x4 - (1 : Int32)) + x2) - (1 : Int32)) - (((x4 - (1 : Int32)) + x2) - (1 : Int32)) / 3 * 3) + (1 : Int32)) ^^^ (μ 147 x5.toNatClampNeg))), (5, .int (x5 + ((-1) : Int32)))] []) (kk8 : ¬ x5 < 0 → ¬ x1 = 4 → ¬ x1 = 4 → Wm G mX12_valueAt E (bm G mX12_valueAt E (pI Q)) μ 29 [(0, .ref (gb G + 132)), (1, .int x1), (2, .int x2), (4, .int ((((x4 * x2) - (x4 * x2) / x1 * x1) + (μ 147 x5.toNatClampNeg)) - (((x4 * x2) - (x4 * x2) / x1 * x1) + (μ 147 x5.toNatClampNeg)) / x1 * x1)), (5, .int (x5 + ((-1) : Int32)))] []) (kk9 : ¬ x5 < 0 → ¬ x1 = 4 → x1 = 4 → Wm G mX12_valueAt E (bm G mX12_valueAt E (pI Q)) μ 29 [(0, .ref (gb G + 132)), (1, .int x1), (2, .int x2), (4, .int (((x4 * x2) - (x4 * x2) / x1 * x1) ^^^ (μ 147 x5.toNatClampNeg))), (5, .int (x5 + ((-1) : Int32)))] []) : Wm G mX12_valueAt E (bm G mX12_valueAt E (pI Q)) μ 29 [(0, .ref (gb G + 132)), (1, .int x1), (2, .int x2), (4, .int x4), (5, .int x5)] [] := by
  refine L_iload C dX12_valueAt_29 rfl ?_
  refine L_if_lt C (tgt := 60) dX12_valueAt_31 rfl (fun p1 => ?_) (fun p1 => ?_)
  · refine L_iload C dX12_valueAt_60 rfl ?_
    exact L_irI C dX12_valueAt_62 rfl (rr1 p1)
  · refine L_iload_n C (i := 1) dX12_valueAt_34 rfl rfl ?_
    refine L_iload_n C (i := 1) dX12_valueAt_35 rfl rfl ?_
    refine L_iload C dX12_valueAt_36 rfl ?_
    refine L_iload_n C (i := 2) dX12_valueAt_38 rfl rfl ?_
    refine L_invS3i C dX12_valueAt_39 cal_X12_times stc_X12_times lk_X12_274 ⟨Nat.le_of_ble_eq_true rfl, Nat.le_of_ble_eq_true rfl⟩ ⟨Nat.le_of_ble_eq_true rfl, Nat.le_of_ble_eq_true rfl⟩ (Nat.le_of_ble_eq_true rfl) (a_X12_times (fun p2 p3 => ?_) (fun p4 p5 p6 => ?_) (fun p7 => dd2 p1 (Or.inl p7)) (fun p8 => ?_))
    · refine L_aload_n C (i := 0) dX12_valueAt_42 rfl rfl ?_
      refine L_getC C (c' := 147) dX12_valueAt_43 sh_132 fl_X12_54 rfl rfl ?_
      refine L_iload C dX12_valueAt_46 rfl ?_
      refine L_iald C dX12_valueAt_48 sh_147 (ss3 p1 (Or.inl ⟨p2, p3⟩)) ?_
      refine L_invS3i C dX12_valueAt_49 cal_X12_plus stc_X12_plus lk_X12_277 ⟨Nat.le_of_ble_eq_true rfl, Nat.le_of_ble_eq_true rfl⟩ ⟨Nat.le_of_ble_eq_true rfl, Nat.le_of_ble_eq_true rfl⟩ (Nat.le_of_ble_eq_true rfl) (a_X12_plus (fun p9 => dd2 p1 (Or.inr (Or.inl ⟨p2, p3, p9⟩))) (fun p10 => ?_) (fun p11 => ?_))
      · refine L_istore C dX12_valueAt_52 (Nat.le_of_ble_eq_true rfl) ?_
        refine L_iinc C (v := (-1)) dX12_valueAt_54 rfl rfl (Nat.le_of_ble_eq_true rfl) ?_
        refine L_goto C (tgt := 29) dX12_valueAt_57 rfl ?_
        exact kk4 p1 p2 p3 p10
      · refine L_istore C dX12_valueAt_52 (Nat.le_of_ble_eq_true rfl) ?_
        refine L_iinc C (v := (-1)) dX12_valueAt_54 rfl rfl (Nat.le_of_ble_eq_true rfl) ?_
        refine L_goto C (tgt := 29) dX12_valueAt_57 rfl ?_
        exact kk5 p1 p2 p3 p11
    · refine L_aload_n C (i := 0) dX12_valueAt_42 rfl rfl ?_
      refine L_getC C (c' := 147) dX12_valueAt_43 sh_132 fl_X12_54 rfl rfl ?_
      refine L_iload C dX12_valueAt_46 rfl ?_
      refine L_iald C dX12_valueAt_48 sh_147 (ss3 p1 (Or.inr (Or.inl ⟨p4, p5, p6⟩))) ?_
      refine L_invS3i C dX12_valueAt_49 cal_X12_plus stc_X12_plus lk_X12_277 ⟨Nat.le_of_ble_eq_true rfl, Nat.le_of_ble_eq_true rfl⟩ ⟨Nat.le_of_ble_eq_true rfl, Nat.le_of_ble_eq_true rfl⟩ (Nat.le_of_ble_eq_true rfl) (a_X12_plus (fun p12 => dd2 p1 (Or.inr (Or.inr (Or.inl ⟨p4, p5, p6, p12⟩)))) (fun p13 => ?_) (fun p14 => ?_))
      · refine L_istore C dX12_valueAt_52 (Nat.le_of_ble_eq_true rfl) ?_
        refine L_iinc C (v := (-1)) dX12_valueAt_54 rfl rfl (Nat.le_of_ble_eq_true rfl) ?_
        refine L_goto C (tgt := 29) dX12_valueAt_57 rfl ?_
        exact kk6 p1 p4 p5 p6 p13
      · refine L_istore C dX12_valueAt_52 (Nat.le_of_ble_eq_true rfl) ?_
        refine L_iinc C (v := (-1)) dX12_valueAt_54 rfl rfl (Nat.le_of_ble_eq_true rfl) ?_
        refine L_goto C (tgt := 29) dX12_valueAt_57 rfl ?_
        exact kk7 p1 p4 p5 p6 p14
    · refine L_aload_n C (i := 0) dX12_valueAt_42 rfl rfl ?_
      refine L_getC C (c' := 147) dX12_valueAt_43 sh_132 fl_X12_54 rfl rfl ?_
      refine L_iload C dX12_valueAt_46 rfl ?_
      refine L_iald C dX12_valueAt_48 sh_147 (ss3 p1 (Or.inr (Or.inr p8))) ?_
      refine L_invS3i C dX12_valueAt_49 cal_X12_plus stc_X12_plus lk_X12_277 ⟨Nat.le_of_ble_eq_true rfl, Nat.le_of_ble_eq_true rfl⟩ ⟨Nat.le_of_ble_eq_true rfl, Nat.le_of_ble_eq_true rfl⟩ (Nat.le_of_ble_eq_true rfl) (a_X12_plus (fun p15 => dd2 p1 (Or.inr (Or.inr (Or.inr ⟨p8, p15⟩)))) (fun p16 => ?_) (fun p17 => ?_))
      · refine L_istore C dX12_valueAt_52 (Nat.le_of_ble_eq_true rfl) ?_
        refine L_iinc C (v := (-1)) dX12_valueAt_54 rfl rfl (Nat.le_of_ble_eq_true rfl) ?_
        refine L_goto C (tgt := 29) dX12_valueAt_57 rfl ?_
        exact kk8 p1 p8 p16
      · refine L_istore C dX12_valueAt_52 (Nat.le_of_ble_eq_true rfl) ?_
        refine L_iinc C (v := (-1)) dX12_valueAt_54 rfl rfl (Nat.le_of_ble_eq_true rfl) ?_
        refine L_goto C (tgt := 29) dX12_valueAt_57 rfl ?_
        exact kk9 p1 p8 p17
set_option maxRecDepth 4000 in
theorem k_X12_laysPolynomial_0 {G : mG} {E : mE} {B : mB} {μ : mM} (C : Cx G mX12_laysPolynomial E) {x1 : Int32} {x2 : Int32} (kk1 : Wm G mX12_laysPolynomial E B μ 12 [(0, .ref (gb G + 132)), (1, .int x1), (3, .int x2), (4, .int ((μ 135 1) - (1 : Int32)))] []) : Wm G mX12_laysPolynomial E B μ 0 [(0, .ref (gb G + 132)), (1, .int x1), (2, .int x2)] [] := by
  refine L_iload_n C (i := 2) dX12_laysPolynomial_0 rfl rfl ?_
  refine L_istore_n C (i := 3) dX12_laysPolynomial_1 rfl (Nat.le_of_ble_eq_true rfl) ?_
  refine L_aload_n C (i := 0) dX12_laysPolynomial_2 rfl rfl ?_
  refine L_getC C (c' := 135) dX12_laysPolynomial_3 sh_132 fl_X12_16 rfl rfl ?_
  refine L_iconst C (v := 1) dX12_laysPolynomial_6 rfl ?_
  refine L_iald C dX12_laysPolynomial_7 sh_135 (by unfold vp_in; decide) ?_
  refine L_iconst C (v := 1) dX12_laysPolynomial_8 rfl ?_
  refine L_isub C dX12_laysPolynomial_9 ?_
  refine L_istore C dX12_laysPolynomial_10 (Nat.le_of_ble_eq_true rfl) ?_
  refine L_sub [0, 1, 3, 4] rfl ?_
  exact kk1
theorem e_X12_laysPolynomial {G : mG} {Q : mM → Prop} {μ : mM} {x1 : Int32} {x2 : Int32} (k : ∀ E, Cx G mX12_laysPolynomial E → Wm G mX12_laysPolynomial E (bm G mX12_laysPolynomial E (pV Q)) μ 0 [(0, .ref (gb G + 132)), (1, .int x1), (2, .int x2)] []) : CtV G mX12_laysPolynomial [.ref (gb G + 132), .int x1, .int x2] μ Q := CtV.of pn_X12 (Nat.le_of_ble_eq_true rfl) k
set_option maxRecDepth 4000 in
theorem k_X12_laysPolynomial_12 {G : mG} {E : mE} {B : mB} {μ : mM} (C : Cx G mX12_laysPolynomial E) {x1 : Int32} {x3 : Int32} {x4 : Int32} (kk1 : x4 < 0 → Wm G mX12_laysPolynomial E B μ 40 [(0, .ref (gb G + 132)), (1, .int x1), (4, .int 0)] []) (dd2 : ¬ x4 < 0 → ¬ x1 = 0) (ss3 : ¬ x4 < 0 → vp_in x4 3) (kk4 : ¬ x4 < 0 → Wm G mX12_laysPolynomial E B (ms μ 147 x4.toNatClampNeg (x3 - x3 / x1 * x1)) 12 [(0, .ref (gb G + 132)), (1, .int x1), (3, .int (x3 / x1)), (4, .int (x4 + ((-1) : Int32)))] []) : Wm G mX12_laysPolynomial E B μ 12 [(0, .ref (gb G + 132)), (1, .int x1), (3, .int x3), (4, .int x4)] [] := by
  refine L_iload C dX12_laysPolynomial_12 rfl ?_
  refine L_if_lt C (tgt := 37) dX12_laysPolynomial_14 rfl (fun p1 => ?_) (fun p1 => ?_)
  · refine L_iconst C (v := 0) dX12_laysPolynomial_37 rfl ?_
    refine L_istore C dX12_laysPolynomial_38 (Nat.le_of_ble_eq_true rfl) ?_
    refine L_sub [0, 1, 3] rfl ?_
    exact kk1 p1
  · refine L_aload_n C (i := 0) dX12_laysPolynomial_17 rfl rfl ?_
    refine L_getC C (c' := 147) dX12_laysPolynomial_18 sh_132 fl_X12_54 rfl rfl ?_
    refine L_iload C dX12_laysPolynomial_21 rfl ?_
    refine L_iload_n C (i := 3) dX12_laysPolynomial_23 rfl rfl ?_
    refine L_iload_n C (i := 1) dX12_laysPolynomial_24 rfl rfl ?_
    refine L_irem C dX12_laysPolynomial_25 (dd2 p1) ?_
    refine L_iast C dX12_laysPolynomial_26 sh_147 (ss3 p1) ?_
    refine L_iload_n C (i := 3) dX12_laysPolynomial_27 rfl rfl ?_
    refine L_iload_n C (i := 1) dX12_laysPolynomial_28 rfl rfl ?_
    refine L_idiv C dX12_laysPolynomial_29 (dd2 p1) ?_
    refine L_istore_n C (i := 3) dX12_laysPolynomial_30 rfl (Nat.le_of_ble_eq_true rfl) ?_
    refine L_iinc C (v := (-1)) dX12_laysPolynomial_31 rfl rfl (Nat.le_of_ble_eq_true rfl) ?_
    refine L_goto C (tgt := 12) dX12_laysPolynomial_34 rfl ?_
    exact kk4 p1
set_option maxRecDepth 4000 in
theorem k_X12_laysPolynomial_40 {G : mG} {E : mE} {Q : mM → Prop} {μ : mM} (C : Cx G mX12_laysPolynomial E) {x1 : Int32} {x4 : Int32} (rr1 : (μ 135 0) ≤ x4 → Q μ) (cc2 : ¬ (μ 135 0) ≤ x4 → CtI G mX12_valueAt [.ref (gb G + 132), .int x1, .int x4] μ (fun r μ' => Wm G mX12_laysPolynomial E (bm G mX12_laysPolynomial E (pV Q)) μ' 58 [(0, .ref (gb G + 132)), (1, .int x1), (4, .int x4)] [.int r])) : Wm G mX12_laysPolynomial E (bm G mX12_laysPolynomial E (pV Q)) μ 40 [(0, .ref (gb G + 132)), (1, .int x1), (4, .int x4)] [] := by
  refine L_iload C dX12_laysPolynomial_40 rfl ?_
  refine L_aload_n C (i := 0) dX12_laysPolynomial_42 rfl rfl ?_
  refine L_getC C (c' := 135) dX12_laysPolynomial_43 sh_132 fl_X12_16 rfl rfl ?_
  refine L_iconst C (v := 0) dX12_laysPolynomial_46 rfl ?_
  refine L_iald C dX12_laysPolynomial_47 sh_135 (by unfold vp_in; decide) ?_
  refine L_icmp_ge C (tgt := 93) dX12_laysPolynomial_48 rfl (fun p1 => ?_) (fun p1 => ?_)
  · exact L_irV C dX12_laysPolynomial_93 rfl (rr1 p1)
  · refine L_aload_n C (i := 0) dX12_laysPolynomial_51 rfl rfl ?_
    refine L_iload_n C (i := 1) dX12_laysPolynomial_52 rfl rfl ?_
    refine L_iload C dX12_laysPolynomial_53 rfl ?_
    refine L_invV2i C dX12_laysPolynomial_55 sh_132 cal_X12_valueAt lk_X12_280 ⟨Nat.le_of_ble_eq_true rfl, Nat.le_of_ble_eq_true rfl⟩ ⟨Nat.le_of_ble_eq_true rfl, Nat.le_of_ble_eq_true rfl⟩ (Nat.le_of_ble_eq_true rfl) ?_
    exact cc2 p1
set_option maxRecDepth 4000 in
theorem k_X12_laysPolynomial_58 {G : mG} {E : mE} {B : mB} {μ : mM} (C : Cx G mX12_laysPolynomial E) {x1 : Int32} {x4 : Int32} {sx0 : Int32} (ss1 : vp_in ((5 : Int32) + x4) 673) (ss2 : ∀ v1 : Int32, (((μ 135 ((5 : Int32) + x4).toNatClampNeg) ≤ sx0 ∧ v1 = (-1)) ∨ (¬ (μ 135 ((5 : Int32) + x4).toNatClampNeg) ≤ sx0 ∧ v1 = sx0)) → vp_in x4 8) (kk3 : ∀ v1 : Int32, (((μ 135 ((5 : Int32) + x4).toNatClampNeg) ≤ sx0 ∧ v1 = (-1)) ∨ (¬ (μ 135 ((5 : Int32) + x4).toNatClampNeg) ≤ sx0 ∧ v1 = sx0)) → Wm G mX12_laysPolynomial E B (ms μ 145 x4.toNatClampNeg v1) 40 [(0, .ref (gb G + 132)), (1, .int x1), (4, .int (x4 + (1 : Int32)))] []) : Wm G mX12_laysPolynomial E B μ 58 [(0, .ref (gb G + 132)), (1, .int x1), (4, .int x4)] [.int sx0] := by
  refine L_istore C dX12_laysPolynomial_58 (Nat.le_of_ble_eq_true rfl) ?_
  refine L_aload_n C (i := 0) dX12_laysPolynomial_60 rfl rfl ?_
  refine L_getC C (c' := 145) dX12_laysPolynomial_61 sh_132 fl_X12_48 rfl rfl ?_
  refine L_iload C dX12_laysPolynomial_64 rfl ?_
  refine L_iload C dX12_laysPolynomial_66 rfl ?_
  refine L_aload_n C (i := 0) dX12_laysPolynomial_68 rfl rfl ?_
  refine L_getC C (c' := 135) dX12_laysPolynomial_69 sh_132 fl_X12_16 rfl rfl ?_
  refine L_iconst C (v := 5) dX12_laysPolynomial_72 rfl ?_
  refine L_iload C dX12_laysPolynomial_73 rfl ?_
  refine L_iadd C dX12_laysPolynomial_75 ?_
  refine L_iald C dX12_laysPolynomial_76 sh_135 (ss1) ?_
  refine phi (fun v1 : Int32 => Wm G mX12_laysPolynomial E B μ 86 [(0, .ref (gb G + 132)), (1, .int x1), (4, .int x4)] [.int v1, .int x4, .ref (gb G + 145)]) (fun v1 : Int32 => ((μ 135 ((5 : Int32) + x4).toNatClampNeg) ≤ sx0 ∧ v1 = (-1)) ∨ (¬ (μ 135 ((5 : Int32) + x4).toNatClampNeg) ≤ sx0 ∧ v1 = sx0)) (fun H => ?_) (fun v1 hv1 => ?_)
  · refine L_icmp_ge C (tgt := 85) dX12_laysPolynomial_77 rfl (fun p1 => ?_) (fun p1 => ?_)
    · refine L_iconst C (v := (-1)) dX12_laysPolynomial_85 rfl ?_
      refine L_sub [0, 1, 2] rfl ?_
      exact H _ (Or.inl ⟨p1, rfl⟩)
    · refine L_iload C dX12_laysPolynomial_80 rfl ?_
      refine L_goto C (tgt := 86) dX12_laysPolynomial_82 rfl ?_
      refine L_sub [0, 1, 2] rfl ?_
      exact H _ (Or.inr ⟨p1, rfl⟩)
  refine L_iast C dX12_laysPolynomial_86 sh_145 (ss2 v1 hv1) ?_
  refine L_iinc C (v := 1) dX12_laysPolynomial_87 rfl rfl (Nat.le_of_ble_eq_true rfl) ?_
  refine L_goto C (tgt := 40) dX12_laysPolynomial_90 rfl ?_
  exact kk3 v1 hv1
set_option maxRecDepth 4000 in
theorem k_X12_power_0 {G : mG} {E : mE} {B : mB} {μ : mM} (C : Cx G mX12_power E) {x0 : Int32} {x1 : Int32} (kk1 : Wm G mX12_power E B μ 4 [(0, .int x0), (1, .int x1), (2, .int 1), (3, .int 0)] []) : Wm G mX12_power E B μ 0 [(0, .int x0), (1, .int x1)] [] := by
  refine L_iconst C (v := 1) dX12_power_0 rfl ?_
  refine L_istore_n C (i := 2) dX12_power_1 rfl (Nat.le_of_ble_eq_true rfl) ?_
  refine L_iconst C (v := 0) dX12_power_2 rfl ?_
  refine L_istore_n C (i := 3) dX12_power_3 rfl (Nat.le_of_ble_eq_true rfl) ?_
  exact kk1
theorem e_X12_power {G : mG} {Q : Int32 → mM → Prop} {μ : mM} {x0 : Int32} {x1 : Int32} (k : ∀ E, Cx G mX12_power E → Wm G mX12_power E (bm G mX12_power E (pI Q)) μ 0 [(0, .int x0), (1, .int x1)] []) : CtI G mX12_power [.int x0, .int x1] μ Q := CtI.of pn_X12 (Nat.le_of_ble_eq_true rfl) k
set_option maxRecDepth 4000 in
theorem k_X12_power_4 {G : mG} {E : mE} {Q : Int32 → mM → Prop} {μ : mM} (C : Cx G mX12_power E) {x0 : Int32} {x1 : Int32} {x2 : Int32} {x3 : Int32} (rr1 : x1 ≤ x3 → Q x2 μ) (kk2 : ¬ x1 ≤ x3 → Wm G mX12_power E (bm G mX12_power E (pI Q)) μ 4 [(0, .int x0), (1, .int x1), (2, .int (x2 * x0)), (3, .int (x3 + (1 : Int32)))] []) : Wm G mX12_power E (bm G mX12_power E (pI Q)) μ 4 [(0, .int x0), (1, .int x1), (2, .int x2), (3, .int x3)] [] := by
  refine L_iload_n C (i := 3) dX12_power_4 rfl rfl ?_
  refine L_iload_n C (i := 1) dX12_power_5 rfl rfl ?_
  refine L_icmp_ge C (tgt := 19) dX12_power_6 rfl (fun p1 => ?_) (fun p1 => ?_)
  · refine L_iload_n C (i := 2) dX12_power_19 rfl rfl ?_
    exact L_irI C dX12_power_20 rfl (rr1 p1)
  · refine L_iload_n C (i := 2) dX12_power_9 rfl rfl ?_
    refine L_iload_n C (i := 0) dX12_power_10 rfl rfl ?_
    refine L_imul C dX12_power_11 ?_
    refine L_istore_n C (i := 2) dX12_power_12 rfl (Nat.le_of_ble_eq_true rfl) ?_
    refine L_iinc C (v := 1) dX12_power_13 rfl rfl (Nat.le_of_ble_eq_true rfl) ?_
    refine L_goto C (tgt := 4) dX12_power_16 rfl ?_
    exact kk2 p1
set_option maxRecDepth 4000 in
theorem k_X12_field_0 {G : mG} {E : mE} {Q : Int32 → mM → Prop} {μ : mM} (C : Cx G mX12_field E)  (rr1 : (μ 135 0) ≤ 0 → Q (-1) μ) (cc2 : ¬ (μ 135 0) ≤ 0 → CtI G mX12_fieldFor [.ref (gb G + 132)] μ (fun r μ' => Wm G mX12_field E (bm G mX12_field E (pI Q)) μ' 13 [(0, .ref (gb G + 132))] [.int r])) : Wm G mX12_field E (bm G mX12_field E (pI Q)) μ 0 [(0, .ref (gb G + 132))] [] := by
  refine L_aload_n C (i := 0) dX12_field_0 rfl rfl ?_
  refine L_invV0i C dX12_field_1 sh_132 cal_X12_isPlan lk_X12_212 ⟨Nat.le_of_ble_eq_true rfl, Nat.le_of_ble_eq_true rfl⟩ ⟨Nat.le_of_ble_eq_true rfl, Nat.le_of_ble_eq_true rfl⟩ (Nat.le_of_ble_eq_true rfl) (a_X12_isPlan (fun p1 => ?_) (fun p2 => ?_))
  · refine L_if_ne C (tgt := 9) dX12_field_4 rfl (fun p3 => absurd p3 (by decide)) (fun p3 => ?_)
    refine L_iconst C (v := (-1)) dX12_field_7 rfl ?_
    exact L_irI C dX12_field_8 rfl (rr1 p1)
  · refine L_if_ne C (tgt := 9) dX12_field_4 rfl (fun p4 => ?_) (fun p4 => absurd p4 (by decide))
    refine L_aload_n C (i := 0) dX12_field_9 rfl rfl ?_
    refine L_invV0i C dX12_field_10 sh_132 cal_X12_fieldFor lk_X12_283 ⟨Nat.le_of_ble_eq_true rfl, Nat.le_of_ble_eq_true rfl⟩ ⟨Nat.le_of_ble_eq_true rfl, Nat.le_of_ble_eq_true rfl⟩ (Nat.le_of_ble_eq_true rfl) ?_
    exact cc2 p2
theorem e_X12_field {G : mG} {Q : Int32 → mM → Prop} {μ : mM}  (k : ∀ E, Cx G mX12_field E → Wm G mX12_field E (bm G mX12_field E (pI Q)) μ 0 [(0, .ref (gb G + 132))] []) : CtI G mX12_field [.ref (gb G + 132)] μ Q := CtI.of pn_X12 (Nat.le_of_ble_eq_true rfl) k
set_option maxRecDepth 4000 in
theorem k_X12_field_13 {G : mG} {E : mE} {Q : Int32 → mM → Prop} {μ : mM} (C : Cx G mX12_field E) {sx0 : Int32} (rr1 : sx0 < 0 → Q (-2) μ) (cc2 : ¬ sx0 < 0 → CtI G mX12_power [.int sx0, .int (μ 135 1)] μ (fun r μ' => Wm G mX12_field E (bm G mX12_field E (pI Q)) μ' 28 [(0, .ref (gb G + 132)), (1, .int sx0)] [.int r])) : Wm G mX12_field E (bm G mX12_field E (pI Q)) μ 13 [(0, .ref (gb G + 132))] [.int sx0] := by
  refine L_istore_n C (i := 1) dX12_field_13 rfl (Nat.le_of_ble_eq_true rfl) ?_
  refine L_iload_n C (i := 1) dX12_field_14 rfl rfl ?_
  refine L_if_lt C (tgt := 33) dX12_field_15 rfl (fun p1 => ?_) (fun p1 => ?_)
  · refine L_bipush C (v := (-2)) dX12_field_33 rfl ?_
    exact L_irI C dX12_field_35 rfl (rr1 p1)
  · refine L_iload_n C (i := 1) dX12_field_18 rfl rfl ?_
    refine L_aload_n C (i := 0) dX12_field_19 rfl rfl ?_
    refine L_getC C (c' := 135) dX12_field_20 sh_132 fl_X12_16 rfl rfl ?_
    refine L_iconst C (v := 1) dX12_field_23 rfl ?_
    refine L_iald C dX12_field_24 sh_135 (by unfold vp_in; decide) ?_
    refine L_invS2i C dX12_field_25 cal_X12_power stc_X12_power lk_X12_286 ⟨Nat.le_of_ble_eq_true rfl, Nat.le_of_ble_eq_true rfl⟩ ⟨Nat.le_of_ble_eq_true rfl, Nat.le_of_ble_eq_true rfl⟩ (Nat.le_of_ble_eq_true rfl) ?_
    exact cc2 p1
set_option maxRecDepth 4000 in
theorem k_X12_field_28 {G : mG} {E : mE} {Q : Int32 → mM → Prop} {μ : mM} (C : Cx G mX12_field E) {x1 : Int32} {sx0 : Int32} (cc1 : sx0 ≤ 64 → CtI G mX12_power [.int x1, .int (μ 135 1)] μ (fun r μ' => Wm G mX12_field E (bm G mX12_field E (pI Q)) μ' 46 [(0, .ref (gb G + 132)), (1, .int x1)] [.int r])) (rr2 : ¬ sx0 ≤ 64 → Q (-2) μ) : Wm G mX12_field E (bm G mX12_field E (pI Q)) μ 28 [(0, .ref (gb G + 132)), (1, .int x1)] [.int sx0] := by
  refine L_bipush C (v := 64) dX12_field_28 rfl ?_
  refine L_icmp_le C (tgt := 36) dX12_field_30 rfl (fun p1 => ?_) (fun p1 => ?_)
  · refine L_iload_n C (i := 1) dX12_field_36 rfl rfl ?_
    refine L_aload_n C (i := 0) dX12_field_37 rfl rfl ?_
    refine L_getC C (c' := 135) dX12_field_38 sh_132 fl_X12_16 rfl rfl ?_
    refine L_iconst C (v := 1) dX12_field_41 rfl ?_
    refine L_iald C dX12_field_42 sh_135 (by unfold vp_in; decide) ?_
    refine L_invS2i C dX12_field_43 cal_X12_power stc_X12_power lk_X12_286 ⟨Nat.le_of_ble_eq_true rfl, Nat.le_of_ble_eq_true rfl⟩ ⟨Nat.le_of_ble_eq_true rfl, Nat.le_of_ble_eq_true rfl⟩ (Nat.le_of_ble_eq_true rfl) ?_
    exact cc1 p1
  · refine L_bipush C (v := (-2)) dX12_field_33 rfl ?_
    exact L_irI C dX12_field_35 rfl (rr2 p1)
set_option maxRecDepth 4000 in
theorem k_X12_field_46 {G : mG} {E : mE} {B : mB} {μ : mM} (C : Cx G mX12_field E) {x1 : Int32} {sx0 : Int32} (kk1 : Wm G mX12_field E B μ 49 [(0, .ref (gb G + 132)), (1, .int x1), (2, .int sx0), (3, .int 0)] []) : Wm G mX12_field E B μ 46 [(0, .ref (gb G + 132)), (1, .int x1)] [.int sx0] := by
  refine L_istore_n C (i := 2) dX12_field_46 rfl (Nat.le_of_ble_eq_true rfl) ?_
  refine L_iconst C (v := 0) dX12_field_47 rfl ?_
  refine L_istore_n C (i := 3) dX12_field_48 rfl (Nat.le_of_ble_eq_true rfl) ?_
  exact kk1
set_option maxRecDepth 4000 in
theorem k_X12_field_49 {G : mG} {E : mE} {Q : Int32 → mM → Prop} {μ : mM} (C : Cx G mX12_field E) {x1 : Int32} {x2 : Int32} {x3 : Int32} (cc1 : x2 ≤ x3 → CtV G mX12_keepsAct [.ref (gb G + 132)] μ (fun μ' => Wm G mX12_field E (bm G mX12_field E (pI Q)) μ' 88 [(0, .ref (gb G + 132)), (1, .int x1), (2, .int x2)] [])) (cc2 : ¬ x2 ≤ x3 → CtV G mX12_laysPolynomial [.ref (gb G + 132), .int x1, .int x3] μ (fun μ' => Wm G mX12_field E (bm G mX12_field E (pI Q)) μ' 60 [(0, .ref (gb G + 132)), (1, .int x1), (2, .int x2), (3, .int x3)] [])) : Wm G mX12_field E (bm G mX12_field E (pI Q)) μ 49 [(0, .ref (gb G + 132)), (1, .int x1), (2, .int x2), (3, .int x3)] [] := by
  refine L_iload_n C (i := 3) dX12_field_49 rfl rfl ?_
  refine L_iload_n C (i := 2) dX12_field_50 rfl rfl ?_
  refine L_icmp_ge C (tgt := 84) dX12_field_51 rfl (fun p1 => ?_) (fun p1 => ?_)
  · refine L_aload_n C (i := 0) dX12_field_84 rfl rfl ?_
    refine L_sub [0, 1, 2] rfl ?_
    refine L_invV0v C dX12_field_85 sh_132 cal_X12_keepsAct lk_X12_230 ⟨Nat.le_of_ble_eq_true rfl, Nat.le_of_ble_eq_true rfl⟩ ⟨Nat.le_of_ble_eq_true rfl, Nat.le_of_ble_eq_true rfl⟩ (Nat.le_of_ble_eq_true rfl) ?_
    exact cc1 p1
  · refine L_aload_n C (i := 0) dX12_field_54 rfl rfl ?_
    refine L_iload_n C (i := 1) dX12_field_55 rfl rfl ?_
    refine L_iload_n C (i := 3) dX12_field_56 rfl rfl ?_
    refine L_invV2v C dX12_field_57 sh_132 cal_X12_laysPolynomial lk_X12_289 ⟨Nat.le_of_ble_eq_true rfl, Nat.le_of_ble_eq_true rfl⟩ ⟨Nat.le_of_ble_eq_true rfl, Nat.le_of_ble_eq_true rfl⟩ (Nat.le_of_ble_eq_true rfl) ?_
    exact cc2 p1
set_option maxRecDepth 4000 in
theorem k_X12_field_60 {G : mG} {E : mE} {Q : Int32 → mM → Prop} {μ : mM} (C : Cx G mX12_field E) {x1 : Int32} {x2 : Int32} {x3 : Int32} (cc1 : CtV G mX12_probes [.ref (gb G + 132), .ref (gb G + 145)] μ (fun μ' => Wm G mX12_field E (bm G mX12_field E (pI Q)) μ' 68 [(0, .ref (gb G + 132)), (1, .int x1), (2, .int x2), (3, .int x3)] [])) : Wm G mX12_field E (bm G mX12_field E (pI Q)) μ 60 [(0, .ref (gb G + 132)), (1, .int x1), (2, .int x2), (3, .int x3)] [] := by
  refine L_aload_n C (i := 0) dX12_field_60 rfl rfl ?_
  refine L_aload_n C (i := 0) dX12_field_61 rfl rfl ?_
  refine L_getC C (c' := 145) dX12_field_62 sh_132 fl_X12_48 rfl rfl ?_
  refine L_invV1v C dX12_field_65 sh_132 cal_X12_probes lk_X12_226 ⟨Nat.le_of_ble_eq_true rfl, Nat.le_of_ble_eq_true rfl⟩ ⟨Nat.le_of_ble_eq_true rfl, Nat.le_of_ble_eq_true rfl⟩ (Nat.le_of_ble_eq_true rfl) ?_
  exact cc1
set_option maxRecDepth 4000 in
theorem k_X12_field_68 {G : mG} {E : mE} {Q : Int32 → mM → Prop} {μ : mM} (C : Cx G mX12_field E) {x1 : Int32} {x2 : Int32} {x3 : Int32} (cc1 : CtI G mX12_canProbe [.ref (gb G + 132)] μ (fun r μ' => Wm G mX12_field E (bm G mX12_field E (pI Q)) μ' 72 [(0, .ref (gb G + 132)), (1, .int x1), (2, .int x2), (3, .int x3)] [.int r])) : Wm G mX12_field E (bm G mX12_field E (pI Q)) μ 68 [(0, .ref (gb G + 132)), (1, .int x1), (2, .int x2), (3, .int x3)] [] := by
  refine L_aload_n C (i := 0) dX12_field_68 rfl rfl ?_
  refine L_invV0i C dX12_field_69 sh_132 cal_X12_canProbe lk_X12_162 ⟨Nat.le_of_ble_eq_true rfl, Nat.le_of_ble_eq_true rfl⟩ ⟨Nat.le_of_ble_eq_true rfl, Nat.le_of_ble_eq_true rfl⟩ (Nat.le_of_ble_eq_true rfl) ?_
  exact cc1
set_option maxRecDepth 4000 in
theorem k_X12_field_72 {G : mG} {E : mE} {Q : Int32 → mM → Prop} {μ : mM} (C : Cx G mX12_field E) {x1 : Int32} {x2 : Int32} {x3 : Int32} {sx0 : Int32} (kk1 : ¬ sx0 = 0 → Wm G mX12_field E (bm G mX12_field E (pI Q)) μ 49 [(0, .ref (gb G + 132)), (1, .int x1), (2, .int x2), (3, .int (x3 + (1 : Int32)))] []) (rr2 : sx0 = 0 → Q (-2) μ) : Wm G mX12_field E (bm G mX12_field E (pI Q)) μ 72 [(0, .ref (gb G + 132)), (1, .int x1), (2, .int x2), (3, .int x3)] [.int sx0] := by
  refine L_if_ne C (tgt := 78) dX12_field_72 rfl (fun p1 => ?_) (fun p1 => ?_)
  · refine L_iinc C (v := 1) dX12_field_78 rfl rfl (Nat.le_of_ble_eq_true rfl) ?_
    refine L_goto C (tgt := 49) dX12_field_81 rfl ?_
    exact kk1 p1
  · refine L_bipush C (v := (-2)) dX12_field_75 rfl ?_
    exact L_irI C dX12_field_77 rfl (rr2 p1)
set_option maxRecDepth 4000 in
theorem k_X12_field_88 {G : mG} {E : mE} {B : mB} {μ : mM} (C : Cx G mX12_field E) {x1 : Int32} {x2 : Int32} (kk1 : Wm G mX12_field E B (ms μ 135 3 0) 97 [(0, .ref (gb G + 132)), (1, .int x1), (2, .int x2), (3, .int 0)] []) : Wm G mX12_field E B μ 88 [(0, .ref (gb G + 132)), (1, .int x1), (2, .int x2)] [] := by
  refine L_aload_n C (i := 0) dX12_field_88 rfl rfl ?_
  refine L_getC C (c' := 135) dX12_field_89 sh_132 fl_X12_16 rfl rfl ?_
  refine L_iconst C (v := 3) dX12_field_92 rfl ?_
  refine L_iconst C (v := 0) dX12_field_93 rfl ?_
  refine L_iast C dX12_field_94 sh_135 (by unfold vp_in; decide) ?_
  refine L_iconst C (v := 0) dX12_field_95 rfl ?_
  refine L_istore_n C (i := 3) dX12_field_96 rfl (Nat.le_of_ble_eq_true rfl) ?_
  exact kk1
set_option maxRecDepth 4000 in
theorem k_X12_field_97 {G : mG} {E : mE} {Q : Int32 → mM → Prop} {μ : mM} (C : Cx G mX12_field E) {x1 : Int32} {x2 : Int32} {x3 : Int32} (rr1 : x2 ≤ x3 → Q x1 μ) (cc2 : ¬ x2 ≤ x3 → CtV G mX12_laysPolynomial [.ref (gb G + 132), .int x1, .int x3] μ (fun μ' => Wm G mX12_field E (bm G mX12_field E (pI Q)) μ' 108 [(0, .ref (gb G + 132)), (1, .int x1), (2, .int x2), (3, .int x3)] [])) : Wm G mX12_field E (bm G mX12_field E (pI Q)) μ 97 [(0, .ref (gb G + 132)), (1, .int x1), (2, .int x2), (3, .int x3)] [] := by
  refine L_iload_n C (i := 3) dX12_field_97 rfl rfl ?_
  refine L_iload_n C (i := 2) dX12_field_98 rfl rfl ?_
  refine L_icmp_ge C (tgt := 122) dX12_field_99 rfl (fun p1 => ?_) (fun p1 => ?_)
  · refine L_iload_n C (i := 1) dX12_field_122 rfl rfl ?_
    exact L_irI C dX12_field_123 rfl (rr1 p1)
  · refine L_aload_n C (i := 0) dX12_field_102 rfl rfl ?_
    refine L_iload_n C (i := 1) dX12_field_103 rfl rfl ?_
    refine L_iload_n C (i := 3) dX12_field_104 rfl rfl ?_
    refine L_invV2v C dX12_field_105 sh_132 cal_X12_laysPolynomial lk_X12_289 ⟨Nat.le_of_ble_eq_true rfl, Nat.le_of_ble_eq_true rfl⟩ ⟨Nat.le_of_ble_eq_true rfl, Nat.le_of_ble_eq_true rfl⟩ (Nat.le_of_ble_eq_true rfl) ?_
    exact cc2 p1
set_option maxRecDepth 4000 in
theorem k_X12_field_108 {G : mG} {E : mE} {Q : Int32 → mM → Prop} {μ : mM} (C : Cx G mX12_field E) {x1 : Int32} {x2 : Int32} {x3 : Int32} (cc1 : CtV G mX12_comes [.ref (gb G + 132), .ref (gb G + 145)] μ (fun μ' => Wm G mX12_field E (bm G mX12_field E (pI Q)) μ' 116 [(0, .ref (gb G + 132)), (1, .int x1), (2, .int x2), (3, .int x3)] [])) : Wm G mX12_field E (bm G mX12_field E (pI Q)) μ 108 [(0, .ref (gb G + 132)), (1, .int x1), (2, .int x2), (3, .int x3)] [] := by
  refine L_aload_n C (i := 0) dX12_field_108 rfl rfl ?_
  refine L_aload_n C (i := 0) dX12_field_109 rfl rfl ?_
  refine L_getC C (c' := 145) dX12_field_110 sh_132 fl_X12_48 rfl rfl ?_
  refine L_invV1v C dX12_field_113 sh_132 cal_X12_comes lk_X12_233 ⟨Nat.le_of_ble_eq_true rfl, Nat.le_of_ble_eq_true rfl⟩ ⟨Nat.le_of_ble_eq_true rfl, Nat.le_of_ble_eq_true rfl⟩ (Nat.le_of_ble_eq_true rfl) ?_
  exact cc1
set_option maxRecDepth 4000 in
theorem k_X12_field_116 {G : mG} {E : mE} {B : mB} {μ : mM} (C : Cx G mX12_field E) {x1 : Int32} {x2 : Int32} {x3 : Int32} (kk1 : Wm G mX12_field E B μ 97 [(0, .ref (gb G + 132)), (1, .int x1), (2, .int x2), (3, .int (x3 + (1 : Int32)))] []) : Wm G mX12_field E B μ 116 [(0, .ref (gb G + 132)), (1, .int x1), (2, .int x2), (3, .int x3)] [] := by
  refine L_iinc C (v := 1) dX12_field_116 rfl rfl (Nat.le_of_ble_eq_true rfl) ?_
  refine L_goto C (tgt := 97) dX12_field_119 rfl ?_
  exact kk1
set_option maxRecDepth 4000 in
theorem k_X12_widen_0 {G : mG} {E : mE} {Q : Int32 → mM → Prop} {μ : mM} (C : Cx G mX12_widen E) {x1 : Int32} (rr1 : ((μ 135 0) ≤ 0 ∨ (¬ (μ 135 0) ≤ 0 ∧ (((lg_cmp x1.toInt64 2) < 0 ∨ (¬ (lg_cmp x1.toInt64 2) < 0 ∧ 0 < (lg_cmp x1.toInt64 4))) ∨ (¬ (lg_cmp x1.toInt64 2) < 0 ∧ ¬ 0 < (lg_cmp x1.toInt64 4) ∧ (μ 135 0) = 8)))) → Q (-1) μ) (ss2 : ¬ (μ 135 0) ≤ 0 → ¬ (lg_cmp x1.toInt64 2) < 0 → ¬ 0 < (lg_cmp x1.toInt64 4) → ¬ (μ 135 0) = 8 → vp_in ((5 : Int32) + (μ 135 0)) 673) (cc3 : ¬ (μ 135 0) ≤ 0 → ¬ (lg_cmp x1.toInt64 2) < 0 → ¬ 0 < (lg_cmp x1.toInt64 4) → ¬ (μ 135 0) = 8 → CtI G mX12_mixMany [.ref (gb G + 132)] (ms (ms μ 135 ((5 : Int32) + (μ 135 0)).toNatClampNeg x1) 135 0 (((ms μ 135 ((5 : Int32) + (μ 135 0)).toNatClampNeg x1) 135 0) + (1 : Int32))) (fun r μ' => Wm G mX12_widen E (bm G mX12_widen E (pI Q)) μ' 62 [(0, .ref (gb G + 132)), (1, .int x1)] [.int r])) : Wm G mX12_widen E (bm G mX12_widen E (pI Q)) μ 0 [(0, .ref (gb G + 132)), (1, .int x1)] [] := by
  refine L_aload_n C (i := 0) dX12_widen_0 rfl rfl ?_
  refine L_invV0i C dX12_widen_1 sh_132 cal_X12_isPlan lk_X12_212 ⟨Nat.le_of_ble_eq_true rfl, Nat.le_of_ble_eq_true rfl⟩ ⟨Nat.le_of_ble_eq_true rfl, Nat.le_of_ble_eq_true rfl⟩ (Nat.le_of_ble_eq_true rfl) (a_X12_isPlan (fun p1 => ?_) (fun p2 => ?_))
  · refine L_if_eq C (tgt := 32) dX12_widen_4 rfl (fun p3 => ?_) (fun p3 => absurd p3 (by decide))
    refine L_iconst C (v := (-1)) dX12_widen_32 rfl ?_
    exact L_irI C dX12_widen_33 rfl (rr1 (Or.inl p1))
  · refine L_if_eq C (tgt := 32) dX12_widen_4 rfl (fun p4 => absurd p4 (by decide)) (fun p4 => ?_)
    refine L_iload_n C (i := 1) dX12_widen_7 rfl rfl ?_
    refine L_i2l C dX12_widen_8 ?_
    refine L_ldc2 C dX12_widen_9 cn_X12_123 ?_
    refine L_ldc2 C dX12_widen_12 cn_X12_125 ?_
    refine L_invS3i C dX12_widen_15 cal_X12_isIn stc_X12_isIn lk_X12_73 ⟨Nat.le_of_ble_eq_true rfl, Nat.le_of_ble_eq_true rfl⟩ ⟨Nat.le_of_ble_eq_true rfl, Nat.le_of_ble_eq_true rfl⟩ (Nat.le_of_ble_eq_true rfl) (a_X12_isIn (fun p5 => ?_) (fun p6 p7 => ?_))
    · refine L_if_eq C (tgt := 32) dX12_widen_18 rfl (fun p8 => ?_) (fun p8 => absurd p8 (by decide))
      refine L_iconst C (v := (-1)) dX12_widen_32 rfl ?_
      exact L_irI C dX12_widen_33 rfl (rr1 (Or.inr ⟨p2, (Or.inl p5)⟩))
    · refine L_if_eq C (tgt := 32) dX12_widen_18 rfl (fun p9 => absurd p9 (by decide)) (fun p9 => ?_)
      refine L_aload_n C (i := 0) dX12_widen_21 rfl rfl ?_
      refine L_getC C (c' := 135) dX12_widen_22 sh_132 fl_X12_16 rfl rfl ?_
      refine L_iconst C (v := 0) dX12_widen_25 rfl ?_
      refine L_iald C dX12_widen_26 sh_135 (by unfold vp_in; decide) ?_
      refine L_bipush C (v := 8) dX12_widen_27 rfl ?_
      refine L_icmp_ne C (tgt := 34) dX12_widen_29 rfl (fun p10 => ?_) (fun p10 => ?_)
      · refine L_aload_n C (i := 0) dX12_widen_34 rfl rfl ?_
        refine L_getC C (c' := 135) dX12_widen_35 sh_132 fl_X12_16 rfl rfl ?_
        refine L_iconst C (v := 5) dX12_widen_38 rfl ?_
        refine L_aload_n C (i := 0) dX12_widen_39 rfl rfl ?_
        refine L_getC C (c' := 135) dX12_widen_40 sh_132 fl_X12_16 rfl rfl ?_
        refine L_iconst C (v := 0) dX12_widen_43 rfl ?_
        refine L_iald C dX12_widen_44 sh_135 (by unfold vp_in; decide) ?_
        refine L_iadd C dX12_widen_45 ?_
        refine L_iload_n C (i := 1) dX12_widen_46 rfl rfl ?_
        refine L_iast C dX12_widen_47 sh_135 (ss2 p2 p6 p7 p10) ?_
        refine L_aload_n C (i := 0) dX12_widen_48 rfl rfl ?_
        refine L_getC C (c' := 135) dX12_widen_49 sh_132 fl_X12_16 rfl rfl ?_
        refine L_iconst C (v := 0) dX12_widen_52 rfl ?_
        refine L_dup2 C dX12_widen_53 rfl rfl ?_
        refine L_iald C dX12_widen_54 sh_135 (by unfold vp_in; decide) ?_
        refine L_iconst C (v := 1) dX12_widen_55 rfl ?_
        refine L_iadd C dX12_widen_56 ?_
        refine L_iast C dX12_widen_57 sh_135 (by unfold vp_in; decide) ?_
        refine L_aload_n C (i := 0) dX12_widen_58 rfl rfl ?_
        refine L_invV0i C dX12_widen_59 sh_132 cal_X12_mixMany lk_X12_156 ⟨Nat.le_of_ble_eq_true rfl, Nat.le_of_ble_eq_true rfl⟩ ⟨Nat.le_of_ble_eq_true rfl, Nat.le_of_ble_eq_true rfl⟩ (Nat.le_of_ble_eq_true rfl) ?_
        exact cc3 p2 p6 p7 p10
      · refine L_iconst C (v := (-1)) dX12_widen_32 rfl ?_
        exact L_irI C dX12_widen_33 rfl (rr1 (Or.inr ⟨p2, (Or.inr ⟨p6, p7, p10⟩)⟩))
theorem e_X12_widen {G : mG} {Q : Int32 → mM → Prop} {μ : mM} {x1 : Int32} (k : ∀ E, Cx G mX12_widen E → Wm G mX12_widen E (bm G mX12_widen E (pI Q)) μ 0 [(0, .ref (gb G + 132)), (1, .int x1)] []) : CtI G mX12_widen [.ref (gb G + 132), .int x1] μ Q := CtI.of pn_X12 (Nat.le_of_ble_eq_true rfl) k
set_option maxRecDepth 4000 in
theorem k_X12_widen_62 {G : mG} {E : mE} {Q : Int32 → mM → Prop} {μ : mM} (C : Cx G mX12_widen E) {x1 : Int32} {sx0 : Int32} (ss1 : ∀ v1 : Int32, ((1200 < sx0 ∧ v1 = 0) ∨ (¬ 1200 < sx0 ∧ v1 = 1)) → vp_in ((5 : Int32) + ((μ 135 0) - (1 : Int32))) 673) (cc2 : ∀ v1 : Int32, ((1200 < sx0 ∧ v1 = 0) ∨ (¬ 1200 < sx0 ∧ v1 = 1)) → ¬ v1 = 0 → CtV G mX12_keepsAct [.ref (gb G + 132)] (ms (ms μ 135 0 ((μ 135 0) - (1 : Int32))) 135 ((5 : Int32) + ((μ 135 0) - (1 : Int32))).toNatClampNeg 0) (fun μ' => Wm G mX12_widen E (bm G mX12_widen E (pI Q)) μ' 122 [(0, .ref (gb G + 132)), (1, .int x1)] [])) (rr3 : ∀ v1 : Int32, ((1200 < sx0 ∧ v1 = 0) ∨ (¬ 1200 < sx0 ∧ v1 = 1)) → v1 = 0 → Q (-1) (ms (ms μ 135 0 ((μ 135 0) - (1 : Int32))) 135 ((5 : Int32) + ((μ 135 0) - (1 : Int32))).toNatClampNeg 0)) : Wm G mX12_widen E (bm G mX12_widen E (pI Q)) μ 62 [(0, .ref (gb G + 132)), (1, .int x1)] [.int sx0] := by
  refine L_sipush C (v := 1200) dX12_widen_62 rfl ?_
  refine phi (fun v1 : Int32 => Wm G mX12_widen E (bm G mX12_widen E (pI Q)) μ 73 [(0, .ref (gb G + 132)), (1, .int x1)] [.int v1]) (fun v1 : Int32 => (1200 < sx0 ∧ v1 = 0) ∨ (¬ 1200 < sx0 ∧ v1 = 1)) (fun H => ?_) (fun v1 hv1 => ?_)
  · refine L_icmp_gt C (tgt := 72) dX12_widen_65 rfl (fun p1 => ?_) (fun p1 => ?_)
    · refine L_iconst C (v := 0) dX12_widen_72 rfl ?_
      exact H _ (Or.inl ⟨p1, rfl⟩)
    · refine L_iconst C (v := 1) dX12_widen_68 rfl ?_
      refine L_goto C (tgt := 73) dX12_widen_69 rfl ?_
      exact H _ (Or.inr ⟨p1, rfl⟩)
  refine L_istore_n C (i := 2) dX12_widen_73 rfl (Nat.le_of_ble_eq_true rfl) ?_
  refine L_aload_n C (i := 0) dX12_widen_74 rfl rfl ?_
  refine L_getC C (c' := 135) dX12_widen_75 sh_132 fl_X12_16 rfl rfl ?_
  refine L_iconst C (v := 0) dX12_widen_78 rfl ?_
  refine L_dup2 C dX12_widen_79 rfl rfl ?_
  refine L_iald C dX12_widen_80 sh_135 (by unfold vp_in; decide) ?_
  refine L_iconst C (v := 1) dX12_widen_81 rfl ?_
  refine L_isub C dX12_widen_82 ?_
  refine L_iast C dX12_widen_83 sh_135 (by unfold vp_in; decide) ?_
  refine L_iload_n C (i := 2) dX12_widen_84 rfl rfl ?_
  refine L_if_ne C (tgt := 104) dX12_widen_85 rfl (fun p2 => ?_) (fun p2 => ?_)
  · refine L_aload_n C (i := 0) dX12_widen_104 rfl rfl ?_
    refine L_getC C (c' := 135) dX12_widen_105 sh_132 fl_X12_16 rfl rfl ?_
    refine L_iconst C (v := 5) dX12_widen_108 rfl ?_
    refine L_aload_n C (i := 0) dX12_widen_109 rfl rfl ?_
    refine L_getC C (c' := 135) dX12_widen_110 sh_132 fl_X12_16 rfl rfl ?_
    refine L_iconst C (v := 0) dX12_widen_113 rfl ?_
    refine L_iald C dX12_widen_114 sh_135 (by unfold vp_in; decide) ?_
    refine L_iadd C dX12_widen_115 ?_
    refine L_iconst C (v := 0) dX12_widen_116 rfl ?_
    refine L_iast C dX12_widen_117 sh_135 (ss1 v1 hv1) ?_
    refine L_aload_n C (i := 0) dX12_widen_118 rfl rfl ?_
    refine L_sub [0, 1] rfl ?_
    refine L_invV0v C dX12_widen_119 sh_132 cal_X12_keepsAct lk_X12_230 ⟨Nat.le_of_ble_eq_true rfl, Nat.le_of_ble_eq_true rfl⟩ ⟨Nat.le_of_ble_eq_true rfl, Nat.le_of_ble_eq_true rfl⟩ (Nat.le_of_ble_eq_true rfl) ?_
    exact cc2 v1 hv1 p2
  · refine L_aload_n C (i := 0) dX12_widen_88 rfl rfl ?_
    refine L_getC C (c' := 135) dX12_widen_89 sh_132 fl_X12_16 rfl rfl ?_
    refine L_iconst C (v := 5) dX12_widen_92 rfl ?_
    refine L_aload_n C (i := 0) dX12_widen_93 rfl rfl ?_
    refine L_getC C (c' := 135) dX12_widen_94 sh_132 fl_X12_16 rfl rfl ?_
    refine L_iconst C (v := 0) dX12_widen_97 rfl ?_
    refine L_iald C dX12_widen_98 sh_135 (by unfold vp_in; decide) ?_
    refine L_iadd C dX12_widen_99 ?_
    refine L_iconst C (v := 0) dX12_widen_100 rfl ?_
    refine L_iast C dX12_widen_101 sh_135 (ss1 v1 hv1) ?_
    refine L_iconst C (v := (-1)) dX12_widen_102 rfl ?_
    exact L_irI C dX12_widen_103 rfl (rr3 v1 hv1 p2)
set_option maxRecDepth 4000 in
theorem k_X12_widen_122 {G : mG} {E : mE} {B : mB} {μ : mM} (C : Cx G mX12_widen E) {x1 : Int32} (ss1 : vp_in ((5 : Int32) + (μ 135 0)) 673) (kk2 : Wm G mX12_widen E B (ms μ 135 ((5 : Int32) + (μ 135 0)).toNatClampNeg x1) 138 [(0, .ref (gb G + 132)), (3, .int 0)] []) : Wm G mX12_widen E B μ 122 [(0, .ref (gb G + 132)), (1, .int x1)] [] := by
  refine L_aload_n C (i := 0) dX12_widen_122 rfl rfl ?_
  refine L_getC C (c' := 135) dX12_widen_123 sh_132 fl_X12_16 rfl rfl ?_
  refine L_iconst C (v := 5) dX12_widen_126 rfl ?_
  refine L_aload_n C (i := 0) dX12_widen_127 rfl rfl ?_
  refine L_getC C (c' := 135) dX12_widen_128 sh_132 fl_X12_16 rfl rfl ?_
  refine L_iconst C (v := 0) dX12_widen_131 rfl ?_
  refine L_iald C dX12_widen_132 sh_135 (by unfold vp_in; decide) ?_
  refine L_iadd C dX12_widen_133 ?_
  refine L_iload_n C (i := 1) dX12_widen_134 rfl rfl ?_
  refine L_iast C dX12_widen_135 sh_135 (ss1) ?_
  refine L_iconst C (v := 0) dX12_widen_136 rfl ?_
  refine L_istore_n C (i := 3) dX12_widen_137 rfl (Nat.le_of_ble_eq_true rfl) ?_
  refine L_sub [0, 2] rfl ?_
  exact kk2
set_option maxRecDepth 4000 in
theorem k_X12_widen_138 {G : mG} {E : mE} {Q : Int32 → mM → Prop} {μ : mM} (C : Cx G mX12_widen E) {x3 : Int32} (cc1 : (μ 135 3) ≤ x3 → CtV G mX12_laysMixes [.ref (gb G + 132)] (ms μ 135 0 ((μ 135 0) + (1 : Int32))) (fun μ' => Wm G mX12_widen E (bm G mX12_widen E (pI Q)) μ' 189 [(0, .ref (gb G + 132))] [])) (ss2 : ¬ (μ 135 3) ≤ x3 → vp_in (((161 : Int32) + ((8 : Int32) * x3)) + (μ 135 0)) 673) (kk3 : ¬ (μ 135 3) ≤ x3 → Wm G mX12_widen E (bm G mX12_widen E (pI Q)) (ms μ 135 (((161 : Int32) + ((8 : Int32) * x3)) + (μ 135 0)).toNatClampNeg (-1)) 138 [(0, .ref (gb G + 132)), (3, .int (x3 + (1 : Int32)))] []) : Wm G mX12_widen E (bm G mX12_widen E (pI Q)) μ 138 [(0, .ref (gb G + 132)), (3, .int x3)] [] := by
  refine L_iload_n C (i := 3) dX12_widen_138 rfl rfl ?_
  refine L_aload_n C (i := 0) dX12_widen_139 rfl rfl ?_
  refine L_getC C (c' := 135) dX12_widen_140 sh_132 fl_X12_16 rfl rfl ?_
  refine L_iconst C (v := 3) dX12_widen_143 rfl ?_
  refine L_iald C dX12_widen_144 sh_135 (by unfold vp_in; decide) ?_
  refine L_icmp_ge C (tgt := 175) dX12_widen_145 rfl (fun p1 => ?_) (fun p1 => ?_)
  · refine L_aload_n C (i := 0) dX12_widen_175 rfl rfl ?_
    refine L_getC C (c' := 135) dX12_widen_176 sh_132 fl_X12_16 rfl rfl ?_
    refine L_iconst C (v := 0) dX12_widen_179 rfl ?_
    refine L_dup2 C dX12_widen_180 rfl rfl ?_
    refine L_iald C dX12_widen_181 sh_135 (by unfold vp_in; decide) ?_
    refine L_iconst C (v := 1) dX12_widen_182 rfl ?_
    refine L_iadd C dX12_widen_183 ?_
    refine L_iast C dX12_widen_184 sh_135 (by unfold vp_in; decide) ?_
    refine L_aload_n C (i := 0) dX12_widen_185 rfl rfl ?_
    refine L_sub [0] rfl ?_
    refine L_invV0v C dX12_widen_186 sh_132 cal_X12_laysMixes lk_X12_159 ⟨Nat.le_of_ble_eq_true rfl, Nat.le_of_ble_eq_true rfl⟩ ⟨Nat.le_of_ble_eq_true rfl, Nat.le_of_ble_eq_true rfl⟩ (Nat.le_of_ble_eq_true rfl) ?_
    exact cc1 p1
  · refine L_aload_n C (i := 0) dX12_widen_148 rfl rfl ?_
    refine L_getC C (c' := 135) dX12_widen_149 sh_132 fl_X12_16 rfl rfl ?_
    refine L_sipush C (v := 161) dX12_widen_152 rfl ?_
    refine L_bipush C (v := 8) dX12_widen_155 rfl ?_
    refine L_iload_n C (i := 3) dX12_widen_157 rfl rfl ?_
    refine L_imul C dX12_widen_158 ?_
    refine L_iadd C dX12_widen_159 ?_
    refine L_aload_n C (i := 0) dX12_widen_160 rfl rfl ?_
    refine L_getC C (c' := 135) dX12_widen_161 sh_132 fl_X12_16 rfl rfl ?_
    refine L_iconst C (v := 0) dX12_widen_164 rfl ?_
    refine L_iald C dX12_widen_165 sh_135 (by unfold vp_in; decide) ?_
    refine L_iadd C dX12_widen_166 ?_
    refine L_iconst C (v := (-1)) dX12_widen_167 rfl ?_
    refine L_iast C dX12_widen_168 sh_135 (ss2 p1) ?_
    refine L_iinc C (v := 1) dX12_widen_169 rfl rfl (Nat.le_of_ble_eq_true rfl) ?_
    refine L_goto C (tgt := 138) dX12_widen_172 rfl ?_
    exact kk3 p1
set_option maxRecDepth 4000 in
theorem k_X12_widen_189 {G : mG} {E : mE} {Q : Int32 → mM → Prop} {μ : mM} (C : Cx G mX12_widen E)  (rr1 : Q (μ 132 13) μ) : Wm G mX12_widen E (bm G mX12_widen E (pI Q)) μ 189 [(0, .ref (gb G + 132))] [] := by
  refine L_aload_n C (i := 0) dX12_widen_189 rfl rfl ?_
  refine L_getI C dX12_widen_190 sh_132 fl_X12_168 rfl ?_
  exact L_irI C dX12_widen_193 rfl (rr1)
set_option maxRecDepth 4000 in
theorem k_X12_moreBy_0 {G : mG} {E : mE} {B : mB} {μ : mM} (C : Cx G mX12_moreBy E) {x1 : Int32} {x2 : Int32} (kk1 : Wm G mX12_moreBy E B μ 5 [(0, .ref (gb G + 132)), (1, .int x1), (2, .int x2), (3, .int 0), (4, .int 0)] []) : Wm G mX12_moreBy E B μ 0 [(0, .ref (gb G + 132)), (1, .int x1), (2, .int x2)] [] := by
  refine L_iconst C (v := 0) dX12_moreBy_0 rfl ?_
  refine L_istore_n C (i := 3) dX12_moreBy_1 rfl (Nat.le_of_ble_eq_true rfl) ?_
  refine L_iconst C (v := 0) dX12_moreBy_2 rfl ?_
  refine L_istore C dX12_moreBy_3 (Nat.le_of_ble_eq_true rfl) ?_
  exact kk1
theorem e_X12_moreBy {G : mG} {Q : Int32 → mM → Prop} {μ : mM} {x1 : Int32} {x2 : Int32} (k : ∀ E, Cx G mX12_moreBy E → Wm G mX12_moreBy E (bm G mX12_moreBy E (pI Q)) μ 0 [(0, .ref (gb G + 132)), (1, .int x1), (2, .int x2)] []) : CtI G mX12_moreBy [.ref (gb G + 132), .int x1, .int x2] μ Q := CtI.of pn_X12 (Nat.le_of_ble_eq_true rfl) k
set_option maxRecDepth 4000 in
theorem k_X12_moreBy_5 {G : mG} {E : mE} {Q : Int32 → mM → Prop} {μ : mM} (C : Cx G mX12_moreBy E) {x1 : Int32} {x2 : Int32} {x3 : Int32} {x4 : Int32} (rr1 : (μ 132 13) ≤ x4 → Q x3 μ) (ss2 : ¬ (μ 132 13) ≤ x4 → vp_in x4 1200) (kk3 : ¬ (μ 132 13) ≤ x4 → (μ 144 x4.toNatClampNeg) = 0 → Wm G mX12_moreBy E (bm G mX12_moreBy E (pI Q)) μ 5 [(0, .ref (gb G + 132)), (1, .int x1), (2, .int x2), (3, .int x3), (4, .int (x4 + (1 : Int32)))] []) (cc4 : ¬ (μ 132 13) ≤ x4 → ¬ (μ 144 x4.toNatClampNeg) = 0 → CtI G mX12_hasMix [.ref (gb G + 132), .int x1, .int x4] μ (fun r μ' => Wm G mX12_moreBy E (bm G mX12_moreBy E (pI Q)) μ' 31 [(0, .ref (gb G + 132)), (1, .int x1), (2, .int x2), (3, .int x3), (4, .int x4)] [.int r])) : Wm G mX12_moreBy E (bm G mX12_moreBy E (pI Q)) μ 5 [(0, .ref (gb G + 132)), (1, .int x1), (2, .int x2), (3, .int x3), (4, .int x4)] [] := by
  refine L_iload C dX12_moreBy_5 rfl ?_
  refine L_aload_n C (i := 0) dX12_moreBy_7 rfl rfl ?_
  refine L_getI C dX12_moreBy_8 sh_132 fl_X12_168 rfl ?_
  refine L_icmp_ge C (tgt := 107) dX12_moreBy_11 rfl (fun p1 => ?_) (fun p1 => ?_)
  · refine L_iload_n C (i := 3) dX12_moreBy_107 rfl rfl ?_
    exact L_irI C dX12_moreBy_108 rfl (rr1 p1)
  · refine L_aload_n C (i := 0) dX12_moreBy_14 rfl rfl ?_
    refine L_getC C (c' := 144) dX12_moreBy_15 sh_132 fl_X12_45 rfl rfl ?_
    refine L_iload C dX12_moreBy_18 rfl ?_
    refine L_zald C dX12_moreBy_20 sh_144 (ss2 p1) ?_
    refine L_if_eq C (tgt := 101) dX12_moreBy_21 rfl (fun p2 => ?_) (fun p2 => ?_)
    · refine L_iinc C (v := 1) dX12_moreBy_101 rfl rfl (Nat.le_of_ble_eq_true rfl) ?_
      refine L_goto C (tgt := 5) dX12_moreBy_104 rfl ?_
      exact kk3 p1 p2
    · refine L_aload_n C (i := 0) dX12_moreBy_24 rfl rfl ?_
      refine L_iload_n C (i := 1) dX12_moreBy_25 rfl rfl ?_
      refine L_iload C dX12_moreBy_26 rfl ?_
      refine L_invV2i C dX12_moreBy_28 sh_132 cal_X12_hasMix lk_X12_203 ⟨Nat.le_of_ble_eq_true rfl, Nat.le_of_ble_eq_true rfl⟩ ⟨Nat.le_of_ble_eq_true rfl, Nat.le_of_ble_eq_true rfl⟩ (Nat.le_of_ble_eq_true rfl) ?_
      exact cc4 p1 p2
set_option maxRecDepth 4000 in
theorem k_X12_moreBy_31 {G : mG} {E : mE} {B : mB} {μ : mM} (C : Cx G mX12_moreBy E) {x1 : Int32} {x2 : Int32} {x3 : Int32} {x4 : Int32} {sx0 : Int32} (kk1 : ¬ sx0 = 0 → Wm G mX12_moreBy E B μ 43 [(0, .ref (gb G + 132)), (1, .int x1), (2, .int x2), (3, .int x3), (4, .int x4), (5, .int 0), (6, .int 0)] []) (kk2 : sx0 = 0 → Wm G mX12_moreBy E B μ 5 [(0, .ref (gb G + 132)), (1, .int x1), (2, .int x2), (3, .int x3), (4, .int (x4 + (1 : Int32)))] []) : Wm G mX12_moreBy E B μ 31 [(0, .ref (gb G + 132)), (1, .int x1), (2, .int x2), (3, .int x3), (4, .int x4)] [.int sx0] := by
  refine L_if_ne C (tgt := 37) dX12_moreBy_31 rfl (fun p1 => ?_) (fun p1 => ?_)
  · refine L_iconst C (v := 0) dX12_moreBy_37 rfl ?_
    refine L_istore C dX12_moreBy_38 (Nat.le_of_ble_eq_true rfl) ?_
    refine L_iconst C (v := 0) dX12_moreBy_40 rfl ?_
    refine L_istore C dX12_moreBy_41 (Nat.le_of_ble_eq_true rfl) ?_
    exact kk1 p1
  · refine L_goto C (tgt := 101) dX12_moreBy_34 rfl ?_
    refine L_iinc C (v := 1) dX12_moreBy_101 rfl rfl (Nat.le_of_ble_eq_true rfl) ?_
    refine L_goto C (tgt := 5) dX12_moreBy_104 rfl ?_
    exact kk2 p1
set_option maxRecDepth 4000 in
theorem k_X12_moreBy_43 {G : mG} {E : mE} {B : mB} {μ : mM} (C : Cx G mX12_moreBy E) {x1 : Int32} {x2 : Int32} {x3 : Int32} {x4 : Int32} {x5 : Int32} {x6 : Int32} (kk1 : (μ 135 1) ≤ x6 → ∀ v1 : Int32, ((x5 = 0 ∧ v1 = 0) ∨ (¬ x5 = 0 ∧ v1 = 1)) → Wm G mX12_moreBy E B μ 5 [(0, .ref (gb G + 132)), (1, .int x1), (2, .int x2), (3, .int (x3 + v1)), (4, .int (x4 + (1 : Int32)))] []) (ss2 : ¬ (μ 135 1) ≤ x6 → x5 = 0 → vp_in (((3 : Int32) * x4) + x6) 3600) (kk3 : ¬ (μ 135 1) ≤ x6 → ∀ v2 : Int32, (((¬ x5 = 0 ∨ (x5 = 0 ∧ (μ 140 (((3 : Int32) * x4) + x6).toNatClampNeg) = x2)) ∧ v2 = 1) ∨ (x5 = 0 ∧ ¬ (μ 140 (((3 : Int32) * x4) + x6).toNatClampNeg) = x2 ∧ v2 = 0)) → Wm G mX12_moreBy E B μ 43 [(0, .ref (gb G + 132)), (1, .int x1), (2, .int x2), (3, .int x3), (4, .int x4), (5, .int v2), (6, .int (x6 + (1 : Int32)))] []) : Wm G mX12_moreBy E B μ 43 [(0, .ref (gb G + 132)), (1, .int x1), (2, .int x2), (3, .int x3), (4, .int x4), (5, .int x5), (6, .int x6)] [] := by
  refine L_iload C dX12_moreBy_43 rfl ?_
  refine L_aload_n C (i := 0) dX12_moreBy_45 rfl rfl ?_
  refine L_getC C (c' := 135) dX12_moreBy_46 sh_132 fl_X12_16 rfl rfl ?_
  refine L_iconst C (v := 1) dX12_moreBy_49 rfl ?_
  refine L_iald C dX12_moreBy_50 sh_135 (by unfold vp_in; decide) ?_
  refine L_icmp_ge C (tgt := 88) dX12_moreBy_51 rfl (fun p1 => ?_) (fun p1 => ?_)
  · refine L_iload_n C (i := 3) dX12_moreBy_88 rfl rfl ?_
    refine L_iload C dX12_moreBy_89 rfl ?_
    refine phi (fun v1 : Int32 => Wm G mX12_moreBy E B μ 99 [(0, .ref (gb G + 132)), (1, .int x1), (2, .int x2), (4, .int x4)] [.int v1, .int x3]) (fun v1 : Int32 => (x5 = 0 ∧ v1 = 0) ∨ (¬ x5 = 0 ∧ v1 = 1)) (fun H => ?_) (fun v1 hv1 => ?_)
    · refine L_if_eq C (tgt := 98) dX12_moreBy_91 rfl (fun p2 => ?_) (fun p2 => ?_)
      · refine L_iconst C (v := 0) dX12_moreBy_98 rfl ?_
        refine L_sub [0, 1, 2, 4] rfl ?_
        exact H _ (Or.inl ⟨p2, rfl⟩)
      · refine L_iconst C (v := 1) dX12_moreBy_94 rfl ?_
        refine L_goto C (tgt := 99) dX12_moreBy_95 rfl ?_
        refine L_sub [0, 1, 2, 4] rfl ?_
        exact H _ (Or.inr ⟨p2, rfl⟩)
    refine L_iadd C dX12_moreBy_99 ?_
    refine L_istore_n C (i := 3) dX12_moreBy_100 rfl (Nat.le_of_ble_eq_true rfl) ?_
    refine L_iinc C (v := 1) dX12_moreBy_101 rfl rfl (Nat.le_of_ble_eq_true rfl) ?_
    refine L_goto C (tgt := 5) dX12_moreBy_104 rfl ?_
    exact kk1 p1 v1 hv1
  · refine L_iload C dX12_moreBy_54 rfl ?_
    refine phi (fun v2 : Int32 => Wm G mX12_moreBy E B μ 80 [(0, .ref (gb G + 132)), (1, .int x1), (2, .int x2), (3, .int x3), (4, .int x4), (6, .int x6)] [.int v2]) (fun v2 : Int32 => ((¬ x5 = 0 ∨ (x5 = 0 ∧ (μ 140 (((3 : Int32) * x4) + x6).toNatClampNeg) = x2)) ∧ v2 = 1) ∨ (x5 = 0 ∧ ¬ (μ 140 (((3 : Int32) * x4) + x6).toNatClampNeg) = x2 ∧ v2 = 0)) (fun H => ?_) (fun v2 hv2 => ?_)
    · refine L_if_ne C (tgt := 75) dX12_moreBy_56 rfl (fun p3 => ?_) (fun p3 => ?_)
      · refine L_iconst C (v := 1) dX12_moreBy_75 rfl ?_
        refine L_goto C (tgt := 80) dX12_moreBy_76 rfl ?_
        refine L_sub [0, 1, 2, 3, 4, 6] rfl ?_
        exact H _ (Or.inl ⟨(Or.inl p3), rfl⟩)
      · refine L_aload_n C (i := 0) dX12_moreBy_59 rfl rfl ?_
        refine L_getC C (c' := 140) dX12_moreBy_60 sh_132 fl_X12_32 rfl rfl ?_
        refine L_iconst C (v := 3) dX12_moreBy_63 rfl ?_
        refine L_iload C dX12_moreBy_64 rfl ?_
        refine L_imul C dX12_moreBy_66 ?_
        refine L_iload C dX12_moreBy_67 rfl ?_
        refine L_iadd C dX12_moreBy_69 ?_
        refine L_iald C dX12_moreBy_70 sh_140 (ss2 p1 p3) ?_
        refine L_iload_n C (i := 2) dX12_moreBy_71 rfl rfl ?_
        refine L_icmp_ne C (tgt := 79) dX12_moreBy_72 rfl (fun p4 => ?_) (fun p4 => ?_)
        · refine L_iconst C (v := 0) dX12_moreBy_79 rfl ?_
          refine L_sub [0, 1, 2, 3, 4, 6] rfl ?_
          exact H _ (Or.inr ⟨p3, p4, rfl⟩)
        · refine L_iconst C (v := 1) dX12_moreBy_75 rfl ?_
          refine L_goto C (tgt := 80) dX12_moreBy_76 rfl ?_
          refine L_sub [0, 1, 2, 3, 4, 6] rfl ?_
          exact H _ (Or.inl ⟨(Or.inr ⟨p3, p4⟩), rfl⟩)
    refine L_istore C dX12_moreBy_80 (Nat.le_of_ble_eq_true rfl) ?_
    refine L_iinc C (v := 1) dX12_moreBy_82 rfl rfl (Nat.le_of_ble_eq_true rfl) ?_
    refine L_goto C (tgt := 43) dX12_moreBy_85 rfl ?_
    exact kk3 p1 v2 hv2
set_option maxRecDepth 4000 in
theorem k_X12_settles_0 {G : mG} {E : mE} {Q : mM → Prop} {μ : mM} (C : Cx G mX12_settles E) {x1 : Int32} {x2 : Int32} (cc1 : CtI G mX12_laysOpen [.ref (gb G + 132)] μ (fun r μ' => Wm G mX12_settles E (bm G mX12_settles E (pV Q)) μ' 4 [(0, .ref (gb G + 132)), (1, .int x1), (2, .int x2)] [.int r])) : Wm G mX12_settles E (bm G mX12_settles E (pV Q)) μ 0 [(0, .ref (gb G + 132)), (1, .int x1), (2, .int x2)] [] := by
  refine L_aload_n C (i := 0) dX12_settles_0 rfl rfl ?_
  refine L_invV0i C dX12_settles_1 sh_132 cal_X12_laysOpen lk_X12_251 ⟨Nat.le_of_ble_eq_true rfl, Nat.le_of_ble_eq_true rfl⟩ ⟨Nat.le_of_ble_eq_true rfl, Nat.le_of_ble_eq_true rfl⟩ (Nat.le_of_ble_eq_true rfl) ?_
  exact cc1
theorem e_X12_settles {G : mG} {Q : mM → Prop} {μ : mM} {x1 : Int32} {x2 : Int32} (k : ∀ E, Cx G mX12_settles E → Wm G mX12_settles E (bm G mX12_settles E (pV Q)) μ 0 [(0, .ref (gb G + 132)), (1, .int x1), (2, .int x2)] []) : CtV G mX12_settles [.ref (gb G + 132), .int x1, .int x2] μ Q := CtV.of pn_X12 (Nat.le_of_ble_eq_true rfl) k
set_option maxRecDepth 4000 in
theorem k_X12_settles_4 {G : mG} {E : mE} {B : mB} {μ : mM} (C : Cx G mX12_settles E) {x1 : Int32} {x2 : Int32} {sx0 : Int32} (kk1 : Wm G mX12_settles E B μ 26 [(0, .ref (gb G + 132)), (1, .int x1), (2, .int x2), (4, .int (((161 : Int32) + ((8 : Int32) * x1)) + x2)), (5, .int (-1)), (6, .int (-1)), (7, .int 0)] []) : Wm G mX12_settles E B μ 4 [(0, .ref (gb G + 132)), (1, .int x1), (2, .int x2)] [.int sx0] := by
  refine L_istore_n C (i := 3) dX12_settles_4 rfl (Nat.le_of_ble_eq_true rfl) ?_
  refine L_sipush C (v := 161) dX12_settles_5 rfl ?_
  refine L_bipush C (v := 8) dX12_settles_8 rfl ?_
  refine L_iload_n C (i := 1) dX12_settles_10 rfl rfl ?_
  refine L_imul C dX12_settles_11 ?_
  refine L_iadd C dX12_settles_12 ?_
  refine L_iload_n C (i := 2) dX12_settles_13 rfl rfl ?_
  refine L_iadd C dX12_settles_14 ?_
  refine L_istore C dX12_settles_15 (Nat.le_of_ble_eq_true rfl) ?_
  refine L_iconst C (v := (-1)) dX12_settles_17 rfl ?_
  refine L_istore C dX12_settles_18 (Nat.le_of_ble_eq_true rfl) ?_
  refine L_iconst C (v := (-1)) dX12_settles_20 rfl ?_
  refine L_istore C dX12_settles_21 (Nat.le_of_ble_eq_true rfl) ?_
  refine L_iconst C (v := 0) dX12_settles_23 rfl ?_
  refine L_istore C dX12_settles_24 (Nat.le_of_ble_eq_true rfl) ?_
  refine L_sub [0, 1, 2, 4, 5, 6, 7] rfl ?_
  exact kk1
set_option maxRecDepth 4000 in
theorem k_X12_settles_26 {G : mG} {E : mE} {Q : mM → Prop} {μ : mM} (C : Cx G mX12_settles E) {x1 : Int32} {x2 : Int32} {x4 : Int32} {x5 : Int32} {x6 : Int32} {x7 : Int32} (ss1 : vp_in ((5 : Int32) + x2) 673) (ss2 : (μ 135 ((5 : Int32) + x2).toNatClampNeg) ≤ x7 → vp_in x4 673) (rr3 : (μ 135 ((5 : Int32) + x2).toNatClampNeg) ≤ x7 → Q (ms μ 135 x4.toNatClampNeg x5)) (cc4 : ¬ (μ 135 ((5 : Int32) + x2).toNatClampNeg) ≤ x7 → CtV G mX12_probesRow [.ref (gb G + 132), .int x1] μ (fun μ' => Wm G mX12_settles E (bm G mX12_settles E (pV Q)) μ' 44 [(0, .ref (gb G + 132)), (1, .int x1), (2, .int x2), (4, .int x4), (5, .int x5), (6, .int x6), (7, .int x7)] [])) : Wm G mX12_settles E (bm G mX12_settles E (pV Q)) μ 26 [(0, .ref (gb G + 132)), (1, .int x1), (2, .int x2), (4, .int x4), (5, .int x5), (6, .int x6), (7, .int x7)] [] := by
  refine L_iload C dX12_settles_26 rfl ?_
  refine L_aload_n C (i := 0) dX12_settles_28 rfl rfl ?_
  refine L_getC C (c' := 135) dX12_settles_29 sh_132 fl_X12_16 rfl rfl ?_
  refine L_iconst C (v := 5) dX12_settles_32 rfl ?_
  refine L_iload_n C (i := 2) dX12_settles_33 rfl rfl ?_
  refine L_iadd C dX12_settles_34 ?_
  refine L_iald C dX12_settles_35 sh_135 (ss1) ?_
  refine L_icmp_ge C (tgt := 111) dX12_settles_36 rfl (fun p1 => ?_) (fun p1 => ?_)
  · refine L_aload_n C (i := 0) dX12_settles_111 rfl rfl ?_
    refine L_getC C (c' := 135) dX12_settles_112 sh_132 fl_X12_16 rfl rfl ?_
    refine L_iload C dX12_settles_115 rfl ?_
    refine L_iload C dX12_settles_117 rfl ?_
    refine L_iast C dX12_settles_119 sh_135 (ss2 p1) ?_
    exact L_irV C dX12_settles_120 rfl (rr3 p1)
  · refine L_aload_n C (i := 0) dX12_settles_39 rfl rfl ?_
    refine L_iload_n C (i := 1) dX12_settles_40 rfl rfl ?_
    refine L_invV1v C dX12_settles_41 sh_132 cal_X12_probesRow lk_X12_241 ⟨Nat.le_of_ble_eq_true rfl, Nat.le_of_ble_eq_true rfl⟩ ⟨Nat.le_of_ble_eq_true rfl, Nat.le_of_ble_eq_true rfl⟩ (Nat.le_of_ble_eq_true rfl) ?_
    exact cc4 p1
set_option maxRecDepth 4000 in
theorem k_X12_settles_44 {G : mG} {E : mE} {Q : mM → Prop} {μ : mM} (C : Cx G mX12_settles E) {x1 : Int32} {x2 : Int32} {x4 : Int32} {x5 : Int32} {x6 : Int32} {x7 : Int32} (ss1 : vp_in x2 8) (cc2 : CtI G mX12_canProbe [.ref (gb G + 132)] (ms μ 138 x2.toNatClampNeg x7) (fun r μ' => Wm G mX12_settles E (bm G mX12_settles E (pV Q)) μ' 56 [(0, .ref (gb G + 132)), (1, .int x1), (2, .int x2), (4, .int x4), (5, .int x5), (6, .int x6), (7, .int x7)] [.int r])) : Wm G mX12_settles E (bm G mX12_settles E (pV Q)) μ 44 [(0, .ref (gb G + 132)), (1, .int x1), (2, .int x2), (4, .int x4), (5, .int x5), (6, .int x6), (7, .int x7)] [] := by
  refine L_aload_n C (i := 0) dX12_settles_44 rfl rfl ?_
  refine L_getC C (c' := 138) dX12_settles_45 sh_132 fl_X12_26 rfl rfl ?_
  refine L_iload_n C (i := 2) dX12_settles_48 rfl rfl ?_
  refine L_iload C dX12_settles_49 rfl ?_
  refine L_iast C dX12_settles_51 sh_138 (ss1) ?_
  refine L_aload_n C (i := 0) dX12_settles_52 rfl rfl ?_
  refine L_invV0i C dX12_settles_53 sh_132 cal_X12_canProbe lk_X12_162 ⟨Nat.le_of_ble_eq_true rfl, Nat.le_of_ble_eq_true rfl⟩ ⟨Nat.le_of_ble_eq_true rfl, Nat.le_of_ble_eq_true rfl⟩ (Nat.le_of_ble_eq_true rfl) ?_
  exact cc2
set_option maxRecDepth 4000 in
theorem k_X12_settles_56 {G : mG} {E : mE} {Q : mM → Prop} {μ : mM} (C : Cx G mX12_settles E) {x1 : Int32} {x2 : Int32} {x4 : Int32} {x5 : Int32} {x6 : Int32} {x7 : Int32} {sx0 : Int32} (ss1 : ¬ sx0 = 0 → vp_in x4 673) (cc2 : ¬ sx0 = 0 → CtI G mX12_moreBy [.ref (gb G + 132), .int x1, .int x2] (ms μ 135 x4.toNatClampNeg x7) (fun r μ' => Wm G mX12_settles E (bm G mX12_settles E (pV Q)) μ' 77 [(0, .ref (gb G + 132)), (1, .int x1), (2, .int x2), (4, .int x4), (5, .int x5), (6, .int x6), (7, .int x7)] [.int r])) (kk3 : sx0 = 0 → Wm G mX12_settles E (bm G mX12_settles E (pV Q)) μ 26 [(0, .ref (gb G + 132)), (1, .int x1), (2, .int x2), (4, .int x4), (5, .int x5), (6, .int x6), (7, .int (x7 + (1 : Int32)))] []) : Wm G mX12_settles E (bm G mX12_settles E (pV Q)) μ 56 [(0, .ref (gb G + 132)), (1, .int x1), (2, .int x2), (4, .int x4), (5, .int x5), (6, .int x6), (7, .int x7)] [.int sx0] := by
  refine L_if_ne C (tgt := 62) dX12_settles_56 rfl (fun p1 => ?_) (fun p1 => ?_)
  · refine L_aload_n C (i := 0) dX12_settles_62 rfl rfl ?_
    refine L_getC C (c' := 135) dX12_settles_63 sh_132 fl_X12_16 rfl rfl ?_
    refine L_iload C dX12_settles_66 rfl ?_
    refine L_iload C dX12_settles_68 rfl ?_
    refine L_iast C dX12_settles_70 sh_135 (ss1 p1) ?_
    refine L_aload_n C (i := 0) dX12_settles_71 rfl rfl ?_
    refine L_iload_n C (i := 1) dX12_settles_72 rfl rfl ?_
    refine L_iload_n C (i := 2) dX12_settles_73 rfl rfl ?_
    refine L_invV2i C dX12_settles_74 sh_132 cal_X12_moreBy lk_X12_292 ⟨Nat.le_of_ble_eq_true rfl, Nat.le_of_ble_eq_true rfl⟩ ⟨Nat.le_of_ble_eq_true rfl, Nat.le_of_ble_eq_true rfl⟩ (Nat.le_of_ble_eq_true rfl) ?_
    exact cc2 p1
  · refine L_goto C (tgt := 105) dX12_settles_59 rfl ?_
    refine L_iinc C (v := 1) dX12_settles_105 rfl rfl (Nat.le_of_ble_eq_true rfl) ?_
    refine L_goto C (tgt := 26) dX12_settles_108 rfl ?_
    exact kk3 p1
set_option maxRecDepth 4000 in
theorem k_X12_settles_77 {G : mG} {E : mE} {B : mB} {μ : mM} (C : Cx G mX12_settles E) {x1 : Int32} {x2 : Int32} {x4 : Int32} {x5 : Int32} {x6 : Int32} {x7 : Int32} {sx0 : Int32} (ss1 : vp_in x4 673) (kk2 : x6 < sx0 → Wm G mX12_settles E B (ms μ 135 x4.toNatClampNeg (-1)) 26 [(0, .ref (gb G + 132)), (1, .int x1), (2, .int x2), (4, .int x4), (5, .int x7), (6, .int sx0), (7, .int (x7 + (1 : Int32)))] []) (kk3 : ¬ x6 < sx0 → Wm G mX12_settles E B (ms μ 135 x4.toNatClampNeg (-1)) 26 [(0, .ref (gb G + 132)), (1, .int x1), (2, .int x2), (4, .int x4), (5, .int x5), (6, .int x6), (7, .int (x7 + (1 : Int32)))] []) : Wm G mX12_settles E B μ 77 [(0, .ref (gb G + 132)), (1, .int x1), (2, .int x2), (4, .int x4), (5, .int x5), (6, .int x6), (7, .int x7)] [.int sx0] := by
  refine L_istore C dX12_settles_77 (Nat.le_of_ble_eq_true rfl) ?_
  refine L_aload_n C (i := 0) dX12_settles_79 rfl rfl ?_
  refine L_getC C (c' := 135) dX12_settles_80 sh_132 fl_X12_16 rfl rfl ?_
  refine L_iload C dX12_settles_83 rfl ?_
  refine L_iconst C (v := (-1)) dX12_settles_85 rfl ?_
  refine L_iast C dX12_settles_86 sh_135 (ss1) ?_
  refine L_iload C dX12_settles_87 rfl ?_
  refine L_iload C dX12_settles_89 rfl ?_
  refine L_icmp_gt C (tgt := 97) dX12_settles_91 rfl (fun p1 => ?_) (fun p1 => ?_)
  · refine L_iload C dX12_settles_97 rfl ?_
    refine L_istore C dX12_settles_99 (Nat.le_of_ble_eq_true rfl) ?_
    refine L_iload C dX12_settles_101 rfl ?_
    refine L_istore C dX12_settles_103 (Nat.le_of_ble_eq_true rfl) ?_
    refine L_iinc C (v := 1) dX12_settles_105 rfl rfl (Nat.le_of_ble_eq_true rfl) ?_
    refine L_goto C (tgt := 26) dX12_settles_108 rfl ?_
    refine L_sub [0, 1, 2, 3, 4, 5, 6] rfl ?_
    exact kk2 p1
  · refine L_goto C (tgt := 105) dX12_settles_94 rfl ?_
    refine L_iinc C (v := 1) dX12_settles_105 rfl rfl (Nat.le_of_ble_eq_true rfl) ?_
    refine L_goto C (tgt := 26) dX12_settles_108 rfl ?_
    refine L_sub [0, 1, 2, 3, 4, 5, 6] rfl ?_
    exact kk3 p1
set_option maxRecDepth 4000 in
theorem k_X12_settle_0 {G : mG} {E : mE} {Q : Int32 → mM → Prop} {μ : mM} (C : Cx G mX12_settle E)  (rr1 : (μ 135 0) ≤ 0 → Q (-1) μ) (cc2 : ¬ (μ 135 0) ≤ 0 → CtV G mX12_keepsAct [.ref (gb G + 132)] μ (fun μ' => Wm G mX12_settle E (bm G mX12_settle E (pI Q)) μ' 13 [(0, .ref (gb G + 132))] [])) : Wm G mX12_settle E (bm G mX12_settle E (pI Q)) μ 0 [(0, .ref (gb G + 132))] [] := by
  refine L_aload_n C (i := 0) dX12_settle_0 rfl rfl ?_
  refine L_invV0i C dX12_settle_1 sh_132 cal_X12_isPlan lk_X12_212 ⟨Nat.le_of_ble_eq_true rfl, Nat.le_of_ble_eq_true rfl⟩ ⟨Nat.le_of_ble_eq_true rfl, Nat.le_of_ble_eq_true rfl⟩ (Nat.le_of_ble_eq_true rfl) (a_X12_isPlan (fun p1 => ?_) (fun p2 => ?_))
  · refine L_if_ne C (tgt := 9) dX12_settle_4 rfl (fun p3 => absurd p3 (by decide)) (fun p3 => ?_)
    refine L_iconst C (v := (-1)) dX12_settle_7 rfl ?_
    exact L_irI C dX12_settle_8 rfl (rr1 p1)
  · refine L_if_ne C (tgt := 9) dX12_settle_4 rfl (fun p4 => ?_) (fun p4 => absurd p4 (by decide))
    refine L_aload_n C (i := 0) dX12_settle_9 rfl rfl ?_
    refine L_invV0v C dX12_settle_10 sh_132 cal_X12_keepsAct lk_X12_230 ⟨Nat.le_of_ble_eq_true rfl, Nat.le_of_ble_eq_true rfl⟩ ⟨Nat.le_of_ble_eq_true rfl, Nat.le_of_ble_eq_true rfl⟩ (Nat.le_of_ble_eq_true rfl) ?_
    exact cc2 p2
theorem e_X12_settle {G : mG} {Q : Int32 → mM → Prop} {μ : mM}  (k : ∀ E, Cx G mX12_settle E → Wm G mX12_settle E (bm G mX12_settle E (pI Q)) μ 0 [(0, .ref (gb G + 132))] []) : CtI G mX12_settle [.ref (gb G + 132)] μ Q := CtI.of pn_X12 (Nat.le_of_ble_eq_true rfl) k
set_option maxRecDepth 4000 in
theorem k_X12_settle_13 {G : mG} {E : mE} {B : mB} {μ : mM} (C : Cx G mX12_settle E)  (kk1 : Wm G mX12_settle E B μ 17 [(0, .ref (gb G + 132)), (1, .int 0), (2, .int 0)] []) : Wm G mX12_settle E B μ 13 [(0, .ref (gb G + 132))] [] := by
  refine L_iconst C (v := 0) dX12_settle_13 rfl ?_
  refine L_istore_n C (i := 1) dX12_settle_14 rfl (Nat.le_of_ble_eq_true rfl) ?_
  refine L_iconst C (v := 0) dX12_settle_15 rfl ?_
  refine L_istore_n C (i := 2) dX12_settle_16 rfl (Nat.le_of_ble_eq_true rfl) ?_
  exact kk1
set_option maxRecDepth 4000 in
theorem k_X12_settle_17 {G : mG} {E : mE} {Q : Int32 → mM → Prop} {μ : mM} (C : Cx G mX12_settle E) {x1 : Int32} {x2 : Int32} (rr1 : (μ 135 3) ≤ x2 → Q x1 μ) (kk2 : ¬ (μ 135 3) ≤ x2 → Wm G mX12_settle E (bm G mX12_settle E (pI Q)) μ 29 [(0, .ref (gb G + 132)), (1, .int x1), (2, .int x2), (3, .int 0)] []) : Wm G mX12_settle E (bm G mX12_settle E (pI Q)) μ 17 [(0, .ref (gb G + 132)), (1, .int x1), (2, .int x2)] [] := by
  refine L_iload_n C (i := 2) dX12_settle_17 rfl rfl ?_
  refine L_aload_n C (i := 0) dX12_settle_18 rfl rfl ?_
  refine L_getC C (c' := 135) dX12_settle_19 sh_132 fl_X12_16 rfl rfl ?_
  refine L_iconst C (v := 3) dX12_settle_22 rfl ?_
  refine L_iald C dX12_settle_23 sh_135 (by unfold vp_in; decide) ?_
  refine L_icmp_ge C (tgt := 73) dX12_settle_24 rfl (fun p1 => ?_) (fun p1 => ?_)
  · refine L_iload_n C (i := 1) dX12_settle_73 rfl rfl ?_
    exact L_irI C dX12_settle_74 rfl (rr1 p1)
  · refine L_iconst C (v := 0) dX12_settle_27 rfl ?_
    refine L_istore_n C (i := 3) dX12_settle_28 rfl (Nat.le_of_ble_eq_true rfl) ?_
    exact kk2 p1
set_option maxRecDepth 4000 in
theorem k_X12_settle_29 {G : mG} {E : mE} {Q : Int32 → mM → Prop} {μ : mM} (C : Cx G mX12_settle E) {x1 : Int32} {x2 : Int32} {x3 : Int32} (kk1 : (μ 135 0) ≤ x3 → Wm G mX12_settle E (bm G mX12_settle E (pI Q)) μ 17 [(0, .ref (gb G + 132)), (1, .int x1), (2, .int (x2 + (1 : Int32)))] []) (ss2 : ¬ (μ 135 0) ≤ x3 → vp_in (((161 : Int32) + ((8 : Int32) * x2)) + x3) 673) (cc3 : ¬ (μ 135 0) ≤ x3 → (μ 135 (((161 : Int32) + ((8 : Int32) * x2)) + x3).toNatClampNeg) = (-1) → CtV G mX12_settles [.ref (gb G + 132), .int x2, .int x3] μ (fun μ' => Wm G mX12_settle E (bm G mX12_settle E (pI Q)) μ' 58 [(0, .ref (gb G + 132)), (1, .int x1), (2, .int x2), (3, .int x3)] [])) (kk4 : ¬ (μ 135 0) ≤ x3 → ¬ (μ 135 (((161 : Int32) + ((8 : Int32) * x2)) + x3).toNatClampNeg) = (-1) → Wm G mX12_settle E (bm G mX12_settle E (pI Q)) μ 29 [(0, .ref (gb G + 132)), (1, .int x1), (2, .int x2), (3, .int (x3 + (1 : Int32)))] []) : Wm G mX12_settle E (bm G mX12_settle E (pI Q)) μ 29 [(0, .ref (gb G + 132)), (1, .int x1), (2, .int x2), (3, .int x3)] [] := by
  refine L_iload_n C (i := 3) dX12_settle_29 rfl rfl ?_
  refine L_aload_n C (i := 0) dX12_settle_30 rfl rfl ?_
  refine L_getC C (c' := 135) dX12_settle_31 sh_132 fl_X12_16 rfl rfl ?_
  refine L_iconst C (v := 0) dX12_settle_34 rfl ?_
  refine L_iald C dX12_settle_35 sh_135 (by unfold vp_in; decide) ?_
  refine L_icmp_ge C (tgt := 67) dX12_settle_36 rfl (fun p1 => ?_) (fun p1 => ?_)
  · refine L_iinc C (v := 1) dX12_settle_67 rfl rfl (Nat.le_of_ble_eq_true rfl) ?_
    refine L_goto C (tgt := 17) dX12_settle_70 rfl ?_
    refine L_sub [0, 1, 2] rfl ?_
    exact kk1 p1
  · refine L_aload_n C (i := 0) dX12_settle_39 rfl rfl ?_
    refine L_iload_n C (i := 2) dX12_settle_40 rfl rfl ?_
    refine L_iload_n C (i := 3) dX12_settle_41 rfl rfl ?_
    refine L_invV2i C dX12_settle_42 sh_132 cal_X12_cellAt lk_X12_200 ⟨Nat.le_of_ble_eq_true rfl, Nat.le_of_ble_eq_true rfl⟩ ⟨Nat.le_of_ble_eq_true rfl, Nat.le_of_ble_eq_true rfl⟩ (Nat.le_of_ble_eq_true rfl) (a_X12_cellAt (ss2 p1) (?_))
    · refine L_iconst C (v := (-1)) dX12_settle_45 rfl ?_
      refine L_icmp_eq C (tgt := 52) dX12_settle_46 rfl (fun p2 => ?_) (fun p2 => ?_)
      · refine L_aload_n C (i := 0) dX12_settle_52 rfl rfl ?_
        refine L_iload_n C (i := 2) dX12_settle_53 rfl rfl ?_
        refine L_iload_n C (i := 3) dX12_settle_54 rfl rfl ?_
        refine L_invV2v C dX12_settle_55 sh_132 cal_X12_settles lk_X12_295 ⟨Nat.le_of_ble_eq_true rfl, Nat.le_of_ble_eq_true rfl⟩ ⟨Nat.le_of_ble_eq_true rfl, Nat.le_of_ble_eq_true rfl⟩ (Nat.le_of_ble_eq_true rfl) ?_
        exact cc3 p1 p2
      · refine L_goto C (tgt := 61) dX12_settle_49 rfl ?_
        refine L_iinc C (v := 1) dX12_settle_61 rfl rfl (Nat.le_of_ble_eq_true rfl) ?_
        refine L_goto C (tgt := 29) dX12_settle_64 rfl ?_
        exact kk4 p1 p2
set_option maxRecDepth 4000 in
theorem k_X12_settle_58 {G : mG} {E : mE} {B : mB} {μ : mM} (C : Cx G mX12_settle E) {x1 : Int32} {x2 : Int32} {x3 : Int32} (kk1 : Wm G mX12_settle E B μ 29 [(0, .ref (gb G + 132)), (1, .int (x1 + (1 : Int32))), (2, .int x2), (3, .int (x3 + (1 : Int32)))] []) : Wm G mX12_settle E B μ 58 [(0, .ref (gb G + 132)), (1, .int x1), (2, .int x2), (3, .int x3)] [] := by
  refine L_iinc C (v := 1) dX12_settle_58 rfl rfl (Nat.le_of_ble_eq_true rfl) ?_
  refine L_iinc C (v := 1) dX12_settle_61 rfl rfl (Nat.le_of_ble_eq_true rfl) ?_
  refine L_goto C (tgt := 29) dX12_settle_64 rfl ?_
  exact kk1
set_option maxRecDepth 4000 in
theorem k_X12_isNeeded_0 {G : mG} {E : mE} {B : mB} {μ : mM} (C : Cx G mX12_isNeeded E) {x1 : Int32} (kk1 : Wm G mX12_isNeeded E B μ 2 [(0, .ref (gb G + 132)), (1, .int x1), (2, .int 0)] []) : Wm G mX12_isNeeded E B μ 0 [(0, .ref (gb G + 132)), (1, .int x1)] [] := by
  refine L_iconst C (v := 0) dX12_isNeeded_0 rfl ?_
  refine L_istore_n C (i := 2) dX12_isNeeded_1 rfl (Nat.le_of_ble_eq_true rfl) ?_
  exact kk1
theorem e_X12_isNeeded {G : mG} {Q : Int32 → mM → Prop} {μ : mM} {x1 : Int32} (k : ∀ E, Cx G mX12_isNeeded E → Wm G mX12_isNeeded E (bm G mX12_isNeeded E (pI Q)) μ 0 [(0, .ref (gb G + 132)), (1, .int x1)] []) : CtI G mX12_isNeeded [.ref (gb G + 132), .int x1] μ Q := CtI.of pn_X12 (Nat.le_of_ble_eq_true rfl) k
set_option maxRecDepth 4000 in
theorem k_X12_isNeeded_2 {G : mG} {E : mE} {Q : Int32 → mM → Prop} {μ : mM} (C : Cx G mX12_isNeeded E) {x1 : Int32} {x2 : Int32} (rr1 : (μ 132 13) ≤ x2 → Q 0 μ) (cc2 : ¬ (μ 132 13) ≤ x2 → CtI G mX12_hasMix [.ref (gb G + 132), .int x1, .int x2] μ (fun r μ' => Wm G mX12_isNeeded E (bm G mX12_isNeeded E (pI Q)) μ' 16 [(0, .ref (gb G + 132)), (1, .int x1), (2, .int x2)] [.int r])) : Wm G mX12_isNeeded E (bm G mX12_isNeeded E (pI Q)) μ 2 [(0, .ref (gb G + 132)), (1, .int x1), (2, .int x2)] [] := by
  refine L_iload_n C (i := 2) dX12_isNeeded_2 rfl rfl ?_
  refine L_aload_n C (i := 0) dX12_isNeeded_3 rfl rfl ?_
  refine L_getI C dX12_isNeeded_4 sh_132 fl_X12_168 rfl ?_
  refine L_icmp_ge C (tgt := 43) dX12_isNeeded_7 rfl (fun p1 => ?_) (fun p1 => ?_)
  · refine L_iconst C (v := 0) dX12_isNeeded_43 rfl ?_
    exact L_irZ C dX12_isNeeded_44 rfl (by decide) (rr1 p1)
  · refine L_aload_n C (i := 0) dX12_isNeeded_10 rfl rfl ?_
    refine L_iload_n C (i := 1) dX12_isNeeded_11 rfl rfl ?_
    refine L_iload_n C (i := 2) dX12_isNeeded_12 rfl rfl ?_
    refine L_invV2i C dX12_isNeeded_13 sh_132 cal_X12_hasMix lk_X12_203 ⟨Nat.le_of_ble_eq_true rfl, Nat.le_of_ble_eq_true rfl⟩ ⟨Nat.le_of_ble_eq_true rfl, Nat.le_of_ble_eq_true rfl⟩ (Nat.le_of_ble_eq_true rfl) ?_
    exact cc2 p1
set_option maxRecDepth 4000 in
theorem k_X12_isNeeded_16 {G : mG} {E : mE} {Q : Int32 → mM → Prop} {μ : mM} (C : Cx G mX12_isNeeded E) {x1 : Int32} {x2 : Int32} {sx0 : Int32} (kk1 : sx0 = 0 → Wm G mX12_isNeeded E (bm G mX12_isNeeded E (pI Q)) μ 2 [(0, .ref (gb G + 132)), (1, .int x1), (2, .int (x2 + (1 : Int32)))] []) (cc2 : ¬ sx0 = 0 → CtI G mX12_rowsWith [.ref (gb G + 132), .int x2, .int 0, .int (μ 135 3)] μ (fun r μ' => Wm G mX12_isNeeded E (bm G mX12_isNeeded E (pI Q)) μ' 31 [(0, .ref (gb G + 132)), (1, .int x1), (2, .int x2)] [.int r])) : Wm G mX12_isNeeded E (bm G mX12_isNeeded E (pI Q)) μ 16 [(0, .ref (gb G + 132)), (1, .int x1), (2, .int x2)] [.int sx0] := by
  refine L_if_eq C (tgt := 37) dX12_isNeeded_16 rfl (fun p1 => ?_) (fun p1 => ?_)
  · refine L_iinc C (v := 1) dX12_isNeeded_37 rfl rfl (Nat.le_of_ble_eq_true rfl) ?_
    refine L_goto C (tgt := 2) dX12_isNeeded_40 rfl ?_
    exact kk1 p1
  · refine L_aload_n C (i := 0) dX12_isNeeded_19 rfl rfl ?_
    refine L_iload_n C (i := 2) dX12_isNeeded_20 rfl rfl ?_
    refine L_iconst C (v := 0) dX12_isNeeded_21 rfl ?_
    refine L_aload_n C (i := 0) dX12_isNeeded_22 rfl rfl ?_
    refine L_getC C (c' := 135) dX12_isNeeded_23 sh_132 fl_X12_16 rfl rfl ?_
    refine L_iconst C (v := 3) dX12_isNeeded_26 rfl ?_
    refine L_iald C dX12_isNeeded_27 sh_135 (by unfold vp_in; decide) ?_
    refine L_invV3i C dX12_isNeeded_28 sh_132 cal_X12_rowsWith lk_X12_206 ⟨Nat.le_of_ble_eq_true rfl, Nat.le_of_ble_eq_true rfl⟩ ⟨Nat.le_of_ble_eq_true rfl, Nat.le_of_ble_eq_true rfl⟩ (Nat.le_of_ble_eq_true rfl) ?_
    exact cc2 p1
set_option maxRecDepth 4000 in
theorem k_X12_isNeeded_31 {G : mG} {E : mE} {Q : Int32 → mM → Prop} {μ : mM} (C : Cx G mX12_isNeeded E) {x1 : Int32} {x2 : Int32} {sx0 : Int32} (kk1 : ¬ sx0 = 1 → Wm G mX12_isNeeded E (bm G mX12_isNeeded E (pI Q)) μ 2 [(0, .ref (gb G + 132)), (1, .int x1), (2, .int (x2 + (1 : Int32)))] []) (rr2 : sx0 = 1 → Q 1 μ) : Wm G mX12_isNeeded E (bm G mX12_isNeeded E (pI Q)) μ 31 [(0, .ref (gb G + 132)), (1, .int x1), (2, .int x2)] [.int sx0] := by
  refine L_iconst C (v := 1) dX12_isNeeded_31 rfl ?_
  refine L_icmp_ne C (tgt := 37) dX12_isNeeded_32 rfl (fun p1 => ?_) (fun p1 => ?_)
  · refine L_iinc C (v := 1) dX12_isNeeded_37 rfl rfl (Nat.le_of_ble_eq_true rfl) ?_
    refine L_goto C (tgt := 2) dX12_isNeeded_40 rfl ?_
    exact kk1 p1
  · refine L_iconst C (v := 1) dX12_isNeeded_35 rfl ?_
    exact L_irZ C dX12_isNeeded_36 rfl (by decide) (rr2 p1)
set_option maxRecDepth 4000 in
theorem k_X12_thin_0 {G : mG} {E : mE} {Q : Int32 → mM → Prop} {μ : mM} (C : Cx G mX12_thin E)  (rr1 : (μ 135 0) ≤ 0 → Q (-1) μ) (cc2 : ¬ (μ 135 0) ≤ 0 → CtV G mX12_keepsAct [.ref (gb G + 132)] μ (fun μ' => Wm G mX12_thin E (bm G mX12_thin E (pI Q)) μ' 13 [(0, .ref (gb G + 132))] [])) : Wm G mX12_thin E (bm G mX12_thin E (pI Q)) μ 0 [(0, .ref (gb G + 132))] [] := by
  refine L_aload_n C (i := 0) dX12_thin_0 rfl rfl ?_
  refine L_invV0i C dX12_thin_1 sh_132 cal_X12_isPlan lk_X12_212 ⟨Nat.le_of_ble_eq_true rfl, Nat.le_of_ble_eq_true rfl⟩ ⟨Nat.le_of_ble_eq_true rfl, Nat.le_of_ble_eq_true rfl⟩ (Nat.le_of_ble_eq_true rfl) (a_X12_isPlan (fun p1 => ?_) (fun p2 => ?_))
  · refine L_if_ne C (tgt := 9) dX12_thin_4 rfl (fun p3 => absurd p3 (by decide)) (fun p3 => ?_)
    refine L_iconst C (v := (-1)) dX12_thin_7 rfl ?_
    exact L_irI C dX12_thin_8 rfl (rr1 p1)
  · refine L_if_ne C (tgt := 9) dX12_thin_4 rfl (fun p4 => ?_) (fun p4 => absurd p4 (by decide))
    refine L_aload_n C (i := 0) dX12_thin_9 rfl rfl ?_
    refine L_invV0v C dX12_thin_10 sh_132 cal_X12_keepsAct lk_X12_230 ⟨Nat.le_of_ble_eq_true rfl, Nat.le_of_ble_eq_true rfl⟩ ⟨Nat.le_of_ble_eq_true rfl, Nat.le_of_ble_eq_true rfl⟩ (Nat.le_of_ble_eq_true rfl) ?_
    exact cc2 p2
theorem e_X12_thin {G : mG} {Q : Int32 → mM → Prop} {μ : mM}  (k : ∀ E, Cx G mX12_thin E → Wm G mX12_thin E (bm G mX12_thin E (pI Q)) μ 0 [(0, .ref (gb G + 132))] []) : CtI G mX12_thin [.ref (gb G + 132)] μ Q := CtI.of pn_X12 (Nat.le_of_ble_eq_true rfl) k
set_option maxRecDepth 4000 in
theorem k_X12_thin_13 {G : mG} {E : mE} {B : mB} {μ : mM} (C : Cx G mX12_thin E)  (kk1 : Wm G mX12_thin E B μ 24 [(0, .ref (gb G + 132)), (1, .int 0), (2, .int ((μ 135 3) - (1 : Int32)))] []) : Wm G mX12_thin E B μ 13 [(0, .ref (gb G + 132))] [] := by
  refine L_iconst C (v := 0) dX12_thin_13 rfl ?_
  refine L_istore_n C (i := 1) dX12_thin_14 rfl (Nat.le_of_ble_eq_true rfl) ?_
  refine L_aload_n C (i := 0) dX12_thin_15 rfl rfl ?_
  refine L_getC C (c' := 135) dX12_thin_16 sh_132 fl_X12_16 rfl rfl ?_
  refine L_iconst C (v := 3) dX12_thin_19 rfl ?_
  refine L_iald C dX12_thin_20 sh_135 (by unfold vp_in; decide) ?_
  refine L_iconst C (v := 1) dX12_thin_21 rfl ?_
  refine L_isub C dX12_thin_22 ?_
  refine L_istore_n C (i := 2) dX12_thin_23 rfl (Nat.le_of_ble_eq_true rfl) ?_
  exact kk1
set_option maxRecDepth 4000 in
theorem k_X12_thin_24 {G : mG} {E : mE} {Q : Int32 → mM → Prop} {μ : mM} (C : Cx G mX12_thin E) {x1 : Int32} {x2 : Int32} (rr1 : x2 < 0 → Q x1 μ) (cc2 : ¬ x2 < 0 → CtI G mX12_isNeeded [.ref (gb G + 132), .int x2] μ (fun r μ' => Wm G mX12_thin E (bm G mX12_thin E (pI Q)) μ' 33 [(0, .ref (gb G + 132)), (1, .int x1), (2, .int x2)] [.int r])) : Wm G mX12_thin E (bm G mX12_thin E (pI Q)) μ 24 [(0, .ref (gb G + 132)), (1, .int x1), (2, .int x2)] [] := by
  refine L_iload_n C (i := 2) dX12_thin_24 rfl rfl ?_
  refine L_if_lt C (tgt := 53) dX12_thin_25 rfl (fun p1 => ?_) (fun p1 => ?_)
  · refine L_iload_n C (i := 1) dX12_thin_53 rfl rfl ?_
    exact L_irI C dX12_thin_54 rfl (rr1 p1)
  · refine L_aload_n C (i := 0) dX12_thin_28 rfl rfl ?_
    refine L_iload_n C (i := 2) dX12_thin_29 rfl rfl ?_
    refine L_invV1i C dX12_thin_30 sh_132 cal_X12_isNeeded lk_X12_298 ⟨Nat.le_of_ble_eq_true rfl, Nat.le_of_ble_eq_true rfl⟩ ⟨Nat.le_of_ble_eq_true rfl, Nat.le_of_ble_eq_true rfl⟩ (Nat.le_of_ble_eq_true rfl) ?_
    exact cc2 p1
set_option maxRecDepth 4000 in
theorem k_X12_thin_33 {G : mG} {E : mE} {Q : Int32 → mM → Prop} {μ : mM} (C : Cx G mX12_thin E) {x1 : Int32} {x2 : Int32} {sx0 : Int32} (cc1 : sx0 = 0 → CtV G mX12_drops [.ref (gb G + 132), .int x2] μ (fun μ' => Wm G mX12_thin E (bm G mX12_thin E (pI Q)) μ' 44 [(0, .ref (gb G + 132)), (1, .int x1), (2, .int x2)] [])) (kk2 : ¬ sx0 = 0 → Wm G mX12_thin E (bm G mX12_thin E (pI Q)) μ 24 [(0, .ref (gb G + 132)), (1, .int x1), (2, .int (x2 + ((-1) : Int32)))] []) : Wm G mX12_thin E (bm G mX12_thin E (pI Q)) μ 33 [(0, .ref (gb G + 132)), (1, .int x1), (2, .int x2)] [.int sx0] := by
  refine L_if_eq C (tgt := 39) dX12_thin_33 rfl (fun p1 => ?_) (fun p1 => ?_)
  · refine L_aload_n C (i := 0) dX12_thin_39 rfl rfl ?_
    refine L_iload_n C (i := 2) dX12_thin_40 rfl rfl ?_
    refine L_invV1v C dX12_thin_41 sh_132 cal_X12_drops lk_X12_248 ⟨Nat.le_of_ble_eq_true rfl, Nat.le_of_ble_eq_true rfl⟩ ⟨Nat.le_of_ble_eq_true rfl, Nat.le_of_ble_eq_true rfl⟩ (Nat.le_of_ble_eq_true rfl) ?_
    exact cc1 p1
  · refine L_goto C (tgt := 47) dX12_thin_36 rfl ?_
    refine L_iinc C (v := (-1)) dX12_thin_47 rfl rfl (Nat.le_of_ble_eq_true rfl) ?_
    refine L_goto C (tgt := 24) dX12_thin_50 rfl ?_
    exact kk2 p1
set_option maxRecDepth 4000 in
theorem k_X12_thin_44 {G : mG} {E : mE} {B : mB} {μ : mM} (C : Cx G mX12_thin E) {x1 : Int32} {x2 : Int32} (kk1 : Wm G mX12_thin E B μ 24 [(0, .ref (gb G + 132)), (1, .int (x1 + (1 : Int32))), (2, .int (x2 + ((-1) : Int32)))] []) : Wm G mX12_thin E B μ 44 [(0, .ref (gb G + 132)), (1, .int x1), (2, .int x2)] [] := by
  refine L_iinc C (v := 1) dX12_thin_44 rfl rfl (Nat.le_of_ble_eq_true rfl) ?_
  refine L_iinc C (v := (-1)) dX12_thin_47 rfl rfl (Nat.le_of_ble_eq_true rfl) ?_
  refine L_goto C (tgt := 24) dX12_thin_50 rfl ?_
  exact kk1
set_option maxRecDepth 4000 in
theorem k_X12_bringsTo_0 {G : mG} {E : mE} {B : mB} {μ : mM} (C : Cx G mX12_bringsTo E) {x1 : Int32} {x2 : Int32} (kk1 : Wm G mX12_bringsTo E B μ 2 [(0, .ref (gb G + 132)), (1, .int x1), (2, .int x2), (3, .int 0)] []) : Wm G mX12_bringsTo E B μ 0 [(0, .ref (gb G + 132)), (1, .int x1), (2, .int x2)] [] := by
  refine L_iconst C (v := 0) dX12_bringsTo_0 rfl ?_
  refine L_istore_n C (i := 3) dX12_bringsTo_1 rfl (Nat.le_of_ble_eq_true rfl) ?_
  exact kk1
theorem e_X12_bringsTo {G : mG} {Q : mM → Prop} {μ : mM} {x1 : Int32} {x2 : Int32} (k : ∀ E, Cx G mX12_bringsTo E → Wm G mX12_bringsTo E (bm G mX12_bringsTo E (pV Q)) μ 0 [(0, .ref (gb G + 132)), (1, .int x1), (2, .int x2)] []) : CtV G mX12_bringsTo [.ref (gb G + 132), .int x1, .int x2] μ Q := CtV.of pn_X12 (Nat.le_of_ble_eq_true rfl) k
set_option maxRecDepth 4000 in
theorem k_X12_bringsTo_2 {G : mG} {E : mE} {Q : mM → Prop} {μ : mM} (C : Cx G mX12_bringsTo E) {x1 : Int32} {x2 : Int32} {x3 : Int32} (ss1 : 8 ≤ x3 → vp_in ((97 : Int32) + x1) 673) (kk2 : 8 ≤ x3 → Wm G mX12_bringsTo E (bm G mX12_bringsTo E (pV Q)) (ms μ 148 8 (μ 135 ((97 : Int32) + x1).toNatClampNeg)) 44 [(0, .ref (gb G + 132)), (2, .int x2), (3, .int x1)] []) (ss3 : ¬ 8 ≤ x3 → vp_in (((161 : Int32) + ((8 : Int32) * x1)) + x3) 673) (ss4 : ¬ 8 ≤ x3 → vp_in x3 9) (kk5 : ¬ 8 ≤ x3 → Wm G mX12_bringsTo E (bm G mX12_bringsTo E (pV Q)) (ms μ 148 x3.toNatClampNeg (μ 135 (((161 : Int32) + ((8 : Int32) * x1)) + x3).toNatClampNeg)) 2 [(0, .ref (gb G + 132)), (1, .int x1), (2, .int x2), (3, .int (x3 + (1 : Int32)))] []) : Wm G mX12_bringsTo E (bm G mX12_bringsTo E (pV Q)) μ 2 [(0, .ref (gb G + 132)), (1, .int x1), (2, .int x2), (3, .int x3)] [] := by
  refine L_iload_n C (i := 3) dX12_bringsTo_2 rfl rfl ?_
  refine L_bipush C (v := 8) dX12_bringsTo_3 rfl ?_
  refine L_icmp_ge C (tgt := 26) dX12_bringsTo_5 rfl (fun p1 => ?_) (fun p1 => ?_)
  · refine L_aload_n C (i := 0) dX12_bringsTo_26 rfl rfl ?_
    refine L_getC C (c' := 148) dX12_bringsTo_27 sh_132 fl_X12_57 rfl rfl ?_
    refine L_bipush C (v := 8) dX12_bringsTo_30 rfl ?_
    refine L_aload_n C (i := 0) dX12_bringsTo_32 rfl rfl ?_
    refine L_getC C (c' := 135) dX12_bringsTo_33 sh_132 fl_X12_16 rfl rfl ?_
    refine L_bipush C (v := 97) dX12_bringsTo_36 rfl ?_
    refine L_iload_n C (i := 1) dX12_bringsTo_38 rfl rfl ?_
    refine L_iadd C dX12_bringsTo_39 ?_
    refine L_iald C dX12_bringsTo_40 sh_135 (ss1 p1) ?_
    refine L_iast C dX12_bringsTo_41 sh_148 (by unfold vp_in; decide) ?_
    refine L_iload_n C (i := 1) dX12_bringsTo_42 rfl rfl ?_
    refine L_istore_n C (i := 3) dX12_bringsTo_43 rfl (Nat.le_of_ble_eq_true rfl) ?_
    refine L_sub [0, 2, 3] rfl ?_
    exact kk2 p1
  · refine L_aload_n C (i := 0) dX12_bringsTo_8 rfl rfl ?_
    refine L_getC C (c' := 148) dX12_bringsTo_9 sh_132 fl_X12_57 rfl rfl ?_
    refine L_iload_n C (i := 3) dX12_bringsTo_12 rfl rfl ?_
    refine L_aload_n C (i := 0) dX12_bringsTo_13 rfl rfl ?_
    refine L_iload_n C (i := 1) dX12_bringsTo_14 rfl rfl ?_
    refine L_iload_n C (i := 3) dX12_bringsTo_15 rfl rfl ?_
    refine L_invV2i C dX12_bringsTo_16 sh_132 cal_X12_cellAt lk_X12_200 ⟨Nat.le_of_ble_eq_true rfl, Nat.le_of_ble_eq_true rfl⟩ ⟨Nat.le_of_ble_eq_true rfl, Nat.le_of_ble_eq_true rfl⟩ (Nat.le_of_ble_eq_true rfl) (a_X12_cellAt (ss3 p1) (?_))
    · refine L_iast C dX12_bringsTo_19 sh_148 (ss4 p1) ?_
      refine L_iinc C (v := 1) dX12_bringsTo_20 rfl rfl (Nat.le_of_ble_eq_true rfl) ?_
      refine L_goto C (tgt := 2) dX12_bringsTo_23 rfl ?_
      exact kk5 p1
set_option maxRecDepth 4000 in
theorem k_X12_bringsTo_44 {G : mG} {E : mE} {Q : mM → Prop} {μ : mM} (C : Cx G mX12_bringsTo E) {x2 : Int32} {x3 : Int32} (kk1 : x3 ≤ x2 → Wm G mX12_bringsTo E (bm G mX12_bringsTo E (pV Q)) μ 65 [(0, .ref (gb G + 132)), (2, .int x2), (3, .int 0)] []) (cc2 : ¬ x3 ≤ x2 → CtV G mX12_copiesRow [.ref (gb G + 132), .int (x3 - (1 : Int32)), .int x3] μ (fun μ' => Wm G mX12_bringsTo E (bm G mX12_bringsTo E (pV Q)) μ' 57 [(0, .ref (gb G + 132)), (2, .int x2), (3, .int x3)] [])) : Wm G mX12_bringsTo E (bm G mX12_bringsTo E (pV Q)) μ 44 [(0, .ref (gb G + 132)), (2, .int x2), (3, .int x3)] [] := by
  refine L_iload_n C (i := 3) dX12_bringsTo_44 rfl rfl ?_
  refine L_iload_n C (i := 2) dX12_bringsTo_45 rfl rfl ?_
  refine L_icmp_le C (tgt := 63) dX12_bringsTo_46 rfl (fun p1 => ?_) (fun p1 => ?_)
  · refine L_iconst C (v := 0) dX12_bringsTo_63 rfl ?_
    refine L_istore_n C (i := 3) dX12_bringsTo_64 rfl (Nat.le_of_ble_eq_true rfl) ?_
    exact kk1 p1
  · refine L_aload_n C (i := 0) dX12_bringsTo_49 rfl rfl ?_
    refine L_iload_n C (i := 3) dX12_bringsTo_50 rfl rfl ?_
    refine L_iconst C (v := 1) dX12_bringsTo_51 rfl ?_
    refine L_isub C dX12_bringsTo_52 ?_
    refine L_iload_n C (i := 3) dX12_bringsTo_53 rfl rfl ?_
    refine L_invV2v C dX12_bringsTo_54 sh_132 cal_X12_copiesRow lk_X12_244 ⟨Nat.le_of_ble_eq_true rfl, Nat.le_of_ble_eq_true rfl⟩ ⟨Nat.le_of_ble_eq_true rfl, Nat.le_of_ble_eq_true rfl⟩ (Nat.le_of_ble_eq_true rfl) ?_
    exact cc2 p1
set_option maxRecDepth 4000 in
theorem k_X12_bringsTo_57 {G : mG} {E : mE} {B : mB} {μ : mM} (C : Cx G mX12_bringsTo E) {x2 : Int32} {x3 : Int32} (kk1 : Wm G mX12_bringsTo E B μ 44 [(0, .ref (gb G + 132)), (2, .int x2), (3, .int (x3 + ((-1) : Int32)))] []) : Wm G mX12_bringsTo E B μ 57 [(0, .ref (gb G + 132)), (2, .int x2), (3, .int x3)] [] := by
  refine L_iinc C (v := (-1)) dX12_bringsTo_57 rfl rfl (Nat.le_of_ble_eq_true rfl) ?_
  refine L_goto C (tgt := 44) dX12_bringsTo_60 rfl ?_
  exact kk1
set_option maxRecDepth 4000 in
theorem k_X12_bringsTo_65 {G : mG} {E : mE} {Q : mM → Prop} {μ : mM} (C : Cx G mX12_bringsTo E) {x2 : Int32} {x3 : Int32} (ss1 : 8 ≤ x3 → vp_in ((97 : Int32) + x2) 673) (rr2 : 8 ≤ x3 → Q (ms μ 135 ((97 : Int32) + x2).toNatClampNeg (μ 148 8))) (ss3 : ¬ 8 ≤ x3 → vp_in x3 9) (ss4 : ¬ 8 ≤ x3 → vp_in (((161 : Int32) + ((8 : Int32) * x2)) + x3) 673) (kk5 : ¬ 8 ≤ x3 → Wm G mX12_bringsTo E (bm G mX12_bringsTo E (pV Q)) (ms μ 135 (((161 : Int32) + ((8 : Int32) * x2)) + x3).toNatClampNeg (μ 148 x3.toNatClampNeg)) 65 [(0, .ref (gb G + 132)), (2, .int x2), (3, .int (x3 + (1 : Int32)))] []) : Wm G mX12_bringsTo E (bm G mX12_bringsTo E (pV Q)) μ 65 [(0, .ref (gb G + 132)), (2, .int x2), (3, .int x3)] [] := by
  refine L_iload_n C (i := 3) dX12_bringsTo_65 rfl rfl ?_
  refine L_bipush C (v := 8) dX12_bringsTo_66 rfl ?_
  refine L_icmp_ge C (tgt := 98) dX12_bringsTo_68 rfl (fun p1 => ?_) (fun p1 => ?_)
  · refine L_aload_n C (i := 0) dX12_bringsTo_98 rfl rfl ?_
    refine L_getC C (c' := 135) dX12_bringsTo_99 sh_132 fl_X12_16 rfl rfl ?_
    refine L_bipush C (v := 97) dX12_bringsTo_102 rfl ?_
    refine L_iload_n C (i := 2) dX12_bringsTo_104 rfl rfl ?_
    refine L_iadd C dX12_bringsTo_105 ?_
    refine L_aload_n C (i := 0) dX12_bringsTo_106 rfl rfl ?_
    refine L_getC C (c' := 148) dX12_bringsTo_107 sh_132 fl_X12_57 rfl rfl ?_
    refine L_bipush C (v := 8) dX12_bringsTo_110 rfl ?_
    refine L_iald C dX12_bringsTo_112 sh_148 (by unfold vp_in; decide) ?_
    refine L_iast C dX12_bringsTo_113 sh_135 (ss1 p1) ?_
    exact L_irV C dX12_bringsTo_114 rfl (rr2 p1)
  · refine L_aload_n C (i := 0) dX12_bringsTo_71 rfl rfl ?_
    refine L_getC C (c' := 135) dX12_bringsTo_72 sh_132 fl_X12_16 rfl rfl ?_
    refine L_sipush C (v := 161) dX12_bringsTo_75 rfl ?_
    refine L_bipush C (v := 8) dX12_bringsTo_78 rfl ?_
    refine L_iload_n C (i := 2) dX12_bringsTo_80 rfl rfl ?_
    refine L_imul C dX12_bringsTo_81 ?_
    refine L_iadd C dX12_bringsTo_82 ?_
    refine L_iload_n C (i := 3) dX12_bringsTo_83 rfl rfl ?_
    refine L_iadd C dX12_bringsTo_84 ?_
    refine L_aload_n C (i := 0) dX12_bringsTo_85 rfl rfl ?_
    refine L_getC C (c' := 148) dX12_bringsTo_86 sh_132 fl_X12_57 rfl rfl ?_
    refine L_iload_n C (i := 3) dX12_bringsTo_89 rfl rfl ?_
    refine L_iald C dX12_bringsTo_90 sh_148 (ss3 p1) ?_
    refine L_iast C dX12_bringsTo_91 sh_135 (ss4 p1) ?_
    refine L_iinc C (v := 1) dX12_bringsTo_92 rfl rfl (Nat.le_of_ble_eq_true rfl) ?_
    refine L_goto C (tgt := 65) dX12_bringsTo_95 rfl ?_
    exact kk5 p1
set_option maxRecDepth 4000 in
theorem k_X12_newIn_0 {G : mG} {E : mE} {B : mB} {μ : mM} (C : Cx G mX12_newIn E) {x1 : Int32} {x2 : Int32} (kk1 : Wm G mX12_newIn E B μ 5 [(0, .ref (gb G + 132)), (1, .int x1), (2, .int x2), (3, .int 0), (4, .int 0)] []) : Wm G mX12_newIn E B μ 0 [(0, .ref (gb G + 132)), (1, .int x1), (2, .int x2)] [] := by
  refine L_iconst C (v := 0) dX12_newIn_0 rfl ?_
  refine L_istore_n C (i := 3) dX12_newIn_1 rfl (Nat.le_of_ble_eq_true rfl) ?_
  refine L_iconst C (v := 0) dX12_newIn_2 rfl ?_
  refine L_istore C dX12_newIn_3 (Nat.le_of_ble_eq_true rfl) ?_
  exact kk1
theorem e_X12_newIn {G : mG} {Q : Int32 → mM → Prop} {μ : mM} {x1 : Int32} {x2 : Int32} (k : ∀ E, Cx G mX12_newIn E → Wm G mX12_newIn E (bm G mX12_newIn E (pI Q)) μ 0 [(0, .ref (gb G + 132)), (1, .int x1), (2, .int x2)] []) : CtI G mX12_newIn [.ref (gb G + 132), .int x1, .int x2] μ Q := CtI.of pn_X12 (Nat.le_of_ble_eq_true rfl) k
set_option maxRecDepth 4000 in
theorem k_X12_newIn_5 {G : mG} {E : mE} {Q : Int32 → mM → Prop} {μ : mM} (C : Cx G mX12_newIn E) {x1 : Int32} {x2 : Int32} {x3 : Int32} {x4 : Int32} (rr1 : (μ 132 13) ≤ x4 → Q x3 μ) (cc2 : ¬ (μ 132 13) ≤ x4 → CtI G mX12_hasMix [.ref (gb G + 132), .int x1, .int x4] μ (fun r μ' => Wm G mX12_newIn E (bm G mX12_newIn E (pI Q)) μ' 22 [(0, .ref (gb G + 132)), (1, .int x1), (2, .int x2), (4, .int x4)] [.int r, .int x3])) : Wm G mX12_newIn E (bm G mX12_newIn E (pI Q)) μ 5 [(0, .ref (gb G + 132)), (1, .int x1), (2, .int x2), (3, .int x3), (4, .int x4)] [] := by
  refine L_iload C dX12_newIn_5 rfl ?_
  refine L_aload_n C (i := 0) dX12_newIn_7 rfl rfl ?_
  refine L_getI C dX12_newIn_8 sh_132 fl_X12_168 rfl ?_
  refine L_icmp_ge C (tgt := 49) dX12_newIn_11 rfl (fun p1 => ?_) (fun p1 => ?_)
  · refine L_iload_n C (i := 3) dX12_newIn_49 rfl rfl ?_
    exact L_irI C dX12_newIn_50 rfl (rr1 p1)
  · refine L_iload_n C (i := 3) dX12_newIn_14 rfl rfl ?_
    refine L_aload_n C (i := 0) dX12_newIn_15 rfl rfl ?_
    refine L_iload_n C (i := 1) dX12_newIn_16 rfl rfl ?_
    refine L_iload C dX12_newIn_17 rfl ?_
    refine L_sub [0, 1, 2, 4] rfl ?_
    refine L_invV2i C dX12_newIn_19 sh_132 cal_X12_hasMix lk_X12_203 ⟨Nat.le_of_ble_eq_true rfl, Nat.le_of_ble_eq_true rfl⟩ ⟨Nat.le_of_ble_eq_true rfl, Nat.le_of_ble_eq_true rfl⟩ (Nat.le_of_ble_eq_true rfl) ?_
    exact cc2 p1
set_option maxRecDepth 4000 in
theorem k_X12_newIn_22 {G : mG} {E : mE} {Q : Int32 → mM → Prop} {μ : mM} (C : Cx G mX12_newIn E) {x1 : Int32} {x2 : Int32} {x4 : Int32} {sx0 : Int32} {sx1 : Int32} (kk1 : sx1 = 0 → Wm G mX12_newIn E (bm G mX12_newIn E (pI Q)) μ 5 [(0, .ref (gb G + 132)), (1, .int x1), (2, .int x2), (3, .int (sx0 + (0 : Int32))), (4, .int (x4 + (1 : Int32)))] []) (cc2 : ¬ sx1 = 0 → CtI G mX12_rowsWith [.ref (gb G + 132), .int x4, .int 0, .int x2] μ (fun r μ' => Wm G mX12_newIn E (bm G mX12_newIn E (pI Q)) μ' 33 [(0, .ref (gb G + 132)), (1, .int x1), (2, .int x2), (4, .int x4)] [.int r, .int sx0])) : Wm G mX12_newIn E (bm G mX12_newIn E (pI Q)) μ 22 [(0, .ref (gb G + 132)), (1, .int x1), (2, .int x2), (4, .int x4)] [.int sx1, .int sx0] := by
  refine L_if_eq C (tgt := 40) dX12_newIn_22 rfl (fun p1 => ?_) (fun p1 => ?_)
  · refine L_iconst C (v := 0) dX12_newIn_40 rfl ?_
    refine L_iadd C dX12_newIn_41 ?_
    refine L_istore_n C (i := 3) dX12_newIn_42 rfl (Nat.le_of_ble_eq_true rfl) ?_
    refine L_iinc C (v := 1) dX12_newIn_43 rfl rfl (Nat.le_of_ble_eq_true rfl) ?_
    refine L_goto C (tgt := 5) dX12_newIn_46 rfl ?_
    exact kk1 p1
  · refine L_aload_n C (i := 0) dX12_newIn_25 rfl rfl ?_
    refine L_iload C dX12_newIn_26 rfl ?_
    refine L_iconst C (v := 0) dX12_newIn_28 rfl ?_
    refine L_iload_n C (i := 2) dX12_newIn_29 rfl rfl ?_
    refine L_invV3i C dX12_newIn_30 sh_132 cal_X12_rowsWith lk_X12_206 ⟨Nat.le_of_ble_eq_true rfl, Nat.le_of_ble_eq_true rfl⟩ ⟨Nat.le_of_ble_eq_true rfl, Nat.le_of_ble_eq_true rfl⟩ (Nat.le_of_ble_eq_true rfl) ?_
    exact cc2 p1
set_option maxRecDepth 4000 in
theorem k_X12_newIn_33 {G : mG} {E : mE} {B : mB} {μ : mM} (C : Cx G mX12_newIn E) {x1 : Int32} {x2 : Int32} {x4 : Int32} {sx0 : Int32} {sx1 : Int32} (kk1 : ∀ v1 : Int32, ((¬ sx1 = 0 ∧ v1 = 0) ∨ (sx1 = 0 ∧ v1 = 1)) → Wm G mX12_newIn E B μ 5 [(0, .ref (gb G + 132)), (1, .int x1), (2, .int x2), (3, .int (sx0 + v1)), (4, .int (x4 + (1 : Int32)))] []) : Wm G mX12_newIn E B μ 33 [(0, .ref (gb G + 132)), (1, .int x1), (2, .int x2), (4, .int x4)] [.int sx1, .int sx0] := by
  refine phi (fun v1 : Int32 => Wm G mX12_newIn E B μ 41 [(0, .ref (gb G + 132)), (1, .int x1), (2, .int x2), (4, .int x4)] [.int v1, .int sx0]) (fun v1 : Int32 => (¬ sx1 = 0 ∧ v1 = 0) ∨ (sx1 = 0 ∧ v1 = 1)) (fun H => ?_) (fun v1 hv1 => ?_)
  · refine L_if_ne C (tgt := 40) dX12_newIn_33 rfl (fun p1 => ?_) (fun p1 => ?_)
    · refine L_iconst C (v := 0) dX12_newIn_40 rfl ?_
      exact H _ (Or.inl ⟨p1, rfl⟩)
    · refine L_iconst C (v := 1) dX12_newIn_36 rfl ?_
      refine L_goto C (tgt := 41) dX12_newIn_37 rfl ?_
      exact H _ (Or.inr ⟨p1, rfl⟩)
  refine L_iadd C dX12_newIn_41 ?_
  refine L_istore_n C (i := 3) dX12_newIn_42 rfl (Nat.le_of_ble_eq_true rfl) ?_
  refine L_iinc C (v := 1) dX12_newIn_43 rfl rfl (Nat.le_of_ble_eq_true rfl) ?_
  refine L_goto C (tgt := 5) dX12_newIn_46 rfl ?_
  exact kk1 v1 hv1
set_option maxRecDepth 4000 in
theorem k_X12_order_0 {G : mG} {E : mE} {Q : Int32 → mM → Prop} {μ : mM} (C : Cx G mX12_order E)  (rr1 : (μ 135 0) ≤ 0 → Q (-1) μ) (cc2 : ¬ (μ 135 0) ≤ 0 → CtV G mX12_keepsAct [.ref (gb G + 132)] μ (fun μ' => Wm G mX12_order E (bm G mX12_order E (pI Q)) μ' 13 [(0, .ref (gb G + 132))] [])) : Wm G mX12_order E (bm G mX12_order E (pI Q)) μ 0 [(0, .ref (gb G + 132))] [] := by
  refine L_aload_n C (i := 0) dX12_order_0 rfl rfl ?_
  refine L_invV0i C dX12_order_1 sh_132 cal_X12_isPlan lk_X12_212 ⟨Nat.le_of_ble_eq_true rfl, Nat.le_of_ble_eq_true rfl⟩ ⟨Nat.le_of_ble_eq_true rfl, Nat.le_of_ble_eq_true rfl⟩ (Nat.le_of_ble_eq_true rfl) (a_X12_isPlan (fun p1 => ?_) (fun p2 => ?_))
  · refine L_if_ne C (tgt := 9) dX12_order_4 rfl (fun p3 => absurd p3 (by decide)) (fun p3 => ?_)
    refine L_iconst C (v := (-1)) dX12_order_7 rfl ?_
    exact L_irI C dX12_order_8 rfl (rr1 p1)
  · refine L_if_ne C (tgt := 9) dX12_order_4 rfl (fun p4 => ?_) (fun p4 => absurd p4 (by decide))
    refine L_aload_n C (i := 0) dX12_order_9 rfl rfl ?_
    refine L_invV0v C dX12_order_10 sh_132 cal_X12_keepsAct lk_X12_230 ⟨Nat.le_of_ble_eq_true rfl, Nat.le_of_ble_eq_true rfl⟩ ⟨Nat.le_of_ble_eq_true rfl, Nat.le_of_ble_eq_true rfl⟩ (Nat.le_of_ble_eq_true rfl) ?_
    exact cc2 p2
theorem e_X12_order {G : mG} {Q : Int32 → mM → Prop} {μ : mM}  (k : ∀ E, Cx G mX12_order E → Wm G mX12_order E (bm G mX12_order E (pI Q)) μ 0 [(0, .ref (gb G + 132))] []) : CtI G mX12_order [.ref (gb G + 132)] μ Q := CtI.of pn_X12 (Nat.le_of_ble_eq_true rfl) k
set_option maxRecDepth 4000 in
theorem k_X12_order_13 {G : mG} {E : mE} {B : mB} {μ : mM} (C : Cx G mX12_order E)  (kk1 : Wm G mX12_order E B μ 17 [(0, .ref (gb G + 132)), (1, .int 0), (2, .int 0)] []) : Wm G mX12_order E B μ 13 [(0, .ref (gb G + 132))] [] := by
  refine L_iconst C (v := 0) dX12_order_13 rfl ?_
  refine L_istore_n C (i := 1) dX12_order_14 rfl (Nat.le_of_ble_eq_true rfl) ?_
  refine L_iconst C (v := 0) dX12_order_15 rfl ?_
  refine L_istore_n C (i := 2) dX12_order_16 rfl (Nat.le_of_ble_eq_true rfl) ?_
  exact kk1
set_option maxRecDepth 4000 in
theorem k_X12_order_17 {G : mG} {E : mE} {Q : Int32 → mM → Prop} {μ : mM} (C : Cx G mX12_order E) {x1 : Int32} {x2 : Int32} (rr1 : (μ 135 3) ≤ x2 → Q x1 μ) (cc2 : ¬ (μ 135 3) ≤ x2 → CtI G mX12_newIn [.ref (gb G + 132), .int x2, .int x2] μ (fun r μ' => Wm G mX12_order E (bm G mX12_order E (pI Q)) μ' 35 [(0, .ref (gb G + 132)), (1, .int x1), (2, .int x2), (3, .int x2)] [.int r])) : Wm G mX12_order E (bm G mX12_order E (pI Q)) μ 17 [(0, .ref (gb G + 132)), (1, .int x1), (2, .int x2)] [] := by
  refine L_iload_n C (i := 2) dX12_order_17 rfl rfl ?_
  refine L_aload_n C (i := 0) dX12_order_18 rfl rfl ?_
  refine L_getC C (c' := 135) dX12_order_19 sh_132 fl_X12_16 rfl rfl ?_
  refine L_iconst C (v := 3) dX12_order_22 rfl ?_
  refine L_iald C dX12_order_23 sh_135 (by unfold vp_in; decide) ?_
  refine L_icmp_ge C (tgt := 110) dX12_order_24 rfl (fun p1 => ?_) (fun p1 => ?_)
  · refine L_iload_n C (i := 1) dX12_order_110 rfl rfl ?_
    exact L_irI C dX12_order_111 rfl (rr1 p1)
  · refine L_iload_n C (i := 2) dX12_order_27 rfl rfl ?_
    refine L_istore_n C (i := 3) dX12_order_28 rfl (Nat.le_of_ble_eq_true rfl) ?_
    refine L_aload_n C (i := 0) dX12_order_29 rfl rfl ?_
    refine L_iload_n C (i := 2) dX12_order_30 rfl rfl ?_
    refine L_iload_n C (i := 2) dX12_order_31 rfl rfl ?_
    refine L_invV2i C dX12_order_32 sh_132 cal_X12_newIn lk_X12_301 ⟨Nat.le_of_ble_eq_true rfl, Nat.le_of_ble_eq_true rfl⟩ ⟨Nat.le_of_ble_eq_true rfl, Nat.le_of_ble_eq_true rfl⟩ (Nat.le_of_ble_eq_true rfl) ?_
    exact cc2 p1
set_option maxRecDepth 4000 in
theorem k_X12_order_35 {G : mG} {E : mE} {B : mB} {μ : mM} (C : Cx G mX12_order E) {x1 : Int32} {x2 : Int32} {x3 : Int32} {sx0 : Int32} (kk1 : Wm G mX12_order E B μ 42 [(0, .ref (gb G + 132)), (1, .int x1), (2, .int x2), (3, .int x3), (4, .int sx0), (5, .int (x2 + (1 : Int32)))] []) : Wm G mX12_order E B μ 35 [(0, .ref (gb G + 132)), (1, .int x1), (2, .int x2), (3, .int x3)] [.int sx0] := by
  refine L_istore C dX12_order_35 (Nat.le_of_ble_eq_true rfl) ?_
  refine L_iload_n C (i := 2) dX12_order_37 rfl rfl ?_
  refine L_iconst C (v := 1) dX12_order_38 rfl ?_
  refine L_iadd C dX12_order_39 ?_
  refine L_istore C dX12_order_40 (Nat.le_of_ble_eq_true rfl) ?_
  exact kk1
set_option maxRecDepth 4000 in
theorem k_X12_order_42 {G : mG} {E : mE} {Q : Int32 → mM → Prop} {μ : mM} (C : Cx G mX12_order E) {x1 : Int32} {x2 : Int32} {x3 : Int32} {x4 : Int32} {x5 : Int32} (cc1 : (μ 135 3) ≤ x5 → CtV G mX12_bringsTo [.ref (gb G + 132), .int x3, .int x2] μ (fun μ' => Wm G mX12_order E (bm G mX12_order E (pI Q)) μ' 91 [(0, .ref (gb G + 132)), (1, .int x1), (2, .int x2), (4, .int x4)] [])) (cc2 : ¬ (μ 135 3) ≤ x5 → CtI G mX12_newIn [.ref (gb G + 132), .int x5, .int x2] μ (fun r μ' => Wm G mX12_order E (bm G mX12_order E (pI Q)) μ' 60 [(0, .ref (gb G + 132)), (1, .int x1), (2, .int x2), (3, .int x3), (4, .int x4), (5, .int x5)] [.int r])) : Wm G mX12_order E (bm G mX12_order E (pI Q)) μ 42 [(0, .ref (gb G + 132)), (1, .int x1), (2, .int x2), (3, .int x3), (4, .int x4), (5, .int x5)] [] := by
  refine L_iload C dX12_order_42 rfl ?_
  refine L_aload_n C (i := 0) dX12_order_44 rfl rfl ?_
  refine L_getC C (c' := 135) dX12_order_45 sh_132 fl_X12_16 rfl rfl ?_
  refine L_iconst C (v := 3) dX12_order_48 rfl ?_
  refine L_iald C dX12_order_49 sh_135 (by unfold vp_in; decide) ?_
  refine L_icmp_ge C (tgt := 85) dX12_order_50 rfl (fun p1 => ?_) (fun p1 => ?_)
  · refine L_aload_n C (i := 0) dX12_order_85 rfl rfl ?_
    refine L_iload_n C (i := 3) dX12_order_86 rfl rfl ?_
    refine L_iload_n C (i := 2) dX12_order_87 rfl rfl ?_
    refine L_sub [0, 1, 2, 4] rfl ?_
    refine L_invV2v C dX12_order_88 sh_132 cal_X12_bringsTo lk_X12_304 ⟨Nat.le_of_ble_eq_true rfl, Nat.le_of_ble_eq_true rfl⟩ ⟨Nat.le_of_ble_eq_true rfl, Nat.le_of_ble_eq_true rfl⟩ (Nat.le_of_ble_eq_true rfl) ?_
    exact cc1 p1
  · refine L_aload_n C (i := 0) dX12_order_53 rfl rfl ?_
    refine L_iload C dX12_order_54 rfl ?_
    refine L_iload_n C (i := 2) dX12_order_56 rfl rfl ?_
    refine L_invV2i C dX12_order_57 sh_132 cal_X12_newIn lk_X12_301 ⟨Nat.le_of_ble_eq_true rfl, Nat.le_of_ble_eq_true rfl⟩ ⟨Nat.le_of_ble_eq_true rfl, Nat.le_of_ble_eq_true rfl⟩ (Nat.le_of_ble_eq_true rfl) ?_
    exact cc2 p1
set_option maxRecDepth 4000 in
theorem k_X12_order_60 {G : mG} {E : mE} {B : mB} {μ : mM} (C : Cx G mX12_order E) {x1 : Int32} {x2 : Int32} {x3 : Int32} {x4 : Int32} {x5 : Int32} {sx0 : Int32} (kk1 : x4 < sx0 → Wm G mX12_order E B μ 42 [(0, .ref (gb G + 132)), (1, .int x1), (2, .int x2), (3, .int x5), (4, .int sx0), (5, .int (x5 + (1 : Int32)))] []) (kk2 : ¬ x4 < sx0 → Wm G mX12_order E B μ 42 [(0, .ref (gb G + 132)), (1, .int x1), (2, .int x2), (3, .int x3), (4, .int x4), (5, .int (x5 + (1 : Int32)))] []) : Wm G mX12_order E B μ 60 [(0, .ref (gb G + 132)), (1, .int x1), (2, .int x2), (3, .int x3), (4, .int x4), (5, .int x5)] [.int sx0] := by
  refine L_istore C dX12_order_60 (Nat.le_of_ble_eq_true rfl) ?_
  refine L_iload C dX12_order_62 rfl ?_
  refine L_iload C dX12_order_64 rfl ?_
  refine L_icmp_gt C (tgt := 72) dX12_order_66 rfl (fun p1 => ?_) (fun p1 => ?_)
  · refine L_iload C dX12_order_72 rfl ?_
    refine L_istore_n C (i := 3) dX12_order_74 rfl (Nat.le_of_ble_eq_true rfl) ?_
    refine L_iload C dX12_order_75 rfl ?_
    refine L_istore C dX12_order_77 (Nat.le_of_ble_eq_true rfl) ?_
    refine L_iinc C (v := 1) dX12_order_79 rfl rfl (Nat.le_of_ble_eq_true rfl) ?_
    refine L_goto C (tgt := 42) dX12_order_82 rfl ?_
    refine L_sub [0, 1, 2, 3, 4, 5] rfl ?_
    exact kk1 p1
  · refine L_goto C (tgt := 79) dX12_order_69 rfl ?_
    refine L_iinc C (v := 1) dX12_order_79 rfl rfl (Nat.le_of_ble_eq_true rfl) ?_
    refine L_goto C (tgt := 42) dX12_order_82 rfl ?_
    refine L_sub [0, 1, 2, 3, 4, 5] rfl ?_
    exact kk2 p1
set_option maxRecDepth 4000 in
theorem k_X12_order_91 {G : mG} {E : mE} {B : mB} {μ : mM} (C : Cx G mX12_order E) {x1 : Int32} {x2 : Int32} {x4 : Int32} (kk1 : ∀ v1 : Int32, ((x4 ≤ 0 ∧ v1 = 0) ∨ (¬ x4 ≤ 0 ∧ v1 = 1)) → Wm G mX12_order E B μ 17 [(0, .ref (gb G + 132)), (1, .int (x1 + v1)), (2, .int (x2 + (1 : Int32)))] []) : Wm G mX12_order E B μ 91 [(0, .ref (gb G + 132)), (1, .int x1), (2, .int x2), (4, .int x4)] [] := by
  refine L_iload_n C (i := 1) dX12_order_91 rfl rfl ?_
  refine L_iload C dX12_order_92 rfl ?_
  refine phi (fun v1 : Int32 => Wm G mX12_order E B μ 102 [(0, .ref (gb G + 132)), (2, .int x2)] [.int v1, .int x1]) (fun v1 : Int32 => (x4 ≤ 0 ∧ v1 = 0) ∨ (¬ x4 ≤ 0 ∧ v1 = 1)) (fun H => ?_) (fun v1 hv1 => ?_)
  · refine L_if_le C (tgt := 101) dX12_order_94 rfl (fun p1 => ?_) (fun p1 => ?_)
    · refine L_iconst C (v := 0) dX12_order_101 rfl ?_
      refine L_sub [0, 2] rfl ?_
      exact H _ (Or.inl ⟨p1, rfl⟩)
    · refine L_iconst C (v := 1) dX12_order_97 rfl ?_
      refine L_goto C (tgt := 102) dX12_order_98 rfl ?_
      refine L_sub [0, 2] rfl ?_
      exact H _ (Or.inr ⟨p1, rfl⟩)
  refine L_iadd C dX12_order_102 ?_
  refine L_istore_n C (i := 1) dX12_order_103 rfl (Nat.le_of_ble_eq_true rfl) ?_
  refine L_iinc C (v := 1) dX12_order_104 rfl rfl (Nat.le_of_ble_eq_true rfl) ?_
  refine L_goto C (tgt := 17) dX12_order_107 rfl ?_
  exact kk1 v1 hv1
set_option maxRecDepth 4000 in
theorem k_X12_draw_0 {G : mG} {E : mE} {Q : Int32 → mM → Prop} {μ : mM} (C : Cx G mX12_draw E) {x1 : Int32} (dd1 : ¬ x1 = 0) (rr2 : Q ((((((μ 135 4).toInt64 * (1103515245 : Int64)) + (12345 : Int64)) - (((μ 135 4).toInt64 * (1103515245 : Int64)) + (12345 : Int64)) / 2147483648 * 2147483648).toInt32 / 65536) - (((((μ 135 4).toInt64 * (1103515245 : Int64)) + (12345 : Int64)) - (((μ 135 4).toInt64 * (1103515245 : Int64)) + (12345 : Int64)) / 2147483648 * 2147483648).toInt32 / 65536) / x1 * x1) (ms μ 135 4 ((((μ 135 4).toInt64 * (1103515245 : Int64)) + (12345 : Int64)) - (((μ 135 4).toInt64 * (1103515245 : Int64)) + (12345 : Int64)) / 2147483648 * 2147483648).toInt32)) : Wm G mX12_draw E (bm G mX12_draw E (pI Q)) μ 0 [(0, .ref (gb G + 132)), (1, .int x1)] [] := by
  refine L_aload_n C (i := 0) dX12_draw_0 rfl rfl ?_
  refine L_getC C (c' := 135) dX12_draw_1 sh_132 fl_X12_16 rfl rfl ?_
  refine L_iconst C (v := 4) dX12_draw_4 rfl ?_
  refine L_aload_n C (i := 0) dX12_draw_5 rfl rfl ?_
  refine L_getC C (c' := 135) dX12_draw_6 sh_132 fl_X12_16 rfl rfl ?_
  refine L_iconst C (v := 4) dX12_draw_9 rfl ?_
  refine L_iald C dX12_draw_10 sh_135 (by unfold vp_in; decide) ?_
  refine L_i2l C dX12_draw_11 ?_
  refine L_ldc2 C dX12_draw_12 cn_X12_307 ?_
  refine L_lmul C dX12_draw_15 ?_
  refine L_ldc2 C dX12_draw_16 cn_X12_309 ?_
  refine L_ladd C dX12_draw_19 ?_
  refine L_ldc2 C dX12_draw_20 cn_X12_311 ?_
  refine L_lrem C dX12_draw_23 (by decide) ?_
  refine L_l2i C dX12_draw_24 ?_
  refine L_iast C dX12_draw_25 sh_135 (by unfold vp_in; decide) ?_
  refine L_aload_n C (i := 0) dX12_draw_26 rfl rfl ?_
  refine L_getC C (c' := 135) dX12_draw_27 sh_132 fl_X12_16 rfl rfl ?_
  refine L_iconst C (v := 4) dX12_draw_30 rfl ?_
  refine L_iald C dX12_draw_31 sh_135 (by unfold vp_in; decide) ?_
  refine L_ldcw C dX12_draw_32 cn_X12_313 ?_
  refine L_idiv C dX12_draw_35 (by decide) ?_
  refine L_iload_n C (i := 1) dX12_draw_36 rfl rfl ?_
  refine L_irem C dX12_draw_37 (dd1) ?_
  exact L_irI C dX12_draw_38 rfl (rr2)
theorem a_X12_draw {G : mG} {Q : Int32 → mM → Prop} {μ : mM} {x1 : Int32} (dd1 : ¬ x1 = 0) (rr2 : Q ((((((μ 135 4).toInt64 * (1103515245 : Int64)) + (12345 : Int64)) - (((μ 135 4).toInt64 * (1103515245 : Int64)) + (12345 : Int64)) / 2147483648 * 2147483648).toInt32 / 65536) - (((((μ 135 4).toInt64 * (1103515245 : Int64)) + (12345 : Int64)) - (((μ 135 4).toInt64 * (1103515245 : Int64)) + (12345 : Int64)) / 2147483648 * 2147483648).toInt32 / 65536) / x1 * x1) (ms μ 135 4 ((((μ 135 4).toInt64 * (1103515245 : Int64)) + (12345 : Int64)) - (((μ 135 4).toInt64 * (1103515245 : Int64)) + (12345 : Int64)) / 2147483648 * 2147483648).toInt32)) : CtI G mX12_draw [.ref (gb G + 132), .int x1] μ Q :=
  CtI.of pn_X12 (Nat.le_of_ble_eq_true rfl) (fun E C => k_X12_draw_0 C dd1 rr2)
set_option maxRecDepth 4000 in
theorem k_X12_canGreedy_0 {G : mG} {E : mE} {Q : Int32 → mM → Prop} {μ : mM} (C : Cx G mX12_canGreedy E) {x1 : Int32} {x2 : Int32} (cc1 : CtV G mX12_probes [.ref (gb G + 132), .ref (gb G + 146)] μ (fun μ' => Wm G mX12_canGreedy E (bm G mX12_canGreedy E (pI Q)) μ' 8 [(0, .ref (gb G + 132)), (1, .int x1), (2, .int x2)] [])) : Wm G mX12_canGreedy E (bm G mX12_canGreedy E (pI Q)) μ 0 [(0, .ref (gb G + 132)), (1, .int x1), (2, .int x2)] [] := by
  refine L_aload_n C (i := 0) dX12_canGreedy_0 rfl rfl ?_
  refine L_aload_n C (i := 0) dX12_canGreedy_1 rfl rfl ?_
  refine L_getC C (c' := 146) dX12_canGreedy_2 sh_132 fl_X12_51 rfl rfl ?_
  refine L_invV1v C dX12_canGreedy_5 sh_132 cal_X12_probes lk_X12_226 ⟨Nat.le_of_ble_eq_true rfl, Nat.le_of_ble_eq_true rfl⟩ ⟨Nat.le_of_ble_eq_true rfl, Nat.le_of_ble_eq_true rfl⟩ (Nat.le_of_ble_eq_true rfl) ?_
  exact cc1
theorem e_X12_canGreedy {G : mG} {Q : Int32 → mM → Prop} {μ : mM} {x1 : Int32} {x2 : Int32} (k : ∀ E, Cx G mX12_canGreedy E → Wm G mX12_canGreedy E (bm G mX12_canGreedy E (pI Q)) μ 0 [(0, .ref (gb G + 132)), (1, .int x1), (2, .int x2)] []) : CtI G mX12_canGreedy [.ref (gb G + 132), .int x1, .int x2] μ Q := CtI.of pn_X12 (Nat.le_of_ble_eq_true rfl) k
set_option maxRecDepth 4000 in
theorem k_X12_canGreedy_8 {G : mG} {E : mE} {Q : Int32 → mM → Prop} {μ : mM} (C : Cx G mX12_canGreedy E) {x1 : Int32} {x2 : Int32} (ss1 : vp_in x1 8) (cc2 : CtI G mX12_canProbe [.ref (gb G + 132)] (ms μ 138 x1.toNatClampNeg x2) (fun r μ' => Wm G mX12_canGreedy E (bm G mX12_canGreedy E (pI Q)) μ' 19 [] [.int r])) : Wm G mX12_canGreedy E (bm G mX12_canGreedy E (pI Q)) μ 8 [(0, .ref (gb G + 132)), (1, .int x1), (2, .int x2)] [] := by
  refine L_aload_n C (i := 0) dX12_canGreedy_8 rfl rfl ?_
  refine L_getC C (c' := 138) dX12_canGreedy_9 sh_132 fl_X12_26 rfl rfl ?_
  refine L_iload_n C (i := 1) dX12_canGreedy_12 rfl rfl ?_
  refine L_iload_n C (i := 2) dX12_canGreedy_13 rfl rfl ?_
  refine L_iast C dX12_canGreedy_14 sh_138 (ss1) ?_
  refine L_aload_n C (i := 0) dX12_canGreedy_15 rfl rfl ?_
  refine L_sub [] rfl ?_
  refine L_invV0i C dX12_canGreedy_16 sh_132 cal_X12_canProbe lk_X12_162 ⟨Nat.le_of_ble_eq_true rfl, Nat.le_of_ble_eq_true rfl⟩ ⟨Nat.le_of_ble_eq_true rfl, Nat.le_of_ble_eq_true rfl⟩ (Nat.le_of_ble_eq_true rfl) ?_
  exact cc2
set_option maxRecDepth 4000 in
theorem k_X12_canGreedy_19 {G : mG} {E : mE} {Q : Int32 → mM → Prop} {μ : mM} (C : Cx G mX12_canGreedy E) {sx0 : Int32} (zz1 : (sx0 = 0 ∨ sx0 = 1)) (rr2 : Q sx0 μ) : Wm G mX12_canGreedy E (bm G mX12_canGreedy E (pI Q)) μ 19 [] [.int sx0] := by
  exact L_irZ C dX12_canGreedy_19 rfl (zz1) (rr2)
set_option maxRecDepth 4000 in
theorem k_X12_drawn_0 {G : mG} {E : mE} {Q : Int32 → mM → Prop} {μ : mM} (C : Cx G mX12_drawn E)  (rr1 : ((μ 135 0) ≤ 0 ∨ (¬ (μ 135 0) ≤ 0 ∧ (μ 135 3) = 64)) → Q (-1) μ) (cc2 : ¬ (μ 135 0) ≤ 0 → ¬ (μ 135 3) = 64 → CtV G mX12_keepsAct [.ref (gb G + 132)] μ (fun μ' => Wm G mX12_drawn E (bm G mX12_drawn E (pI Q)) μ' 24 [(0, .ref (gb G + 132))] [])) : Wm G mX12_drawn E (bm G mX12_drawn E (pI Q)) μ 0 [(0, .ref (gb G + 132))] [] := by
  refine L_aload_n C (i := 0) dX12_drawn_0 rfl rfl ?_
  refine L_invV0i C dX12_drawn_1 sh_132 cal_X12_isPlan lk_X12_212 ⟨Nat.le_of_ble_eq_true rfl, Nat.le_of_ble_eq_true rfl⟩ ⟨Nat.le_of_ble_eq_true rfl, Nat.le_of_ble_eq_true rfl⟩ (Nat.le_of_ble_eq_true rfl) (a_X12_isPlan (fun p1 => ?_) (fun p2 => ?_))
  · refine L_if_eq C (tgt := 18) dX12_drawn_4 rfl (fun p3 => ?_) (fun p3 => absurd p3 (by decide))
    refine L_iconst C (v := (-1)) dX12_drawn_18 rfl ?_
    exact L_irI C dX12_drawn_19 rfl (rr1 (Or.inl p1))
  · refine L_if_eq C (tgt := 18) dX12_drawn_4 rfl (fun p4 => absurd p4 (by decide)) (fun p4 => ?_)
    refine L_aload_n C (i := 0) dX12_drawn_7 rfl rfl ?_
    refine L_getC C (c' := 135) dX12_drawn_8 sh_132 fl_X12_16 rfl rfl ?_
    refine L_iconst C (v := 3) dX12_drawn_11 rfl ?_
    refine L_iald C dX12_drawn_12 sh_135 (by unfold vp_in; decide) ?_
    refine L_bipush C (v := 64) dX12_drawn_13 rfl ?_
    refine L_icmp_ne C (tgt := 20) dX12_drawn_15 rfl (fun p5 => ?_) (fun p5 => ?_)
    · refine L_aload_n C (i := 0) dX12_drawn_20 rfl rfl ?_
      refine L_invV0v C dX12_drawn_21 sh_132 cal_X12_keepsAct lk_X12_230 ⟨Nat.le_of_ble_eq_true rfl, Nat.le_of_ble_eq_true rfl⟩ ⟨Nat.le_of_ble_eq_true rfl, Nat.le_of_ble_eq_true rfl⟩ (Nat.le_of_ble_eq_true rfl) ?_
      exact cc2 p2 p5
    · refine L_iconst C (v := (-1)) dX12_drawn_18 rfl ?_
      exact L_irI C dX12_drawn_19 rfl (rr1 (Or.inr ⟨p2, p5⟩))
theorem e_X12_drawn {G : mG} {Q : Int32 → mM → Prop} {μ : mM}  (k : ∀ E, Cx G mX12_drawn E → Wm G mX12_drawn E (bm G mX12_drawn E (pI Q)) μ 0 [(0, .ref (gb G + 132))] []) : CtI G mX12_drawn [.ref (gb G + 132)] μ Q := CtI.of pn_X12 (Nat.le_of_ble_eq_true rfl) k
set_option maxRecDepth 4000 in
theorem k_X12_drawn_24 {G : mG} {E : mE} {B : mB} {μ : mM} (C : Cx G mX12_drawn E)  (kk1 : Wm G mX12_drawn E B μ 28 [(0, .ref (gb G + 132)), (1, .int 0), (2, .int 0)] []) : Wm G mX12_drawn E B μ 24 [(0, .ref (gb G + 132))] [] := by
  refine L_iconst C (v := 0) dX12_drawn_24 rfl ?_
  refine L_istore_n C (i := 1) dX12_drawn_25 rfl (Nat.le_of_ble_eq_true rfl) ?_
  refine L_iconst C (v := 0) dX12_drawn_26 rfl ?_
  refine L_istore_n C (i := 2) dX12_drawn_27 rfl (Nat.le_of_ble_eq_true rfl) ?_
  exact kk1
set_option maxRecDepth 4000 in
theorem k_X12_drawn_28 {G : mG} {E : mE} {B : mB} {μ : mM} (C : Cx G mX12_drawn E) {x1 : Int32} {x2 : Int32} (kk1 : (μ 135 0) ≤ x2 → Wm G mX12_drawn E B μ 53 [(0, .ref (gb G + 132)), (1, .int x1), (2, .int 0)] []) (ss2 : ¬ (μ 135 0) ≤ x2 → vp_in x2 8) (kk3 : ¬ (μ 135 0) ≤ x2 → Wm G mX12_drawn E B (ms μ 146 x2.toNatClampNeg (-1)) 28 [(0, .ref (gb G + 132)), (1, .int x1), (2, .int (x2 + (1 : Int32)))] []) : Wm G mX12_drawn E B μ 28 [(0, .ref (gb G + 132)), (1, .int x1), (2, .int x2)] [] := by
  refine L_iload_n C (i := 2) dX12_drawn_28 rfl rfl ?_
  refine L_aload_n C (i := 0) dX12_drawn_29 rfl rfl ?_
  refine L_getC C (c' := 135) dX12_drawn_30 sh_132 fl_X12_16 rfl rfl ?_
  refine L_iconst C (v := 0) dX12_drawn_33 rfl ?_
  refine L_iald C dX12_drawn_34 sh_135 (by unfold vp_in; decide) ?_
  refine L_icmp_ge C (tgt := 51) dX12_drawn_35 rfl (fun p1 => ?_) (fun p1 => ?_)
  · refine L_iconst C (v := 0) dX12_drawn_51 rfl ?_
    refine L_istore_n C (i := 2) dX12_drawn_52 rfl (Nat.le_of_ble_eq_true rfl) ?_
    exact kk1 p1
  · refine L_aload_n C (i := 0) dX12_drawn_38 rfl rfl ?_
    refine L_getC C (c' := 146) dX12_drawn_39 sh_132 fl_X12_51 rfl rfl ?_
    refine L_iload_n C (i := 2) dX12_drawn_42 rfl rfl ?_
    refine L_iconst C (v := (-1)) dX12_drawn_43 rfl ?_
    refine L_iast C dX12_drawn_44 sh_146 (ss2 p1) ?_
    refine L_iinc C (v := 1) dX12_drawn_45 rfl rfl (Nat.le_of_ble_eq_true rfl) ?_
    refine L_goto C (tgt := 28) dX12_drawn_48 rfl ?_
    exact kk3 p1
set_option maxRecDepth 4000 in
theorem k_X12_drawn_53 {G : mG} {E : mE} {Q : Int32 → mM → Prop} {μ : mM} (C : Cx G mX12_drawn E) {x1 : Int32} {x2 : Int32} (cc1 : (μ 135 0) ≤ x2 → CtV G mX12_comes [.ref (gb G + 132), .ref (gb G + 146)] μ (fun μ' => Wm G mX12_drawn E (bm G mX12_drawn E (pI Q)) μ' 186 [(1, .int x1)] [])) (kk2 : ¬ (μ 135 0) ≤ x2 → Wm G mX12_drawn E (bm G mX12_drawn E (pI Q)) μ 68 [(0, .ref (gb G + 132)), (1, .int x1), (2, .int x2), (3, .int 0), (4, .int 0)] []) : Wm G mX12_drawn E (bm G mX12_drawn E (pI Q)) μ 53 [(0, .ref (gb G + 132)), (1, .int x1), (2, .int x2)] [] := by
  refine L_iload_n C (i := 2) dX12_drawn_53 rfl rfl ?_
  refine L_aload_n C (i := 0) dX12_drawn_54 rfl rfl ?_
  refine L_getC C (c' := 135) dX12_drawn_55 sh_132 fl_X12_16 rfl rfl ?_
  refine L_iconst C (v := 0) dX12_drawn_58 rfl ?_
  refine L_iald C dX12_drawn_59 sh_135 (by unfold vp_in; decide) ?_
  refine L_icmp_ge C (tgt := 178) dX12_drawn_60 rfl (fun p1 => ?_) (fun p1 => ?_)
  · refine L_aload_n C (i := 0) dX12_drawn_178 rfl rfl ?_
    refine L_aload_n C (i := 0) dX12_drawn_179 rfl rfl ?_
    refine L_getC C (c' := 146) dX12_drawn_180 sh_132 fl_X12_51 rfl rfl ?_
    refine L_sub [1] rfl ?_
    refine L_invV1v C dX12_drawn_183 sh_132 cal_X12_comes lk_X12_233 ⟨Nat.le_of_ble_eq_true rfl, Nat.le_of_ble_eq_true rfl⟩ ⟨Nat.le_of_ble_eq_true rfl, Nat.le_of_ble_eq_true rfl⟩ (Nat.le_of_ble_eq_true rfl) ?_
    exact cc1 p1
  · refine L_iconst C (v := 0) dX12_drawn_63 rfl ?_
    refine L_istore_n C (i := 3) dX12_drawn_64 rfl (Nat.le_of_ble_eq_true rfl) ?_
    refine L_iconst C (v := 0) dX12_drawn_65 rfl ?_
    refine L_istore C dX12_drawn_66 (Nat.le_of_ble_eq_true rfl) ?_
    exact kk2 p1
set_option maxRecDepth 4000 in
theorem k_X12_drawn_68 {G : mG} {E : mE} {Q : Int32 → mM → Prop} {μ : mM} (C : Cx G mX12_drawn E) {x1 : Int32} {x2 : Int32} {x3 : Int32} {x4 : Int32} (ss1 : vp_in ((5 : Int32) + x2) 673) (dd2 : (μ 135 ((5 : Int32) + x2).toNatClampNeg) ≤ x4 → ¬ x3 = 0) (kk3 : (μ 135 ((5 : Int32) + x2).toNatClampNeg) ≤ x4 → Wm G mX12_drawn E (bm G mX12_drawn E (pI Q)) (ms μ 135 4 ((((μ 135 4).toInt64 * (1103515245 : Int64)) + (12345 : Int64)) - (((μ 135 4).toInt64 * (1103515245 : Int64)) + (12345 : Int64)) / 2147483648 * 2147483648).toInt32) 115 [(0, .ref (gb G + 132)), (1, .int x1), (2, .int x2), (4, .int ((((((μ 135 4).toInt64 * (1103515245 : Int64)) + (12345 : Int64)) - (((μ 135 4).toInt64 * (1103515245 : Int64)) + (12345 : Int64)) / 2147483648 * 2147483648).toInt32 / 65536) - (((((μ 135 4).toInt64 * (1103515245 : Int64)) + (12345 : Int64)) - (((μ 135 4).toInt64 * (1103515245 : Int64)) + (12345 : Int64)) / 2147483648 * 2147483648).toInt32 / 65536) / x3 * x3)), (5, .int 0)] []) (cc4 : ¬ (μ 135 ((5 : Int32) + x2).toNatClampNeg) ≤ x4 → CtI G mX12_canGreedy [.ref (gb G + 132), .int x2, .int x4] μ (fun r μ' => Wm G mX12_drawn E (bm G mX12_drawn E (pI Q)) μ' 89 [(0, .ref (gb G + 132)), (1, .int x1), (2, .int x2), (4, .int x4)] [.int r, .int x3])) : Wm G mX12_drawn E (bm G mX12_drawn E (pI Q)) μ 68 [(0, .ref (gb G + 132)), (1, .int x1), (2, .int x2), (3, .int x3), (4, .int x4)] [] := by
  refine L_iload C dX12_drawn_68 rfl ?_
  refine L_aload_n C (i := 0) dX12_drawn_70 rfl rfl ?_
  refine L_getC C (c' := 135) dX12_drawn_71 sh_132 fl_X12_16 rfl rfl ?_
  refine L_iconst C (v := 5) dX12_drawn_74 rfl ?_
  refine L_iload_n C (i := 2) dX12_drawn_75 rfl rfl ?_
  refine L_iadd C dX12_drawn_76 ?_
  refine L_iald C dX12_drawn_77 sh_135 (ss1) ?_
  refine L_icmp_ge C (tgt := 105) dX12_drawn_78 rfl (fun p1 => ?_) (fun p1 => ?_)
  · refine L_aload_n C (i := 0) dX12_drawn_105 rfl rfl ?_
    refine L_iload_n C (i := 3) dX12_drawn_106 rfl rfl ?_
    refine L_invV1i C dX12_drawn_107 sh_132 cal_X12_draw lk_X12_317 ⟨Nat.le_of_ble_eq_true rfl, Nat.le_of_ble_eq_true rfl⟩ ⟨Nat.le_of_ble_eq_true rfl, Nat.le_of_ble_eq_true rfl⟩ (Nat.le_of_ble_eq_true rfl) (a_X12_draw (dd2 p1) (?_))
    · refine L_istore C dX12_drawn_110 (Nat.le_of_ble_eq_true rfl) ?_
      refine L_iconst C (v := 0) dX12_drawn_112 rfl ?_
      refine L_istore C dX12_drawn_113 (Nat.le_of_ble_eq_true rfl) ?_
      refine L_sub [0, 1, 2, 4, 5] rfl ?_
      exact kk3 p1
  · refine L_iload_n C (i := 3) dX12_drawn_81 rfl rfl ?_
    refine L_aload_n C (i := 0) dX12_drawn_82 rfl rfl ?_
    refine L_iload_n C (i := 2) dX12_drawn_83 rfl rfl ?_
    refine L_iload C dX12_drawn_84 rfl ?_
    refine L_sub [0, 1, 2, 4] rfl ?_
    refine L_invV2i C dX12_drawn_86 sh_132 cal_X12_canGreedy lk_X12_314 ⟨Nat.le_of_ble_eq_true rfl, Nat.le_of_ble_eq_true rfl⟩ ⟨Nat.le_of_ble_eq_true rfl, Nat.le_of_ble_eq_true rfl⟩ (Nat.le_of_ble_eq_true rfl) ?_
    exact cc4 p1
set_option maxRecDepth 4000 in
theorem k_X12_drawn_89 {G : mG} {E : mE} {B : mB} {μ : mM} (C : Cx G mX12_drawn E) {x1 : Int32} {x2 : Int32} {x4 : Int32} {sx0 : Int32} {sx1 : Int32} (kk1 : ∀ v1 : Int32, ((sx1 = 0 ∧ v1 = 0) ∨ (¬ sx1 = 0 ∧ v1 = 1)) → Wm G mX12_drawn E B μ 68 [(0, .ref (gb G + 132)), (1, .int x1), (2, .int x2), (3, .int (sx0 + v1)), (4, .int (x4 + (1 : Int32)))] []) : Wm G mX12_drawn E B μ 89 [(0, .ref (gb G + 132)), (1, .int x1), (2, .int x2), (4, .int x4)] [.int sx1, .int sx0] := by
  refine phi (fun v1 : Int32 => Wm G mX12_drawn E B μ 97 [(0, .ref (gb G + 132)), (1, .int x1), (2, .int x2), (4, .int x4)] [.int v1, .int sx0]) (fun v1 : Int32 => (sx1 = 0 ∧ v1 = 0) ∨ (¬ sx1 = 0 ∧ v1 = 1)) (fun H => ?_) (fun v1 hv1 => ?_)
  · refine L_if_eq C (tgt := 96) dX12_drawn_89 rfl (fun p1 => ?_) (fun p1 => ?_)
    · refine L_iconst C (v := 0) dX12_drawn_96 rfl ?_
      exact H _ (Or.inl ⟨p1, rfl⟩)
    · refine L_iconst C (v := 1) dX12_drawn_92 rfl ?_
      refine L_goto C (tgt := 97) dX12_drawn_93 rfl ?_
      exact H _ (Or.inr ⟨p1, rfl⟩)
  refine L_iadd C dX12_drawn_97 ?_
  refine L_istore_n C (i := 3) dX12_drawn_98 rfl (Nat.le_of_ble_eq_true rfl) ?_
  refine L_iinc C (v := 1) dX12_drawn_99 rfl rfl (Nat.le_of_ble_eq_true rfl) ?_
  refine L_goto C (tgt := 68) dX12_drawn_102 rfl ?_
  exact kk1 v1 hv1
set_option maxRecDepth 4000 in
theorem k_X12_drawn_115 {G : mG} {E : mE} {Q : Int32 → mM → Prop} {μ : mM} (C : Cx G mX12_drawn E) {x1 : Int32} {x2 : Int32} {x4 : Int32} {x5 : Int32} (cc1 : CtI G mX12_canGreedy [.ref (gb G + 132), .int x2, .int x5] μ (fun r μ' => Wm G mX12_drawn E (bm G mX12_drawn E (pI Q)) μ' 122 [(0, .ref (gb G + 132)), (1, .int x1), (2, .int x2), (4, .int x4), (5, .int x5)] [.int r])) : Wm G mX12_drawn E (bm G mX12_drawn E (pI Q)) μ 115 [(0, .ref (gb G + 132)), (1, .int x1), (2, .int x2), (4, .int x4), (5, .int x5)] [] := by
  refine L_aload_n C (i := 0) dX12_drawn_115 rfl rfl ?_
  refine L_iload_n C (i := 2) dX12_drawn_116 rfl rfl ?_
  refine L_iload C dX12_drawn_117 rfl ?_
  refine L_invV2i C dX12_drawn_119 sh_132 cal_X12_canGreedy lk_X12_314 ⟨Nat.le_of_ble_eq_true rfl, Nat.le_of_ble_eq_true rfl⟩ ⟨Nat.le_of_ble_eq_true rfl, Nat.le_of_ble_eq_true rfl⟩ (Nat.le_of_ble_eq_true rfl) ?_
  exact cc1
set_option maxRecDepth 4000 in
theorem k_X12_drawn_122 {G : mG} {E : mE} {B : mB} {μ : mM} (C : Cx G mX12_drawn E) {x1 : Int32} {x2 : Int32} {x4 : Int32} {x5 : Int32} {sx0 : Int32} (kk1 : (sx0 = 0 ∨ (¬ sx0 = 0 ∧ ¬ x4 ≤ 0)) → Wm G mX12_drawn E B μ 130 [(0, .ref (gb G + 132)), (1, .int x1), (2, .int x2), (4, .int x4), (5, .int x5)] []) (ss2 : ¬ sx0 = 0 → x4 ≤ 0 → vp_in x2 8) (kk3 : ¬ sx0 = 0 → x4 ≤ 0 → Wm G mX12_drawn E B (ms μ 146 x2.toNatClampNeg x5) 53 [(0, .ref (gb G + 132)), (1, .int (((10 : Int32) * x1) + x5)), (2, .int (x2 + (1 : Int32)))] []) : Wm G mX12_drawn E B μ 122 [(0, .ref (gb G + 132)), (1, .int x1), (2, .int x2), (4, .int x4), (5, .int x5)] [.int sx0] := by
  refine L_if_eq C (tgt := 130) dX12_drawn_122 rfl (fun p1 => ?_) (fun p1 => ?_)
  · exact kk1 (Or.inl p1)
  · refine L_iload C dX12_drawn_125 rfl ?_
    refine L_if_le C (tgt := 156) dX12_drawn_127 rfl (fun p2 => ?_) (fun p2 => ?_)
    · refine L_aload_n C (i := 0) dX12_drawn_156 rfl rfl ?_
      refine L_getC C (c' := 146) dX12_drawn_157 sh_132 fl_X12_51 rfl rfl ?_
      refine L_iload_n C (i := 2) dX12_drawn_160 rfl rfl ?_
      refine L_iload C dX12_drawn_161 rfl ?_
      refine L_iast C dX12_drawn_163 sh_146 (ss2 p1 p2) ?_
      refine L_bipush C (v := 10) dX12_drawn_164 rfl ?_
      refine L_iload_n C (i := 1) dX12_drawn_166 rfl rfl ?_
      refine L_imul C dX12_drawn_167 ?_
      refine L_iload C dX12_drawn_168 rfl ?_
      refine L_iadd C dX12_drawn_170 ?_
      refine L_istore_n C (i := 1) dX12_drawn_171 rfl (Nat.le_of_ble_eq_true rfl) ?_
      refine L_iinc C (v := 1) dX12_drawn_172 rfl rfl (Nat.le_of_ble_eq_true rfl) ?_
      refine L_goto C (tgt := 53) dX12_drawn_175 rfl ?_
      refine L_sub [0, 1, 2] rfl ?_
      exact kk3 p1 p2
    · exact kk1 (Or.inr ⟨p1, p2⟩)
set_option maxRecDepth 4000 in
theorem k_X12_drawn_130 {G : mG} {E : mE} {Q : Int32 → mM → Prop} {μ : mM} (C : Cx G mX12_drawn E) {x1 : Int32} {x2 : Int32} {x4 : Int32} {x5 : Int32} (cc1 : CtI G mX12_canGreedy [.ref (gb G + 132), .int x2, .int x5] μ (fun r μ' => Wm G mX12_drawn E (bm G mX12_drawn E (pI Q)) μ' 139 [(0, .ref (gb G + 132)), (1, .int x1), (2, .int x2), (5, .int x5)] [.int r, .int x4])) : Wm G mX12_drawn E (bm G mX12_drawn E (pI Q)) μ 130 [(0, .ref (gb G + 132)), (1, .int x1), (2, .int x2), (4, .int x4), (5, .int x5)] [] := by
  refine L_iload C dX12_drawn_130 rfl ?_
  refine L_aload_n C (i := 0) dX12_drawn_132 rfl rfl ?_
  refine L_iload_n C (i := 2) dX12_drawn_133 rfl rfl ?_
  refine L_iload C dX12_drawn_134 rfl ?_
  refine L_sub [0, 1, 2, 4] rfl ?_
  refine L_invV2i C dX12_drawn_136 sh_132 cal_X12_canGreedy lk_X12_314 ⟨Nat.le_of_ble_eq_true rfl, Nat.le_of_ble_eq_true rfl⟩ ⟨Nat.le_of_ble_eq_true rfl, Nat.le_of_ble_eq_true rfl⟩ (Nat.le_of_ble_eq_true rfl) ?_
  exact cc1
set_option maxRecDepth 4000 in
theorem k_X12_drawn_139 {G : mG} {E : mE} {B : mB} {μ : mM} (C : Cx G mX12_drawn E) {x1 : Int32} {x2 : Int32} {x5 : Int32} {sx0 : Int32} {sx1 : Int32} (kk1 : ∀ v1 : Int32, ((sx1 = 0 ∧ v1 = 0) ∨ (¬ sx1 = 0 ∧ v1 = 1)) → Wm G mX12_drawn E B μ 115 [(0, .ref (gb G + 132)), (1, .int x1), (2, .int x2), (4, .int (sx0 - v1)), (5, .int (x5 + (1 : Int32)))] []) : Wm G mX12_drawn E B μ 139 [(0, .ref (gb G + 132)), (1, .int x1), (2, .int x2), (5, .int x5)] [.int sx1, .int sx0] := by
  refine phi (fun v1 : Int32 => Wm G mX12_drawn E B μ 147 [(0, .ref (gb G + 132)), (1, .int x1), (2, .int x2), (5, .int x5)] [.int v1, .int sx0]) (fun v1 : Int32 => (sx1 = 0 ∧ v1 = 0) ∨ (¬ sx1 = 0 ∧ v1 = 1)) (fun H => ?_) (fun v1 hv1 => ?_)
  · refine L_if_eq C (tgt := 146) dX12_drawn_139 rfl (fun p1 => ?_) (fun p1 => ?_)
    · refine L_iconst C (v := 0) dX12_drawn_146 rfl ?_
      exact H _ (Or.inl ⟨p1, rfl⟩)
    · refine L_iconst C (v := 1) dX12_drawn_142 rfl ?_
      refine L_goto C (tgt := 147) dX12_drawn_143 rfl ?_
      exact H _ (Or.inr ⟨p1, rfl⟩)
  refine L_isub C dX12_drawn_147 ?_
  refine L_istore C dX12_drawn_148 (Nat.le_of_ble_eq_true rfl) ?_
  refine L_iinc C (v := 1) dX12_drawn_150 rfl rfl (Nat.le_of_ble_eq_true rfl) ?_
  refine L_goto C (tgt := 115) dX12_drawn_153 rfl ?_
  exact kk1 v1 hv1
set_option maxRecDepth 4000 in
theorem k_X12_drawn_186 {G : mG} {E : mE} {Q : Int32 → mM → Prop} {μ : mM} (C : Cx G mX12_drawn E) {x1 : Int32} (rr1 : Q x1 μ) : Wm G mX12_drawn E (bm G mX12_drawn E (pI Q)) μ 186 [(1, .int x1)] [] := by
  refine L_iload_n C (i := 1) dX12_drawn_186 rfl rfl ?_
  exact L_irI C dX12_drawn_187 rfl (rr1)
set_option maxRecDepth 4000 in
theorem k_X12_draws_0 {G : mG} {E : mE} {Q : Int32 → mM → Prop} {μ : mM} (C : Cx G mX12_draws E) {x1 : Int32} (rr1 : 0 ≤ x1 → Q (μ 135 4) (ms μ 135 4 x1)) (rr2 : ¬ 0 ≤ x1 → Q (-1) μ) : Wm G mX12_draws E (bm G mX12_draws E (pI Q)) μ 0 [(0, .ref (gb G + 132)), (1, .int x1)] [] := by
  refine L_iload_n C (i := 1) dX12_draws_0 rfl rfl ?_
  refine L_if_ge C (tgt := 6) dX12_draws_1 rfl (fun p1 => ?_) (fun p1 => ?_)
  · refine L_aload_n C (i := 0) dX12_draws_6 rfl rfl ?_
    refine L_getC C (c' := 135) dX12_draws_7 sh_132 fl_X12_16 rfl rfl ?_
    refine L_iconst C (v := 4) dX12_draws_10 rfl ?_
    refine L_iald C dX12_draws_11 sh_135 (by unfold vp_in; decide) ?_
    refine L_istore_n C (i := 2) dX12_draws_12 rfl (Nat.le_of_ble_eq_true rfl) ?_
    refine L_aload_n C (i := 0) dX12_draws_13 rfl rfl ?_
    refine L_getC C (c' := 135) dX12_draws_14 sh_132 fl_X12_16 rfl rfl ?_
    refine L_iconst C (v := 4) dX12_draws_17 rfl ?_
    refine L_iload_n C (i := 1) dX12_draws_18 rfl rfl ?_
    refine L_iast C dX12_draws_19 sh_135 (by unfold vp_in; decide) ?_
    refine L_iload_n C (i := 2) dX12_draws_20 rfl rfl ?_
    exact L_irI C dX12_draws_21 rfl (rr1 p1)
  · refine L_iconst C (v := (-1)) dX12_draws_4 rfl ?_
    exact L_irI C dX12_draws_5 rfl (rr2 p1)
theorem a_X12_draws {G : mG} {Q : Int32 → mM → Prop} {μ : mM} {x1 : Int32} (rr1 : 0 ≤ x1 → Q (μ 135 4) (ms μ 135 4 x1)) (rr2 : ¬ 0 ≤ x1 → Q (-1) μ) : CtI G mX12_draws [.ref (gb G + 132), .int x1] μ Q :=
  CtI.of pn_X12 (Nat.le_of_ble_eq_true rfl) (fun E C => k_X12_draws_0 C rr1 rr2)
set_option maxRecDepth 4000 in
theorem k_X12_gain_0 {G : mG} {E : mE} {Q : Int32 → mM → Prop} {μ : mM} (C : Cx G mX12_gain E) {x1 : Int32} (rr1 : (x1 < 0 ∨ (¬ x1 < 0 ∧ (μ 135 3) ≤ x1)) → Q (-1) μ) (cc2 : ¬ x1 < 0 → ¬ (μ 135 3) ≤ x1 → CtI G mX12_gainOf [.ref (gb G + 132), .int x1] μ (fun r μ' => Wm G mX12_gain E (bm G mX12_gain E (pI Q)) μ' 13 [] [.int r])) : Wm G mX12_gain E (bm G mX12_gain E (pI Q)) μ 0 [(0, .ref (gb G + 132)), (1, .int x1)] [] := by
  refine L_aload_n C (i := 0) dX12_gain_0 rfl rfl ?_
  refine L_iload_n C (i := 1) dX12_gain_1 rfl rfl ?_
  refine L_invV1i C dX12_gain_2 sh_132 cal_X12_isRow lk_X12_236 ⟨Nat.le_of_ble_eq_true rfl, Nat.le_of_ble_eq_true rfl⟩ ⟨Nat.le_of_ble_eq_true rfl, Nat.le_of_ble_eq_true rfl⟩ (Nat.le_of_ble_eq_true rfl) (a_X12_isRow (fun p1 => ?_) (fun p2 p3 => ?_))
  · refine L_if_eq C (tgt := 16) dX12_gain_5 rfl (fun p4 => ?_) (fun p4 => absurd p4 (by decide))
    refine L_iconst C (v := (-1)) dX12_gain_16 rfl ?_
    exact L_irI C dX12_gain_17 rfl (rr1 p1)
  · refine L_if_eq C (tgt := 16) dX12_gain_5 rfl (fun p5 => absurd p5 (by decide)) (fun p5 => ?_)
    refine L_aload_n C (i := 0) dX12_gain_8 rfl rfl ?_
    refine L_iload_n C (i := 1) dX12_gain_9 rfl rfl ?_
    refine L_sub [] rfl ?_
    refine L_invV1i C dX12_gain_10 sh_132 cal_X12_gainOf lk_X12_271 ⟨Nat.le_of_ble_eq_true rfl, Nat.le_of_ble_eq_true rfl⟩ ⟨Nat.le_of_ble_eq_true rfl, Nat.le_of_ble_eq_true rfl⟩ (Nat.le_of_ble_eq_true rfl) ?_
    exact cc2 p2 p3
theorem e_X12_gain {G : mG} {Q : Int32 → mM → Prop} {μ : mM} {x1 : Int32} (k : ∀ E, Cx G mX12_gain E → Wm G mX12_gain E (bm G mX12_gain E (pI Q)) μ 0 [(0, .ref (gb G + 132)), (1, .int x1)] []) : CtI G mX12_gain [.ref (gb G + 132), .int x1] μ Q := CtI.of pn_X12 (Nat.le_of_ble_eq_true rfl) k
set_option maxRecDepth 4000 in
theorem k_X12_gain_13 {G : mG} {E : mE} {Q : Int32 → mM → Prop} {μ : mM} (C : Cx G mX12_gain E) {sx0 : Int32} (rr1 : Q sx0 μ) : Wm G mX12_gain E (bm G mX12_gain E (pI Q)) μ 13 [] [.int sx0] := by
  refine L_goto C (tgt := 17) dX12_gain_13 rfl ?_
  exact L_irI C dX12_gain_17 rfl (rr1)
set_option maxRecDepth 4000 in
theorem k_X12_least_0 {G : mG} {E : mE} {Q : Int32 → mM → Prop} {μ : mM} (C : Cx G mX12_least E)  (rr1 : (μ 135 0) ≤ 0 → Q (-1) μ) (kk2 : ¬ (μ 135 0) ≤ 0 → Wm G mX12_least E (bm G mX12_least E (pI Q)) μ 15 [(0, .ref (gb G + 132)), (1, .int 0), (2, .int 0), (3, .int 0)] []) : Wm G mX12_least E (bm G mX12_least E (pI Q)) μ 0 [(0, .ref (gb G + 132))] [] := by
  refine L_aload_n C (i := 0) dX12_least_0 rfl rfl ?_
  refine L_invV0i C dX12_least_1 sh_132 cal_X12_isPlan lk_X12_212 ⟨Nat.le_of_ble_eq_true rfl, Nat.le_of_ble_eq_true rfl⟩ ⟨Nat.le_of_ble_eq_true rfl, Nat.le_of_ble_eq_true rfl⟩ (Nat.le_of_ble_eq_true rfl) (a_X12_isPlan (fun p1 => ?_) (fun p2 => ?_))
  · refine L_if_ne C (tgt := 9) dX12_least_4 rfl (fun p3 => absurd p3 (by decide)) (fun p3 => ?_)
    refine L_iconst C (v := (-1)) dX12_least_7 rfl ?_
    exact L_irI C dX12_least_8 rfl (rr1 p1)
  · refine L_if_ne C (tgt := 9) dX12_least_4 rfl (fun p4 => ?_) (fun p4 => absurd p4 (by decide))
    refine L_iconst C (v := 0) dX12_least_9 rfl ?_
    refine L_istore_n C (i := 1) dX12_least_10 rfl (Nat.le_of_ble_eq_true rfl) ?_
    refine L_iconst C (v := 0) dX12_least_11 rfl ?_
    refine L_istore_n C (i := 2) dX12_least_12 rfl (Nat.le_of_ble_eq_true rfl) ?_
    refine L_iconst C (v := 0) dX12_least_13 rfl ?_
    refine L_istore_n C (i := 3) dX12_least_14 rfl (Nat.le_of_ble_eq_true rfl) ?_
    exact kk2 p2
theorem e_X12_least {G : mG} {Q : Int32 → mM → Prop} {μ : mM}  (k : ∀ E, Cx G mX12_least E → Wm G mX12_least E (bm G mX12_least E (pI Q)) μ 0 [(0, .ref (gb G + 132))] []) : CtI G mX12_least [.ref (gb G + 132)] μ Q := CtI.of pn_X12 (Nat.le_of_ble_eq_true rfl) k
set_option maxRecDepth 4000 in
theorem k_X12_least_15 {G : mG} {E : mE} {Q : Int32 → mM → Prop} {μ : mM} (C : Cx G mX12_least E) {x1 : Int32} {x2 : Int32} {x3 : Int32} (rr1 : (μ 132 13) ≤ x3 → Q x1 μ) (kk2 : ¬ (μ 132 13) ≤ x3 → ∀ v1 : Int32, ((x3 ≤ 0 ∧ v1 = 0) ∨ (¬ x3 ≤ 0 ∧ v1 = 1)) → Wm G mX12_least E (bm G mX12_least E (pI Q)) μ 37 [(0, .ref (gb G + 132)), (1, .int x1), (2, .int x2), (3, .int x3), (4, .int v1), (5, .int 0)] []) : Wm G mX12_least E (bm G mX12_least E (pI Q)) μ 15 [(0, .ref (gb G + 132)), (1, .int x1), (2, .int x2), (3, .int x3)] [] := by
  refine L_iload_n C (i := 3) dX12_least_15 rfl rfl ?_
  refine L_aload_n C (i := 0) dX12_least_16 rfl rfl ?_
  refine L_getI C dX12_least_17 sh_132 fl_X12_168 rfl ?_
  refine L_icmp_ge C (tgt := 136) dX12_least_20 rfl (fun p1 => ?_) (fun p1 => ?_)
  · refine L_iload_n C (i := 1) dX12_least_136 rfl rfl ?_
    exact L_irI C dX12_least_137 rfl (rr1 p1)
  · refine L_iload_n C (i := 3) dX12_least_23 rfl rfl ?_
    refine phi (fun v1 : Int32 => Wm G mX12_least E (bm G mX12_least E (pI Q)) μ 32 [(0, .ref (gb G + 132)), (1, .int x1), (2, .int x2), (3, .int x3)] [.int v1]) (fun v1 : Int32 => (x3 ≤ 0 ∧ v1 = 0) ∨ (¬ x3 ≤ 0 ∧ v1 = 1)) (fun H => ?_) (fun v1 hv1 => ?_)
    · refine L_if_le C (tgt := 31) dX12_least_24 rfl (fun p2 => ?_) (fun p2 => ?_)
      · refine L_iconst C (v := 0) dX12_least_31 rfl ?_
        exact H _ (Or.inl ⟨p2, rfl⟩)
      · refine L_iconst C (v := 1) dX12_least_27 rfl ?_
        refine L_goto C (tgt := 32) dX12_least_28 rfl ?_
        exact H _ (Or.inr ⟨p2, rfl⟩)
    refine L_istore C dX12_least_32 (Nat.le_of_ble_eq_true rfl) ?_
    refine L_iconst C (v := 0) dX12_least_34 rfl ?_
    refine L_istore C dX12_least_35 (Nat.le_of_ble_eq_true rfl) ?_
    exact kk2 p1 v1 hv1
set_option maxRecDepth 4000 in
theorem k_X12_least_37 {G : mG} {E : mE} {B : mB} {μ : mM} (C : Cx G mX12_least E) {x1 : Int32} {x2 : Int32} {x3 : Int32} {x4 : Int32} {x5 : Int32} (kk1 : ((μ 135 1) ≤ x5 ∨ (¬ (μ 135 1) ≤ x5 ∧ x4 = 0)) → Wm G mX12_least E B μ 93 [(0, .ref (gb G + 132)), (1, .int x1), (2, .int x2), (3, .int x3), (4, .int x4)] []) (ss2 : ¬ (μ 135 1) ≤ x5 → ¬ x4 = 0 → vp_in (((3 : Int32) * x3) + x5) 3600) (ss3 : ¬ (μ 135 1) ≤ x5 → ¬ x4 = 0 → vp_in ((((3 : Int32) * x3) - (3 : Int32)) + x5) 3600) (kk4 : ¬ (μ 135 1) ≤ x5 → ¬ x4 = 0 → ∀ v1 : Int32, ((¬ (μ 140 (((3 : Int32) * x3) + x5).toNatClampNeg) = (μ 140 ((((3 : Int32) * x3) - (3 : Int32)) + x5).toNatClampNeg) ∧ v1 = 0) ∨ ((μ 140 (((3 : Int32) * x3) + x5).toNatClampNeg) = (μ 140 ((((3 : Int32) * x3) - (3 : Int32)) + x5).toNatClampNeg) ∧ v1 = 1)) → Wm G mX12_least E B μ 37 [(0, .ref (gb G + 132)), (1, .int x1), (2, .int x2), (3, .int x3), (4, .int v1), (5, .int (x5 + (1 : Int32)))] []) : Wm G mX12_least E B μ 37 [(0, .ref (gb G + 132)), (1, .int x1), (2, .int x2), (3, .int x3), (4, .int x4), (5, .int x5)] [] := by
  refine L_iload C dX12_least_37 rfl ?_
  refine L_aload_n C (i := 0) dX12_least_39 rfl rfl ?_
  refine L_getC C (c' := 135) dX12_least_40 sh_132 fl_X12_16 rfl rfl ?_
  refine L_iconst C (v := 1) dX12_least_43 rfl ?_
  refine L_iald C dX12_least_44 sh_135 (by unfold vp_in; decide) ?_
  refine L_icmp_ge C (tgt := 93) dX12_least_45 rfl (fun p1 => ?_) (fun p1 => ?_)
  · refine L_sub [0, 1, 2, 3, 4] rfl ?_
    exact kk1 (Or.inl p1)
  · refine L_iload C dX12_least_48 rfl ?_
    refine L_if_eq C (tgt := 93) dX12_least_50 rfl (fun p2 => ?_) (fun p2 => ?_)
    · refine L_sub [0, 1, 2, 3, 4] rfl ?_
      exact kk1 (Or.inr ⟨p1, p2⟩)
    · refine L_aload_n C (i := 0) dX12_least_53 rfl rfl ?_
      refine L_getC C (c' := 140) dX12_least_54 sh_132 fl_X12_32 rfl rfl ?_
      refine L_iconst C (v := 3) dX12_least_57 rfl ?_
      refine L_iload_n C (i := 3) dX12_least_58 rfl rfl ?_
      refine L_imul C dX12_least_59 ?_
      refine L_iload C dX12_least_60 rfl ?_
      refine L_iadd C dX12_least_62 ?_
      refine L_iald C dX12_least_63 sh_140 (ss2 p1 p2) ?_
      refine L_aload_n C (i := 0) dX12_least_64 rfl rfl ?_
      refine L_getC C (c' := 140) dX12_least_65 sh_132 fl_X12_32 rfl rfl ?_
      refine L_iconst C (v := 3) dX12_least_68 rfl ?_
      refine L_iload_n C (i := 3) dX12_least_69 rfl rfl ?_
      refine L_imul C dX12_least_70 ?_
      refine L_iconst C (v := 3) dX12_least_71 rfl ?_
      refine L_isub C dX12_least_72 ?_
      refine L_iload C dX12_least_73 rfl ?_
      refine L_iadd C dX12_least_75 ?_
      refine L_iald C dX12_least_76 sh_140 (ss3 p1 p2) ?_
      refine phi (fun v1 : Int32 => Wm G mX12_least E B μ 85 [(0, .ref (gb G + 132)), (1, .int x1), (2, .int x2), (3, .int x3), (5, .int x5)] [.int v1]) (fun v1 : Int32 => (¬ (μ 140 (((3 : Int32) * x3) + x5).toNatClampNeg) = (μ 140 ((((3 : Int32) * x3) - (3 : Int32)) + x5).toNatClampNeg) ∧ v1 = 0) ∨ ((μ 140 (((3 : Int32) * x3) + x5).toNatClampNeg) = (μ 140 ((((3 : Int32) * x3) - (3 : Int32)) + x5).toNatClampNeg) ∧ v1 = 1)) (fun H => ?_) (fun v1 hv1 => ?_)
      · refine L_icmp_ne C (tgt := 84) dX12_least_77 rfl (fun p3 => ?_) (fun p3 => ?_)
        · refine L_iconst C (v := 0) dX12_least_84 rfl ?_
          refine L_sub [0, 1, 2, 3, 5] rfl ?_
          exact H _ (Or.inl ⟨p3, rfl⟩)
        · refine L_iconst C (v := 1) dX12_least_80 rfl ?_
          refine L_goto C (tgt := 85) dX12_least_81 rfl ?_
          refine L_sub [0, 1, 2, 3, 5] rfl ?_
          exact H _ (Or.inr ⟨p3, rfl⟩)
      refine L_istore C dX12_least_85 (Nat.le_of_ble_eq_true rfl) ?_
      refine L_iinc C (v := 1) dX12_least_87 rfl rfl (Nat.le_of_ble_eq_true rfl) ?_
      refine L_goto C (tgt := 37) dX12_least_90 rfl ?_
      exact kk4 p1 p2 v1 hv1
set_option maxRecDepth 4000 in
theorem k_X12_least_93 {G : mG} {E : mE} {B : mB} {μ : mM} (C : Cx G mX12_least E) {x1 : Int32} {x2 : Int32} {x3 : Int32} {x4 : Int32} (ss1 : ∀ v1 : Int32, ((x4 = 0 ∧ v1 = 0) ∨ (¬ x4 = 0 ∧ v1 = x2)) → vp_in x3 1200) (kk2 : ∀ v1 : Int32, ((x4 = 0 ∧ v1 = 0) ∨ (¬ x4 = 0 ∧ v1 = x2)) → ∀ v2 : Int32, (((μ 142 x3.toNatClampNeg) = 0 ∧ v2 = 0) ∨ (¬ (μ 142 x3.toNatClampNeg) = 0 ∧ v2 = 1)) → ∀ v3 : Int32, (((v1 + v2) ≤ x1 ∧ v3 = x1) ∨ (¬ (v1 + v2) ≤ x1 ∧ v3 = (v1 + v2))) → Wm G mX12_least E B μ 15 [(0, .ref (gb G + 132)), (1, .int v3), (2, .int (v1 + v2)), (3, .int (x3 + (1 : Int32)))] []) : Wm G mX12_least E B μ 93 [(0, .ref (gb G + 132)), (1, .int x1), (2, .int x2), (3, .int x3), (4, .int x4)] [] := by
  refine L_iload C dX12_least_93 rfl ?_
  refine phi (fun v1 : Int32 => Wm G mX12_least E B μ 103 [(0, .ref (gb G + 132)), (1, .int x1), (3, .int x3)] [.int v1]) (fun v1 : Int32 => (x4 = 0 ∧ v1 = 0) ∨ (¬ x4 = 0 ∧ v1 = x2)) (fun H => ?_) (fun v1 hv1 => ?_)
  · refine L_if_eq C (tgt := 102) dX12_least_95 rfl (fun p1 => ?_) (fun p1 => ?_)
    · refine L_iconst C (v := 0) dX12_least_102 rfl ?_
      refine L_sub [0, 1, 3] rfl ?_
      exact H _ (Or.inl ⟨p1, rfl⟩)
    · refine L_iload_n C (i := 2) dX12_least_98 rfl rfl ?_
      refine L_goto C (tgt := 103) dX12_least_99 rfl ?_
      refine L_sub [0, 1, 3] rfl ?_
      exact H _ (Or.inr ⟨p1, rfl⟩)
  refine L_aload_n C (i := 0) dX12_least_103 rfl rfl ?_
  refine L_getC C (c' := 142) dX12_least_104 sh_132 fl_X12_38 rfl rfl ?_
  refine L_iload_n C (i := 3) dX12_least_107 rfl rfl ?_
  refine L_zald C dX12_least_108 sh_142 (ss1 v1 hv1) ?_
  refine phi (fun v2 : Int32 => Wm G mX12_least E B μ 117 [(0, .ref (gb G + 132)), (1, .int x1), (3, .int x3)] [.int v2, .int v1]) (fun v2 : Int32 => ((μ 142 x3.toNatClampNeg) = 0 ∧ v2 = 0) ∨ (¬ (μ 142 x3.toNatClampNeg) = 0 ∧ v2 = 1)) (fun H => ?_) (fun v2 hv2 => ?_)
  · refine L_if_eq C (tgt := 116) dX12_least_109 rfl (fun p2 => ?_) (fun p2 => ?_)
    · refine L_iconst C (v := 0) dX12_least_116 rfl ?_
      exact H _ (Or.inl ⟨p2, rfl⟩)
    · refine L_iconst C (v := 1) dX12_least_112 rfl ?_
      refine L_goto C (tgt := 117) dX12_least_113 rfl ?_
      exact H _ (Or.inr ⟨p2, rfl⟩)
  refine L_iadd C dX12_least_117 ?_
  refine L_istore_n C (i := 2) dX12_least_118 rfl (Nat.le_of_ble_eq_true rfl) ?_
  refine L_iload_n C (i := 2) dX12_least_119 rfl rfl ?_
  refine L_iload_n C (i := 1) dX12_least_120 rfl rfl ?_
  refine phi (fun v3 : Int32 => Wm G mX12_least E B μ 129 [(0, .ref (gb G + 132)), (2, .int (v1 + v2)), (3, .int x3)] [.int v3]) (fun v3 : Int32 => ((v1 + v2) ≤ x1 ∧ v3 = x1) ∨ (¬ (v1 + v2) ≤ x1 ∧ v3 = (v1 + v2))) (fun H => ?_) (fun v3 hv3 => ?_)
  · refine L_icmp_le C (tgt := 128) dX12_least_121 rfl (fun p3 => ?_) (fun p3 => ?_)
    · refine L_iload_n C (i := 1) dX12_least_128 rfl rfl ?_
      refine L_sub [0, 2, 3] rfl ?_
      exact H _ (Or.inl ⟨p3, rfl⟩)
    · refine L_iload_n C (i := 2) dX12_least_124 rfl rfl ?_
      refine L_goto C (tgt := 129) dX12_least_125 rfl ?_
      refine L_sub [0, 2, 3] rfl ?_
      exact H _ (Or.inr ⟨p3, rfl⟩)
  refine L_istore_n C (i := 1) dX12_least_129 rfl (Nat.le_of_ble_eq_true rfl) ?_
  refine L_iinc C (v := 1) dX12_least_130 rfl rfl (Nat.le_of_ble_eq_true rfl) ?_
  refine L_goto C (tgt := 15) dX12_least_133 rfl ?_
  exact kk2 v1 hv1 v2 hv2 v3 hv3
set_option maxRecDepth 4000 in
theorem k_X12_lawful_0 {G : mG} {E : mE} {Q : Int32 → mM → Prop} {μ : mM} (C : Cx G mX12_lawful E) {x1 : Int32} (cc1 : CtI G mX12_isGiven [.ref (gb G + 132), .int x1] μ (fun r μ' => Wm G mX12_lawful E (bm G mX12_lawful E (pI Q)) μ' 5 [(0, .ref (gb G + 132))] [.int r])) : Wm G mX12_lawful E (bm G mX12_lawful E (pI Q)) μ 0 [(0, .ref (gb G + 132)), (1, .int x1)] [] := by
  refine L_aload_n C (i := 0) dX12_lawful_0 rfl rfl ?_
  refine L_iload_n C (i := 1) dX12_lawful_1 rfl rfl ?_
  refine L_sub [0] rfl ?_
  refine L_invV1i C dX12_lawful_2 sh_132 cal_X12_isGiven lk_X12_223 ⟨Nat.le_of_ble_eq_true rfl, Nat.le_of_ble_eq_true rfl⟩ ⟨Nat.le_of_ble_eq_true rfl, Nat.le_of_ble_eq_true rfl⟩ (Nat.le_of_ble_eq_true rfl) ?_
  exact cc1
theorem e_X12_lawful {G : mG} {Q : Int32 → mM → Prop} {μ : mM} {x1 : Int32} (k : ∀ E, Cx G mX12_lawful E → Wm G mX12_lawful E (bm G mX12_lawful E (pI Q)) μ 0 [(0, .ref (gb G + 132)), (1, .int x1)] []) : CtI G mX12_lawful [.ref (gb G + 132), .int x1] μ Q := CtI.of pn_X12 (Nat.le_of_ble_eq_true rfl) k
set_option maxRecDepth 4000 in
theorem k_X12_lawful_5 {G : mG} {E : mE} {Q : Int32 → mM → Prop} {μ : mM} (C : Cx G mX12_lawful E) {sx0 : Int32} (cc1 : ¬ sx0 = 0 → CtV G mX12_probes [.ref (gb G + 132), .ref (gb G + 145)] μ (fun μ' => Wm G mX12_lawful E (bm G mX12_lawful E (pI Q)) μ' 18 [(0, .ref (gb G + 132))] [])) (rr2 : sx0 = 0 → Q (-1) μ) : Wm G mX12_lawful E (bm G mX12_lawful E (pI Q)) μ 5 [(0, .ref (gb G + 132))] [.int sx0] := by
  refine L_if_ne C (tgt := 10) dX12_lawful_5 rfl (fun p1 => ?_) (fun p1 => ?_)
  · refine L_aload_n C (i := 0) dX12_lawful_10 rfl rfl ?_
    refine L_aload_n C (i := 0) dX12_lawful_11 rfl rfl ?_
    refine L_getC C (c' := 145) dX12_lawful_12 sh_132 fl_X12_48 rfl rfl ?_
    refine L_invV1v C dX12_lawful_15 sh_132 cal_X12_probes lk_X12_226 ⟨Nat.le_of_ble_eq_true rfl, Nat.le_of_ble_eq_true rfl⟩ ⟨Nat.le_of_ble_eq_true rfl, Nat.le_of_ble_eq_true rfl⟩ (Nat.le_of_ble_eq_true rfl) ?_
    exact cc1 p1
  · refine L_iconst C (v := (-1)) dX12_lawful_8 rfl ?_
    exact L_irI C dX12_lawful_9 rfl (rr2 p1)
set_option maxRecDepth 4000 in
theorem k_X12_lawful_18 {G : mG} {E : mE} {Q : Int32 → mM → Prop} {μ : mM} (C : Cx G mX12_lawful E)  (cc1 : CtI G mX12_fillings [.ref (gb G + 132), .int 0] μ (fun r μ' => Wm G mX12_lawful E (bm G mX12_lawful E (pI Q)) μ' 23 [] [.int r])) : Wm G mX12_lawful E (bm G mX12_lawful E (pI Q)) μ 18 [(0, .ref (gb G + 132))] [] := by
  refine L_aload_n C (i := 0) dX12_lawful_18 rfl rfl ?_
  refine L_iconst C (v := 0) dX12_lawful_19 rfl ?_
  refine L_sub [] rfl ?_
  refine L_invV1i C dX12_lawful_20 sh_132 cal_X12_fillings lk_X12_182 ⟨Nat.le_of_ble_eq_true rfl, Nat.le_of_ble_eq_true rfl⟩ ⟨Nat.le_of_ble_eq_true rfl, Nat.le_of_ble_eq_true rfl⟩ (Nat.le_of_ble_eq_true rfl) ?_
  exact cc1
set_option maxRecDepth 4000 in
theorem k_X12_lawful_23 {G : mG} {E : mE} {Q : Int32 → mM → Prop} {μ : mM} (C : Cx G mX12_lawful E) {sx0 : Int32} (rr1 : Q sx0 μ) : Wm G mX12_lawful E (bm G mX12_lawful E (pI Q)) μ 23 [] [.int sx0] := by
  exact L_irI C dX12_lawful_23 rfl (rr1)
set_option maxRecDepth 4000 in
theorem k_X12_result_0 {G : mG} {E : mE} {Q : Int32 → mM → Prop} {μ : mM} (C : Cx G mX12_result E) {x1 : Int32} {x2 : Int32} (rr1 : ((x1 < 0 ∨ (¬ x1 < 0 ∧ (μ 135 3) ≤ x1)) ∨ (¬ x1 < 0 ∧ ¬ (μ 135 3) ≤ x1 ∧ ((lg_cmp x2.toInt64 0) < 0 ∨ (¬ (lg_cmp x2.toInt64 0) < 0 ∧ 0 < (lg_cmp x2.toInt64 2))))) → Q (-1) μ) (ss2 : ¬ x1 < 0 → ¬ (μ 135 3) ≤ x1 → ¬ (lg_cmp x2.toInt64 0) < 0 → ¬ 0 < (lg_cmp x2.toInt64 2) → vp_in ((97 : Int32) + x1) 673) (cc3 : ¬ x1 < 0 → ¬ (μ 135 3) ≤ x1 → ¬ (lg_cmp x2.toInt64 0) < 0 → ¬ 0 < (lg_cmp x2.toInt64 2) → ¬ (μ 135 ((97 : Int32) + x1).toNatClampNeg) = x2 → CtV G mX12_keepsAct [.ref (gb G + 132)] μ (fun μ' => Wm G mX12_result E (bm G mX12_result E (pI Q)) μ' 44 [(0, .ref (gb G + 132)), (1, .int x1), (2, .int x2), (3, .int (μ 135 ((97 : Int32) + x1).toNatClampNeg))] [])) (rr4 : ¬ x1 < 0 → ¬ (μ 135 3) ≤ x1 → ¬ (lg_cmp x2.toInt64 0) < 0 → ¬ 0 < (lg_cmp x2.toInt64 2) → (μ 135 ((97 : Int32) + x1).toNatClampNeg) = x2 → Q (-2) μ) : Wm G mX12_result E (bm G mX12_result E (pI Q)) μ 0 [(0, .ref (gb G + 132)), (1, .int x1), (2, .int x2)] [] := by
  refine L_aload_n C (i := 0) dX12_result_0 rfl rfl ?_
  refine L_iload_n C (i := 1) dX12_result_1 rfl rfl ?_
  refine L_invV1i C dX12_result_2 sh_132 cal_X12_isRow lk_X12_236 ⟨Nat.le_of_ble_eq_true rfl, Nat.le_of_ble_eq_true rfl⟩ ⟨Nat.le_of_ble_eq_true rfl, Nat.le_of_ble_eq_true rfl⟩ (Nat.le_of_ble_eq_true rfl) (a_X12_isRow (fun p1 => ?_) (fun p2 p3 => ?_))
  · refine L_if_eq C (tgt := 20) dX12_result_5 rfl (fun p4 => ?_) (fun p4 => absurd p4 (by decide))
    refine L_iconst C (v := (-1)) dX12_result_20 rfl ?_
    exact L_irI C dX12_result_21 rfl (rr1 (Or.inl p1))
  · refine L_if_eq C (tgt := 20) dX12_result_5 rfl (fun p5 => absurd p5 (by decide)) (fun p5 => ?_)
    refine L_iload_n C (i := 2) dX12_result_8 rfl rfl ?_
    refine L_i2l C dX12_result_9 ?_
    refine L_lconst C (v := 0) dX12_result_10 rfl ?_
    refine L_ldc2 C dX12_result_11 cn_X12_123 ?_
    refine L_invS3i C dX12_result_14 cal_X12_isIn stc_X12_isIn lk_X12_73 ⟨Nat.le_of_ble_eq_true rfl, Nat.le_of_ble_eq_true rfl⟩ ⟨Nat.le_of_ble_eq_true rfl, Nat.le_of_ble_eq_true rfl⟩ (Nat.le_of_ble_eq_true rfl) (a_X12_isIn (fun p6 => ?_) (fun p7 p8 => ?_))
    · refine L_if_ne C (tgt := 22) dX12_result_17 rfl (fun p9 => absurd p9 (by decide)) (fun p9 => ?_)
      refine L_iconst C (v := (-1)) dX12_result_20 rfl ?_
      exact L_irI C dX12_result_21 rfl (rr1 (Or.inr ⟨p2, p3, p6⟩))
    · refine L_if_ne C (tgt := 22) dX12_result_17 rfl (fun p10 => ?_) (fun p10 => absurd p10 (by decide))
      refine L_aload_n C (i := 0) dX12_result_22 rfl rfl ?_
      refine L_getC C (c' := 135) dX12_result_23 sh_132 fl_X12_16 rfl rfl ?_
      refine L_bipush C (v := 97) dX12_result_26 rfl ?_
      refine L_iload_n C (i := 1) dX12_result_28 rfl rfl ?_
      refine L_iadd C dX12_result_29 ?_
      refine L_iald C dX12_result_30 sh_135 (ss2 p2 p3 p7 p8) ?_
      refine L_istore_n C (i := 3) dX12_result_31 rfl (Nat.le_of_ble_eq_true rfl) ?_
      refine L_iload_n C (i := 3) dX12_result_32 rfl rfl ?_
      refine L_iload_n C (i := 2) dX12_result_33 rfl rfl ?_
      refine L_icmp_ne C (tgt := 40) dX12_result_34 rfl (fun p11 => ?_) (fun p11 => ?_)
      · refine L_aload_n C (i := 0) dX12_result_40 rfl rfl ?_
        refine L_invV0v C dX12_result_41 sh_132 cal_X12_keepsAct lk_X12_230 ⟨Nat.le_of_ble_eq_true rfl, Nat.le_of_ble_eq_true rfl⟩ ⟨Nat.le_of_ble_eq_true rfl, Nat.le_of_ble_eq_true rfl⟩ (Nat.le_of_ble_eq_true rfl) ?_
        exact cc3 p2 p3 p7 p8 p11
      · refine L_bipush C (v := (-2)) dX12_result_37 rfl ?_
        exact L_irI C dX12_result_39 rfl (rr4 p2 p3 p7 p8 p11)
theorem e_X12_result {G : mG} {Q : Int32 → mM → Prop} {μ : mM} {x1 : Int32} {x2 : Int32} (k : ∀ E, Cx G mX12_result E → Wm G mX12_result E (bm G mX12_result E (pI Q)) μ 0 [(0, .ref (gb G + 132)), (1, .int x1), (2, .int x2)] []) : CtI G mX12_result [.ref (gb G + 132), .int x1, .int x2] μ Q := CtI.of pn_X12 (Nat.le_of_ble_eq_true rfl) k
set_option maxRecDepth 4000 in
theorem k_X12_result_44 {G : mG} {E : mE} {Q : Int32 → mM → Prop} {μ : mM} (C : Cx G mX12_result E) {x1 : Int32} {x2 : Int32} {x3 : Int32} (ss1 : vp_in ((97 : Int32) + x1) 673) (rr2 : Q x3 (ms μ 135 ((97 : Int32) + x1).toNatClampNeg x2)) : Wm G mX12_result E (bm G mX12_result E (pI Q)) μ 44 [(0, .ref (gb G + 132)), (1, .int x1), (2, .int x2), (3, .int x3)] [] := by
  refine L_aload_n C (i := 0) dX12_result_44 rfl rfl ?_
  refine L_getC C (c' := 135) dX12_result_45 sh_132 fl_X12_16 rfl rfl ?_
  refine L_bipush C (v := 97) dX12_result_48 rfl ?_
  refine L_iload_n C (i := 1) dX12_result_50 rfl rfl ?_
  refine L_iadd C dX12_result_51 ?_
  refine L_iload_n C (i := 2) dX12_result_52 rfl rfl ?_
  refine L_iast C dX12_result_53 sh_135 (ss1) ?_
  refine L_iload_n C (i := 3) dX12_result_54 rfl rfl ?_
  exact L_irI C dX12_result_55 rfl (rr2)
set_option maxRecDepth 4000 in
theorem k_X12_hasLevels_0 {G : mG} {E : mE} {B : mB} {μ : mM} (C : Cx G mX12_hasLevels E) {x1 : Int32} {x2 : Int32} {x3 : Int32} (kk1 : Wm G mX12_hasLevels E B μ 3 [(0, .ref (gb G + 132)), (1, .int x1), (2, .int x2), (3, .int x3), (4, .int 0)] []) : Wm G mX12_hasLevels E B μ 0 [(0, .ref (gb G + 132)), (1, .int x1), (2, .int x2), (3, .int x3)] [] := by
  refine L_iconst C (v := 0) dX12_hasLevels_0 rfl ?_
  refine L_istore C dX12_hasLevels_1 (Nat.le_of_ble_eq_true rfl) ?_
  exact kk1
theorem e_X12_hasLevels {G : mG} {Q : Int32 → mM → Prop} {μ : mM} {x1 : Int32} {x2 : Int32} {x3 : Int32} (k : ∀ E, Cx G mX12_hasLevels E → Wm G mX12_hasLevels E (bm G mX12_hasLevels E (pI Q)) μ 0 [(0, .ref (gb G + 132)), (1, .int x1), (2, .int x2), (3, .int x3)] []) : CtI G mX12_hasLevels [.ref (gb G + 132), .int x1, .int x2, .int x3] μ Q := CtI.of pn_X12 (Nat.le_of_ble_eq_true rfl) k
set_option maxRecDepth 4000 in
theorem k_X12_hasLevels_3 {G : mG} {E : mE} {Q : Int32 → mM → Prop} {μ : mM} (C : Cx G mX12_hasLevels E) {x1 : Int32} {x2 : Int32} {x3 : Int32} {x4 : Int32} (rr1 : x3 ≤ x4 → Q 1 μ) (ss2 : ¬ x3 ≤ x4 → vp_in x4 3) (ss3 : ¬ x3 ≤ x4 → vp_in (((161 : Int32) + ((8 : Int32) * x1)) + (μ 143 x4.toNatClampNeg)) 673) (cc4 : ¬ x3 ≤ x4 → CtI G mX12_levelOf [.ref (gb G + 132), .int x2, .int x4, .int x3] μ (fun r μ' => Wm G mX12_hasLevels E (bm G mX12_hasLevels E (pI Q)) μ' 29 [(0, .ref (gb G + 132)), (1, .int x1), (2, .int x2), (3, .int x3), (4, .int x4)] [.int r, .int (μ 135 (((161 : Int32) + ((8 : Int32) * x1)) + (μ 143 x4.toNatClampNeg)).toNatClampNeg)])) : Wm G mX12_hasLevels E (bm G mX12_hasLevels E (pI Q)) μ 3 [(0, .ref (gb G + 132)), (1, .int x1), (2, .int x2), (3, .int x3), (4, .int x4)] [] := by
  refine L_iload C dX12_hasLevels_3 rfl ?_
  refine L_iload_n C (i := 3) dX12_hasLevels_5 rfl rfl ?_
  refine L_icmp_ge C (tgt := 40) dX12_hasLevels_6 rfl (fun p1 => ?_) (fun p1 => ?_)
  · refine L_iconst C (v := 1) dX12_hasLevels_40 rfl ?_
    exact L_irZ C dX12_hasLevels_41 rfl (by decide) (rr1 p1)
  · refine L_aload_n C (i := 0) dX12_hasLevels_9 rfl rfl ?_
    refine L_iload_n C (i := 1) dX12_hasLevels_10 rfl rfl ?_
    refine L_aload_n C (i := 0) dX12_hasLevels_11 rfl rfl ?_
    refine L_getC C (c' := 143) dX12_hasLevels_12 sh_132 fl_X12_42 rfl rfl ?_
    refine L_iload C dX12_hasLevels_15 rfl ?_
    refine L_iald C dX12_hasLevels_17 sh_143 (ss2 p1) ?_
    refine L_invV2i C dX12_hasLevels_18 sh_132 cal_X12_cellAt lk_X12_200 ⟨Nat.le_of_ble_eq_true rfl, Nat.le_of_ble_eq_true rfl⟩ ⟨Nat.le_of_ble_eq_true rfl, Nat.le_of_ble_eq_true rfl⟩ (Nat.le_of_ble_eq_true rfl) (a_X12_cellAt (ss3 p1) (?_))
    · refine L_aload_n C (i := 0) dX12_hasLevels_21 rfl rfl ?_
      refine L_iload_n C (i := 2) dX12_hasLevels_22 rfl rfl ?_
      refine L_iload C dX12_hasLevels_23 rfl ?_
      refine L_iload_n C (i := 3) dX12_hasLevels_25 rfl rfl ?_
      refine L_invV3i C dX12_hasLevels_26 sh_132 cal_X12_levelOf lk_X12_193 ⟨Nat.le_of_ble_eq_true rfl, Nat.le_of_ble_eq_true rfl⟩ ⟨Nat.le_of_ble_eq_true rfl, Nat.le_of_ble_eq_true rfl⟩ (Nat.le_of_ble_eq_true rfl) ?_
      exact cc4 p1
set_option maxRecDepth 4000 in
theorem k_X12_hasLevels_29 {G : mG} {E : mE} {Q : Int32 → mM → Prop} {μ : mM} (C : Cx G mX12_hasLevels E) {x1 : Int32} {x2 : Int32} {x3 : Int32} {x4 : Int32} {sx0 : Int32} {sx1 : Int32} (kk1 : sx0 = sx1 → Wm G mX12_hasLevels E (bm G mX12_hasLevels E (pI Q)) μ 3 [(0, .ref (gb G + 132)), (1, .int x1), (2, .int x2), (3, .int x3), (4, .int (x4 + (1 : Int32)))] []) (rr2 : ¬ sx0 = sx1 → Q 0 μ) : Wm G mX12_hasLevels E (bm G mX12_hasLevels E (pI Q)) μ 29 [(0, .ref (gb G + 132)), (1, .int x1), (2, .int x2), (3, .int x3), (4, .int x4)] [.int sx1, .int sx0] := by
  refine L_icmp_eq C (tgt := 34) dX12_hasLevels_29 rfl (fun p1 => ?_) (fun p1 => ?_)
  · refine L_iinc C (v := 1) dX12_hasLevels_34 rfl rfl (Nat.le_of_ble_eq_true rfl) ?_
    refine L_goto C (tgt := 3) dX12_hasLevels_37 rfl ?_
    exact kk1 p1
  · refine L_iconst C (v := 0) dX12_hasLevels_32 rfl ?_
    exact L_irZ C dX12_hasLevels_33 rfl (by decide) (rr2 p1)
set_option maxRecDepth 4000 in
theorem k_X12_isGuilty_0 {G : mG} {E : mE} {B : mB} {μ : mM} (C : Cx G mX12_isGuilty E) {x1 : Int32} {x2 : Int32} (kk1 : Wm G mX12_isGuilty E B μ 5 [(0, .ref (gb G + 132)), (1, .int x1), (2, .int x2), (3, .int 0), (4, .int 0)] []) : Wm G mX12_isGuilty E B μ 0 [(0, .ref (gb G + 132)), (1, .int x1), (2, .int x2)] [] := by
  refine L_iconst C (v := 0) dX12_isGuilty_0 rfl ?_
  refine L_istore_n C (i := 3) dX12_isGuilty_1 rfl (Nat.le_of_ble_eq_true rfl) ?_
  refine L_iconst C (v := 0) dX12_isGuilty_2 rfl ?_
  refine L_istore C dX12_isGuilty_3 (Nat.le_of_ble_eq_true rfl) ?_
  exact kk1
theorem e_X12_isGuilty {G : mG} {Q : Int32 → mM → Prop} {μ : mM} {x1 : Int32} {x2 : Int32} (k : ∀ E, Cx G mX12_isGuilty E → Wm G mX12_isGuilty E (bm G mX12_isGuilty E (pI Q)) μ 0 [(0, .ref (gb G + 132)), (1, .int x1), (2, .int x2)] []) : CtI G mX12_isGuilty [.ref (gb G + 132), .int x1, .int x2] μ Q := CtI.of pn_X12 (Nat.le_of_ble_eq_true rfl) k
set_option maxRecDepth 4000 in
theorem k_X12_isGuilty_5 {G : mG} {E : mE} {Q : Int32 → mM → Prop} {μ : mM} (C : Cx G mX12_isGuilty E) {x1 : Int32} {x2 : Int32} {x3 : Int32} {x4 : Int32} (zz1 : (μ 135 3) ≤ x4 → (x3 = 0 ∨ x3 = 1)) (rr2 : (μ 135 3) ≤ x4 → Q x3 μ) (ss3 : ¬ (μ 135 3) ≤ x4 → vp_in ((97 : Int32) + x4) 673) (cc4 : ¬ (μ 135 3) ≤ x4 → ¬ (μ 135 ((97 : Int32) + x4).toNatClampNeg) = 0 → CtI G mX12_hasLevels [.ref (gb G + 132), .int x4, .int x1, .int x2] μ (fun r μ' => Wm G mX12_isGuilty E (bm G mX12_isGuilty E (pI Q)) μ' 44 [(0, .ref (gb G + 132)), (1, .int x1), (2, .int x2), (3, .int x3), (4, .int x4), (5, .int (μ 135 ((97 : Int32) + x4).toNatClampNeg))] [.int r])) (kk5 : ¬ (μ 135 3) ≤ x4 → (μ 135 ((97 : Int32) + x4).toNatClampNeg) = 0 → Wm G mX12_isGuilty E (bm G mX12_isGuilty E (pI Q)) μ 5 [(0, .ref (gb G + 132)), (1, .int x1), (2, .int x2), (3, .int x3), (4, .int (x4 + (1 : Int32)))] []) : Wm G mX12_isGuilty E (bm G mX12_isGuilty E (pI Q)) μ 5 [(0, .ref (gb G + 132)), (1, .int x1), (2, .int x2), (3, .int x3), (4, .int x4)] [] := by
  refine L_iload C dX12_isGuilty_5 rfl ?_
  refine L_aload_n C (i := 0) dX12_isGuilty_7 rfl rfl ?_
  refine L_getC C (c' := 135) dX12_isGuilty_8 sh_132 fl_X12_16 rfl rfl ?_
  refine L_iconst C (v := 3) dX12_isGuilty_11 rfl ?_
  refine L_iald C dX12_isGuilty_12 sh_135 (by unfold vp_in; decide) ?_
  refine L_icmp_ge C (tgt := 82) dX12_isGuilty_13 rfl (fun p1 => ?_) (fun p1 => ?_)
  · refine L_iload_n C (i := 3) dX12_isGuilty_82 rfl rfl ?_
    exact L_irZ C dX12_isGuilty_83 rfl (zz1 p1) (rr2 p1)
  · refine L_aload_n C (i := 0) dX12_isGuilty_16 rfl rfl ?_
    refine L_getC C (c' := 135) dX12_isGuilty_17 sh_132 fl_X12_16 rfl rfl ?_
    refine L_bipush C (v := 97) dX12_isGuilty_20 rfl ?_
    refine L_iload C dX12_isGuilty_22 rfl ?_
    refine L_iadd C dX12_isGuilty_24 ?_
    refine L_iald C dX12_isGuilty_25 sh_135 (ss3 p1) ?_
    refine L_istore C dX12_isGuilty_26 (Nat.le_of_ble_eq_true rfl) ?_
    refine L_iload C dX12_isGuilty_28 rfl ?_
    refine L_if_ne C (tgt := 36) dX12_isGuilty_30 rfl (fun p2 => ?_) (fun p2 => ?_)
    · refine L_aload_n C (i := 0) dX12_isGuilty_36 rfl rfl ?_
      refine L_iload C dX12_isGuilty_37 rfl ?_
      refine L_iload_n C (i := 1) dX12_isGuilty_39 rfl rfl ?_
      refine L_iload_n C (i := 2) dX12_isGuilty_40 rfl rfl ?_
      refine L_invV3i C dX12_isGuilty_41 sh_132 cal_X12_hasLevels lk_X12_320 ⟨Nat.le_of_ble_eq_true rfl, Nat.le_of_ble_eq_true rfl⟩ ⟨Nat.le_of_ble_eq_true rfl, Nat.le_of_ble_eq_true rfl⟩ (Nat.le_of_ble_eq_true rfl) ?_
      exact cc4 p1 p2
    · refine L_goto C (tgt := 76) dX12_isGuilty_33 rfl ?_
      refine L_iinc C (v := 1) dX12_isGuilty_76 rfl rfl (Nat.le_of_ble_eq_true rfl) ?_
      refine L_goto C (tgt := 5) dX12_isGuilty_79 rfl ?_
      refine L_sub [0, 1, 2, 3, 4] rfl ?_
      exact kk5 p1 p2
set_option maxRecDepth 4000 in
theorem k_X12_isGuilty_44 {G : mG} {E : mE} {Q : Int32 → mM → Prop} {μ : mM} (C : Cx G mX12_isGuilty E) {x1 : Int32} {x2 : Int32} {x3 : Int32} {x4 : Int32} {x5 : Int32} {sx0 : Int32} (kk1 : ∀ v1 : Int32, ((¬ x5 = 2 ∧ v1 = 0) ∨ (x5 = 2 ∧ v1 = 1)) → sx0 = v1 → ∀ v2 : Int32, (((¬ x3 = 0 ∨ (x3 = 0 ∧ x5 = 2)) ∧ v2 = 1) ∨ (x3 = 0 ∧ ¬ x5 = 2 ∧ v2 = 0)) → Wm G mX12_isGuilty E (bm G mX12_isGuilty E (pI Q)) μ 5 [(0, .ref (gb G + 132)), (1, .int x1), (2, .int x2), (3, .int v2), (4, .int (x4 + (1 : Int32)))] []) (rr2 : ∀ v1 : Int32, ((¬ x5 = 2 ∧ v1 = 0) ∨ (x5 = 2 ∧ v1 = 1)) → ¬ sx0 = v1 → Q 0 μ) : Wm G mX12_isGuilty E (bm G mX12_isGuilty E (pI Q)) μ 44 [(0, .ref (gb G + 132)), (1, .int x1), (2, .int x2), (3, .int x3), (4, .int x4), (5, .int x5)] [.int sx0] := by
  refine L_iload C dX12_isGuilty_44 rfl ?_
  refine L_iconst C (v := 2) dX12_isGuilty_46 rfl ?_
  refine phi (fun v1 : Int32 => Wm G mX12_isGuilty E (bm G mX12_isGuilty E (pI Q)) μ 55 [(0, .ref (gb G + 132)), (1, .int x1), (2, .int x2), (3, .int x3), (4, .int x4), (5, .int x5)] [.int v1, .int sx0]) (fun v1 : Int32 => (¬ x5 = 2 ∧ v1 = 0) ∨ (x5 = 2 ∧ v1 = 1)) (fun H => ?_) (fun v1 hv1 => ?_)
  · refine L_icmp_ne C (tgt := 54) dX12_isGuilty_47 rfl (fun p1 => ?_) (fun p1 => ?_)
    · refine L_iconst C (v := 0) dX12_isGuilty_54 rfl ?_
      exact H _ (Or.inl ⟨p1, rfl⟩)
    · refine L_iconst C (v := 1) dX12_isGuilty_50 rfl ?_
      refine L_goto C (tgt := 55) dX12_isGuilty_51 rfl ?_
      exact H _ (Or.inr ⟨p1, rfl⟩)
  refine L_icmp_eq C (tgt := 60) dX12_isGuilty_55 rfl (fun p2 => ?_) (fun p2 => ?_)
  · refine L_iload_n C (i := 3) dX12_isGuilty_60 rfl rfl ?_
    refine phi (fun v2 : Int32 => Wm G mX12_isGuilty E (bm G mX12_isGuilty E (pI Q)) μ 75 [(0, .ref (gb G + 132)), (1, .int x1), (2, .int x2), (4, .int x4)] [.int v2]) (fun v2 : Int32 => ((¬ x3 = 0 ∨ (x3 = 0 ∧ x5 = 2)) ∧ v2 = 1) ∨ (x3 = 0 ∧ ¬ x5 = 2 ∧ v2 = 0)) (fun H => ?_) (fun v2 hv2 => ?_)
    · refine L_if_ne C (tgt := 70) dX12_isGuilty_61 rfl (fun p3 => ?_) (fun p3 => ?_)
      · refine L_iconst C (v := 1) dX12_isGuilty_70 rfl ?_
        refine L_goto C (tgt := 75) dX12_isGuilty_71 rfl ?_
        refine L_sub [0, 1, 2, 4] rfl ?_
        exact H _ (Or.inl ⟨(Or.inl p3), rfl⟩)
      · refine L_iload C dX12_isGuilty_64 rfl ?_
        refine L_iconst C (v := 2) dX12_isGuilty_66 rfl ?_
        refine L_icmp_ne C (tgt := 74) dX12_isGuilty_67 rfl (fun p4 => ?_) (fun p4 => ?_)
        · refine L_iconst C (v := 0) dX12_isGuilty_74 rfl ?_
          refine L_sub [0, 1, 2, 4] rfl ?_
          exact H _ (Or.inr ⟨p3, p4, rfl⟩)
        · refine L_iconst C (v := 1) dX12_isGuilty_70 rfl ?_
          refine L_goto C (tgt := 75) dX12_isGuilty_71 rfl ?_
          refine L_sub [0, 1, 2, 4] rfl ?_
          exact H _ (Or.inl ⟨(Or.inr ⟨p3, p4⟩), rfl⟩)
    refine L_istore_n C (i := 3) dX12_isGuilty_75 rfl (Nat.le_of_ble_eq_true rfl) ?_
    refine L_iinc C (v := 1) dX12_isGuilty_76 rfl rfl (Nat.le_of_ble_eq_true rfl) ?_
    refine L_goto C (tgt := 5) dX12_isGuilty_79 rfl ?_
    exact kk1 v1 hv1 p2 v2 hv2
  · refine L_iconst C (v := 0) dX12_isGuilty_58 rfl ?_
    exact L_irZ C dX12_isGuilty_59 rfl (by decide) (rr2 v1 hv1 p2)
set_option maxRecDepth 4000 in
theorem k_X12_guilty_0 {G : mG} {E : mE} {Q : Int32 → mM → Prop} {μ : mM} (C : Cx G mX12_guilty E) {x1 : Int32} {x2 : Int32} (rr1 : ((μ 135 0) ≤ 0 ∨ (¬ (μ 135 0) ≤ 0 ∧ (((lg_cmp x1.toInt64 1) < 0 ∨ (¬ (lg_cmp x1.toInt64 1) < 0 ∧ 0 < (lg_cmp x1.toInt64 (μ 135 1).toInt64))) ∨ (¬ (lg_cmp x1.toInt64 1) < 0 ∧ ¬ 0 < (lg_cmp x1.toInt64 (μ 135 1).toInt64) ∧ ¬ (-1) ≤ x2)))) → Q (-1) μ) (cc2 : ¬ (μ 135 0) ≤ 0 → ¬ (lg_cmp x1.toInt64 1) < 0 → ¬ 0 < (lg_cmp x1.toInt64 (μ 135 1).toInt64) → (-1) ≤ x2 → CtV G mX12_beginsSet [.ref (gb G + 132), .int x1] μ (fun μ' => Wm G mX12_guilty E (bm G mX12_guilty E (pI Q)) μ' 40 [(0, .ref (gb G + 132)), (1, .int x1), (2, .int x2), (3, .int 0), (4, .int 0)] [])) : Wm G mX12_guilty E (bm G mX12_guilty E (pI Q)) μ 0 [(0, .ref (gb G + 132)), (1, .int x1), (2, .int x2)] [] := by
  refine L_aload_n C (i := 0) dX12_guilty_0 rfl rfl ?_
  refine L_invV0i C dX12_guilty_1 sh_132 cal_X12_isPlan lk_X12_212 ⟨Nat.le_of_ble_eq_true rfl, Nat.le_of_ble_eq_true rfl⟩ ⟨Nat.le_of_ble_eq_true rfl, Nat.le_of_ble_eq_true rfl⟩ (Nat.le_of_ble_eq_true rfl) (a_X12_isPlan (fun p1 => ?_) (fun p2 => ?_))
  · refine L_if_eq C (tgt := 28) dX12_guilty_4 rfl (fun p3 => ?_) (fun p3 => absurd p3 (by decide))
    refine L_iconst C (v := (-1)) dX12_guilty_28 rfl ?_
    exact L_irI C dX12_guilty_29 rfl (rr1 (Or.inl p1))
  · refine L_if_eq C (tgt := 28) dX12_guilty_4 rfl (fun p4 => absurd p4 (by decide)) (fun p4 => ?_)
    refine L_iload_n C (i := 1) dX12_guilty_7 rfl rfl ?_
    refine L_i2l C dX12_guilty_8 ?_
    refine L_lconst C (v := 1) dX12_guilty_9 rfl ?_
    refine L_aload_n C (i := 0) dX12_guilty_10 rfl rfl ?_
    refine L_getC C (c' := 135) dX12_guilty_11 sh_132 fl_X12_16 rfl rfl ?_
    refine L_iconst C (v := 1) dX12_guilty_14 rfl ?_
    refine L_iald C dX12_guilty_15 sh_135 (by unfold vp_in; decide) ?_
    refine L_i2l C dX12_guilty_16 ?_
    refine L_invS3i C dX12_guilty_17 cal_X12_isIn stc_X12_isIn lk_X12_73 ⟨Nat.le_of_ble_eq_true rfl, Nat.le_of_ble_eq_true rfl⟩ ⟨Nat.le_of_ble_eq_true rfl, Nat.le_of_ble_eq_true rfl⟩ (Nat.le_of_ble_eq_true rfl) (a_X12_isIn (fun p5 => ?_) (fun p6 p7 => ?_))
    · refine L_if_eq C (tgt := 28) dX12_guilty_20 rfl (fun p8 => ?_) (fun p8 => absurd p8 (by decide))
      refine L_iconst C (v := (-1)) dX12_guilty_28 rfl ?_
      exact L_irI C dX12_guilty_29 rfl (rr1 (Or.inr ⟨p2, (Or.inl p5)⟩))
    · refine L_if_eq C (tgt := 28) dX12_guilty_20 rfl (fun p9 => absurd p9 (by decide)) (fun p9 => ?_)
      refine L_iload_n C (i := 2) dX12_guilty_23 rfl rfl ?_
      refine L_iconst C (v := (-1)) dX12_guilty_24 rfl ?_
      refine L_icmp_ge C (tgt := 30) dX12_guilty_25 rfl (fun p10 => ?_) (fun p10 => ?_)
      · refine L_iconst C (v := 0) dX12_guilty_30 rfl ?_
        refine L_istore_n C (i := 3) dX12_guilty_31 rfl (Nat.le_of_ble_eq_true rfl) ?_
        refine L_iconst C (v := 0) dX12_guilty_32 rfl ?_
        refine L_istore C dX12_guilty_33 (Nat.le_of_ble_eq_true rfl) ?_
        refine L_aload_n C (i := 0) dX12_guilty_35 rfl rfl ?_
        refine L_iload_n C (i := 1) dX12_guilty_36 rfl rfl ?_
        refine L_invV1v C dX12_guilty_37 sh_132 cal_X12_beginsSet lk_X12_186 ⟨Nat.le_of_ble_eq_true rfl, Nat.le_of_ble_eq_true rfl⟩ ⟨Nat.le_of_ble_eq_true rfl, Nat.le_of_ble_eq_true rfl⟩ (Nat.le_of_ble_eq_true rfl) ?_
        exact cc2 p2 p6 p7 p10
      · refine L_iconst C (v := (-1)) dX12_guilty_28 rfl ?_
        exact L_irI C dX12_guilty_29 rfl (rr1 (Or.inr ⟨p2, (Or.inr ⟨p6, p7, p10⟩)⟩))
theorem e_X12_guilty {G : mG} {Q : Int32 → mM → Prop} {μ : mM} {x1 : Int32} {x2 : Int32} (k : ∀ E, Cx G mX12_guilty E → Wm G mX12_guilty E (bm G mX12_guilty E (pI Q)) μ 0 [(0, .ref (gb G + 132)), (1, .int x1), (2, .int x2)] []) : CtI G mX12_guilty [.ref (gb G + 132), .int x1, .int x2] μ Q := CtI.of pn_X12 (Nat.le_of_ble_eq_true rfl) k
set_option maxRecDepth 4000 in
theorem k_X12_guilty_40 {G : mG} {E : mE} {B : mB} {μ : mM} (C : Cx G mX12_guilty E) {x1 : Int32} {x2 : Int32} {x3 : Int32} {x4 : Int32} (kk1 : Wm G mX12_guilty E B μ 43 [(0, .ref (gb G + 132)), (1, .int x1), (2, .int x2), (3, .int x3), (4, .int x4), (5, .int 1)] []) : Wm G mX12_guilty E B μ 40 [(0, .ref (gb G + 132)), (1, .int x1), (2, .int x2), (3, .int x3), (4, .int x4)] [] := by
  refine L_iconst C (v := 1) dX12_guilty_40 rfl ?_
  refine L_istore C dX12_guilty_41 (Nat.le_of_ble_eq_true rfl) ?_
  exact kk1
set_option maxRecDepth 4000 in
theorem k_X12_guilty_43 {G : mG} {E : mE} {Q : Int32 → mM → Prop} {μ : mM} (C : Cx G mX12_guilty E) {x1 : Int32} {x2 : Int32} {x3 : Int32} {x4 : Int32} {x5 : Int32} (rr1 : x5 = 0 → ¬ x2 = (-1) → Q (-2) μ) (rr2 : x5 = 0 → x2 = (-1) → Q x4 μ) (cc3 : ¬ x5 = 0 → CtI G mX12_levelsOfSet [.ref (gb G + 132), .int x1] μ (fun r μ' => Wm G mX12_guilty E (bm G mX12_guilty E (pI Q)) μ' 53 [(0, .ref (gb G + 132)), (1, .int x1), (2, .int x2), (3, .int x3), (4, .int x4)] [.int r])) : Wm G mX12_guilty E (bm G mX12_guilty E (pI Q)) μ 43 [(0, .ref (gb G + 132)), (1, .int x1), (2, .int x2), (3, .int x3), (4, .int x4), (5, .int x5)] [] := by
  refine L_iload C dX12_guilty_43 rfl ?_
  refine L_if_eq C (tgt := 105) dX12_guilty_45 rfl (fun p1 => ?_) (fun p1 => ?_)
  · refine L_iload_n C (i := 2) dX12_guilty_105 rfl rfl ?_
    refine L_iconst C (v := (-1)) dX12_guilty_106 rfl ?_
    refine L_icmp_ne C (tgt := 115) dX12_guilty_107 rfl (fun p2 => ?_) (fun p2 => ?_)
    · refine L_bipush C (v := (-2)) dX12_guilty_115 rfl ?_
      exact L_irI C dX12_guilty_117 rfl (rr1 p1 p2)
    · refine L_iload C dX12_guilty_110 rfl ?_
      refine L_goto C (tgt := 117) dX12_guilty_112 rfl ?_
      exact L_irI C dX12_guilty_117 rfl (rr2 p1 p2)
  · refine L_aload_n C (i := 0) dX12_guilty_48 rfl rfl ?_
    refine L_iload_n C (i := 1) dX12_guilty_49 rfl rfl ?_
    refine L_sub [0, 1, 2, 3, 4] rfl ?_
    refine L_invV1i C dX12_guilty_50 sh_132 cal_X12_levelsOfSet lk_X12_190 ⟨Nat.le_of_ble_eq_true rfl, Nat.le_of_ble_eq_true rfl⟩ ⟨Nat.le_of_ble_eq_true rfl, Nat.le_of_ble_eq_true rfl⟩ (Nat.le_of_ble_eq_true rfl) ?_
    exact cc3 p1
set_option maxRecDepth 4000 in
theorem k_X12_guilty_53 {G : mG} {E : mE} {B : mB} {μ : mM} (C : Cx G mX12_guilty E) {x1 : Int32} {x2 : Int32} {x3 : Int32} {x4 : Int32} {sx0 : Int32} (kk1 : Wm G mX12_guilty E B μ 58 [(0, .ref (gb G + 132)), (1, .int x1), (2, .int x2), (3, .int x3), (4, .int x4), (6, .int sx0), (7, .int 0)] []) : Wm G mX12_guilty E B μ 53 [(0, .ref (gb G + 132)), (1, .int x1), (2, .int x2), (3, .int x3), (4, .int x4)] [.int sx0] := by
  refine L_istore C dX12_guilty_53 (Nat.le_of_ble_eq_true rfl) ?_
  refine L_iconst C (v := 0) dX12_guilty_55 rfl ?_
  refine L_istore C dX12_guilty_56 (Nat.le_of_ble_eq_true rfl) ?_
  exact kk1
set_option maxRecDepth 4000 in
theorem k_X12_guilty_58 {G : mG} {E : mE} {Q : Int32 → mM → Prop} {μ : mM} (C : Cx G mX12_guilty E) {x1 : Int32} {x2 : Int32} {x3 : Int32} {x4 : Int32} {x6 : Int32} {x7 : Int32} (cc1 : x6 ≤ x7 → CtI G mX12_nextSet [.ref (gb G + 132), .int x1] μ (fun r μ' => Wm G mX12_guilty E (bm G mX12_guilty E (pI Q)) μ' 100 [(0, .ref (gb G + 132)), (1, .int x1), (2, .int x2), (3, .int x3), (4, .int x4)] [.int r])) (cc2 : ¬ x6 ≤ x7 → CtI G mX12_isGuilty [.ref (gb G + 132), .int x7, .int x1] μ (fun r μ' => Wm G mX12_guilty E (bm G mX12_guilty E (pI Q)) μ' 72 [(0, .ref (gb G + 132)), (1, .int x1), (2, .int x2), (3, .int x3), (4, .int x4), (6, .int x6), (7, .int x7)] [.int r])) : Wm G mX12_guilty E (bm G mX12_guilty E (pI Q)) μ 58 [(0, .ref (gb G + 132)), (1, .int x1), (2, .int x2), (3, .int x3), (4, .int x4), (6, .int x6), (7, .int x7)] [] := by
  refine L_iload C dX12_guilty_58 rfl ?_
  refine L_iload C dX12_guilty_60 rfl ?_
  refine L_icmp_ge C (tgt := 95) dX12_guilty_62 rfl (fun p1 => ?_) (fun p1 => ?_)
  · refine L_aload_n C (i := 0) dX12_guilty_95 rfl rfl ?_
    refine L_iload_n C (i := 1) dX12_guilty_96 rfl rfl ?_
    refine L_sub [0, 1, 2, 3, 4] rfl ?_
    refine L_invV1i C dX12_guilty_97 sh_132 cal_X12_nextSet lk_X12_197 ⟨Nat.le_of_ble_eq_true rfl, Nat.le_of_ble_eq_true rfl⟩ ⟨Nat.le_of_ble_eq_true rfl, Nat.le_of_ble_eq_true rfl⟩ (Nat.le_of_ble_eq_true rfl) ?_
    exact cc1 p1
  · refine L_aload_n C (i := 0) dX12_guilty_65 rfl rfl ?_
    refine L_iload C dX12_guilty_66 rfl ?_
    refine L_iload_n C (i := 1) dX12_guilty_68 rfl rfl ?_
    refine L_invV2i C dX12_guilty_69 sh_132 cal_X12_isGuilty lk_X12_323 ⟨Nat.le_of_ble_eq_true rfl, Nat.le_of_ble_eq_true rfl⟩ ⟨Nat.le_of_ble_eq_true rfl, Nat.le_of_ble_eq_true rfl⟩ (Nat.le_of_ble_eq_true rfl) ?_
    exact cc2 p1
set_option maxRecDepth 4000 in
theorem k_X12_guilty_72 {G : mG} {E : mE} {Q : Int32 → mM → Prop} {μ : mM} (C : Cx G mX12_guilty E) {x1 : Int32} {x2 : Int32} {x3 : Int32} {x4 : Int32} {x6 : Int32} {x7 : Int32} {sx0 : Int32} (kk1 : sx0 = 0 → Wm G mX12_guilty E (bm G mX12_guilty E (pI Q)) μ 58 [(0, .ref (gb G + 132)), (1, .int x1), (2, .int x2), (3, .int (x3 + (1 : Int32))), (4, .int x4), (6, .int x6), (7, .int (x7 + (1 : Int32)))] []) (kk2 : ¬ sx0 = 0 → ¬ x4 = x2 → Wm G mX12_guilty E (bm G mX12_guilty E (pI Q)) μ 58 [(0, .ref (gb G + 132)), (1, .int x1), (2, .int x2), (3, .int (x3 + (1 : Int32))), (4, .int (x4 + (1 : Int32))), (6, .int x6), (7, .int (x7 + (1 : Int32)))] []) (rr3 : ¬ sx0 = 0 → x4 = x2 → Q x3 μ) : Wm G mX12_guilty E (bm G mX12_guilty E (pI Q)) μ 72 [(0, .ref (gb G + 132)), (1, .int x1), (2, .int x2), (3, .int x3), (4, .int x4), (6, .int x6), (7, .int x7)] [.int sx0] := by
  refine L_if_eq C (tgt := 86) dX12_guilty_72 rfl (fun p1 => ?_) (fun p1 => ?_)
  · refine L_iinc C (v := 1) dX12_guilty_86 rfl rfl (Nat.le_of_ble_eq_true rfl) ?_
    refine L_iinc C (v := 1) dX12_guilty_89 rfl rfl (Nat.le_of_ble_eq_true rfl) ?_
    refine L_goto C (tgt := 58) dX12_guilty_92 rfl ?_
    exact kk1 p1
  · refine L_iload C dX12_guilty_75 rfl ?_
    refine L_iload_n C (i := 2) dX12_guilty_77 rfl rfl ?_
    refine L_icmp_ne C (tgt := 83) dX12_guilty_78 rfl (fun p2 => ?_) (fun p2 => ?_)
    · refine L_iinc C (v := 1) dX12_guilty_83 rfl rfl (Nat.le_of_ble_eq_true rfl) ?_
      refine L_iinc C (v := 1) dX12_guilty_86 rfl rfl (Nat.le_of_ble_eq_true rfl) ?_
      refine L_iinc C (v := 1) dX12_guilty_89 rfl rfl (Nat.le_of_ble_eq_true rfl) ?_
      refine L_goto C (tgt := 58) dX12_guilty_92 rfl ?_
      exact kk2 p1 p2
    · refine L_iload_n C (i := 3) dX12_guilty_81 rfl rfl ?_
      exact L_irI C dX12_guilty_82 rfl (rr3 p1 p2)
set_option maxRecDepth 4000 in
theorem k_X12_guilty_100 {G : mG} {E : mE} {B : mB} {μ : mM} (C : Cx G mX12_guilty E) {x1 : Int32} {x2 : Int32} {x3 : Int32} {x4 : Int32} {sx0 : Int32} (kk1 : Wm G mX12_guilty E B μ 43 [(0, .ref (gb G + 132)), (1, .int x1), (2, .int x2), (3, .int x3), (4, .int x4), (5, .int sx0)] []) : Wm G mX12_guilty E B μ 100 [(0, .ref (gb G + 132)), (1, .int x1), (2, .int x2), (3, .int x3), (4, .int x4)] [.int sx0] := by
  refine L_istore C dX12_guilty_100 (Nat.le_of_ble_eq_true rfl) ?_
  refine L_goto C (tgt := 43) dX12_guilty_102 rfl ?_
  exact kk1
set_option maxRecDepth 4000 in
theorem k_X12_guiltyIn_0 {G : mG} {E : mE} {Q : Int32 → mM → Prop} {μ : mM} (C : Cx G mX12_guiltyIn E) {x1 : Int32} (cc1 : CtV G mX12_beginsSet [.ref (gb G + 132), .int (μ 135 1)] μ (fun μ' => Wm G mX12_guiltyIn E (bm G mX12_guiltyIn E (pI Q)) μ' 12 [(0, .ref (gb G + 132)), (1, .int x1), (2, .int 0)] [])) : Wm G mX12_guiltyIn E (bm G mX12_guiltyIn E (pI Q)) μ 0 [(0, .ref (gb G + 132)), (1, .int x1)] [] := by
  refine L_iconst C (v := 0) dX12_guiltyIn_0 rfl ?_
  refine L_istore_n C (i := 2) dX12_guiltyIn_1 rfl (Nat.le_of_ble_eq_true rfl) ?_
  refine L_aload_n C (i := 0) dX12_guiltyIn_2 rfl rfl ?_
  refine L_aload_n C (i := 0) dX12_guiltyIn_3 rfl rfl ?_
  refine L_getC C (c' := 135) dX12_guiltyIn_4 sh_132 fl_X12_16 rfl rfl ?_
  refine L_iconst C (v := 1) dX12_guiltyIn_7 rfl ?_
  refine L_iald C dX12_guiltyIn_8 sh_135 (by unfold vp_in; decide) ?_
  refine L_invV1v C dX12_guiltyIn_9 sh_132 cal_X12_beginsSet lk_X12_186 ⟨Nat.le_of_ble_eq_true rfl, Nat.le_of_ble_eq_true rfl⟩ ⟨Nat.le_of_ble_eq_true rfl, Nat.le_of_ble_eq_true rfl⟩ (Nat.le_of_ble_eq_true rfl) ?_
  exact cc1
theorem e_X12_guiltyIn {G : mG} {Q : Int32 → mM → Prop} {μ : mM} {x1 : Int32} (k : ∀ E, Cx G mX12_guiltyIn E → Wm G mX12_guiltyIn E (bm G mX12_guiltyIn E (pI Q)) μ 0 [(0, .ref (gb G + 132)), (1, .int x1)] []) : CtI G mX12_guiltyIn [.ref (gb G + 132), .int x1] μ Q := CtI.of pn_X12 (Nat.le_of_ble_eq_true rfl) k
set_option maxRecDepth 4000 in
theorem k_X12_guiltyIn_12 {G : mG} {E : mE} {B : mB} {μ : mM} (C : Cx G mX12_guiltyIn E) {x1 : Int32} {x2 : Int32} (kk1 : Wm G mX12_guiltyIn E B μ 14 [(0, .ref (gb G + 132)), (1, .int x1), (2, .int x2), (3, .int 1)] []) : Wm G mX12_guiltyIn E B μ 12 [(0, .ref (gb G + 132)), (1, .int x1), (2, .int x2)] [] := by
  refine L_iconst C (v := 1) dX12_guiltyIn_12 rfl ?_
  refine L_istore_n C (i := 3) dX12_guiltyIn_13 rfl (Nat.le_of_ble_eq_true rfl) ?_
  exact kk1
set_option maxRecDepth 4000 in
theorem k_X12_guiltyIn_14 {G : mG} {E : mE} {Q : Int32 → mM → Prop} {μ : mM} (C : Cx G mX12_guiltyIn E) {x1 : Int32} {x2 : Int32} {x3 : Int32} (rr1 : x3 = 0 → Q x2 μ) (cc2 : ¬ x3 = 0 → CtI G mX12_levelsOfSet [.ref (gb G + 132), .int (μ 135 1)] μ (fun r μ' => Wm G mX12_guiltyIn E (bm G mX12_guiltyIn E (pI Q)) μ' 28 [(0, .ref (gb G + 132)), (1, .int x1), (2, .int x2)] [.int r])) : Wm G mX12_guiltyIn E (bm G mX12_guiltyIn E (pI Q)) μ 14 [(0, .ref (gb G + 132)), (1, .int x1), (2, .int x2), (3, .int x3)] [] := by
  refine L_iload_n C (i := 3) dX12_guiltyIn_14 rfl rfl ?_
  refine L_if_eq C (tgt := 103) dX12_guiltyIn_15 rfl (fun p1 => ?_) (fun p1 => ?_)
  · refine L_iload_n C (i := 2) dX12_guiltyIn_103 rfl rfl ?_
    exact L_irI C dX12_guiltyIn_104 rfl (rr1 p1)
  · refine L_aload_n C (i := 0) dX12_guiltyIn_18 rfl rfl ?_
    refine L_aload_n C (i := 0) dX12_guiltyIn_19 rfl rfl ?_
    refine L_getC C (c' := 135) dX12_guiltyIn_20 sh_132 fl_X12_16 rfl rfl ?_
    refine L_iconst C (v := 1) dX12_guiltyIn_23 rfl ?_
    refine L_iald C dX12_guiltyIn_24 sh_135 (by unfold vp_in; decide) ?_
    refine L_sub [0, 1, 2] rfl ?_
    refine L_invV1i C dX12_guiltyIn_25 sh_132 cal_X12_levelsOfSet lk_X12_190 ⟨Nat.le_of_ble_eq_true rfl, Nat.le_of_ble_eq_true rfl⟩ ⟨Nat.le_of_ble_eq_true rfl, Nat.le_of_ble_eq_true rfl⟩ (Nat.le_of_ble_eq_true rfl) ?_
    exact cc2 p1
set_option maxRecDepth 4000 in
theorem k_X12_guiltyIn_28 {G : mG} {E : mE} {B : mB} {μ : mM} (C : Cx G mX12_guiltyIn E) {x1 : Int32} {x2 : Int32} {sx0 : Int32} (kk1 : Wm G mX12_guiltyIn E B μ 33 [(0, .ref (gb G + 132)), (1, .int x1), (2, .int x2), (4, .int sx0), (5, .int 0)] []) : Wm G mX12_guiltyIn E B μ 28 [(0, .ref (gb G + 132)), (1, .int x1), (2, .int x2)] [.int sx0] := by
  refine L_istore C dX12_guiltyIn_28 (Nat.le_of_ble_eq_true rfl) ?_
  refine L_iconst C (v := 0) dX12_guiltyIn_30 rfl ?_
  refine L_istore C dX12_guiltyIn_31 (Nat.le_of_ble_eq_true rfl) ?_
  exact kk1
set_option maxRecDepth 4000 in
theorem k_X12_guiltyIn_33 {G : mG} {E : mE} {Q : Int32 → mM → Prop} {μ : mM} (C : Cx G mX12_guiltyIn E) {x1 : Int32} {x2 : Int32} {x4 : Int32} {x5 : Int32} (cc1 : x4 ≤ x5 → CtI G mX12_nextSet [.ref (gb G + 132), .int (μ 135 1)] μ (fun r μ' => Wm G mX12_guiltyIn E (bm G mX12_guiltyIn E (pI Q)) μ' 99 [(0, .ref (gb G + 132)), (1, .int x1), (2, .int x2)] [.int r])) (cc2 : ¬ x4 ≤ x5 → CtI G mX12_isGuilty [.ref (gb G + 132), .int x5, .int (μ 135 1)] μ (fun r μ' => Wm G mX12_guiltyIn E (bm G mX12_guiltyIn E (pI Q)) μ' 53 [(0, .ref (gb G + 132)), (1, .int x1), (4, .int x4), (5, .int x5)] [.int r, .int x2])) : Wm G mX12_guiltyIn E (bm G mX12_guiltyIn E (pI Q)) μ 33 [(0, .ref (gb G + 132)), (1, .int x1), (2, .int x2), (4, .int x4), (5, .int x5)] [] := by
  refine L_iload C dX12_guiltyIn_33 rfl ?_
  refine L_iload C dX12_guiltyIn_35 rfl ?_
  refine L_icmp_ge C (tgt := 89) dX12_guiltyIn_37 rfl (fun p1 => ?_) (fun p1 => ?_)
  · refine L_aload_n C (i := 0) dX12_guiltyIn_89 rfl rfl ?_
    refine L_aload_n C (i := 0) dX12_guiltyIn_90 rfl rfl ?_
    refine L_getC C (c' := 135) dX12_guiltyIn_91 sh_132 fl_X12_16 rfl rfl ?_
    refine L_iconst C (v := 1) dX12_guiltyIn_94 rfl ?_
    refine L_iald C dX12_guiltyIn_95 sh_135 (by unfold vp_in; decide) ?_
    refine L_sub [0, 1, 2] rfl ?_
    refine L_invV1i C dX12_guiltyIn_96 sh_132 cal_X12_nextSet lk_X12_197 ⟨Nat.le_of_ble_eq_true rfl, Nat.le_of_ble_eq_true rfl⟩ ⟨Nat.le_of_ble_eq_true rfl, Nat.le_of_ble_eq_true rfl⟩ (Nat.le_of_ble_eq_true rfl) ?_
    exact cc1 p1
  · refine L_iload_n C (i := 2) dX12_guiltyIn_40 rfl rfl ?_
    refine L_aload_n C (i := 0) dX12_guiltyIn_41 rfl rfl ?_
    refine L_iload C dX12_guiltyIn_42 rfl ?_
    refine L_aload_n C (i := 0) dX12_guiltyIn_44 rfl rfl ?_
    refine L_getC C (c' := 135) dX12_guiltyIn_45 sh_132 fl_X12_16 rfl rfl ?_
    refine L_iconst C (v := 1) dX12_guiltyIn_48 rfl ?_
    refine L_iald C dX12_guiltyIn_49 sh_135 (by unfold vp_in; decide) ?_
    refine L_sub [0, 1, 3, 4] rfl ?_
    refine L_invV2i C dX12_guiltyIn_50 sh_132 cal_X12_isGuilty lk_X12_323 ⟨Nat.le_of_ble_eq_true rfl, Nat.le_of_ble_eq_true rfl⟩ ⟨Nat.le_of_ble_eq_true rfl, Nat.le_of_ble_eq_true rfl⟩ (Nat.le_of_ble_eq_true rfl) ?_
    exact cc2 p1
set_option maxRecDepth 4000 in
theorem k_X12_guiltyIn_53 {G : mG} {E : mE} {Q : Int32 → mM → Prop} {μ : mM} (C : Cx G mX12_guiltyIn E) {x1 : Int32} {x4 : Int32} {x5 : Int32} {sx0 : Int32} {sx1 : Int32} (kk1 : sx1 = 0 → Wm G mX12_guiltyIn E (bm G mX12_guiltyIn E (pI Q)) μ 33 [(0, .ref (gb G + 132)), (1, .int x1), (2, .int (sx0 + (0 : Int32))), (4, .int x4), (5, .int (x5 + (1 : Int32)))] []) (kk2 : ¬ sx1 = 0 → x1 < 0 → Wm G mX12_guiltyIn E (bm G mX12_guiltyIn E (pI Q)) μ 33 [(0, .ref (gb G + 132)), (1, .int x1), (2, .int (sx0 + (1 : Int32))), (4, .int x4), (5, .int (x5 + (1 : Int32)))] []) (cc3 : ¬ sx1 = 0 → ¬ x1 < 0 → CtI G mX12_hasLevels [.ref (gb G + 132), .int x1, .int x5, .int (μ 135 1)] μ (fun r μ' => Wm G mX12_guiltyIn E (bm G mX12_guiltyIn E (pI Q)) μ' 73 [(0, .ref (gb G + 132)), (1, .int x1), (4, .int x4), (5, .int x5)] [.int r, .int sx0])) : Wm G mX12_guiltyIn E (bm G mX12_guiltyIn E (pI Q)) μ 53 [(0, .ref (gb G + 132)), (1, .int x1), (4, .int x4), (5, .int x5)] [.int sx1, .int sx0] := by
  refine L_if_eq C (tgt := 80) dX12_guiltyIn_53 rfl (fun p1 => ?_) (fun p1 => ?_)
  · refine L_iconst C (v := 0) dX12_guiltyIn_80 rfl ?_
    refine L_iadd C dX12_guiltyIn_81 ?_
    refine L_istore_n C (i := 2) dX12_guiltyIn_82 rfl (Nat.le_of_ble_eq_true rfl) ?_
    refine L_iinc C (v := 1) dX12_guiltyIn_83 rfl rfl (Nat.le_of_ble_eq_true rfl) ?_
    refine L_goto C (tgt := 33) dX12_guiltyIn_86 rfl ?_
    exact kk1 p1
  · refine L_iload_n C (i := 1) dX12_guiltyIn_56 rfl rfl ?_
    refine L_if_lt C (tgt := 76) dX12_guiltyIn_57 rfl (fun p2 => ?_) (fun p2 => ?_)
    · refine L_iconst C (v := 1) dX12_guiltyIn_76 rfl ?_
      refine L_goto C (tgt := 81) dX12_guiltyIn_77 rfl ?_
      refine L_iadd C dX12_guiltyIn_81 ?_
      refine L_istore_n C (i := 2) dX12_guiltyIn_82 rfl (Nat.le_of_ble_eq_true rfl) ?_
      refine L_iinc C (v := 1) dX12_guiltyIn_83 rfl rfl (Nat.le_of_ble_eq_true rfl) ?_
      refine L_goto C (tgt := 33) dX12_guiltyIn_86 rfl ?_
      exact kk2 p1 p2
    · refine L_aload_n C (i := 0) dX12_guiltyIn_60 rfl rfl ?_
      refine L_iload_n C (i := 1) dX12_guiltyIn_61 rfl rfl ?_
      refine L_iload C dX12_guiltyIn_62 rfl ?_
      refine L_aload_n C (i := 0) dX12_guiltyIn_64 rfl rfl ?_
      refine L_getC C (c' := 135) dX12_guiltyIn_65 sh_132 fl_X12_16 rfl rfl ?_
      refine L_iconst C (v := 1) dX12_guiltyIn_68 rfl ?_
      refine L_iald C dX12_guiltyIn_69 sh_135 (by unfold vp_in; decide) ?_
      refine L_invV3i C dX12_guiltyIn_70 sh_132 cal_X12_hasLevels lk_X12_320 ⟨Nat.le_of_ble_eq_true rfl, Nat.le_of_ble_eq_true rfl⟩ ⟨Nat.le_of_ble_eq_true rfl, Nat.le_of_ble_eq_true rfl⟩ (Nat.le_of_ble_eq_true rfl) ?_
      exact cc3 p1 p2
set_option maxRecDepth 4000 in
theorem k_X12_guiltyIn_73 {G : mG} {E : mE} {B : mB} {μ : mM} (C : Cx G mX12_guiltyIn E) {x1 : Int32} {x4 : Int32} {x5 : Int32} {sx0 : Int32} {sx1 : Int32} (kk1 : ∀ v1 : Int32, ((sx1 = 0 ∧ v1 = 0) ∨ (¬ sx1 = 0 ∧ v1 = 1)) → Wm G mX12_guiltyIn E B μ 33 [(0, .ref (gb G + 132)), (1, .int x1), (2, .int (sx0 + v1)), (4, .int x4), (5, .int (x5 + (1 : Int32)))] []) : Wm G mX12_guiltyIn E B μ 73 [(0, .ref (gb G + 132)), (1, .int x1), (4, .int x4), (5, .int x5)] [.int sx1, .int sx0] := by
  refine phi (fun v1 : Int32 => Wm G mX12_guiltyIn E B μ 81 [(0, .ref (gb G + 132)), (1, .int x1), (4, .int x4), (5, .int x5)] [.int v1, .int sx0]) (fun v1 : Int32 => (sx1 = 0 ∧ v1 = 0) ∨ (¬ sx1 = 0 ∧ v1 = 1)) (fun H => ?_) (fun v1 hv1 => ?_)
  · refine L_if_eq C (tgt := 80) dX12_guiltyIn_73 rfl (fun p1 => ?_) (fun p1 => ?_)
    · refine L_iconst C (v := 0) dX12_guiltyIn_80 rfl ?_
      exact H _ (Or.inl ⟨p1, rfl⟩)
    · refine L_iconst C (v := 1) dX12_guiltyIn_76 rfl ?_
      refine L_goto C (tgt := 81) dX12_guiltyIn_77 rfl ?_
      exact H _ (Or.inr ⟨p1, rfl⟩)
  refine L_iadd C dX12_guiltyIn_81 ?_
  refine L_istore_n C (i := 2) dX12_guiltyIn_82 rfl (Nat.le_of_ble_eq_true rfl) ?_
  refine L_iinc C (v := 1) dX12_guiltyIn_83 rfl rfl (Nat.le_of_ble_eq_true rfl) ?_
  refine L_goto C (tgt := 33) dX12_guiltyIn_86 rfl ?_
  exact kk1 v1 hv1
set_option maxRecDepth 4000 in
theorem k_X12_guiltyIn_99 {G : mG} {E : mE} {B : mB} {μ : mM} (C : Cx G mX12_guiltyIn E) {x1 : Int32} {x2 : Int32} {sx0 : Int32} (kk1 : Wm G mX12_guiltyIn E B μ 14 [(0, .ref (gb G + 132)), (1, .int x1), (2, .int x2), (3, .int sx0)] []) : Wm G mX12_guiltyIn E B μ 99 [(0, .ref (gb G + 132)), (1, .int x1), (2, .int x2)] [.int sx0] := by
  refine L_istore_n C (i := 3) dX12_guiltyIn_99 rfl (Nat.le_of_ble_eq_true rfl) ?_
  refine L_goto C (tgt := 14) dX12_guiltyIn_100 rfl ?_
  exact kk1
set_option maxRecDepth 4000 in
theorem k_X12_ask_0 {G : mG} {E : mE} {Q : Int32 → mM → Prop} {μ : mM} (C : Cx G mX12_ask E) {x1 : Int32} (rr1 : ((μ 135 0) ≤ 0 ∨ (¬ (μ 135 0) ≤ 0 ∧ ((lg_cmp x1.toInt64 0) < 0 ∨ (¬ (lg_cmp x1.toInt64 0) < 0 ∧ 0 < (lg_cmp x1.toInt64 1))))) → Q (-1) μ) (cc2 : ¬ (μ 135 0) ≤ 0 → ¬ (lg_cmp x1.toInt64 0) < 0 → ¬ 0 < (lg_cmp x1.toInt64 1) → CtI G mX12_guiltyIn [.ref (gb G + 132), .int (-1)] μ (fun r μ' => Wm G mX12_ask E (bm G mX12_ask E (pI Q)) μ' 24 [(0, .ref (gb G + 132)), (1, .int x1)] [.int r])) : Wm G mX12_ask E (bm G mX12_ask E (pI Q)) μ 0 [(0, .ref (gb G + 132)), (1, .int x1)] [] := by
  refine L_aload_n C (i := 0) dX12_ask_0 rfl rfl ?_
  refine L_invV0i C dX12_ask_1 sh_132 cal_X12_isPlan lk_X12_212 ⟨Nat.le_of_ble_eq_true rfl, Nat.le_of_ble_eq_true rfl⟩ ⟨Nat.le_of_ble_eq_true rfl, Nat.le_of_ble_eq_true rfl⟩ (Nat.le_of_ble_eq_true rfl) (a_X12_isPlan (fun p1 => ?_) (fun p2 => ?_))
  · refine L_if_eq C (tgt := 17) dX12_ask_4 rfl (fun p3 => ?_) (fun p3 => absurd p3 (by decide))
    refine L_iconst C (v := (-1)) dX12_ask_17 rfl ?_
    exact L_irI C dX12_ask_18 rfl (rr1 (Or.inl p1))
  · refine L_if_eq C (tgt := 17) dX12_ask_4 rfl (fun p4 => absurd p4 (by decide)) (fun p4 => ?_)
    refine L_iload_n C (i := 1) dX12_ask_7 rfl rfl ?_
    refine L_i2l C dX12_ask_8 ?_
    refine L_lconst C (v := 0) dX12_ask_9 rfl ?_
    refine L_lconst C (v := 1) dX12_ask_10 rfl ?_
    refine L_invS3i C dX12_ask_11 cal_X12_isIn stc_X12_isIn lk_X12_73 ⟨Nat.le_of_ble_eq_true rfl, Nat.le_of_ble_eq_true rfl⟩ ⟨Nat.le_of_ble_eq_true rfl, Nat.le_of_ble_eq_true rfl⟩ (Nat.le_of_ble_eq_true rfl) (a_X12_isIn (fun p5 => ?_) (fun p6 p7 => ?_))
    · refine L_if_ne C (tgt := 19) dX12_ask_14 rfl (fun p8 => absurd p8 (by decide)) (fun p8 => ?_)
      refine L_iconst C (v := (-1)) dX12_ask_17 rfl ?_
      exact L_irI C dX12_ask_18 rfl (rr1 (Or.inr ⟨p2, p5⟩))
    · refine L_if_ne C (tgt := 19) dX12_ask_14 rfl (fun p9 => ?_) (fun p9 => absurd p9 (by decide))
      refine L_aload_n C (i := 0) dX12_ask_19 rfl rfl ?_
      refine L_iconst C (v := (-1)) dX12_ask_20 rfl ?_
      refine L_invV1i C dX12_ask_21 sh_132 cal_X12_guiltyIn lk_X12_326 ⟨Nat.le_of_ble_eq_true rfl, Nat.le_of_ble_eq_true rfl⟩ ⟨Nat.le_of_ble_eq_true rfl, Nat.le_of_ble_eq_true rfl⟩ (Nat.le_of_ble_eq_true rfl) ?_
      exact cc2 p2 p6 p7
theorem e_X12_ask {G : mG} {Q : Int32 → mM → Prop} {μ : mM} {x1 : Int32} (k : ∀ E, Cx G mX12_ask E → Wm G mX12_ask E (bm G mX12_ask E (pI Q)) μ 0 [(0, .ref (gb G + 132)), (1, .int x1)] []) : CtI G mX12_ask [.ref (gb G + 132), .int x1] μ Q := CtI.of pn_X12 (Nat.le_of_ble_eq_true rfl) k
set_option maxRecDepth 4000 in
theorem k_X12_ask_24 {G : mG} {E : mE} {B : mB} {μ : mM} (C : Cx G mX12_ask E) {x1 : Int32} {sx0 : Int32} (kk1 : Wm G mX12_ask E B μ 33 [(0, .ref (gb G + 132)), (1, .int x1), (2, .int sx0), (3, .int (-1)), (4, .int (-1)), (5, .int 0)] []) : Wm G mX12_ask E B μ 24 [(0, .ref (gb G + 132)), (1, .int x1)] [.int sx0] := by
  refine L_istore_n C (i := 2) dX12_ask_24 rfl (Nat.le_of_ble_eq_true rfl) ?_
  refine L_iconst C (v := (-1)) dX12_ask_25 rfl ?_
  refine L_istore_n C (i := 3) dX12_ask_26 rfl (Nat.le_of_ble_eq_true rfl) ?_
  refine L_iconst C (v := (-1)) dX12_ask_27 rfl ?_
  refine L_istore C dX12_ask_28 (Nat.le_of_ble_eq_true rfl) ?_
  refine L_iconst C (v := 0) dX12_ask_30 rfl ?_
  refine L_istore C dX12_ask_31 (Nat.le_of_ble_eq_true rfl) ?_
  exact kk1
set_option maxRecDepth 4000 in
theorem k_X12_ask_33 {G : mG} {E : mE} {Q : Int32 → mM → Prop} {μ : mM} (C : Cx G mX12_ask E) {x1 : Int32} {x2 : Int32} {x3 : Int32} {x4 : Int32} {x5 : Int32} (kk1 : ((μ 135 3) ≤ x5 ∨ (¬ (μ 135 3) ≤ x5 ∧ x2 ≤ 0)) → Wm G mX12_ask E (bm G mX12_ask E (pI Q)) μ 115 [(1, .int x1), (3, .int x3), (4, .int x4)] []) (ss2 : ¬ (μ 135 3) ≤ x5 → ¬ x2 ≤ 0 → vp_in ((97 : Int32) + x5) 673) (cc3 : ¬ (μ 135 3) ≤ x5 → ¬ x2 ≤ 0 → (μ 135 ((97 : Int32) + x5).toNatClampNeg) = 0 → CtI G mX12_guiltyIn [.ref (gb G + 132), .int x5] μ (fun r μ' => Wm G mX12_ask E (bm G mX12_ask E (pI Q)) μ' 70 [(0, .ref (gb G + 132)), (1, .int x1), (2, .int x2), (3, .int x3), (4, .int x4), (5, .int x5)] [.int r])) (kk4 : ¬ (μ 135 3) ≤ x5 → ¬ x2 ≤ 0 → ¬ (μ 135 ((97 : Int32) + x5).toNatClampNeg) = 0 → Wm G mX12_ask E (bm G mX12_ask E (pI Q)) μ 33 [(0, .ref (gb G + 132)), (1, .int x1), (2, .int x2), (3, .int x3), (4, .int x4), (5, .int (x5 + (1 : Int32)))] []) : Wm G mX12_ask E (bm G mX12_ask E (pI Q)) μ 33 [(0, .ref (gb G + 132)), (1, .int x1), (2, .int x2), (3, .int x3), (4, .int x4), (5, .int x5)] [] := by
  refine L_iload C dX12_ask_33 rfl ?_
  refine L_aload_n C (i := 0) dX12_ask_35 rfl rfl ?_
  refine L_getC C (c' := 135) dX12_ask_36 sh_132 fl_X12_16 rfl rfl ?_
  refine L_iconst C (v := 3) dX12_ask_39 rfl ?_
  refine L_iald C dX12_ask_40 sh_135 (by unfold vp_in; decide) ?_
  refine L_icmp_ge C (tgt := 115) dX12_ask_41 rfl (fun p1 => ?_) (fun p1 => ?_)
  · refine L_sub [1, 3, 4] rfl ?_
    exact kk1 (Or.inl p1)
  · refine L_iload_n C (i := 2) dX12_ask_44 rfl rfl ?_
    refine L_if_le C (tgt := 115) dX12_ask_45 rfl (fun p2 => ?_) (fun p2 => ?_)
    · refine L_sub [1, 3, 4] rfl ?_
      exact kk1 (Or.inr ⟨p1, p2⟩)
    · refine L_aload_n C (i := 0) dX12_ask_48 rfl rfl ?_
      refine L_getC C (c' := 135) dX12_ask_49 sh_132 fl_X12_16 rfl rfl ?_
      refine L_bipush C (v := 97) dX12_ask_52 rfl ?_
      refine L_iload C dX12_ask_54 rfl ?_
      refine L_iadd C dX12_ask_56 ?_
      refine L_iald C dX12_ask_57 sh_135 (ss2 p1 p2) ?_
      refine L_if_eq C (tgt := 64) dX12_ask_58 rfl (fun p3 => ?_) (fun p3 => ?_)
      · refine L_aload_n C (i := 0) dX12_ask_64 rfl rfl ?_
        refine L_iload C dX12_ask_65 rfl ?_
        refine L_invV1i C dX12_ask_67 sh_132 cal_X12_guiltyIn lk_X12_326 ⟨Nat.le_of_ble_eq_true rfl, Nat.le_of_ble_eq_true rfl⟩ ⟨Nat.le_of_ble_eq_true rfl, Nat.le_of_ble_eq_true rfl⟩ (Nat.le_of_ble_eq_true rfl) ?_
        exact cc3 p1 p2 p3
      · refine L_goto C (tgt := 109) dX12_ask_61 rfl ?_
        refine L_iinc C (v := 1) dX12_ask_109 rfl rfl (Nat.le_of_ble_eq_true rfl) ?_
        refine L_goto C (tgt := 33) dX12_ask_112 rfl ?_
        exact kk4 p1 p2 p3
set_option maxRecDepth 4000 in
theorem k_X12_ask_70 {G : mG} {E : mE} {B : mB} {μ : mM} (C : Cx G mX12_ask E) {x1 : Int32} {x2 : Int32} {x3 : Int32} {x4 : Int32} {x5 : Int32} {sx0 : Int32} (kk1 : ∀ v1 : Int32, (((x2 - sx0) ≤ sx0 ∧ v1 = (x2 - sx0)) ∨ (¬ (x2 - sx0) ≤ sx0 ∧ v1 = sx0)) → x4 < v1 → Wm G mX12_ask E B μ 33 [(0, .ref (gb G + 132)), (1, .int x1), (2, .int x2), (3, .int x5), (4, .int v1), (5, .int (x5 + (1 : Int32)))] []) (kk2 : ∀ v1 : Int32, (((x2 - sx0) ≤ sx0 ∧ v1 = (x2 - sx0)) ∨ (¬ (x2 - sx0) ≤ sx0 ∧ v1 = sx0)) → ¬ x4 < v1 → Wm G mX12_ask E B μ 33 [(0, .ref (gb G + 132)), (1, .int x1), (2, .int x2), (3, .int x3), (4, .int x4), (5, .int (x5 + (1 : Int32)))] []) : Wm G mX12_ask E B μ 70 [(0, .ref (gb G + 132)), (1, .int x1), (2, .int x2), (3, .int x3), (4, .int x4), (5, .int x5)] [.int sx0] := by
  refine L_istore C dX12_ask_70 (Nat.le_of_ble_eq_true rfl) ?_
  refine L_iload C dX12_ask_72 rfl ?_
  refine L_iload_n C (i := 2) dX12_ask_74 rfl rfl ?_
  refine L_iload C dX12_ask_75 rfl ?_
  refine L_isub C dX12_ask_77 ?_
  refine phi (fun v1 : Int32 => Wm G mX12_ask E B μ 90 [(0, .ref (gb G + 132)), (1, .int x1), (2, .int x2), (3, .int x3), (4, .int x4), (5, .int x5)] [.int v1]) (fun v1 : Int32 => ((x2 - sx0) ≤ sx0 ∧ v1 = (x2 - sx0)) ∨ (¬ (x2 - sx0) ≤ sx0 ∧ v1 = sx0)) (fun H => ?_) (fun v1 hv1 => ?_)
  · refine L_icmp_ge C (tgt := 86) dX12_ask_78 rfl (fun p1 => ?_) (fun p1 => ?_)
    · refine L_iload_n C (i := 2) dX12_ask_86 rfl rfl ?_
      refine L_iload C dX12_ask_87 rfl ?_
      refine L_isub C dX12_ask_89 ?_
      refine L_sub [0, 1, 2, 3, 4, 5] rfl ?_
      exact H _ (Or.inl ⟨p1, rfl⟩)
    · refine L_iload C dX12_ask_81 rfl ?_
      refine L_goto C (tgt := 90) dX12_ask_83 rfl ?_
      refine L_sub [0, 1, 2, 3, 4, 5] rfl ?_
      exact H _ (Or.inr ⟨p1, rfl⟩)
  refine L_istore C dX12_ask_90 (Nat.le_of_ble_eq_true rfl) ?_
  refine L_iload C dX12_ask_92 rfl ?_
  refine L_iload C dX12_ask_94 rfl ?_
  refine L_icmp_gt C (tgt := 102) dX12_ask_96 rfl (fun p2 => ?_) (fun p2 => ?_)
  · refine L_iload C dX12_ask_102 rfl ?_
    refine L_istore_n C (i := 3) dX12_ask_104 rfl (Nat.le_of_ble_eq_true rfl) ?_
    refine L_iload C dX12_ask_105 rfl ?_
    refine L_istore C dX12_ask_107 (Nat.le_of_ble_eq_true rfl) ?_
    refine L_iinc C (v := 1) dX12_ask_109 rfl rfl (Nat.le_of_ble_eq_true rfl) ?_
    refine L_goto C (tgt := 33) dX12_ask_112 rfl ?_
    refine L_sub [0, 1, 2, 3, 4, 5] rfl ?_
    exact kk1 v1 hv1 p2
  · refine L_goto C (tgt := 109) dX12_ask_99 rfl ?_
    refine L_iinc C (v := 1) dX12_ask_109 rfl rfl (Nat.le_of_ble_eq_true rfl) ?_
    refine L_goto C (tgt := 33) dX12_ask_112 rfl ?_
    refine L_sub [0, 1, 2, 3, 4, 5] rfl ?_
    exact kk2 v1 hv1 p2
set_option maxRecDepth 4000 in
theorem k_X12_ask_115 {G : mG} {E : mE} {Q : Int32 → mM → Prop} {μ : mM} (C : Cx G mX12_ask E) {x1 : Int32} {x3 : Int32} {x4 : Int32} (rr1 : 0 ≤ x3 → ¬ x1 = 0 → Q x4 μ) (rr2 : 0 ≤ x3 → x1 = 0 → Q x3 μ) (rr3 : ¬ 0 ≤ x3 → Q (-2) μ) : Wm G mX12_ask E (bm G mX12_ask E (pI Q)) μ 115 [(1, .int x1), (3, .int x3), (4, .int x4)] [] := by
  refine L_iload_n C (i := 3) dX12_ask_115 rfl rfl ?_
  refine L_if_ge C (tgt := 124) dX12_ask_116 rfl (fun p1 => ?_) (fun p1 => ?_)
  · refine L_iload_n C (i := 1) dX12_ask_124 rfl rfl ?_
    refine L_if_ne C (tgt := 132) dX12_ask_125 rfl (fun p2 => ?_) (fun p2 => ?_)
    · refine L_iload C dX12_ask_132 rfl ?_
      exact L_irI C dX12_ask_134 rfl (rr1 p1 p2)
    · refine L_iload_n C (i := 3) dX12_ask_128 rfl rfl ?_
      refine L_goto C (tgt := 134) dX12_ask_129 rfl ?_
      exact L_irI C dX12_ask_134 rfl (rr2 p1 p2)
  · refine L_bipush C (v := (-2)) dX12_ask_119 rfl ?_
    refine L_goto C (tgt := 134) dX12_ask_121 rfl ?_
    exact L_irI C dX12_ask_134 rfl (rr3 p1)
set_option maxRecDepth 4000 in
theorem k_X12_undo_0 {G : mG} {E : mE} {Q : Int32 → mM → Prop} {μ : mM} (C : Cx G mX12_undo E)  (cc1 : ¬ (μ 132 26) = 0 → CtV G mX12_copies [.ref (gb G + 149), .int ((673 : Int32) * ((μ 132 26) - (1 : Int32))), .ref (gb G + 135), .int 0] (ms μ 132 26 ((μ 132 26) - (1 : Int32))) (fun μ' => Wm G mX12_undo E (bm G mX12_undo E (pI Q)) μ' 39 [(0, .ref (gb G + 132))] [])) (rr2 : (μ 132 26) = 0 → Q (-1) μ) : Wm G mX12_undo E (bm G mX12_undo E (pI Q)) μ 0 [(0, .ref (gb G + 132))] [] := by
  refine L_aload_n C (i := 0) dX12_undo_0 rfl rfl ?_
  refine L_getI C dX12_undo_1 sh_132 fl_X12_165 rfl ?_
  refine L_if_ne C (tgt := 9) dX12_undo_4 rfl (fun p1 => ?_) (fun p1 => ?_)
  · refine L_aload_n C (i := 0) dX12_undo_9 rfl rfl ?_
    refine L_dup C dX12_undo_10 rfl ?_
    refine L_getI C dX12_undo_11 sh_132 fl_X12_165 rfl ?_
    refine L_iconst C (v := 1) dX12_undo_14 rfl ?_
    refine L_isub C dX12_undo_15 ?_
    refine L_putI C dX12_undo_16 sh_132 fl_X12_165 rfl rfl rfl ?_
    refine L_aload_n C (i := 0) dX12_undo_19 rfl rfl ?_
    refine L_getC C (c' := 149) dX12_undo_20 sh_132 fl_X12_60 rfl rfl ?_
    refine L_sipush C (v := 673) dX12_undo_23 rfl ?_
    refine L_aload_n C (i := 0) dX12_undo_26 rfl rfl ?_
    refine L_getI C dX12_undo_27 sh_132 fl_X12_165 rfl ?_
    refine L_imul C dX12_undo_30 ?_
    refine L_aload_n C (i := 0) dX12_undo_31 rfl rfl ?_
    refine L_getC C (c' := 135) dX12_undo_32 sh_132 fl_X12_16 rfl rfl ?_
    refine L_iconst C (v := 0) dX12_undo_35 rfl ?_
    refine L_invS4v C dX12_undo_36 cal_X12_copies stc_X12_copies lk_X12_152 ⟨Nat.le_of_ble_eq_true rfl, Nat.le_of_ble_eq_true rfl⟩ ⟨Nat.le_of_ble_eq_true rfl, Nat.le_of_ble_eq_true rfl⟩ (Nat.le_of_ble_eq_true rfl) ?_
    exact cc1 p1
  · refine L_iconst C (v := (-1)) dX12_undo_7 rfl ?_
    exact L_irI C dX12_undo_8 rfl (rr2 p1)
theorem e_X12_undo {G : mG} {Q : Int32 → mM → Prop} {μ : mM}  (k : ∀ E, Cx G mX12_undo E → Wm G mX12_undo E (bm G mX12_undo E (pI Q)) μ 0 [(0, .ref (gb G + 132))] []) : CtI G mX12_undo [.ref (gb G + 132)] μ Q := CtI.of pn_X12 (Nat.le_of_ble_eq_true rfl) k
set_option maxRecDepth 4000 in
theorem k_X12_undo_39 {G : mG} {E : mE} {Q : Int32 → mM → Prop} {μ : mM} (C : Cx G mX12_undo E)  (cc1 : CtV G mX12_laysMixes [.ref (gb G + 132)] μ (fun μ' => Wm G mX12_undo E (bm G mX12_undo E (pI Q)) μ' 43 [(0, .ref (gb G + 132))] [])) : Wm G mX12_undo E (bm G mX12_undo E (pI Q)) μ 39 [(0, .ref (gb G + 132))] [] := by
  refine L_aload_n C (i := 0) dX12_undo_39 rfl rfl ?_
  refine L_invV0v C dX12_undo_40 sh_132 cal_X12_laysMixes lk_X12_159 ⟨Nat.le_of_ble_eq_true rfl, Nat.le_of_ble_eq_true rfl⟩ ⟨Nat.le_of_ble_eq_true rfl, Nat.le_of_ble_eq_true rfl⟩ (Nat.le_of_ble_eq_true rfl) ?_
  exact cc1
set_option maxRecDepth 4000 in
theorem k_X12_undo_43 {G : mG} {E : mE} {Q : Int32 → mM → Prop} {μ : mM} (C : Cx G mX12_undo E)  (rr1 : Q (μ 132 26) μ) : Wm G mX12_undo E (bm G mX12_undo E (pI Q)) μ 43 [(0, .ref (gb G + 132))] [] := by
  refine L_aload_n C (i := 0) dX12_undo_43 rfl rfl ?_
  refine L_getI C dX12_undo_44 sh_132 fl_X12_165 rfl ?_
  exact L_irI C dX12_undo_47 rfl (rr1)
set_option maxRecDepth 4000 in
theorem k_X12_keep_0 {G : mG} {E : mE} {Q : Int32 → mM → Prop} {μ : mM} (C : Cx G mX12_keep E) {x1 : Int32} (rr1 : ((μ 135 0) ≤ 0 ∨ (¬ (μ 135 0) ≤ 0 ∧ ((lg_cmp x1.toInt64 0) < 0 ∨ (¬ (lg_cmp x1.toInt64 0) < 0 ∧ 0 < (lg_cmp x1.toInt64 1))))) → Q (-1) μ) (cc2 : ¬ (μ 135 0) ≤ 0 → ¬ (lg_cmp x1.toInt64 0) < 0 → ¬ 0 < (lg_cmp x1.toInt64 1) → CtV G mX12_copies [.ref (gb G + 135), .int 0, .ref (gb G + 150), .int ((673 : Int32) * x1)] μ (fun μ' => Wm G mX12_keep E (bm G mX12_keep E (pI Q)) μ' 36 [(0, .ref (gb G + 132)), (1, .int x1)] [])) : Wm G mX12_keep E (bm G mX12_keep E (pI Q)) μ 0 [(0, .ref (gb G + 132)), (1, .int x1)] [] := by
  refine L_aload_n C (i := 0) dX12_keep_0 rfl rfl ?_
  refine L_invV0i C dX12_keep_1 sh_132 cal_X12_isPlan lk_X12_212 ⟨Nat.le_of_ble_eq_true rfl, Nat.le_of_ble_eq_true rfl⟩ ⟨Nat.le_of_ble_eq_true rfl, Nat.le_of_ble_eq_true rfl⟩ (Nat.le_of_ble_eq_true rfl) (a_X12_isPlan (fun p1 => ?_) (fun p2 => ?_))
  · refine L_if_eq C (tgt := 17) dX12_keep_4 rfl (fun p3 => ?_) (fun p3 => absurd p3 (by decide))
    refine L_iconst C (v := (-1)) dX12_keep_17 rfl ?_
    exact L_irI C dX12_keep_18 rfl (rr1 (Or.inl p1))
  · refine L_if_eq C (tgt := 17) dX12_keep_4 rfl (fun p4 => absurd p4 (by decide)) (fun p4 => ?_)
    refine L_iload_n C (i := 1) dX12_keep_7 rfl rfl ?_
    refine L_i2l C dX12_keep_8 ?_
    refine L_lconst C (v := 0) dX12_keep_9 rfl ?_
    refine L_lconst C (v := 1) dX12_keep_10 rfl ?_
    refine L_invS3i C dX12_keep_11 cal_X12_isIn stc_X12_isIn lk_X12_73 ⟨Nat.le_of_ble_eq_true rfl, Nat.le_of_ble_eq_true rfl⟩ ⟨Nat.le_of_ble_eq_true rfl, Nat.le_of_ble_eq_true rfl⟩ (Nat.le_of_ble_eq_true rfl) (a_X12_isIn (fun p5 => ?_) (fun p6 p7 => ?_))
    · refine L_if_ne C (tgt := 19) dX12_keep_14 rfl (fun p8 => absurd p8 (by decide)) (fun p8 => ?_)
      refine L_iconst C (v := (-1)) dX12_keep_17 rfl ?_
      exact L_irI C dX12_keep_18 rfl (rr1 (Or.inr ⟨p2, p5⟩))
    · refine L_if_ne C (tgt := 19) dX12_keep_14 rfl (fun p9 => ?_) (fun p9 => absurd p9 (by decide))
      refine L_aload_n C (i := 0) dX12_keep_19 rfl rfl ?_
      refine L_getC C (c' := 135) dX12_keep_20 sh_132 fl_X12_16 rfl rfl ?_
      refine L_iconst C (v := 0) dX12_keep_23 rfl ?_
      refine L_aload_n C (i := 0) dX12_keep_24 rfl rfl ?_
      refine L_getC C (c' := 150) dX12_keep_25 sh_132 fl_X12_63 rfl rfl ?_
      refine L_sipush C (v := 673) dX12_keep_28 rfl ?_
      refine L_iload_n C (i := 1) dX12_keep_31 rfl rfl ?_
      refine L_imul C dX12_keep_32 ?_
      refine L_invS4v C dX12_keep_33 cal_X12_copies stc_X12_copies lk_X12_152 ⟨Nat.le_of_ble_eq_true rfl, Nat.le_of_ble_eq_true rfl⟩ ⟨Nat.le_of_ble_eq_true rfl, Nat.le_of_ble_eq_true rfl⟩ (Nat.le_of_ble_eq_true rfl) ?_
      exact cc2 p2 p6 p7
theorem e_X12_keep {G : mG} {Q : Int32 → mM → Prop} {μ : mM} {x1 : Int32} (k : ∀ E, Cx G mX12_keep E → Wm G mX12_keep E (bm G mX12_keep E (pI Q)) μ 0 [(0, .ref (gb G + 132)), (1, .int x1)] []) : CtI G mX12_keep [.ref (gb G + 132), .int x1] μ Q := CtI.of pn_X12 (Nat.le_of_ble_eq_true rfl) k
set_option maxRecDepth 4000 in
theorem k_X12_keep_36 {G : mG} {E : mE} {Q : Int32 → mM → Prop} {μ : mM} (C : Cx G mX12_keep E) {x1 : Int32} (ss1 : vp_in x1 2) (rr2 : Q (μ 135 3) (ms μ 151 x1.toNatClampNeg 1)) : Wm G mX12_keep E (bm G mX12_keep E (pI Q)) μ 36 [(0, .ref (gb G + 132)), (1, .int x1)] [] := by
  refine L_aload_n C (i := 0) dX12_keep_36 rfl rfl ?_
  refine L_getC C (c' := 151) dX12_keep_37 sh_132 fl_X12_66 rfl rfl ?_
  refine L_iload_n C (i := 1) dX12_keep_40 rfl rfl ?_
  refine L_iconst C (v := 1) dX12_keep_41 rfl ?_
  refine L_zast C dX12_keep_42 sh_151 (ss1) ?_
  refine L_aload_n C (i := 0) dX12_keep_43 rfl rfl ?_
  refine L_getC C (c' := 135) dX12_keep_44 sh_132 fl_X12_16 rfl rfl ?_
  refine L_iconst C (v := 3) dX12_keep_47 rfl ?_
  refine L_iald C dX12_keep_48 sh_135 (by unfold vp_in; decide) ?_
  exact L_irI C dX12_keep_49 rfl (rr2)
set_option maxRecDepth 4000 in
theorem k_X12_back_0 {G : mG} {E : mE} {Q : Int32 → mM → Prop} {μ : mM} (C : Cx G mX12_back E) {x1 : Int32} (rr1 : ((lg_cmp x1.toInt64 0) < 0 ∨ (¬ (lg_cmp x1.toInt64 0) < 0 ∧ 0 < (lg_cmp x1.toInt64 1))) → Q (-1) μ) (ss2 : ¬ (lg_cmp x1.toInt64 0) < 0 → ¬ 0 < (lg_cmp x1.toInt64 1) → vp_in x1 2) (cc3 : ¬ (lg_cmp x1.toInt64 0) < 0 → ¬ 0 < (lg_cmp x1.toInt64 1) → ¬ (μ 151 x1.toNatClampNeg) = 0 → CtV G mX12_copies [.ref (gb G + 150), .int ((673 : Int32) * x1), .ref (gb G + 135), .int 0] μ (fun μ' => Wm G mX12_back E (bm G mX12_back E (pI Q)) μ' 41 [(0, .ref (gb G + 132))] [])) (rr4 : ¬ (lg_cmp x1.toInt64 0) < 0 → ¬ 0 < (lg_cmp x1.toInt64 1) → (μ 151 x1.toNatClampNeg) = 0 → Q (-2) μ) : Wm G mX12_back E (bm G mX12_back E (pI Q)) μ 0 [(0, .ref (gb G + 132)), (1, .int x1)] [] := by
  refine L_iload_n C (i := 1) dX12_back_0 rfl rfl ?_
  refine L_i2l C dX12_back_1 ?_
  refine L_lconst C (v := 0) dX12_back_2 rfl ?_
  refine L_lconst C (v := 1) dX12_back_3 rfl ?_
  refine L_invS3i C dX12_back_4 cal_X12_isIn stc_X12_isIn lk_X12_73 ⟨Nat.le_of_ble_eq_true rfl, Nat.le_of_ble_eq_true rfl⟩ ⟨Nat.le_of_ble_eq_true rfl, Nat.le_of_ble_eq_true rfl⟩ (Nat.le_of_ble_eq_true rfl) (a_X12_isIn (fun p1 => ?_) (fun p2 p3 => ?_))
  · refine L_if_ne C (tgt := 12) dX12_back_7 rfl (fun p4 => absurd p4 (by decide)) (fun p4 => ?_)
    refine L_iconst C (v := (-1)) dX12_back_10 rfl ?_
    exact L_irI C dX12_back_11 rfl (rr1 p1)
  · refine L_if_ne C (tgt := 12) dX12_back_7 rfl (fun p5 => ?_) (fun p5 => absurd p5 (by decide))
    refine L_aload_n C (i := 0) dX12_back_12 rfl rfl ?_
    refine L_getC C (c' := 151) dX12_back_13 sh_132 fl_X12_66 rfl rfl ?_
    refine L_iload_n C (i := 1) dX12_back_16 rfl rfl ?_
    refine L_zald C dX12_back_17 sh_151 (ss2 p2 p3) ?_
    refine L_if_ne C (tgt := 24) dX12_back_18 rfl (fun p6 => ?_) (fun p6 => ?_)
    · refine L_aload_n C (i := 0) dX12_back_24 rfl rfl ?_
      refine L_getC C (c' := 150) dX12_back_25 sh_132 fl_X12_63 rfl rfl ?_
      refine L_sipush C (v := 673) dX12_back_28 rfl ?_
      refine L_iload_n C (i := 1) dX12_back_31 rfl rfl ?_
      refine L_imul C dX12_back_32 ?_
      refine L_aload_n C (i := 0) dX12_back_33 rfl rfl ?_
      refine L_getC C (c' := 135) dX12_back_34 sh_132 fl_X12_16 rfl rfl ?_
      refine L_iconst C (v := 0) dX12_back_37 rfl ?_
      refine L_sub [0] rfl ?_
      refine L_invS4v C dX12_back_38 cal_X12_copies stc_X12_copies lk_X12_152 ⟨Nat.le_of_ble_eq_true rfl, Nat.le_of_ble_eq_true rfl⟩ ⟨Nat.le_of_ble_eq_true rfl, Nat.le_of_ble_eq_true rfl⟩ (Nat.le_of_ble_eq_true rfl) ?_
      exact cc3 p2 p3 p6
    · refine L_bipush C (v := (-2)) dX12_back_21 rfl ?_
      exact L_irI C dX12_back_23 rfl (rr4 p2 p3 p6)
theorem e_X12_back {G : mG} {Q : Int32 → mM → Prop} {μ : mM} {x1 : Int32} (k : ∀ E, Cx G mX12_back E → Wm G mX12_back E (bm G mX12_back E (pI Q)) μ 0 [(0, .ref (gb G + 132)), (1, .int x1)] []) : CtI G mX12_back [.ref (gb G + 132), .int x1] μ Q := CtI.of pn_X12 (Nat.le_of_ble_eq_true rfl) k
set_option maxRecDepth 4000 in
theorem k_X12_back_41 {G : mG} {E : mE} {Q : Int32 → mM → Prop} {μ : mM} (C : Cx G mX12_back E)  (cc1 : CtV G mX12_laysMixes [.ref (gb G + 132)] μ (fun μ' => Wm G mX12_back E (bm G mX12_back E (pI Q)) μ' 45 [(0, .ref (gb G + 132))] [])) : Wm G mX12_back E (bm G mX12_back E (pI Q)) μ 41 [(0, .ref (gb G + 132))] [] := by
  refine L_aload_n C (i := 0) dX12_back_41 rfl rfl ?_
  refine L_invV0v C dX12_back_42 sh_132 cal_X12_laysMixes lk_X12_159 ⟨Nat.le_of_ble_eq_true rfl, Nat.le_of_ble_eq_true rfl⟩ ⟨Nat.le_of_ble_eq_true rfl, Nat.le_of_ble_eq_true rfl⟩ (Nat.le_of_ble_eq_true rfl) ?_
  exact cc1
set_option maxRecDepth 4000 in
theorem k_X12_back_45 {G : mG} {E : mE} {Q : Int32 → mM → Prop} {μ : mM} (C : Cx G mX12_back E)  (rr1 : Q (μ 135 3) (ms μ 132 26 0)) : Wm G mX12_back E (bm G mX12_back E (pI Q)) μ 45 [(0, .ref (gb G + 132))] [] := by
  refine L_aload_n C (i := 0) dX12_back_45 rfl rfl ?_
  refine L_iconst C (v := 0) dX12_back_46 rfl ?_
  refine L_putI C dX12_back_47 sh_132 fl_X12_165 rfl rfl rfl ?_
  refine L_aload_n C (i := 0) dX12_back_50 rfl rfl ?_
  refine L_getC C (c' := 135) dX12_back_51 sh_132 fl_X12_16 rfl rfl ?_
  refine L_iconst C (v := 3) dX12_back_54 rfl ?_
  refine L_iald C dX12_back_55 sh_135 (by unfold vp_in; decide) ?_
  exact L_irI C dX12_back_56 rfl (rr1)
set_option maxRecDepth 4000 in
theorem k_X12_canMany_0 {G : mG} {E : mE} {B : mB} {μ : mM} (C : Cx G mX12_canMany E)  (kk1 : Wm G mX12_canMany E B μ 4 [(0, .ref (gb G + 132)), (1, .int 0), (2, .int 0)] []) : Wm G mX12_canMany E B μ 0 [(0, .ref (gb G + 132))] [] := by
  refine L_iconst C (v := 0) dX12_canMany_0 rfl ?_
  refine L_istore_n C (i := 1) dX12_canMany_1 rfl (Nat.le_of_ble_eq_true rfl) ?_
  refine L_iconst C (v := 0) dX12_canMany_2 rfl ?_
  refine L_istore_n C (i := 2) dX12_canMany_3 rfl (Nat.le_of_ble_eq_true rfl) ?_
  exact kk1
theorem e_X12_canMany {G : mG} {Q : Int32 → mM → Prop} {μ : mM}  (k : ∀ E, Cx G mX12_canMany E → Wm G mX12_canMany E (bm G mX12_canMany E (pI Q)) μ 0 [(0, .ref (gb G + 132))] []) : CtI G mX12_canMany [.ref (gb G + 132)] μ Q := CtI.of pn_X12 (Nat.le_of_ble_eq_true rfl) k
set_option maxRecDepth 4000 in
theorem k_X12_canMany_4 {G : mG} {E : mE} {Q : Int32 → mM → Prop} {μ : mM} (C : Cx G mX12_canMany E) {x1 : Int32} {x2 : Int32} (rr1 : (μ 132 13) ≤ x2 → Q x1 μ) (ss2 : ¬ (μ 132 13) ≤ x2 → vp_in x2 1200) (kk3 : ¬ (μ 132 13) ≤ x2 → ∀ v1 : Int32, (((μ 142 x2.toNatClampNeg) = 0 ∧ v1 = 0) ∨ (¬ (μ 142 x2.toNatClampNeg) = 0 ∧ v1 = 1)) → Wm G mX12_canMany E (bm G mX12_canMany E (pI Q)) μ 4 [(0, .ref (gb G + 132)), (1, .int (x1 + v1)), (2, .int (x2 + (1 : Int32)))] []) : Wm G mX12_canMany E (bm G mX12_canMany E (pI Q)) μ 4 [(0, .ref (gb G + 132)), (1, .int x1), (2, .int x2)] [] := by
  refine L_iload_n C (i := 2) dX12_canMany_4 rfl rfl ?_
  refine L_aload_n C (i := 0) dX12_canMany_5 rfl rfl ?_
  refine L_getI C dX12_canMany_6 sh_132 fl_X12_168 rfl ?_
  refine L_icmp_ge C (tgt := 35) dX12_canMany_9 rfl (fun p1 => ?_) (fun p1 => ?_)
  · refine L_iload_n C (i := 1) dX12_canMany_35 rfl rfl ?_
    exact L_irI C dX12_canMany_36 rfl (rr1 p1)
  · refine L_iload_n C (i := 1) dX12_canMany_12 rfl rfl ?_
    refine L_aload_n C (i := 0) dX12_canMany_13 rfl rfl ?_
    refine L_getC C (c' := 142) dX12_canMany_14 sh_132 fl_X12_38 rfl rfl ?_
    refine L_iload_n C (i := 2) dX12_canMany_17 rfl rfl ?_
    refine L_zald C dX12_canMany_18 sh_142 (ss2 p1) ?_
    refine phi (fun v1 : Int32 => Wm G mX12_canMany E (bm G mX12_canMany E (pI Q)) μ 27 [(0, .ref (gb G + 132)), (2, .int x2)] [.int v1, .int x1]) (fun v1 : Int32 => ((μ 142 x2.toNatClampNeg) = 0 ∧ v1 = 0) ∨ (¬ (μ 142 x2.toNatClampNeg) = 0 ∧ v1 = 1)) (fun H => ?_) (fun v1 hv1 => ?_)
    · refine L_if_eq C (tgt := 26) dX12_canMany_19 rfl (fun p2 => ?_) (fun p2 => ?_)
      · refine L_iconst C (v := 0) dX12_canMany_26 rfl ?_
        refine L_sub [0, 2] rfl ?_
        exact H _ (Or.inl ⟨p2, rfl⟩)
      · refine L_iconst C (v := 1) dX12_canMany_22 rfl ?_
        refine L_goto C (tgt := 27) dX12_canMany_23 rfl ?_
        refine L_sub [0, 2] rfl ?_
        exact H _ (Or.inr ⟨p2, rfl⟩)
    refine L_iadd C dX12_canMany_27 ?_
    refine L_istore_n C (i := 1) dX12_canMany_28 rfl (Nat.le_of_ble_eq_true rfl) ?_
    refine L_iinc C (v := 1) dX12_canMany_29 rfl rfl (Nat.le_of_ble_eq_true rfl) ?_
    refine L_goto C (tgt := 4) dX12_canMany_32 rfl ?_
    exact kk3 p1 v1 hv1
set_option maxRecDepth 4000 in
theorem k_X12_freeIn_0 {G : mG} {E : mE} {B : mB} {μ : mM} (C : Cx G mX12_freeIn E) {x1 : Int32} (kk1 : Wm G mX12_freeIn E B μ 4 [(0, .ref (gb G + 132)), (1, .int x1), (2, .int 0), (3, .int 0)] []) : Wm G mX12_freeIn E B μ 0 [(0, .ref (gb G + 132)), (1, .int x1)] [] := by
  refine L_iconst C (v := 0) dX12_freeIn_0 rfl ?_
  refine L_istore_n C (i := 2) dX12_freeIn_1 rfl (Nat.le_of_ble_eq_true rfl) ?_
  refine L_iconst C (v := 0) dX12_freeIn_2 rfl ?_
  refine L_istore_n C (i := 3) dX12_freeIn_3 rfl (Nat.le_of_ble_eq_true rfl) ?_
  exact kk1
theorem e_X12_freeIn {G : mG} {Q : Int32 → mM → Prop} {μ : mM} {x1 : Int32} (k : ∀ E, Cx G mX12_freeIn E → Wm G mX12_freeIn E (bm G mX12_freeIn E (pI Q)) μ 0 [(0, .ref (gb G + 132)), (1, .int x1)] []) : CtI G mX12_freeIn [.ref (gb G + 132), .int x1] μ Q := CtI.of pn_X12 (Nat.le_of_ble_eq_true rfl) k
set_option maxRecDepth 4000 in
theorem k_X12_freeIn_4 {G : mG} {E : mE} {Q : Int32 → mM → Prop} {μ : mM} (C : Cx G mX12_freeIn E) {x1 : Int32} {x2 : Int32} {x3 : Int32} (rr1 : (μ 135 0) ≤ x3 → Q x2 μ) (ss2 : ¬ (μ 135 0) ≤ x3 → vp_in (((161 : Int32) + ((8 : Int32) * x1)) + x3) 673) (kk3 : ¬ (μ 135 0) ≤ x3 → ∀ v1 : Int32, ((¬ (μ 135 (((161 : Int32) + ((8 : Int32) * x1)) + x3).toNatClampNeg) = (-1) ∧ v1 = 0) ∨ ((μ 135 (((161 : Int32) + ((8 : Int32) * x1)) + x3).toNatClampNeg) = (-1) ∧ v1 = 1)) → Wm G mX12_freeIn E (bm G mX12_freeIn E (pI Q)) μ 4 [(0, .ref (gb G + 132)), (1, .int x1), (2, .int (x2 + v1)), (3, .int (x3 + (1 : Int32)))] []) : Wm G mX12_freeIn E (bm G mX12_freeIn E (pI Q)) μ 4 [(0, .ref (gb G + 132)), (1, .int x1), (2, .int x2), (3, .int x3)] [] := by
  refine L_iload_n C (i := 3) dX12_freeIn_4 rfl rfl ?_
  refine L_aload_n C (i := 0) dX12_freeIn_5 rfl rfl ?_
  refine L_getC C (c' := 135) dX12_freeIn_6 sh_132 fl_X12_16 rfl rfl ?_
  refine L_iconst C (v := 0) dX12_freeIn_9 rfl ?_
  refine L_iald C dX12_freeIn_10 sh_135 (by unfold vp_in; decide) ?_
  refine L_icmp_ge C (tgt := 38) dX12_freeIn_11 rfl (fun p1 => ?_) (fun p1 => ?_)
  · refine L_iload_n C (i := 2) dX12_freeIn_38 rfl rfl ?_
    exact L_irI C dX12_freeIn_39 rfl (rr1 p1)
  · refine L_iload_n C (i := 2) dX12_freeIn_14 rfl rfl ?_
    refine L_aload_n C (i := 0) dX12_freeIn_15 rfl rfl ?_
    refine L_iload_n C (i := 1) dX12_freeIn_16 rfl rfl ?_
    refine L_iload_n C (i := 3) dX12_freeIn_17 rfl rfl ?_
    refine L_invV2i C dX12_freeIn_18 sh_132 cal_X12_cellAt lk_X12_200 ⟨Nat.le_of_ble_eq_true rfl, Nat.le_of_ble_eq_true rfl⟩ ⟨Nat.le_of_ble_eq_true rfl, Nat.le_of_ble_eq_true rfl⟩ (Nat.le_of_ble_eq_true rfl) (a_X12_cellAt (ss2 p1) (?_))
    · refine L_iconst C (v := (-1)) dX12_freeIn_21 rfl ?_
      refine phi (fun v1 : Int32 => Wm G mX12_freeIn E (bm G mX12_freeIn E (pI Q)) μ 30 [(0, .ref (gb G + 132)), (1, .int x1), (3, .int x3)] [.int v1, .int x2]) (fun v1 : Int32 => (¬ (μ 135 (((161 : Int32) + ((8 : Int32) * x1)) + x3).toNatClampNeg) = (-1) ∧ v1 = 0) ∨ ((μ 135 (((161 : Int32) + ((8 : Int32) * x1)) + x3).toNatClampNeg) = (-1) ∧ v1 = 1)) (fun H => ?_) (fun v1 hv1 => ?_)
      · refine L_icmp_ne C (tgt := 29) dX12_freeIn_22 rfl (fun p2 => ?_) (fun p2 => ?_)
        · refine L_iconst C (v := 0) dX12_freeIn_29 rfl ?_
          refine L_sub [0, 1, 3] rfl ?_
          exact H _ (Or.inl ⟨p2, rfl⟩)
        · refine L_iconst C (v := 1) dX12_freeIn_25 rfl ?_
          refine L_goto C (tgt := 30) dX12_freeIn_26 rfl ?_
          refine L_sub [0, 1, 3] rfl ?_
          exact H _ (Or.inr ⟨p2, rfl⟩)
      refine L_iadd C dX12_freeIn_30 ?_
      refine L_istore_n C (i := 2) dX12_freeIn_31 rfl (Nat.le_of_ble_eq_true rfl) ?_
      refine L_iinc C (v := 1) dX12_freeIn_32 rfl rfl (Nat.le_of_ble_eq_true rfl) ?_
      refine L_goto C (tgt := 4) dX12_freeIn_35 rfl ?_
      exact kk3 p1 v1 hv1
set_option maxRecDepth 4000 in
theorem k_X12_freeMany_0 {G : mG} {E : mE} {B : mB} {μ : mM} (C : Cx G mX12_freeMany E) {x1 : Int32} (kk1 : Wm G mX12_freeMany E B μ 4 [(0, .ref (gb G + 132)), (1, .int x1), (2, .int 0), (3, .int 0)] []) : Wm G mX12_freeMany E B μ 0 [(0, .ref (gb G + 132)), (1, .int x1)] [] := by
  refine L_iconst C (v := 0) dX12_freeMany_0 rfl ?_
  refine L_istore_n C (i := 2) dX12_freeMany_1 rfl (Nat.le_of_ble_eq_true rfl) ?_
  refine L_iconst C (v := 0) dX12_freeMany_2 rfl ?_
  refine L_istore_n C (i := 3) dX12_freeMany_3 rfl (Nat.le_of_ble_eq_true rfl) ?_
  exact kk1
theorem e_X12_freeMany {G : mG} {Q : Int32 → mM → Prop} {μ : mM} {x1 : Int32} (k : ∀ E, Cx G mX12_freeMany E → Wm G mX12_freeMany E (bm G mX12_freeMany E (pI Q)) μ 0 [(0, .ref (gb G + 132)), (1, .int x1)] []) : CtI G mX12_freeMany [.ref (gb G + 132), .int x1] μ Q := CtI.of pn_X12 (Nat.le_of_ble_eq_true rfl) k
set_option maxRecDepth 4000 in
theorem k_X12_freeMany_4 {G : mG} {E : mE} {Q : Int32 → mM → Prop} {μ : mM} (C : Cx G mX12_freeMany E) {x1 : Int32} {x2 : Int32} {x3 : Int32} (rr1 : (μ 135 3) ≤ x3 → Q x2 μ) (cc2 : ¬ (μ 135 3) ≤ x3 → x1 = 0 → CtI G mX12_freeIn [.ref (gb G + 132), .int x3] μ (fun r μ' => Wm G mX12_freeMany E (bm G mX12_freeMany E (pI Q)) μ' 40 [(0, .ref (gb G + 132)), (1, .int x1), (3, .int x3)] [.int r, .int x2])) (cc3 : ¬ (μ 135 3) ≤ x3 → ¬ x1 = 0 → CtI G mX12_freeIn [.ref (gb G + 132), .int x3] μ (fun r μ' => Wm G mX12_freeMany E (bm G mX12_freeMany E (pI Q)) μ' 24 [(0, .ref (gb G + 132)), (1, .int x1), (3, .int x3)] [.int r, .int x2])) : Wm G mX12_freeMany E (bm G mX12_freeMany E (pI Q)) μ 4 [(0, .ref (gb G + 132)), (1, .int x1), (2, .int x2), (3, .int x3)] [] := by
  refine L_iload_n C (i := 3) dX12_freeMany_4 rfl rfl ?_
  refine L_aload_n C (i := 0) dX12_freeMany_5 rfl rfl ?_
  refine L_getC C (c' := 135) dX12_freeMany_6 sh_132 fl_X12_16 rfl rfl ?_
  refine L_iconst C (v := 3) dX12_freeMany_9 rfl ?_
  refine L_iald C dX12_freeMany_10 sh_135 (by unfold vp_in; decide) ?_
  refine L_icmp_ge C (tgt := 48) dX12_freeMany_11 rfl (fun p1 => ?_) (fun p1 => ?_)
  · refine L_iload_n C (i := 2) dX12_freeMany_48 rfl rfl ?_
    exact L_irI C dX12_freeMany_49 rfl (rr1 p1)
  · refine L_iload_n C (i := 2) dX12_freeMany_14 rfl rfl ?_
    refine L_iload_n C (i := 1) dX12_freeMany_15 rfl rfl ?_
    refine L_if_eq C (tgt := 35) dX12_freeMany_16 rfl (fun p2 => ?_) (fun p2 => ?_)
    · refine L_aload_n C (i := 0) dX12_freeMany_35 rfl rfl ?_
      refine L_iload_n C (i := 3) dX12_freeMany_36 rfl rfl ?_
      refine L_sub [0, 1, 3] rfl ?_
      refine L_invV1i C dX12_freeMany_37 sh_132 cal_X12_freeIn lk_X12_329 ⟨Nat.le_of_ble_eq_true rfl, Nat.le_of_ble_eq_true rfl⟩ ⟨Nat.le_of_ble_eq_true rfl, Nat.le_of_ble_eq_true rfl⟩ (Nat.le_of_ble_eq_true rfl) ?_
      exact cc2 p1 p2
    · refine L_aload_n C (i := 0) dX12_freeMany_19 rfl rfl ?_
      refine L_iload_n C (i := 3) dX12_freeMany_20 rfl rfl ?_
      refine L_sub [0, 1, 3] rfl ?_
      refine L_invV1i C dX12_freeMany_21 sh_132 cal_X12_freeIn lk_X12_329 ⟨Nat.le_of_ble_eq_true rfl, Nat.le_of_ble_eq_true rfl⟩ ⟨Nat.le_of_ble_eq_true rfl, Nat.le_of_ble_eq_true rfl⟩ (Nat.le_of_ble_eq_true rfl) ?_
      exact cc3 p1 p2
set_option maxRecDepth 4000 in
theorem k_X12_freeMany_24 {G : mG} {E : mE} {B : mB} {μ : mM} (C : Cx G mX12_freeMany E) {x1 : Int32} {x3 : Int32} {sx0 : Int32} {sx1 : Int32} (kk1 : ∀ v1 : Int32, ((¬ sx1 = 0 ∧ v1 = 0) ∨ (sx1 = 0 ∧ v1 = 1)) → Wm G mX12_freeMany E B μ 40 [(0, .ref (gb G + 132)), (1, .int x1), (3, .int x3)] [.int v1, .int sx0]) : Wm G mX12_freeMany E B μ 24 [(0, .ref (gb G + 132)), (1, .int x1), (3, .int x3)] [.int sx1, .int sx0] := by
  refine phi (fun v1 : Int32 => Wm G mX12_freeMany E B μ 40 [(0, .ref (gb G + 132)), (1, .int x1), (3, .int x3)] [.int v1, .int sx0]) (fun v1 : Int32 => (¬ sx1 = 0 ∧ v1 = 0) ∨ (sx1 = 0 ∧ v1 = 1)) (fun H => ?_) (fun v1 hv1 => ?_)
  · refine L_if_ne C (tgt := 31) dX12_freeMany_24 rfl (fun p1 => ?_) (fun p1 => ?_)
    · refine L_iconst C (v := 0) dX12_freeMany_31 rfl ?_
      refine L_goto C (tgt := 40) dX12_freeMany_32 rfl ?_
      exact H _ (Or.inl ⟨p1, rfl⟩)
    · refine L_iconst C (v := 1) dX12_freeMany_27 rfl ?_
      refine L_goto C (tgt := 40) dX12_freeMany_28 rfl ?_
      exact H _ (Or.inr ⟨p1, rfl⟩)
  exact kk1 v1 hv1
set_option maxRecDepth 4000 in
theorem k_X12_freeMany_40 {G : mG} {E : mE} {B : mB} {μ : mM} (C : Cx G mX12_freeMany E) {x1 : Int32} {x3 : Int32} {sx0 : Int32} {sx1 : Int32} (kk1 : Wm G mX12_freeMany E B μ 4 [(0, .ref (gb G + 132)), (1, .int x1), (2, .int (sx0 + sx1)), (3, .int (x3 + (1 : Int32)))] []) : Wm G mX12_freeMany E B μ 40 [(0, .ref (gb G + 132)), (1, .int x1), (3, .int x3)] [.int sx1, .int sx0] := by
  refine L_iadd C dX12_freeMany_40 ?_
  refine L_istore_n C (i := 2) dX12_freeMany_41 rfl (Nat.le_of_ble_eq_true rfl) ?_
  refine L_iinc C (v := 1) dX12_freeMany_42 rfl rfl (Nat.le_of_ble_eq_true rfl) ?_
  refine L_goto C (tgt := 4) dX12_freeMany_45 rfl ?_
  exact kk1
set_option maxRecDepth 4000 in
theorem k_X12_results_0 {G : mG} {E : mE} {B : mB} {μ : mM} (C : Cx G mX12_results E) {x1 : Int32} (kk1 : Wm G mX12_results E B μ 4 [(0, .ref (gb G + 132)), (1, .int x1), (2, .int 0), (3, .int 0)] []) : Wm G mX12_results E B μ 0 [(0, .ref (gb G + 132)), (1, .int x1)] [] := by
  refine L_iconst C (v := 0) dX12_results_0 rfl ?_
  refine L_istore_n C (i := 2) dX12_results_1 rfl (Nat.le_of_ble_eq_true rfl) ?_
  refine L_iconst C (v := 0) dX12_results_2 rfl ?_
  refine L_istore_n C (i := 3) dX12_results_3 rfl (Nat.le_of_ble_eq_true rfl) ?_
  exact kk1
theorem e_X12_results {G : mG} {Q : Int32 → mM → Prop} {μ : mM} {x1 : Int32} (k : ∀ E, Cx G mX12_results E → Wm G mX12_results E (bm G mX12_results E (pI Q)) μ 0 [(0, .ref (gb G + 132)), (1, .int x1)] []) : CtI G mX12_results [.ref (gb G + 132), .int x1] μ Q := CtI.of pn_X12 (Nat.le_of_ble_eq_true rfl) k
set_option maxRecDepth 4000 in
theorem k_X12_results_4 {G : mG} {E : mE} {Q : Int32 → mM → Prop} {μ : mM} (C : Cx G mX12_results E) {x1 : Int32} {x2 : Int32} {x3 : Int32} (rr1 : (μ 135 3) ≤ x3 → Q x2 μ) (ss2 : ¬ (μ 135 3) ≤ x3 → vp_in ((97 : Int32) + x3) 673) (kk3 : ¬ (μ 135 3) ≤ x3 → ∀ v1 : Int32, ((¬ (μ 135 ((97 : Int32) + x3).toNatClampNeg) = x1 ∧ v1 = 0) ∨ ((μ 135 ((97 : Int32) + x3).toNatClampNeg) = x1 ∧ v1 = 1)) → Wm G mX12_results E (bm G mX12_results E (pI Q)) μ 4 [(0, .ref (gb G + 132)), (1, .int x1), (2, .int (x2 + v1)), (3, .int (x3 + (1 : Int32)))] []) : Wm G mX12_results E (bm G mX12_results E (pI Q)) μ 4 [(0, .ref (gb G + 132)), (1, .int x1), (2, .int x2), (3, .int x3)] [] := by
  refine L_iload_n C (i := 3) dX12_results_4 rfl rfl ?_
  refine L_aload_n C (i := 0) dX12_results_5 rfl rfl ?_
  refine L_getC C (c' := 135) dX12_results_6 sh_132 fl_X12_16 rfl rfl ?_
  refine L_iconst C (v := 3) dX12_results_9 rfl ?_
  refine L_iald C dX12_results_10 sh_135 (by unfold vp_in; decide) ?_
  refine L_icmp_ge C (tgt := 41) dX12_results_11 rfl (fun p1 => ?_) (fun p1 => ?_)
  · refine L_iload_n C (i := 2) dX12_results_41 rfl rfl ?_
    exact L_irI C dX12_results_42 rfl (rr1 p1)
  · refine L_iload_n C (i := 2) dX12_results_14 rfl rfl ?_
    refine L_aload_n C (i := 0) dX12_results_15 rfl rfl ?_
    refine L_getC C (c' := 135) dX12_results_16 sh_132 fl_X12_16 rfl rfl ?_
    refine L_bipush C (v := 97) dX12_results_19 rfl ?_
    refine L_iload_n C (i := 3) dX12_results_21 rfl rfl ?_
    refine L_iadd C dX12_results_22 ?_
    refine L_iald C dX12_results_23 sh_135 (ss2 p1) ?_
    refine L_iload_n C (i := 1) dX12_results_24 rfl rfl ?_
    refine phi (fun v1 : Int32 => Wm G mX12_results E (bm G mX12_results E (pI Q)) μ 33 [(0, .ref (gb G + 132)), (1, .int x1), (3, .int x3)] [.int v1, .int x2]) (fun v1 : Int32 => (¬ (μ 135 ((97 : Int32) + x3).toNatClampNeg) = x1 ∧ v1 = 0) ∨ ((μ 135 ((97 : Int32) + x3).toNatClampNeg) = x1 ∧ v1 = 1)) (fun H => ?_) (fun v1 hv1 => ?_)
    · refine L_icmp_ne C (tgt := 32) dX12_results_25 rfl (fun p2 => ?_) (fun p2 => ?_)
      · refine L_iconst C (v := 0) dX12_results_32 rfl ?_
        refine L_sub [0, 1, 3] rfl ?_
        exact H _ (Or.inl ⟨p2, rfl⟩)
      · refine L_iconst C (v := 1) dX12_results_28 rfl ?_
        refine L_goto C (tgt := 33) dX12_results_29 rfl ?_
        refine L_sub [0, 1, 3] rfl ?_
        exact H _ (Or.inr ⟨p2, rfl⟩)
    refine L_iadd C dX12_results_33 ?_
    refine L_istore_n C (i := 2) dX12_results_34 rfl (Nat.le_of_ble_eq_true rfl) ?_
    refine L_iinc C (v := 1) dX12_results_35 rfl rfl (Nat.le_of_ble_eq_true rfl) ?_
    refine L_goto C (tgt := 4) dX12_results_38 rfl ?_
    exact kk3 p1 v1 hv1
set_option maxRecDepth 4000 in
theorem k_X12_count_0 {G : mG} {E : mE} {Q : Int32 → mM → Prop} {μ : mM} (C : Cx G mX12_count E) {x1 : Int32} (kk1 : (((lg_cmp x1.toInt64 0) < 0 ∨ (¬ (lg_cmp x1.toInt64 0) < 0 ∧ 0 < (lg_cmp x1.toInt64 9))) ∨ (¬ (lg_cmp x1.toInt64 0) < 0 ∧ ¬ 0 < (lg_cmp x1.toInt64 9) ∧ ¬ (μ 135 0) ≤ 0)) → Wm G mX12_count E (bm G mX12_count E (pI Q)) μ 21 [(0, .ref (gb G + 132)), (1, .int x1)] []) (rr2 : ¬ (lg_cmp x1.toInt64 0) < 0 → ¬ 0 < (lg_cmp x1.toInt64 9) → (μ 135 0) ≤ 0 → Q 0 μ) : Wm G mX12_count E (bm G mX12_count E (pI Q)) μ 0 [(0, .ref (gb G + 132)), (1, .int x1)] [] := by
  refine L_iload_n C (i := 1) dX12_count_0 rfl rfl ?_
  refine L_i2l C dX12_count_1 ?_
  refine L_lconst C (v := 0) dX12_count_2 rfl ?_
  refine L_ldc2 C dX12_count_3 cn_X12_332 ?_
  refine L_invS3i C dX12_count_6 cal_X12_isIn stc_X12_isIn lk_X12_73 ⟨Nat.le_of_ble_eq_true rfl, Nat.le_of_ble_eq_true rfl⟩ ⟨Nat.le_of_ble_eq_true rfl, Nat.le_of_ble_eq_true rfl⟩ (Nat.le_of_ble_eq_true rfl) (a_X12_isIn (fun p1 => ?_) (fun p2 p3 => ?_))
  · refine L_if_eq C (tgt := 21) dX12_count_9 rfl (fun p4 => ?_) (fun p4 => absurd p4 (by decide))
    exact kk1 (Or.inl p1)
  · refine L_if_eq C (tgt := 21) dX12_count_9 rfl (fun p5 => absurd p5 (by decide)) (fun p5 => ?_)
    refine L_aload_n C (i := 0) dX12_count_12 rfl rfl ?_
    refine L_invV0i C dX12_count_13 sh_132 cal_X12_isPlan lk_X12_212 ⟨Nat.le_of_ble_eq_true rfl, Nat.le_of_ble_eq_true rfl⟩ ⟨Nat.le_of_ble_eq_true rfl, Nat.le_of_ble_eq_true rfl⟩ (Nat.le_of_ble_eq_true rfl) (a_X12_isPlan (fun p6 => ?_) (fun p7 => ?_))
    · refine L_if_ne C (tgt := 21) dX12_count_16 rfl (fun p8 => absurd p8 (by decide)) (fun p8 => ?_)
      refine L_iconst C (v := 0) dX12_count_19 rfl ?_
      exact L_irI C dX12_count_20 rfl (rr2 p2 p3 p6)
    · refine L_if_ne C (tgt := 21) dX12_count_16 rfl (fun p9 => ?_) (fun p9 => absurd p9 (by decide))
      exact kk1 (Or.inr ⟨p2, p3, p7⟩)
theorem e_X12_count {G : mG} {Q : Int32 → mM → Prop} {μ : mM} {x1 : Int32} (k : ∀ E, Cx G mX12_count E → Wm G mX12_count E (bm G mX12_count E (pI Q)) μ 0 [(0, .ref (gb G + 132)), (1, .int x1)] []) : CtI G mX12_count [.ref (gb G + 132), .int x1] μ Q := CtI.of pn_X12 (Nat.le_of_ble_eq_true rfl) k
set_option maxRecDepth 4000 in
theorem k_X12_count_21 {G : mG} {E : mE} {Q : Int32 → mM → Prop} {μ : mM} (C : Cx G mX12_count E) {x1 : Int32} (rr1 : x1 = 0 → Q (μ 135 0) μ) (rr2 : ¬ x1 = 0 → x1 = 1 → Q (μ 135 1) μ) (rr3 : ¬ x1 = 0 → ¬ x1 = 1 → x1 = 2 → Q (μ 132 13) μ) (cc4 : ¬ x1 = 0 → ¬ x1 = 1 → ¬ x1 = 2 → x1 = 3 → CtI G mX12_canMany [.ref (gb G + 132)] μ (fun r μ' => Wm G mX12_count E (bm G mX12_count E (pI Q)) μ' 111 [] [.int r])) (rr5 : ¬ x1 = 0 → ¬ x1 = 1 → ¬ x1 = 2 → ¬ x1 = 3 → x1 = 4 → Q (μ 135 2) μ) (rr6 : ¬ x1 = 0 → ¬ x1 = 1 → ¬ x1 = 2 → ¬ x1 = 3 → ¬ x1 = 4 → x1 = 5 → Q (μ 135 3) μ) (cc7 : ¬ x1 = 0 → ¬ x1 = 1 → ¬ x1 = 2 → ¬ x1 = 3 → ¬ x1 = 4 → ¬ x1 = 5 → x1 = 6 → CtI G mX12_freeMany [.ref (gb G + 132), .int 1] μ (fun r μ' => Wm G mX12_count E (bm G mX12_count E (pI Q)) μ' 131 [] [.int r])) (cc8 : ¬ x1 = 0 → ¬ x1 = 1 → ¬ x1 = 2 → ¬ x1 = 3 → ¬ x1 = 4 → ¬ x1 = 5 → ¬ x1 = 6 → x1 = 7 → CtI G mX12_freeMany [.ref (gb G + 132), .int 0] μ (fun r μ' => Wm G mX12_count E (bm G mX12_count E (pI Q)) μ' 137 [] [.int r])) (cc9 : ¬ x1 = 0 → ¬ x1 = 1 → ¬ x1 = 2 → ¬ x1 = 3 → ¬ x1 = 4 → ¬ x1 = 5 → ¬ x1 = 6 → ¬ x1 = 7 → x1 = 8 → CtI G mX12_results [.ref (gb G + 132), .int 1] μ (fun r μ' => Wm G mX12_count E (bm G mX12_count E (pI Q)) μ' 143 [] [.int r])) (cc10 : ¬ x1 = 0 → ¬ x1 = 1 → ¬ x1 = 2 → ¬ x1 = 3 → ¬ x1 = 4 → ¬ x1 = 5 → ¬ x1 = 6 → ¬ x1 = 7 → ¬ x1 = 8 → x1 = 9 → CtI G mX12_results [.ref (gb G + 132), .int 2] μ (fun r μ' => Wm G mX12_count E (bm G mX12_count E (pI Q)) μ' 149 [] [.int r])) (rr11 : ¬ x1 = 0 → ¬ x1 = 1 → ¬ x1 = 2 → ¬ x1 = 3 → ¬ x1 = 4 → ¬ x1 = 5 → ¬ x1 = 6 → ¬ x1 = 7 → ¬ x1 = 8 → ¬ x1 = 9 → x1 = 10 → Q (μ 132 26) μ) (rr12 : ¬ x1 = 0 → ¬ x1 = 1 → ¬ x1 = 2 → ¬ x1 = 3 → ¬ x1 = 4 → ¬ x1 = 5 → ¬ x1 = 6 → ¬ x1 = 7 → ¬ x1 = 8 → ¬ x1 = 9 → ¬ x1 = 10 → x1 = 11 → Q (μ 135 4) μ) (rr13 : ¬ x1 = 0 → ¬ x1 = 1 → ¬ x1 = 2 → ¬ x1 = 3 → ¬ x1 = 4 → ¬ x1 = 5 → ¬ x1 = 6 → ¬ x1 = 7 → ¬ x1 = 8 → ¬ x1 = 9 → ¬ x1 = 10 → ¬ x1 = 11 → x1 = 12 → Q (μ 132 1) μ) (rr14 : ¬ x1 = 0 → ¬ x1 = 1 → ¬ x1 = 2 → ¬ x1 = 3 → ¬ x1 = 4 → ¬ x1 = 5 → ¬ x1 = 6 → ¬ x1 = 7 → ¬ x1 = 8 → ¬ x1 = 9 → ¬ x1 = 10 → ¬ x1 = 11 → ¬ x1 = 12 → Q (-1) μ) : Wm G mX12_count E (bm G mX12_count E (pI Q)) μ 21 [(0, .ref (gb G + 132)), (1, .int x1)] [] := by
  refine L_iload_n C (i := 1) dX12_count_21 rfl rfl ?_
  by_cases p1 : x1 = 0
  · refine L_tabIn C (tgt := 88) dX12_count_22 (by rw [p1]; decide) (by rw [p1]; decide) (by rw [p1]; rfl) rfl ?_
    refine L_aload_n C (i := 0) dX12_count_88 rfl rfl ?_
    refine L_getC C (c' := 135) dX12_count_89 sh_132 fl_X12_16 rfl rfl ?_
    refine L_iconst C (v := 0) dX12_count_92 rfl ?_
    refine L_iald C dX12_count_93 sh_135 (by unfold vp_in; decide) ?_
    exact L_irI C dX12_count_94 rfl (rr1 p1)
  by_cases p2 : x1 = 1
  · refine L_tabIn C (tgt := 95) dX12_count_22 (by rw [p2]; decide) (by rw [p2]; decide) (by rw [p2]; rfl) rfl ?_
    refine L_aload_n C (i := 0) dX12_count_95 rfl rfl ?_
    refine L_getC C (c' := 135) dX12_count_96 sh_132 fl_X12_16 rfl rfl ?_
    refine L_iconst C (v := 1) dX12_count_99 rfl ?_
    refine L_iald C dX12_count_100 sh_135 (by unfold vp_in; decide) ?_
    exact L_irI C dX12_count_101 rfl (rr2 p1 p2)
  by_cases p3 : x1 = 2
  · refine L_tabIn C (tgt := 102) dX12_count_22 (by rw [p3]; decide) (by rw [p3]; decide) (by rw [p3]; rfl) rfl ?_
    refine L_aload_n C (i := 0) dX12_count_102 rfl rfl ?_
    refine L_getI C dX12_count_103 sh_132 fl_X12_168 rfl ?_
    exact L_irI C dX12_count_106 rfl (rr3 p1 p2 p3)
  by_cases p4 : x1 = 3
  · refine L_tabIn C (tgt := 107) dX12_count_22 (by rw [p4]; decide) (by rw [p4]; decide) (by rw [p4]; rfl) rfl ?_
    refine L_aload_n C (i := 0) dX12_count_107 rfl rfl ?_
    refine L_sub [] rfl ?_
    refine L_invV0i C dX12_count_108 sh_132 cal_X12_canMany lk_X12_334 ⟨Nat.le_of_ble_eq_true rfl, Nat.le_of_ble_eq_true rfl⟩ ⟨Nat.le_of_ble_eq_true rfl, Nat.le_of_ble_eq_true rfl⟩ (Nat.le_of_ble_eq_true rfl) ?_
    exact cc4 p1 p2 p3 p4
  by_cases p5 : x1 = 4
  · refine L_tabIn C (tgt := 112) dX12_count_22 (by rw [p5]; decide) (by rw [p5]; decide) (by rw [p5]; rfl) rfl ?_
    refine L_aload_n C (i := 0) dX12_count_112 rfl rfl ?_
    refine L_getC C (c' := 135) dX12_count_113 sh_132 fl_X12_16 rfl rfl ?_
    refine L_iconst C (v := 2) dX12_count_116 rfl ?_
    refine L_iald C dX12_count_117 sh_135 (by unfold vp_in; decide) ?_
    exact L_irI C dX12_count_118 rfl (rr5 p1 p2 p3 p4 p5)
  by_cases p6 : x1 = 5
  · refine L_tabIn C (tgt := 119) dX12_count_22 (by rw [p6]; decide) (by rw [p6]; decide) (by rw [p6]; rfl) rfl ?_
    refine L_aload_n C (i := 0) dX12_count_119 rfl rfl ?_
    refine L_getC C (c' := 135) dX12_count_120 sh_132 fl_X12_16 rfl rfl ?_
    refine L_iconst C (v := 3) dX12_count_123 rfl ?_
    refine L_iald C dX12_count_124 sh_135 (by unfold vp_in; decide) ?_
    exact L_irI C dX12_count_125 rfl (rr6 p1 p2 p3 p4 p5 p6)
  by_cases p7 : x1 = 6
  · refine L_tabIn C (tgt := 126) dX12_count_22 (by rw [p7]; decide) (by rw [p7]; decide) (by rw [p7]; rfl) rfl ?_
    refine L_aload_n C (i := 0) dX12_count_126 rfl rfl ?_
    refine L_iconst C (v := 1) dX12_count_127 rfl ?_
    refine L_sub [] rfl ?_
    refine L_invV1i C dX12_count_128 sh_132 cal_X12_freeMany lk_X12_337 ⟨Nat.le_of_ble_eq_true rfl, Nat.le_of_ble_eq_true rfl⟩ ⟨Nat.le_of_ble_eq_true rfl, Nat.le_of_ble_eq_true rfl⟩ (Nat.le_of_ble_eq_true rfl) ?_
    exact cc7 p1 p2 p3 p4 p5 p6 p7
  by_cases p8 : x1 = 7
  · refine L_tabIn C (tgt := 132) dX12_count_22 (by rw [p8]; decide) (by rw [p8]; decide) (by rw [p8]; rfl) rfl ?_
    refine L_aload_n C (i := 0) dX12_count_132 rfl rfl ?_
    refine L_iconst C (v := 0) dX12_count_133 rfl ?_
    refine L_sub [] rfl ?_
    refine L_invV1i C dX12_count_134 sh_132 cal_X12_freeMany lk_X12_337 ⟨Nat.le_of_ble_eq_true rfl, Nat.le_of_ble_eq_true rfl⟩ ⟨Nat.le_of_ble_eq_true rfl, Nat.le_of_ble_eq_true rfl⟩ (Nat.le_of_ble_eq_true rfl) ?_
    exact cc8 p1 p2 p3 p4 p5 p6 p7 p8
  by_cases p9 : x1 = 8
  · refine L_tabIn C (tgt := 138) dX12_count_22 (by rw [p9]; decide) (by rw [p9]; decide) (by rw [p9]; rfl) rfl ?_
    refine L_aload_n C (i := 0) dX12_count_138 rfl rfl ?_
    refine L_iconst C (v := 1) dX12_count_139 rfl ?_
    refine L_sub [] rfl ?_
    refine L_invV1i C dX12_count_140 sh_132 cal_X12_results lk_X12_340 ⟨Nat.le_of_ble_eq_true rfl, Nat.le_of_ble_eq_true rfl⟩ ⟨Nat.le_of_ble_eq_true rfl, Nat.le_of_ble_eq_true rfl⟩ (Nat.le_of_ble_eq_true rfl) ?_
    exact cc9 p1 p2 p3 p4 p5 p6 p7 p8 p9
  by_cases p10 : x1 = 9
  · refine L_tabIn C (tgt := 144) dX12_count_22 (by rw [p10]; decide) (by rw [p10]; decide) (by rw [p10]; rfl) rfl ?_
    refine L_aload_n C (i := 0) dX12_count_144 rfl rfl ?_
    refine L_iconst C (v := 2) dX12_count_145 rfl ?_
    refine L_sub [] rfl ?_
    refine L_invV1i C dX12_count_146 sh_132 cal_X12_results lk_X12_340 ⟨Nat.le_of_ble_eq_true rfl, Nat.le_of_ble_eq_true rfl⟩ ⟨Nat.le_of_ble_eq_true rfl, Nat.le_of_ble_eq_true rfl⟩ (Nat.le_of_ble_eq_true rfl) ?_
    exact cc10 p1 p2 p3 p4 p5 p6 p7 p8 p9 p10
  by_cases p11 : x1 = 10
  · refine L_tabIn C (tgt := 150) dX12_count_22 (by rw [p11]; decide) (by rw [p11]; decide) (by rw [p11]; rfl) rfl ?_
    refine L_aload_n C (i := 0) dX12_count_150 rfl rfl ?_
    refine L_getI C dX12_count_151 sh_132 fl_X12_165 rfl ?_
    exact L_irI C dX12_count_154 rfl (rr11 p1 p2 p3 p4 p5 p6 p7 p8 p9 p10 p11)
  by_cases p12 : x1 = 11
  · refine L_tabIn C (tgt := 155) dX12_count_22 (by rw [p12]; decide) (by rw [p12]; decide) (by rw [p12]; rfl) rfl ?_
    refine L_aload_n C (i := 0) dX12_count_155 rfl rfl ?_
    refine L_getC C (c' := 135) dX12_count_156 sh_132 fl_X12_16 rfl rfl ?_
    refine L_iconst C (v := 4) dX12_count_159 rfl ?_
    refine L_iald C dX12_count_160 sh_135 (by unfold vp_in; decide) ?_
    exact L_irI C dX12_count_161 rfl (rr12 p1 p2 p3 p4 p5 p6 p7 p8 p9 p10 p11 p12)
  by_cases p13 : x1 = 12
  · refine L_tabIn C (tgt := 162) dX12_count_22 (by rw [p13]; decide) (by rw [p13]; decide) (by rw [p13]; rfl) rfl ?_
    refine L_aload_n C (i := 0) dX12_count_162 rfl rfl ?_
    refine L_getI C dX12_count_163 sh_132 fl_X12_69 rfl ?_
    exact L_irI C dX12_count_166 rfl (rr13 p1 p2 p3 p4 p5 p6 p7 p8 p9 p10 p11 p12 p13)
  refine L_tabOut C (tgt := 167) dX12_count_22 (by have ep1 := lv_neT (a := 0) p1 rfl; have ep2 := lv_neT (a := 1) p2 rfl; have ep3 := lv_neT (a := 2) p3 rfl; have ep4 := lv_neT (a := 3) p4 rfl; have ep5 := lv_neT (a := 4) p5 rfl; have ep6 := lv_neT (a := 5) p6 rfl; have ep7 := lv_neT (a := 6) p7 rfl; have ep8 := lv_neT (a := 7) p8 rfl; have ep9 := lv_neT (a := 8) p9 rfl; have ep10 := lv_neT (a := 9) p10 rfl; have ep11 := lv_neT (a := 10) p11 rfl; have ep12 := lv_neT (a := 11) p12 rfl; have ep13 := lv_neT (a := 12) p13 rfl; omega) rfl ?_
  refine L_iconst C (v := (-1)) dX12_count_167 rfl ?_
  exact L_irI C dX12_count_168 rfl (rr14 p1 p2 p3 p4 p5 p6 p7 p8 p9 p10 p11 p12 p13)
set_option maxRecDepth 4000 in
theorem k_X12_count_111 {G : mG} {E : mE} {Q : Int32 → mM → Prop} {μ : mM} (C : Cx G mX12_count E) {sx0 : Int32} (rr1 : Q sx0 μ) : Wm G mX12_count E (bm G mX12_count E (pI Q)) μ 111 [] [.int sx0] := by
  exact L_irI C dX12_count_111 rfl (rr1)
set_option maxRecDepth 4000 in
theorem k_X12_count_131 {G : mG} {E : mE} {Q : Int32 → mM → Prop} {μ : mM} (C : Cx G mX12_count E) {sx0 : Int32} (rr1 : Q sx0 μ) : Wm G mX12_count E (bm G mX12_count E (pI Q)) μ 131 [] [.int sx0] := by
  exact L_irI C dX12_count_131 rfl (rr1)
set_option maxRecDepth 4000 in
theorem k_X12_count_137 {G : mG} {E : mE} {Q : Int32 → mM → Prop} {μ : mM} (C : Cx G mX12_count E) {sx0 : Int32} (rr1 : Q sx0 μ) : Wm G mX12_count E (bm G mX12_count E (pI Q)) μ 137 [] [.int sx0] := by
  exact L_irI C dX12_count_137 rfl (rr1)
set_option maxRecDepth 4000 in
theorem k_X12_count_143 {G : mG} {E : mE} {Q : Int32 → mM → Prop} {μ : mM} (C : Cx G mX12_count E) {sx0 : Int32} (rr1 : Q sx0 μ) : Wm G mX12_count E (bm G mX12_count E (pI Q)) μ 143 [] [.int sx0] := by
  exact L_irI C dX12_count_143 rfl (rr1)
set_option maxRecDepth 4000 in
theorem k_X12_count_149 {G : mG} {E : mE} {Q : Int32 → mM → Prop} {μ : mM} (C : Cx G mX12_count E) {sx0 : Int32} (rr1 : Q sx0 μ) : Wm G mX12_count E (bm G mX12_count E (pI Q)) μ 149 [] [.int sx0] := by
  exact L_irI C dX12_count_149 rfl (rr1)

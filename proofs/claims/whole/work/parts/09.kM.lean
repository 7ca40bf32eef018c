/-! written by wip/tools/mkk.py: steps between cut points -/
set_option maxRecDepth 4000 in
theorem k_X12_isIn_0 {G : mG} {E : mE} {Q : Int32 → mM → Prop} {μ : mM} (C : Cx G mX12_isIn E) {y0 : Int64} {y2 : Int64} {y4 : Int64} (rr1 : ((lg_cmp y0 y2) < 0 ∨ (¬ (lg_cmp y0 y2) < 0 ∧ 0 < (lg_cmp y0 y4))) → Q 0 μ) (rr2 : ¬ (lg_cmp y0 y2) < 0 → ¬ 0 < (lg_cmp y0 y4) → Q 1 μ) : Wm G mX12_isIn E (bm G mX12_isIn E (pI Q)) μ 0 [(0, .long y0), (2, .long y2), (4, .long y4)] [] := by
  refine L_lload_n C (i := 0) dX12_isIn_0 rfl rfl ?_
  refine L_lload_n C (i := 2) dX12_isIn_1 rfl rfl ?_
  refine L_lcmp C dX12_isIn_2 ?_
  refine L_if_lt C (tgt := 17) dX12_isIn_3 rfl (fun p1 => ?_) (fun p1 => ?_)
  · refine L_iconst C (v := 0) dX12_isIn_17 rfl ?_
    exact L_irZ C dX12_isIn_18 rfl (by decide) (rr1 (Or.inl p1))
  · refine L_lload_n C (i := 0) dX12_isIn_6 rfl rfl ?_
    refine L_lload C dX12_isIn_7 rfl ?_
    refine L_lcmp C dX12_isIn_9 ?_
    refine L_if_gt C (tgt := 17) dX12_isIn_10 rfl (fun p2 => ?_) (fun p2 => ?_)
    · refine L_iconst C (v := 0) dX12_isIn_17 rfl ?_
      exact L_irZ C dX12_isIn_18 rfl (by decide) (rr1 (Or.inr ⟨p1, p2⟩))
    · refine L_iconst C (v := 1) dX12_isIn_13 rfl ?_
      refine L_goto C (tgt := 18) dX12_isIn_14 rfl ?_
      exact L_irZ C dX12_isIn_18 rfl (by decide) (rr2 p1 p2)
theorem a_X12_isIn {G : mG} {Q : Int32 → mM → Prop} {μ : mM} {y0 : Int64} {y2 : Int64} {y4 : Int64} (rr1 : ((lg_cmp y0 y2) < 0 ∨ (¬ (lg_cmp y0 y2) < 0 ∧ 0 < (lg_cmp y0 y4))) → Q 0 μ) (rr2 : ¬ (lg_cmp y0 y2) < 0 → ¬ 0 < (lg_cmp y0 y4) → Q 1 μ) : CtI G mX12_isIn [.long y0, .long y2, .long y4] μ Q :=
  CtI.of pn_X12 (Nat.le_of_ble_eq_true rfl) (fun E C => k_X12_isIn_0 C rr1 rr2)
set_option maxRecDepth 4000 in
theorem k_X12_feed_0 {G : mG} {E : mE} {Q : Int32 → mM → Prop} {μ : mM} (C : Cx G mX12_feed E) {x1 : Int32} {x2 : Int32} {x3 : Int32} {x4 : Int32} {x5 : Int32} (kk1 : (μ 132 1) ≤ 180 → Wm G mX12_feed E (bm G mX12_feed E (pI Q)) μ 15 [(0, .ref (gb G + 132)), (1, .int x1), (2, .int x2), (3, .int x3), (4, .int x4), (5, .int x5), (6, .int 0)] []) (rr2 : ¬ (μ 132 1) ≤ 180 → Q (-1) μ) : Wm G mX12_feed E (bm G mX12_feed E (pI Q)) μ 0 [(0, .ref (gb G + 132)), (1, .int x1), (2, .int x2), (3, .int x3), (4, .int x4), (5, .int x5)] [] := by
  refine L_aload_n C (i := 0) dX12_feed_0 rfl rfl ?_
  refine L_getI C dX12_feed_1 sh_132 fl_X12_69 rfl ?_
  refine L_sipush C (v := 180) dX12_feed_4 rfl ?_
  refine L_icmp_le C (tgt := 12) dX12_feed_7 rfl (fun p1 => ?_) (fun p1 => ?_)
  · refine L_iconst C (v := 0) dX12_feed_12 rfl ?_
    refine L_istore C dX12_feed_13 (Nat.le_of_ble_eq_true rfl) ?_
    exact kk1 p1
  · refine L_iconst C (v := (-1)) dX12_feed_10 rfl ?_
    exact L_irI C dX12_feed_11 rfl (rr2 p1)
theorem e_X12_feed {G : mG} {Q : Int32 → mM → Prop} {μ : mM} {x1 : Int32} {x2 : Int32} {x3 : Int32} {x4 : Int32} {x5 : Int32} (k : ∀ E, Cx G mX12_feed E → Wm G mX12_feed E (bm G mX12_feed E (pI Q)) μ 0 [(0, .ref (gb G + 132)), (1, .int x1), (2, .int x2), (3, .int x3), (4, .int x4), (5, .int x5)] []) : CtI G mX12_feed [.ref (gb G + 132), .int x1, .int x2, .int x3, .int x4, .int x5] μ Q := CtI.of pn_X12 (Nat.le_of_ble_eq_true rfl) k
set_option maxRecDepth 4000 in
theorem k_X12_feed_15 {G : mG} {E : mE} {Q : Int32 → mM → Prop} {μ : mM} (C : Cx G mX12_feed E) {x1 : Int32} {x2 : Int32} {x3 : Int32} {x4 : Int32} {x5 : Int32} {x6 : Int32} (rr1 : 20 ≤ x6 → Q ((μ 132 1) + (20 : Int32)) (ms μ 132 1 ((μ 132 1) + (20 : Int32)))) (ss2 : ¬ 20 ≤ x6 → ∀ v1 : Int32, ((4 ≤ x6 ∧ 8 ≤ x6 ∧ 12 ≤ x6 ∧ 16 ≤ x6 ∧ v1 = x5) ∨ (4 ≤ x6 ∧ 8 ≤ x6 ∧ 12 ≤ x6 ∧ ¬ 16 ≤ x6 ∧ v1 = x4) ∨ (4 ≤ x6 ∧ 8 ≤ x6 ∧ ¬ 12 ≤ x6 ∧ v1 = x3) ∨ (4 ≤ x6 ∧ ¬ 8 ≤ x6 ∧ v1 = x2) ∨ (¬ 4 ≤ x6 ∧ v1 = x1)) → vp_in ((μ 132 1) + x6) 200) (kk3 : ¬ 20 ≤ x6 → ∀ v1 : Int32, ((4 ≤ x6 ∧ 8 ≤ x6 ∧ 12 ≤ x6 ∧ 16 ≤ x6 ∧ v1 = x5) ∨ (4 ≤ x6 ∧ 8 ≤ x6 ∧ 12 ≤ x6 ∧ ¬ 16 ≤ x6 ∧ v1 = x4) ∨ (4 ≤ x6 ∧ 8 ≤ x6 ∧ ¬ 12 ≤ x6 ∧ v1 = x3) ∨ (4 ≤ x6 ∧ ¬ 8 ≤ x6 ∧ v1 = x2) ∨ (¬ 4 ≤ x6 ∧ v1 = x1)) → Wm G mX12_feed E (bm G mX12_feed E (pI Q)) (ms μ 133 ((μ 132 1) + x6).toNatClampNeg (vp_nar .byte (v1 >>> (((24 : Int32) - ((8 : Int32) * (x6 - x6 / 4 * 4))) &&& 31)).toInt8.toInt32)) 15 [(0, .ref (gb G + 132)), (1, .int x1), (2, .int x2), (3, .int x3), (4, .int x4), (5, .int x5), (6, .int (x6 + (1 : Int32)))] []) : Wm G mX12_feed E (bm G mX12_feed E (pI Q)) μ 15 [(0, .ref (gb G + 132)), (1, .int x1), (2, .int x2), (3, .int x3), (4, .int x4), (5, .int x5), (6, .int x6)] [] := by
  refine L_iload C dX12_feed_15 rfl ?_
  refine L_bipush C (v := 20) dX12_feed_17 rfl ?_
  refine L_icmp_ge C (tgt := 102) dX12_feed_19 rfl (fun p1 => ?_) (fun p1 => ?_)
  · refine L_aload_n C (i := 0) dX12_feed_102 rfl rfl ?_
    refine L_dup C dX12_feed_103 rfl ?_
    refine L_getI C dX12_feed_104 sh_132 fl_X12_69 rfl ?_
    refine L_bipush C (v := 20) dX12_feed_107 rfl ?_
    refine L_iadd C dX12_feed_109 ?_
    refine L_putI C dX12_feed_110 sh_132 fl_X12_69 rfl rfl rfl ?_
    refine L_aload_n C (i := 0) dX12_feed_113 rfl rfl ?_
    refine L_getI C dX12_feed_114 sh_132 fl_X12_69 rfl ?_
    exact L_irI C dX12_feed_117 rfl (rr1 p1)
  · refine L_iload C dX12_feed_22 rfl ?_
    refine L_iconst C (v := 4) dX12_feed_24 rfl ?_
    refine phi (fun v1 : Int32 => Wm G mX12_feed E (bm G mX12_feed E (pI Q)) μ 68 [(0, .ref (gb G + 132)), (1, .int x1), (2, .int x2), (3, .int x3), (4, .int x4), (5, .int x5), (6, .int x6)] [.int v1]) (fun v1 : Int32 => (4 ≤ x6 ∧ 8 ≤ x6 ∧ 12 ≤ x6 ∧ 16 ≤ x6 ∧ v1 = x5) ∨ (4 ≤ x6 ∧ 8 ≤ x6 ∧ 12 ≤ x6 ∧ ¬ 16 ≤ x6 ∧ v1 = x4) ∨ (4 ≤ x6 ∧ 8 ≤ x6 ∧ ¬ 12 ≤ x6 ∧ v1 = x3) ∨ (4 ≤ x6 ∧ ¬ 8 ≤ x6 ∧ v1 = x2) ∨ (¬ 4 ≤ x6 ∧ v1 = x1)) (fun H => ?_) (fun v1 hv1 => ?_)
    · refine L_icmp_ge C (tgt := 32) dX12_feed_25 rfl (fun p2 => ?_) (fun p2 => ?_)
      · refine L_iload C dX12_feed_32 rfl ?_
        refine L_bipush C (v := 8) dX12_feed_34 rfl ?_
        refine L_icmp_ge C (tgt := 43) dX12_feed_36 rfl (fun p3 => ?_) (fun p3 => ?_)
        · refine L_iload C dX12_feed_43 rfl ?_
          refine L_bipush C (v := 12) dX12_feed_45 rfl ?_
          refine L_icmp_ge C (tgt := 54) dX12_feed_47 rfl (fun p4 => ?_) (fun p4 => ?_)
          · refine L_iload C dX12_feed_54 rfl ?_
            refine L_bipush C (v := 16) dX12_feed_56 rfl ?_
            refine L_icmp_ge C (tgt := 66) dX12_feed_58 rfl (fun p5 => ?_) (fun p5 => ?_)
            · refine L_iload C dX12_feed_66 rfl ?_
              exact H _ (Or.inl ⟨p2, p3, p4, p5, rfl⟩)
            · refine L_iload C dX12_feed_61 rfl ?_
              refine L_goto C (tgt := 68) dX12_feed_63 rfl ?_
              exact H _ (Or.inr (Or.inl ⟨p2, p3, p4, p5, rfl⟩))
          · refine L_iload_n C (i := 3) dX12_feed_50 rfl rfl ?_
            refine L_goto C (tgt := 68) dX12_feed_51 rfl ?_
            exact H _ (Or.inr (Or.inr (Or.inl ⟨p2, p3, p4, rfl⟩)))
        · refine L_iload_n C (i := 2) dX12_feed_39 rfl rfl ?_
          refine L_goto C (tgt := 68) dX12_feed_40 rfl ?_
          exact H _ (Or.inr (Or.inr (Or.inr (Or.inl ⟨p2, p3, rfl⟩))))
      · refine L_iload_n C (i := 1) dX12_feed_28 rfl rfl ?_
        refine L_goto C (tgt := 68) dX12_feed_29 rfl ?_
        exact H _ (Or.inr (Or.inr (Or.inr (Or.inr ⟨p2, rfl⟩))))
    refine L_istore C dX12_feed_68 (Nat.le_of_ble_eq_true rfl) ?_
    refine L_aload_n C (i := 0) dX12_feed_70 rfl rfl ?_
    refine L_getC C (c' := 133) dX12_feed_71 sh_132 fl_X12_7 rfl rfl ?_
    refine L_aload_n C (i := 0) dX12_feed_74 rfl rfl ?_
    refine L_getI C dX12_feed_75 sh_132 fl_X12_69 rfl ?_
    refine L_iload C dX12_feed_78 rfl ?_
    refine L_iadd C dX12_feed_80 ?_
    refine L_iload C dX12_feed_81 rfl ?_
    refine L_bipush C (v := 24) dX12_feed_83 rfl ?_
    refine L_bipush C (v := 8) dX12_feed_85 rfl ?_
    refine L_iload C dX12_feed_87 rfl ?_
    refine L_iconst C (v := 4) dX12_feed_89 rfl ?_
    refine L_irem C dX12_feed_90 (by decide) ?_
    refine L_imul C dX12_feed_91 ?_
    refine L_isub C dX12_feed_92 ?_
    refine L_ishr C dX12_feed_93 ?_
    refine L_i2b C dX12_feed_94 ?_
    refine L_bast C dX12_feed_95 sh_133 (ss2 p1 v1 hv1) ?_
    refine L_iinc C (v := 1) dX12_feed_96 rfl rfl (Nat.le_of_ble_eq_true rfl) ?_
    refine L_goto C (tgt := 15) dX12_feed_99 rfl ?_
    refine L_sub [0, 1, 2, 3, 4, 5, 6] rfl ?_
    exact kk3 p1 v1 hv1
set_option maxRecDepth 4000 in
theorem k_X12_end_0 {G : mG} {E : mE} {Q : Int32 → mM → Prop} {μ : mM} (C : Cx G mX12_end E) {x1 : Int32} (rr1 : ((lg_cmp x1.toInt64 0) < 0 ∨ (¬ (lg_cmp x1.toInt64 0) < 0 ∧ 0 < (lg_cmp x1.toInt64 (μ 132 1).toInt64))) → Q (-1) μ) (rr2 : ¬ (lg_cmp x1.toInt64 0) < 0 → ¬ 0 < (lg_cmp x1.toInt64 (μ 132 1).toInt64) → Q x1 (ms μ 132 1 x1)) : Wm G mX12_end E (bm G mX12_end E (pI Q)) μ 0 [(0, .ref (gb G + 132)), (1, .int x1)] [] := by
  refine L_iload_n C (i := 1) dX12_end_0 rfl rfl ?_
  refine L_i2l C dX12_end_1 ?_
  refine L_lconst C (v := 0) dX12_end_2 rfl ?_
  refine L_aload_n C (i := 0) dX12_end_3 rfl rfl ?_
  refine L_getI C dX12_end_4 sh_132 fl_X12_69 rfl ?_
  refine L_i2l C dX12_end_7 ?_
  refine L_invS3i C dX12_end_8 cal_X12_isIn stc_X12_isIn lk_X12_73 ⟨Nat.le_of_ble_eq_true rfl, Nat.le_of_ble_eq_true rfl⟩ ⟨Nat.le_of_ble_eq_true rfl, Nat.le_of_ble_eq_true rfl⟩ (Nat.le_of_ble_eq_true rfl) (a_X12_isIn (fun p1 => ?_) (fun p2 p3 => ?_))
  · refine L_if_ne C (tgt := 16) dX12_end_11 rfl (fun p4 => absurd p4 (by decide)) (fun p4 => ?_)
    refine L_iconst C (v := (-1)) dX12_end_14 rfl ?_
    exact L_irI C dX12_end_15 rfl (rr1 p1)
  · refine L_if_ne C (tgt := 16) dX12_end_11 rfl (fun p5 => ?_) (fun p5 => absurd p5 (by decide))
    refine L_aload_n C (i := 0) dX12_end_16 rfl rfl ?_
    refine L_iload_n C (i := 1) dX12_end_17 rfl rfl ?_
    refine L_putI C dX12_end_18 sh_132 fl_X12_69 rfl rfl rfl ?_
    refine L_iload_n C (i := 1) dX12_end_21 rfl rfl ?_
    exact L_irI C dX12_end_22 rfl (rr2 p2 p3)
theorem a_X12_end {G : mG} {Q : Int32 → mM → Prop} {μ : mM} {x1 : Int32} (rr1 : ((lg_cmp x1.toInt64 0) < 0 ∨ (¬ (lg_cmp x1.toInt64 0) < 0 ∧ 0 < (lg_cmp x1.toInt64 (μ 132 1).toInt64))) → Q (-1) μ) (rr2 : ¬ (lg_cmp x1.toInt64 0) < 0 → ¬ 0 < (lg_cmp x1.toInt64 (μ 132 1).toInt64) → Q x1 (ms μ 132 1 x1)) : CtI G mX12_end [.ref (gb G + 132), .int x1] μ Q :=
  CtI.of pn_X12 (Nat.le_of_ble_eq_true rfl) (fun E C => k_X12_end_0 C rr1 rr2)
set_option maxRecDepth 4000 in
theorem k_X12_fails_0 {G : mG} {E : mE} {Q : Int32 → mM → Prop} {μ : mM} (C : Cx G mX12_fails E) {x1 : Int32} {x2 : Int32} (rr1 : Q 0 (ms μ 132 3 (((8 : Int32) * x2) + x1))) : Wm G mX12_fails E (bm G mX12_fails E (pI Q)) μ 0 [(0, .ref (gb G + 132)), (1, .int x1), (2, .int x2)] [] := by
  refine L_aload_n C (i := 0) dX12_fails_0 rfl rfl ?_
  refine L_bipush C (v := 8) dX12_fails_1 rfl ?_
  refine L_iload_n C (i := 2) dX12_fails_3 rfl rfl ?_
  refine L_imul C dX12_fails_4 ?_
  refine L_iload_n C (i := 1) dX12_fails_5 rfl rfl ?_
  refine L_iadd C dX12_fails_6 ?_
  refine L_putI C dX12_fails_7 sh_132 fl_X12_77 rfl rfl rfl ?_
  refine L_iconst C (v := 0) dX12_fails_10 rfl ?_
  exact L_irZ C dX12_fails_11 rfl (by decide) (rr1)
theorem a_X12_fails {G : mG} {Q : Int32 → mM → Prop} {μ : mM} {x1 : Int32} {x2 : Int32} (rr1 : Q 0 (ms μ 132 3 (((8 : Int32) * x2) + x1))) : CtI G mX12_fails [.ref (gb G + 132), .int x1, .int x2] μ Q :=
  CtI.of pn_X12 (Nat.le_of_ble_eq_true rfl) (fun E C => k_X12_fails_0 C rr1)
set_option maxRecDepth 4000 in
theorem k_X12_byteAt_0 {G : mG} {E : mE} {Q : Int32 → mM → Prop} {μ : mM} (C : Cx G mX12_byteAt E) {x1 : Int32} (rr1 : (μ 132 1) ≤ x1 → Q (-1) μ) (ss2 : ¬ (μ 132 1) ≤ x1 → vp_in x1 200) (rr3 : ¬ (μ 132 1) ≤ x1 → Q ((μ 133 x1.toNatClampNeg) &&& (255 : Int32)) μ) : Wm G mX12_byteAt E (bm G mX12_byteAt E (pI Q)) μ 0 [(0, .ref (gb G + 132)), (1, .int x1)] [] := by
  refine L_iload_n C (i := 1) dX12_byteAt_0 rfl rfl ?_
  refine L_aload_n C (i := 0) dX12_byteAt_1 rfl rfl ?_
  refine L_getI C dX12_byteAt_2 sh_132 fl_X12_69 rfl ?_
  refine L_icmp_ge C (tgt := 21) dX12_byteAt_5 rfl (fun p1 => ?_) (fun p1 => ?_)
  · refine L_iconst C (v := (-1)) dX12_byteAt_21 rfl ?_
    exact L_irI C dX12_byteAt_22 rfl (rr1 p1)
  · refine L_aload_n C (i := 0) dX12_byteAt_8 rfl rfl ?_
    refine L_getC C (c' := 133) dX12_byteAt_9 sh_132 fl_X12_7 rfl rfl ?_
    refine L_iload_n C (i := 1) dX12_byteAt_12 rfl rfl ?_
    refine L_bald C dX12_byteAt_13 sh_133 (ss2 p1) ?_
    refine L_sipush C (v := 255) dX12_byteAt_14 rfl ?_
    refine L_iand C dX12_byteAt_17 ?_
    refine L_goto C (tgt := 22) dX12_byteAt_18 rfl ?_
    exact L_irI C dX12_byteAt_22 rfl (rr3 p1)
theorem a_X12_byteAt {G : mG} {Q : Int32 → mM → Prop} {μ : mM} {x1 : Int32} (rr1 : (μ 132 1) ≤ x1 → Q (-1) μ) (ss2 : ¬ (μ 132 1) ≤ x1 → vp_in x1 200) (rr3 : ¬ (μ 132 1) ≤ x1 → Q ((μ 133 x1.toNatClampNeg) &&& (255 : Int32)) μ) : CtI G mX12_byteAt [.ref (gb G + 132), .int x1] μ Q :=
  CtI.of pn_X12 (Nat.le_of_ble_eq_true rfl) (fun E C => k_X12_byteAt_0 C rr1 ss2 rr3)
set_option maxRecDepth 4000 in
theorem k_X12_next_0 {G : mG} {E : mE} {Q : Int32 → mM → Prop} {μ : mM} (C : Cx G mX12_next E)  (ss1 : (¬ (μ 132 1) ≤ (μ 132 2) ∨ ((μ 132 1) ≤ (μ 132 2) ∧ ¬ (μ 132 1) ≤ (μ 132 2)) ∨ (¬ (μ 132 1) ≤ (μ 132 2) ∧ ¬ ((μ 133 (μ 132 2).toNatClampNeg) &&& (255 : Int32)) = 32 ∧ ¬ (μ 132 1) ≤ (μ 132 2))) → vp_in (μ 132 2) 200) (rr2 : (((μ 132 1) ≤ (μ 132 2) ∧ (μ 132 1) ≤ (μ 132 2)) ∨ (¬ (μ 132 1) ≤ (μ 132 2) ∧ ¬ ((μ 133 (μ 132 2).toNatClampNeg) &&& (255 : Int32)) = 32 ∧ (μ 132 1) ≤ (μ 132 2))) → Q (-1) μ) (rr3 : (((μ 132 1) ≤ (μ 132 2) ∧ ¬ (μ 132 1) ≤ (μ 132 2)) ∨ (¬ (μ 132 1) ≤ (μ 132 2) ∧ ¬ ((μ 133 (μ 132 2).toNatClampNeg) &&& (255 : Int32)) = 32 ∧ ¬ (μ 132 1) ≤ (μ 132 2))) → Q ((μ 133 (μ 132 2).toNatClampNeg) &&& (255 : Int32)) μ) (kk4 : ¬ (μ 132 1) ≤ (μ 132 2) → ((μ 133 (μ 132 2).toNatClampNeg) &&& (255 : Int32)) = 32 → Wm G mX12_next E (bm G mX12_next E (pI Q)) (ms μ 132 2 ((μ 132 2) + (1 : Int32))) 0 [(0, .ref (gb G + 132))] []) : Wm G mX12_next E (bm G mX12_next E (pI Q)) μ 0 [(0, .ref (gb G + 132))] [] := by
  refine L_aload_n C (i := 0) dX12_next_0 rfl rfl ?_
  refine L_aload_n C (i := 0) dX12_next_1 rfl rfl ?_
  refine L_getI C dX12_next_2 sh_132 fl_X12_80 rfl ?_
  refine L_invV1i C dX12_next_5 sh_132 cal_X12_byteAt lk_X12_83 ⟨Nat.le_of_ble_eq_true rfl, Nat.le_of_ble_eq_true rfl⟩ ⟨Nat.le_of_ble_eq_true rfl, Nat.le_of_ble_eq_true rfl⟩ (Nat.le_of_ble_eq_true rfl) (a_X12_byteAt (fun p1 => ?_) (fun p2 => ss1 (Or.inl p2)) (fun p3 => ?_))
  · refine L_bipush C (v := 32) dX12_next_8 rfl ?_
    refine L_icmp_ne C (tgt := 26) dX12_next_10 rfl (fun p4 => ?_) (fun p4 => absurd p4 (by decide))
    refine L_aload_n C (i := 0) dX12_next_26 rfl rfl ?_
    refine L_aload_n C (i := 0) dX12_next_27 rfl rfl ?_
    refine L_getI C dX12_next_28 sh_132 fl_X12_80 rfl ?_
    refine L_invV1i C dX12_next_31 sh_132 cal_X12_byteAt lk_X12_83 ⟨Nat.le_of_ble_eq_true rfl, Nat.le_of_ble_eq_true rfl⟩ ⟨Nat.le_of_ble_eq_true rfl, Nat.le_of_ble_eq_true rfl⟩ (Nat.le_of_ble_eq_true rfl) (a_X12_byteAt (fun p5 => ?_) (fun p6 => ss1 (Or.inr (Or.inl ⟨p1, p6⟩))) (fun p7 => ?_))
    · exact L_irI C dX12_next_34 rfl (rr2 (Or.inl ⟨p1, p5⟩))
    · exact L_irI C dX12_next_34 rfl (rr3 (Or.inl ⟨p1, p7⟩))
  · refine L_bipush C (v := 32) dX12_next_8 rfl ?_
    refine L_icmp_ne C (tgt := 26) dX12_next_10 rfl (fun p8 => ?_) (fun p8 => ?_)
    · refine L_aload_n C (i := 0) dX12_next_26 rfl rfl ?_
      refine L_aload_n C (i := 0) dX12_next_27 rfl rfl ?_
      refine L_getI C dX12_next_28 sh_132 fl_X12_80 rfl ?_
      refine L_invV1i C dX12_next_31 sh_132 cal_X12_byteAt lk_X12_83 ⟨Nat.le_of_ble_eq_true rfl, Nat.le_of_ble_eq_true rfl⟩ ⟨Nat.le_of_ble_eq_true rfl, Nat.le_of_ble_eq_true rfl⟩ (Nat.le_of_ble_eq_true rfl) (a_X12_byteAt (fun p9 => ?_) (fun p10 => ss1 (Or.inr (Or.inr ⟨p3, p8, p10⟩))) (fun p11 => ?_))
      · exact L_irI C dX12_next_34 rfl (rr2 (Or.inr ⟨p3, p8, p9⟩))
      · exact L_irI C dX12_next_34 rfl (rr3 (Or.inr ⟨p3, p8, p11⟩))
    · refine L_aload_n C (i := 0) dX12_next_13 rfl rfl ?_
      refine L_dup C dX12_next_14 rfl ?_
      refine L_getI C dX12_next_15 sh_132 fl_X12_80 rfl ?_
      refine L_iconst C (v := 1) dX12_next_18 rfl ?_
      refine L_iadd C dX12_next_19 ?_
      refine L_putI C dX12_next_20 sh_132 fl_X12_80 rfl rfl rfl ?_
      refine L_goto C (tgt := 0) dX12_next_23 rfl ?_
      exact kk4 p3 p8
theorem e_X12_next {G : mG} {Q : Int32 → mM → Prop} {μ : mM}  (k : ∀ E, Cx G mX12_next E → Wm G mX12_next E (bm G mX12_next E (pI Q)) μ 0 [(0, .ref (gb G + 132))] []) : CtI G mX12_next [.ref (gb G + 132)] μ Q := CtI.of pn_X12 (Nat.le_of_ble_eq_true rfl) k
set_option maxRecDepth 4000 in
theorem k_X12_isNumber_0 {G : mG} {E : mE} {Q : Int32 → mM → Prop} {μ : mM} (C : Cx G mX12_isNumber E)  (cc1 : CtI G mX12_next [.ref (gb G + 132)] μ (fun r μ' => Wm G mX12_isNumber E (bm G mX12_isNumber E (pI Q)) μ' 4 [] [.int r])) : Wm G mX12_isNumber E (bm G mX12_isNumber E (pI Q)) μ 0 [(0, .ref (gb G + 132))] [] := by
  refine L_aload_n C (i := 0) dX12_isNumber_0 rfl rfl ?_
  refine L_sub [] rfl ?_
  refine L_invV0i C dX12_isNumber_1 sh_132 cal_X12_next lk_X12_87 ⟨Nat.le_of_ble_eq_true rfl, Nat.le_of_ble_eq_true rfl⟩ ⟨Nat.le_of_ble_eq_true rfl, Nat.le_of_ble_eq_true rfl⟩ (Nat.le_of_ble_eq_true rfl) ?_
  exact cc1
theorem e_X12_isNumber {G : mG} {Q : Int32 → mM → Prop} {μ : mM}  (k : ∀ E, Cx G mX12_isNumber E → Wm G mX12_isNumber E (bm G mX12_isNumber E (pI Q)) μ 0 [(0, .ref (gb G + 132))] []) : CtI G mX12_isNumber [.ref (gb G + 132)] μ Q := CtI.of pn_X12 (Nat.le_of_ble_eq_true rfl) k
set_option maxRecDepth 4000 in
theorem k_X12_isNumber_4 {G : mG} {E : mE} {Q : Int32 → mM → Prop} {μ : mM} (C : Cx G mX12_isNumber E) {sx0 : Int32} (rr1 : ((lg_cmp sx0.toInt64 48) < 0 ∨ (¬ (lg_cmp sx0.toInt64 48) < 0 ∧ 0 < (lg_cmp sx0.toInt64 57))) → Q 0 μ) (rr2 : ¬ (lg_cmp sx0.toInt64 48) < 0 → ¬ 0 < (lg_cmp sx0.toInt64 57) → Q 1 μ) : Wm G mX12_isNumber E (bm G mX12_isNumber E (pI Q)) μ 4 [] [.int sx0] := by
  refine L_i2l C dX12_isNumber_4 ?_
  refine L_ldc2 C dX12_isNumber_5 cn_X12_91 ?_
  refine L_ldc2 C dX12_isNumber_8 cn_X12_93 ?_
  refine L_invS3i C dX12_isNumber_11 cal_X12_isIn stc_X12_isIn lk_X12_73 ⟨Nat.le_of_ble_eq_true rfl, Nat.le_of_ble_eq_true rfl⟩ ⟨Nat.le_of_ble_eq_true rfl, Nat.le_of_ble_eq_true rfl⟩ (Nat.le_of_ble_eq_true rfl) (a_X12_isIn (fun p1 => ?_) (fun p2 p3 => ?_))
  · exact L_irZ C dX12_isNumber_14 rfl (by decide) (rr1 p1)
  · exact L_irZ C dX12_isNumber_14 rfl (by decide) (rr2 p2 p3)
set_option maxRecDepth 4000 in
theorem k_X12_wordHere_0 {G : mG} {E : mE} {Q : Int32 → mM → Prop} {μ : mM} (C : Cx G mX12_wordHere E)  (cc1 : CtI G mX12_next [.ref (gb G + 132)] μ (fun r μ' => Wm G mX12_wordHere E (bm G mX12_wordHere E (pI Q)) μ' 4 [(0, .ref (gb G + 132))] [.int r])) : Wm G mX12_wordHere E (bm G mX12_wordHere E (pI Q)) μ 0 [(0, .ref (gb G + 132))] [] := by
  refine L_aload_n C (i := 0) dX12_wordHere_0 rfl rfl ?_
  refine L_invV0i C dX12_wordHere_1 sh_132 cal_X12_next lk_X12_87 ⟨Nat.le_of_ble_eq_true rfl, Nat.le_of_ble_eq_true rfl⟩ ⟨Nat.le_of_ble_eq_true rfl, Nat.le_of_ble_eq_true rfl⟩ (Nat.le_of_ble_eq_true rfl) ?_
  exact cc1
theorem e_X12_wordHere {G : mG} {Q : Int32 → mM → Prop} {μ : mM}  (k : ∀ E, Cx G mX12_wordHere E → Wm G mX12_wordHere E (bm G mX12_wordHere E (pI Q)) μ 0 [(0, .ref (gb G + 132))] []) : CtI G mX12_wordHere [.ref (gb G + 132)] μ Q := CtI.of pn_X12 (Nat.le_of_ble_eq_true rfl) k
set_option maxRecDepth 4000 in
theorem k_X12_wordHere_4 {G : mG} {E : mE} {B : mB} {μ : mM} (C : Cx G mX12_wordHere E) {sx0 : Int32} (kk1 : Wm G mX12_wordHere E B μ 7 [(0, .ref (gb G + 132)), (1, .int 0)] []) : Wm G mX12_wordHere E B μ 4 [(0, .ref (gb G + 132))] [.int sx0] := by
  refine L_pop C dX12_wordHere_4 rfl ?_
  refine L_iconst C (v := 0) dX12_wordHere_5 rfl ?_
  refine L_istore_n C (i := 1) dX12_wordHere_6 rfl (Nat.le_of_ble_eq_true rfl) ?_
  exact kk1
set_option maxRecDepth 4000 in
theorem k_X12_wordHere_7 {G : mG} {E : mE} {Q : Int32 → mM → Prop} {μ : mM} (C : Cx G mX12_wordHere E) {x1 : Int32} (rr1 : 3 ≤ x1 → Q (-1) μ) (kk2 : ¬ 3 ≤ x1 → Wm G mX12_wordHere E (bm G mX12_wordHere E (pI Q)) μ 14 [(0, .ref (gb G + 132)), (1, .int x1), (2, .int 0)] []) : Wm G mX12_wordHere E (bm G mX12_wordHere E (pI Q)) μ 7 [(0, .ref (gb G + 132)), (1, .int x1)] [] := by
  refine L_iload_n C (i := 1) dX12_wordHere_7 rfl rfl ?_
  refine L_iconst C (v := 3) dX12_wordHere_8 rfl ?_
  refine L_icmp_ge C (tgt := 115) dX12_wordHere_9 rfl (fun p1 => ?_) (fun p1 => ?_)
  · refine L_iconst C (v := (-1)) dX12_wordHere_115 rfl ?_
    exact L_irI C dX12_wordHere_116 rfl (rr1 p1)
  · refine L_iconst C (v := 0) dX12_wordHere_12 rfl ?_
    refine L_istore_n C (i := 2) dX12_wordHere_13 rfl (Nat.le_of_ble_eq_true rfl) ?_
    exact kk2 p1
set_option maxRecDepth 4000 in
theorem k_X12_wordHere_14 {G : mG} {E : mE} {Q : Int32 → mM → Prop} {μ : mM} (C : Cx G mX12_wordHere E) {x1 : Int32} {x2 : Int32} (kk1 : (8 ≤ x2 ∨ (¬ 8 ≤ x2 ∧ ((μ 134 (((8 : Int32) * x1) + x2).toNatClampNeg) = 0 ∨ (¬ (μ 134 (((8 : Int32) * x1) + x2).toNatClampNeg) = 0 ∧ (((μ 132 1) ≤ ((μ 132 2) + x2) ∧ ¬ (-1) = (μ 134 (((8 : Int32) * x1) + x2).toNatClampNeg)) ∨ (¬ (μ 132 1) ≤ ((μ 132 2) + x2) ∧ ¬ ((μ 133 ((μ 132 2) + x2).toNatClampNeg) &&& (255 : Int32)) = (μ 134 (((8 : Int32) * x1) + x2).toNatClampNeg))))))) → Wm G mX12_wordHere E (bm G mX12_wordHere E (pI Q)) μ 64 [(0, .ref (gb G + 132)), (1, .int x1), (2, .int x2)] []) (ss2 : ¬ 8 ≤ x2 → vp_in (((8 : Int32) * x1) + x2) 24) (ss3 : ¬ 8 ≤ x2 → ¬ (μ 134 (((8 : Int32) * x1) + x2).toNatClampNeg) = 0 → ¬ (μ 132 1) ≤ ((μ 132 2) + x2) → vp_in ((μ 132 2) + x2) 200) (kk4 : ¬ 8 ≤ x2 → ¬ (μ 134 (((8 : Int32) * x1) + x2).toNatClampNeg) = 0 → (((μ 132 1) ≤ ((μ 132 2) + x2) ∧ (-1) = (μ 134 (((8 : Int32) * x1) + x2).toNatClampNeg)) ∨ (¬ (μ 132 1) ≤ ((μ 132 2) + x2) ∧ ((μ 133 ((μ 132 2) + x2).toNatClampNeg) &&& (255 : Int32)) = (μ 134 (((8 : Int32) * x1) + x2).toNatClampNeg))) → Wm G mX12_wordHere E (bm G mX12_wordHere E (pI Q)) μ 14 [(0, .ref (gb G + 132)), (1, .int x1), (2, .int (x2 + (1 : Int32)))] []) : Wm G mX12_wordHere E (bm G mX12_wordHere E (pI Q)) μ 14 [(0, .ref (gb G + 132)), (1, .int x1), (2, .int x2)] [] := by
  refine L_iload_n C (i := 2) dX12_wordHere_14 rfl rfl ?_
  refine L_bipush C (v := 8) dX12_wordHere_15 rfl ?_
  refine L_icmp_ge C (tgt := 64) dX12_wordHere_17 rfl (fun p1 => ?_) (fun p1 => ?_)
  · exact kk1 (Or.inl p1)
  · refine L_aload_n C (i := 0) dX12_wordHere_20 rfl rfl ?_
    refine L_getC C (c' := 134) dX12_wordHere_21 sh_132 fl_X12_13 rfl rfl ?_
    refine L_bipush C (v := 8) dX12_wordHere_24 rfl ?_
    refine L_iload_n C (i := 1) dX12_wordHere_26 rfl rfl ?_
    refine L_imul C dX12_wordHere_27 ?_
    refine L_iload_n C (i := 2) dX12_wordHere_28 rfl rfl ?_
    refine L_iadd C dX12_wordHere_29 ?_
    refine L_bald C dX12_wordHere_30 sh_134 (ss2 p1) ?_
    refine L_if_eq C (tgt := 64) dX12_wordHere_31 rfl (fun p2 => ?_) (fun p2 => ?_)
    · exact kk1 (Or.inr ⟨p1, (Or.inl p2)⟩)
    · refine L_aload_n C (i := 0) dX12_wordHere_34 rfl rfl ?_
      refine L_aload_n C (i := 0) dX12_wordHere_35 rfl rfl ?_
      refine L_getI C dX12_wordHere_36 sh_132 fl_X12_80 rfl ?_
      refine L_iload_n C (i := 2) dX12_wordHere_39 rfl rfl ?_
      refine L_iadd C dX12_wordHere_40 ?_
      refine L_invV1i C dX12_wordHere_41 sh_132 cal_X12_byteAt lk_X12_83 ⟨Nat.le_of_ble_eq_true rfl, Nat.le_of_ble_eq_true rfl⟩ ⟨Nat.le_of_ble_eq_true rfl, Nat.le_of_ble_eq_true rfl⟩ (Nat.le_of_ble_eq_true rfl) (a_X12_byteAt (fun p3 => ?_) (fun p4 => ss3 p1 p2 p4) (fun p5 => ?_))
      · refine L_aload_n C (i := 0) dX12_wordHere_44 rfl rfl ?_
        refine L_getC C (c' := 134) dX12_wordHere_45 sh_132 fl_X12_13 rfl rfl ?_
        refine L_bipush C (v := 8) dX12_wordHere_48 rfl ?_
        refine L_iload_n C (i := 1) dX12_wordHere_50 rfl rfl ?_
        refine L_imul C dX12_wordHere_51 ?_
        refine L_iload_n C (i := 2) dX12_wordHere_52 rfl rfl ?_
        refine L_iadd C dX12_wordHere_53 ?_
        refine L_bald C dX12_wordHere_54 sh_134 (ss2 p1) ?_
        refine L_icmp_ne C (tgt := 64) dX12_wordHere_55 rfl (fun p6 => ?_) (fun p6 => ?_)
        · exact kk1 (Or.inr ⟨p1, (Or.inr ⟨p2, (Or.inl ⟨p3, p6⟩)⟩)⟩)
        · refine L_iinc C (v := 1) dX12_wordHere_58 rfl rfl (Nat.le_of_ble_eq_true rfl) ?_
          refine L_goto C (tgt := 14) dX12_wordHere_61 rfl ?_
          exact kk4 p1 p2 (Or.inl ⟨p3, p6⟩)
      · refine L_aload_n C (i := 0) dX12_wordHere_44 rfl rfl ?_
        refine L_getC C (c' := 134) dX12_wordHere_45 sh_132 fl_X12_13 rfl rfl ?_
        refine L_bipush C (v := 8) dX12_wordHere_48 rfl ?_
        refine L_iload_n C (i := 1) dX12_wordHere_50 rfl rfl ?_
        refine L_imul C dX12_wordHere_51 ?_
        refine L_iload_n C (i := 2) dX12_wordHere_52 rfl rfl ?_
        refine L_iadd C dX12_wordHere_53 ?_
        refine L_bald C dX12_wordHere_54 sh_134 (ss2 p1) ?_
        refine L_icmp_ne C (tgt := 64) dX12_wordHere_55 rfl (fun p7 => ?_) (fun p7 => ?_)
        · exact kk1 (Or.inr ⟨p1, (Or.inr ⟨p2, (Or.inr ⟨p5, p7⟩)⟩)⟩)
        · refine L_iinc C (v := 1) dX12_wordHere_58 rfl rfl (Nat.le_of_ble_eq_true rfl) ?_
          refine L_goto C (tgt := 14) dX12_wordHere_61 rfl ?_
          exact kk4 p1 p2 (Or.inr ⟨p5, p7⟩)
set_option maxRecDepth 4000 in
theorem k_X12_wordHere_64 {G : mG} {E : mE} {B : mB} {μ : mM} (C : Cx G mX12_wordHere E) {x1 : Int32} {x2 : Int32} (kk1 : (x2 = 8 ∨ (¬ x2 = 8 ∧ (μ 134 (((8 : Int32) * x1) + x2).toNatClampNeg) = 0)) → Wm G mX12_wordHere E B μ 84 [(0, .ref (gb G + 132)), (1, .int x1), (2, .int x2)] []) (ss2 : ¬ x2 = 8 → vp_in (((8 : Int32) * x1) + x2) 24) (kk3 : ¬ x2 = 8 → ¬ (μ 134 (((8 : Int32) * x1) + x2).toNatClampNeg) = 0 → Wm G mX12_wordHere E B μ 7 [(0, .ref (gb G + 132)), (1, .int (x1 + (1 : Int32)))] []) : Wm G mX12_wordHere E B μ 64 [(0, .ref (gb G + 132)), (1, .int x1), (2, .int x2)] [] := by
  refine L_iload_n C (i := 2) dX12_wordHere_64 rfl rfl ?_
  refine L_bipush C (v := 8) dX12_wordHere_65 rfl ?_
  refine L_icmp_eq C (tgt := 84) dX12_wordHere_67 rfl (fun p1 => ?_) (fun p1 => ?_)
  · exact kk1 (Or.inl p1)
  · refine L_aload_n C (i := 0) dX12_wordHere_70 rfl rfl ?_
    refine L_getC C (c' := 134) dX12_wordHere_71 sh_132 fl_X12_13 rfl rfl ?_
    refine L_bipush C (v := 8) dX12_wordHere_74 rfl ?_
    refine L_iload_n C (i := 1) dX12_wordHere_76 rfl rfl ?_
    refine L_imul C dX12_wordHere_77 ?_
    refine L_iload_n C (i := 2) dX12_wordHere_78 rfl rfl ?_
    refine L_iadd C dX12_wordHere_79 ?_
    refine L_bald C dX12_wordHere_80 sh_134 (ss2 p1) ?_
    refine L_if_ne C (tgt := 109) dX12_wordHere_81 rfl (fun p2 => ?_) (fun p2 => ?_)
    · refine L_iinc C (v := 1) dX12_wordHere_109 rfl rfl (Nat.le_of_ble_eq_true rfl) ?_
      refine L_goto C (tgt := 7) dX12_wordHere_112 rfl ?_
      refine L_sub [0, 1] rfl ?_
      exact kk3 p1 p2
    · exact kk1 (Or.inr ⟨p1, p2⟩)
set_option maxRecDepth 4000 in
theorem k_X12_wordHere_84 {G : mG} {E : mE} {Q : Int32 → mM → Prop} {μ : mM} (C : Cx G mX12_wordHere E) {x1 : Int32} {x2 : Int32} (ss1 : ¬ (μ 132 1) ≤ ((μ 132 2) + x2) → vp_in ((μ 132 2) + x2) 200) (rr2 : (((μ 132 1) ≤ ((μ 132 2) + x2) ∧ ((lg_cmp ((-1) : Int32).toInt64 97) < 0 ∨ (¬ (lg_cmp ((-1) : Int32).toInt64 97) < 0 ∧ 0 < (lg_cmp ((-1) : Int32).toInt64 122)))) ∨ (¬ (μ 132 1) ≤ ((μ 132 2) + x2) ∧ ((lg_cmp ((μ 133 ((μ 132 2) + x2).toNatClampNeg) &&& (255 : Int32)).toInt64 97) < 0 ∨ (¬ (lg_cmp ((μ 133 ((μ 132 2) + x2).toNatClampNeg) &&& (255 : Int32)).toInt64 97) < 0 ∧ 0 < (lg_cmp ((μ 133 ((μ 132 2) + x2).toNatClampNeg) &&& (255 : Int32)).toInt64 122))))) → Q x1 μ) (kk3 : (((μ 132 1) ≤ ((μ 132 2) + x2) ∧ ¬ (lg_cmp ((-1) : Int32).toInt64 97) < 0 ∧ ¬ 0 < (lg_cmp ((-1) : Int32).toInt64 122)) ∨ (¬ (μ 132 1) ≤ ((μ 132 2) + x2) ∧ ¬ (lg_cmp ((μ 133 ((μ 132 2) + x2).toNatClampNeg) &&& (255 : Int32)).toInt64 97) < 0 ∧ ¬ 0 < (lg_cmp ((μ 133 ((μ 132 2) + x2).toNatClampNeg) &&& (255 : Int32)).toInt64 122))) → Wm G mX12_wordHere E (bm G mX12_wordHere E (pI Q)) μ 7 [(0, .ref (gb G + 132)), (1, .int (x1 + (1 : Int32)))] []) : Wm G mX12_wordHere E (bm G mX12_wordHere E (pI Q)) μ 84 [(0, .ref (gb G + 132)), (1, .int x1), (2, .int x2)] [] := by
  refine L_aload_n C (i := 0) dX12_wordHere_84 rfl rfl ?_
  refine L_aload_n C (i := 0) dX12_wordHere_85 rfl rfl ?_
  refine L_getI C dX12_wordHere_86 sh_132 fl_X12_80 rfl ?_
  refine L_iload_n C (i := 2) dX12_wordHere_89 rfl rfl ?_
  refine L_iadd C dX12_wordHere_90 ?_
  refine L_invV1i C dX12_wordHere_91 sh_132 cal_X12_byteAt lk_X12_83 ⟨Nat.le_of_ble_eq_true rfl, Nat.le_of_ble_eq_true rfl⟩ ⟨Nat.le_of_ble_eq_true rfl, Nat.le_of_ble_eq_true rfl⟩ (Nat.le_of_ble_eq_true rfl) (a_X12_byteAt (fun p1 => ?_) (fun p2 => ss1 p2) (fun p3 => ?_))
  · refine L_i2l C dX12_wordHere_94 ?_
    refine L_ldc2 C dX12_wordHere_95 cn_X12_95 ?_
    refine L_ldc2 C dX12_wordHere_98 cn_X12_97 ?_
    refine L_invS3i C dX12_wordHere_101 cal_X12_isIn stc_X12_isIn lk_X12_73 ⟨Nat.le_of_ble_eq_true rfl, Nat.le_of_ble_eq_true rfl⟩ ⟨Nat.le_of_ble_eq_true rfl, Nat.le_of_ble_eq_true rfl⟩ (Nat.le_of_ble_eq_true rfl) (a_X12_isIn (fun p4 => ?_) (fun p5 p6 => ?_))
    · refine L_if_ne C (tgt := 109) dX12_wordHere_104 rfl (fun p7 => absurd p7 (by decide)) (fun p7 => ?_)
      refine L_iload_n C (i := 1) dX12_wordHere_107 rfl rfl ?_
      exact L_irI C dX12_wordHere_108 rfl (rr2 (Or.inl ⟨p1, p4⟩))
    · refine L_if_ne C (tgt := 109) dX12_wordHere_104 rfl (fun p8 => ?_) (fun p8 => absurd p8 (by decide))
      refine L_iinc C (v := 1) dX12_wordHere_109 rfl rfl (Nat.le_of_ble_eq_true rfl) ?_
      refine L_goto C (tgt := 7) dX12_wordHere_112 rfl ?_
      refine L_sub [0, 1] rfl ?_
      exact kk3 (Or.inl ⟨p1, p5, p6⟩)
  · refine L_i2l C dX12_wordHere_94 ?_
    refine L_ldc2 C dX12_wordHere_95 cn_X12_95 ?_
    refine L_ldc2 C dX12_wordHere_98 cn_X12_97 ?_
    refine L_invS3i C dX12_wordHere_101 cal_X12_isIn stc_X12_isIn lk_X12_73 ⟨Nat.le_of_ble_eq_true rfl, Nat.le_of_ble_eq_true rfl⟩ ⟨Nat.le_of_ble_eq_true rfl, Nat.le_of_ble_eq_true rfl⟩ (Nat.le_of_ble_eq_true rfl) (a_X12_isIn (fun p9 => ?_) (fun p10 p11 => ?_))
    · refine L_if_ne C (tgt := 109) dX12_wordHere_104 rfl (fun p12 => absurd p12 (by decide)) (fun p12 => ?_)
      refine L_iload_n C (i := 1) dX12_wordHere_107 rfl rfl ?_
      exact L_irI C dX12_wordHere_108 rfl (rr2 (Or.inr ⟨p3, p9⟩))
    · refine L_if_ne C (tgt := 109) dX12_wordHere_104 rfl (fun p13 => ?_) (fun p13 => absurd p13 (by decide))
      refine L_iinc C (v := 1) dX12_wordHere_109 rfl rfl (Nat.le_of_ble_eq_true rfl) ?_
      refine L_goto C (tgt := 7) dX12_wordHere_112 rfl ?_
      refine L_sub [0, 1] rfl ?_
      exact kk3 (Or.inr ⟨p3, p10, p11⟩)
set_option maxRecDepth 4000 in
theorem k_X12_passesWord_0 {G : mG} {E : mE} {Q : mM → Prop} {μ : mM} (C : Cx G mX12_passesWord E)  (ss1 : ¬ (μ 132 1) ≤ (μ 132 2) → vp_in (μ 132 2) 200) (rr2 : (((μ 132 1) ≤ (μ 132 2) ∧ ((lg_cmp ((-1) : Int32).toInt64 97) < 0 ∨ (¬ (lg_cmp ((-1) : Int32).toInt64 97) < 0 ∧ 0 < (lg_cmp ((-1) : Int32).toInt64 122)))) ∨ (¬ (μ 132 1) ≤ (μ 132 2) ∧ ((lg_cmp ((μ 133 (μ 132 2).toNatClampNeg) &&& (255 : Int32)).toInt64 97) < 0 ∨ (¬ (lg_cmp ((μ 133 (μ 132 2).toNatClampNeg) &&& (255 : Int32)).toInt64 97) < 0 ∧ 0 < (lg_cmp ((μ 133 (μ 132 2).toNatClampNeg) &&& (255 : Int32)).toInt64 122))))) → Q μ) (kk3 : (((μ 132 1) ≤ (μ 132 2) ∧ ¬ (lg_cmp ((-1) : Int32).toInt64 97) < 0 ∧ ¬ 0 < (lg_cmp ((-1) : Int32).toInt64 122)) ∨ (¬ (μ 132 1) ≤ (μ 132 2) ∧ ¬ (lg_cmp ((μ 133 (μ 132 2).toNatClampNeg) &&& (255 : Int32)).toInt64 97) < 0 ∧ ¬ 0 < (lg_cmp ((μ 133 (μ 132 2).toNatClampNeg) &&& (255 : Int32)).toInt64 122))) → Wm G mX12_passesWord E (bm G mX12_passesWord E (pV Q)) (ms μ 132 2 ((μ 132 2) + (1 : Int32))) 0 [(0, .ref (gb G + 132))] []) : Wm G mX12_passesWord E (bm G mX12_passesWord E (pV Q)) μ 0 [(0, .ref (gb G + 132))] [] := by
  refine L_aload_n C (i := 0) dX12_passesWord_0 rfl rfl ?_
  refine L_aload_n C (i := 0) dX12_passesWord_1 rfl rfl ?_
  refine L_getI C dX12_passesWord_2 sh_132 fl_X12_80 rfl ?_
  refine L_invV1i C dX12_passesWord_5 sh_132 cal_X12_byteAt lk_X12_83 ⟨Nat.le_of_ble_eq_true rfl, Nat.le_of_ble_eq_true rfl⟩ ⟨Nat.le_of_ble_eq_true rfl, Nat.le_of_ble_eq_true rfl⟩ (Nat.le_of_ble_eq_true rfl) (a_X12_byteAt (fun p1 => ?_) (fun p2 => ss1 p2) (fun p3 => ?_))
  · refine L_i2l C dX12_passesWord_8 ?_
    refine L_ldc2 C dX12_passesWord_9 cn_X12_95 ?_
    refine L_ldc2 C dX12_passesWord_12 cn_X12_97 ?_
    refine L_invS3i C dX12_passesWord_15 cal_X12_isIn stc_X12_isIn lk_X12_73 ⟨Nat.le_of_ble_eq_true rfl, Nat.le_of_ble_eq_true rfl⟩ ⟨Nat.le_of_ble_eq_true rfl, Nat.le_of_ble_eq_true rfl⟩ (Nat.le_of_ble_eq_true rfl) (a_X12_isIn (fun p4 => ?_) (fun p5 p6 => ?_))
    · refine L_if_eq C (tgt := 34) dX12_passesWord_18 rfl (fun p7 => ?_) (fun p7 => absurd p7 (by decide))
      exact L_irV C dX12_passesWord_34 rfl (rr2 (Or.inl ⟨p1, p4⟩))
    · refine L_if_eq C (tgt := 34) dX12_passesWord_18 rfl (fun p8 => absurd p8 (by decide)) (fun p8 => ?_)
      refine L_aload_n C (i := 0) dX12_passesWord_21 rfl rfl ?_
      refine L_dup C dX12_passesWord_22 rfl ?_
      refine L_getI C dX12_passesWord_23 sh_132 fl_X12_80 rfl ?_
      refine L_iconst C (v := 1) dX12_passesWord_26 rfl ?_
      refine L_iadd C dX12_passesWord_27 ?_
      refine L_putI C dX12_passesWord_28 sh_132 fl_X12_80 rfl rfl rfl ?_
      refine L_goto C (tgt := 0) dX12_passesWord_31 rfl ?_
      exact kk3 (Or.inl ⟨p1, p5, p6⟩)
  · refine L_i2l C dX12_passesWord_8 ?_
    refine L_ldc2 C dX12_passesWord_9 cn_X12_95 ?_
    refine L_ldc2 C dX12_passesWord_12 cn_X12_97 ?_
    refine L_invS3i C dX12_passesWord_15 cal_X12_isIn stc_X12_isIn lk_X12_73 ⟨Nat.le_of_ble_eq_true rfl, Nat.le_of_ble_eq_true rfl⟩ ⟨Nat.le_of_ble_eq_true rfl, Nat.le_of_ble_eq_true rfl⟩ (Nat.le_of_ble_eq_true rfl) (a_X12_isIn (fun p9 => ?_) (fun p10 p11 => ?_))
    · refine L_if_eq C (tgt := 34) dX12_passesWord_18 rfl (fun p12 => ?_) (fun p12 => absurd p12 (by decide))
      exact L_irV C dX12_passesWord_34 rfl (rr2 (Or.inr ⟨p3, p9⟩))
    · refine L_if_eq C (tgt := 34) dX12_passesWord_18 rfl (fun p13 => absurd p13 (by decide)) (fun p13 => ?_)
      refine L_aload_n C (i := 0) dX12_passesWord_21 rfl rfl ?_
      refine L_dup C dX12_passesWord_22 rfl ?_
      refine L_getI C dX12_passesWord_23 sh_132 fl_X12_80 rfl ?_
      refine L_iconst C (v := 1) dX12_passesWord_26 rfl ?_
      refine L_iadd C dX12_passesWord_27 ?_
      refine L_putI C dX12_passesWord_28 sh_132 fl_X12_80 rfl rfl rfl ?_
      refine L_goto C (tgt := 0) dX12_passesWord_31 rfl ?_
      exact kk3 (Or.inr ⟨p3, p10, p11⟩)
theorem e_X12_passesWord {G : mG} {Q : mM → Prop} {μ : mM}  (k : ∀ E, Cx G mX12_passesWord E → Wm G mX12_passesWord E (bm G mX12_passesWord E (pV Q)) μ 0 [(0, .ref (gb G + 132))] []) : CtV G mX12_passesWord [.ref (gb G + 132)] μ Q := CtV.of pn_X12 (Nat.le_of_ble_eq_true rfl) k
set_option maxRecDepth 4000 in
theorem k_X12_readsNumber_0 {G : mG} {E : mE} {Q : Int32 → mM → Prop} {μ : mM} (C : Cx G mX12_readsNumber E)  (cc1 : CtI G mX12_isNumber [.ref (gb G + 132)] μ (fun r μ' => Wm G mX12_readsNumber E (bm G mX12_readsNumber E (pI Q)) μ' 4 [(0, .ref (gb G + 132))] [.int r])) : Wm G mX12_readsNumber E (bm G mX12_readsNumber E (pI Q)) μ 0 [(0, .ref (gb G + 132))] [] := by
  refine L_aload_n C (i := 0) dX12_readsNumber_0 rfl rfl ?_
  refine L_invV0i C dX12_readsNumber_1 sh_132 cal_X12_isNumber lk_X12_99 ⟨Nat.le_of_ble_eq_true rfl, Nat.le_of_ble_eq_true rfl⟩ ⟨Nat.le_of_ble_eq_true rfl, Nat.le_of_ble_eq_true rfl⟩ (Nat.le_of_ble_eq_true rfl) ?_
  exact cc1
theorem e_X12_readsNumber {G : mG} {Q : Int32 → mM → Prop} {μ : mM}  (k : ∀ E, Cx G mX12_readsNumber E → Wm G mX12_readsNumber E (bm G mX12_readsNumber E (pI Q)) μ 0 [(0, .ref (gb G + 132))] []) : CtI G mX12_readsNumber [.ref (gb G + 132)] μ Q := CtI.of pn_X12 (Nat.le_of_ble_eq_true rfl) k
set_option maxRecDepth 4000 in
theorem k_X12_readsNumber_4 {G : mG} {E : mE} {Q : Int32 → mM → Prop} {μ : mM} (C : Cx G mX12_readsNumber E) {sx0 : Int32} (kk1 : ¬ sx0 = 0 → Wm G mX12_readsNumber E (bm G mX12_readsNumber E (pI Q)) (ms μ 132 6 (μ 132 2)) 27 [(0, .ref (gb G + 132)), (1, .long 0)] []) (rr2 : sx0 = 0 → Q 0 (ms μ 132 3 (((8 : Int32) * (μ 132 2)) + (1 : Int32)))) : Wm G mX12_readsNumber E (bm G mX12_readsNumber E (pI Q)) μ 4 [(0, .ref (gb G + 132))] [.int sx0] := by
  refine L_if_ne C (tgt := 17) dX12_readsNumber_4 rfl (fun p1 => ?_) (fun p1 => ?_)
  · refine L_aload_n C (i := 0) dX12_readsNumber_17 rfl rfl ?_
    refine L_aload_n C (i := 0) dX12_readsNumber_18 rfl rfl ?_
    refine L_getI C dX12_readsNumber_19 sh_132 fl_X12_80 rfl ?_
    refine L_putI C dX12_readsNumber_22 sh_132 fl_X12_107 rfl rfl rfl ?_
    refine L_lconst C (v := 0) dX12_readsNumber_25 rfl ?_
    refine L_lstore_n C (i := 1) dX12_readsNumber_26 rfl (Nat.le_of_ble_eq_true rfl) ?_
    exact kk1 p1
  · refine L_aload_n C (i := 0) dX12_readsNumber_7 rfl rfl ?_
    refine L_iconst C (v := 1) dX12_readsNumber_8 rfl ?_
    refine L_aload_n C (i := 0) dX12_readsNumber_9 rfl rfl ?_
    refine L_getI C dX12_readsNumber_10 sh_132 fl_X12_80 rfl ?_
    refine L_invV2i C dX12_readsNumber_13 sh_132 cal_X12_fails lk_X12_103 ⟨Nat.le_of_ble_eq_true rfl, Nat.le_of_ble_eq_true rfl⟩ ⟨Nat.le_of_ble_eq_true rfl, Nat.le_of_ble_eq_true rfl⟩ (Nat.le_of_ble_eq_true rfl) (a_X12_fails (?_))
    · exact L_irZ C dX12_readsNumber_16 rfl (by decide) (rr2 p1)
set_option maxRecDepth 4000 in
theorem k_X12_readsNumber_27 {G : mG} {E : mE} {Q : Int32 → mM → Prop} {μ : mM} (C : Cx G mX12_readsNumber E) {y1 : Int64} (ss1 : (¬ (μ 132 1) ≤ (μ 132 2) ∨ ((μ 132 1) ≤ (μ 132 2) ∧ ¬ (lg_cmp ((-1) : Int32).toInt64 48) < 0 ∧ ¬ 0 < (lg_cmp ((-1) : Int32).toInt64 57) ∧ (lg_cmp y1 9999) ≤ 0 ∧ ¬ (μ 132 1) ≤ (μ 132 2)) ∨ (¬ (μ 132 1) ≤ (μ 132 2) ∧ ¬ (lg_cmp ((μ 133 (μ 132 2).toNatClampNeg) &&& (255 : Int32)).toInt64 48) < 0 ∧ ¬ 0 < (lg_cmp ((μ 133 (μ 132 2).toNatClampNeg) &&& (255 : Int32)).toInt64 57) ∧ (lg_cmp y1 9999) ≤ 0 ∧ ¬ (μ 132 1) ≤ (μ 132 2))) → vp_in (μ 132 2) 200) (rr2 : (((μ 132 1) ≤ (μ 132 2) ∧ ((lg_cmp ((-1) : Int32).toInt64 48) < 0 ∨ (¬ (lg_cmp ((-1) : Int32).toInt64 48) < 0 ∧ 0 < (lg_cmp ((-1) : Int32).toInt64 57)))) ∨ (¬ (μ 132 1) ≤ (μ 132 2) ∧ ((lg_cmp ((μ 133 (μ 132 2).toNatClampNeg) &&& (255 : Int32)).toInt64 48) < 0 ∨ (¬ (lg_cmp ((μ 133 (μ 132 2).toNatClampNeg) &&& (255 : Int32)).toInt64 48) < 0 ∧ 0 < (lg_cmp ((μ 133 (μ 132 2).toNatClampNeg) &&& (255 : Int32)).toInt64 57))))) → Q 1 (ms μ 132 5 y1.toInt32)) (kk3 : (((μ 132 1) ≤ (μ 132 2) ∧ ¬ (lg_cmp ((-1) : Int32).toInt64 48) < 0 ∧ ¬ 0 < (lg_cmp ((-1) : Int32).toInt64 57) ∧ (lg_cmp y1 9999) ≤ 0 ∧ (μ 132 1) ≤ (μ 132 2)) ∨ (¬ (μ 132 1) ≤ (μ 132 2) ∧ ¬ (lg_cmp ((μ 133 (μ 132 2).toNatClampNeg) &&& (255 : Int32)).toInt64 48) < 0 ∧ ¬ 0 < (lg_cmp ((μ 133 (μ 132 2).toNatClampNeg) &&& (255 : Int32)).toInt64 57) ∧ (lg_cmp y1 9999) ≤ 0 ∧ (μ 132 1) ≤ (μ 132 2))) → Wm G mX12_readsNumber E (bm G mX12_readsNumber E (pI Q)) (ms μ 132 2 ((μ 132 2) + (1 : Int32))) 27 [(0, .ref (gb G + 132)), (1, .long ((((10 : Int64) * y1) + ((-1) : Int32).toInt64) - (48 : Int64)))] []) (kk4 : (((μ 132 1) ≤ (μ 132 2) ∧ ¬ (lg_cmp ((-1) : Int32).toInt64 48) < 0 ∧ ¬ 0 < (lg_cmp ((-1) : Int32).toInt64 57) ∧ (lg_cmp y1 9999) ≤ 0 ∧ ¬ (μ 132 1) ≤ (μ 132 2)) ∨ (¬ (μ 132 1) ≤ (μ 132 2) ∧ ¬ (lg_cmp ((μ 133 (μ 132 2).toNatClampNeg) &&& (255 : Int32)).toInt64 48) < 0 ∧ ¬ 0 < (lg_cmp ((μ 133 (μ 132 2).toNatClampNeg) &&& (255 : Int32)).toInt64 57) ∧ (lg_cmp y1 9999) ≤ 0 ∧ ¬ (μ 132 1) ≤ (μ 132 2))) → Wm G mX12_readsNumber E (bm G mX12_readsNumber E (pI Q)) (ms μ 132 2 ((μ 132 2) + (1 : Int32))) 27 [(0, .ref (gb G + 132)), (1, .long ((((10 : Int64) * y1) + ((μ 133 (μ 132 2).toNatClampNeg) &&& (255 : Int32)).toInt64) - (48 : Int64)))] []) (kk5 : (((μ 132 1) ≤ (μ 132 2) ∧ ¬ (lg_cmp ((-1) : Int32).toInt64 48) < 0 ∧ ¬ 0 < (lg_cmp ((-1) : Int32).toInt64 57) ∧ ¬ (lg_cmp y1 9999) ≤ 0) ∨ (¬ (μ 132 1) ≤ (μ 132 2) ∧ ¬ (lg_cmp ((μ 133 (μ 132 2).toNatClampNeg) &&& (255 : Int32)).toInt64 48) < 0 ∧ ¬ 0 < (lg_cmp ((μ 133 (μ 132 2).toNatClampNeg) &&& (255 : Int32)).toInt64 57) ∧ ¬ (lg_cmp y1 9999) ≤ 0)) → Wm G mX12_readsNumber E (bm G mX12_readsNumber E (pI Q)) (ms μ 132 2 ((μ 132 2) + (1 : Int32))) 27 [(0, .ref (gb G + 132)), (1, .long y1)] []) : Wm G mX12_readsNumber E (bm G mX12_readsNumber E (pI Q)) μ 27 [(0, .ref (gb G + 132)), (1, .long y1)] [] := by
  refine L_aload_n C (i := 0) dX12_readsNumber_27 rfl rfl ?_
  refine L_aload_n C (i := 0) dX12_readsNumber_28 rfl rfl ?_
  refine L_getI C dX12_readsNumber_29 sh_132 fl_X12_80 rfl ?_
  refine L_invV1i C dX12_readsNumber_32 sh_132 cal_X12_byteAt lk_X12_83 ⟨Nat.le_of_ble_eq_true rfl, Nat.le_of_ble_eq_true rfl⟩ ⟨Nat.le_of_ble_eq_true rfl, Nat.le_of_ble_eq_true rfl⟩ (Nat.le_of_ble_eq_true rfl) (a_X12_byteAt (fun p1 => ?_) (fun p2 => ss1 (Or.inl p2)) (fun p3 => ?_))
  · refine L_i2l C dX12_readsNumber_35 ?_
    refine L_ldc2 C dX12_readsNumber_36 cn_X12_91 ?_
    refine L_ldc2 C dX12_readsNumber_39 cn_X12_93 ?_
    refine L_invS3i C dX12_readsNumber_42 cal_X12_isIn stc_X12_isIn lk_X12_73 ⟨Nat.le_of_ble_eq_true rfl, Nat.le_of_ble_eq_true rfl⟩ ⟨Nat.le_of_ble_eq_true rfl, Nat.le_of_ble_eq_true rfl⟩ (Nat.le_of_ble_eq_true rfl) (a_X12_isIn (fun p4 => ?_) (fun p5 p6 => ?_))
    · refine L_if_eq C (tgt := 93) dX12_readsNumber_45 rfl (fun p7 => ?_) (fun p7 => absurd p7 (by decide))
      refine L_aload_n C (i := 0) dX12_readsNumber_93 rfl rfl ?_
      refine L_lload_n C (i := 1) dX12_readsNumber_94 rfl rfl ?_
      refine L_l2i C dX12_readsNumber_95 ?_
      refine L_putI C dX12_readsNumber_96 sh_132 fl_X12_114 rfl rfl rfl ?_
      refine L_iconst C (v := 1) dX12_readsNumber_99 rfl ?_
      exact L_irZ C dX12_readsNumber_100 rfl (by decide) (rr2 (Or.inl ⟨p1, p4⟩))
    · refine L_if_eq C (tgt := 93) dX12_readsNumber_45 rfl (fun p8 => absurd p8 (by decide)) (fun p8 => ?_)
      refine L_lload_n C (i := 1) dX12_readsNumber_48 rfl rfl ?_
      refine L_ldc2 C dX12_readsNumber_49 cn_X12_110 ?_
      refine L_lcmp C dX12_readsNumber_52 ?_
      refine L_if_le C (tgt := 60) dX12_readsNumber_53 rfl (fun p9 => ?_) (fun p9 => ?_)
      · refine L_ldc2 C dX12_readsNumber_60 cn_X12_112 ?_
        refine L_lload_n C (i := 1) dX12_readsNumber_63 rfl rfl ?_
        refine L_lmul C dX12_readsNumber_64 ?_
        refine L_aload_n C (i := 0) dX12_readsNumber_65 rfl rfl ?_
        refine L_aload_n C (i := 0) dX12_readsNumber_66 rfl rfl ?_
        refine L_getI C dX12_readsNumber_67 sh_132 fl_X12_80 rfl ?_
        refine L_invV1i C dX12_readsNumber_70 sh_132 cal_X12_byteAt lk_X12_83 ⟨Nat.le_of_ble_eq_true rfl, Nat.le_of_ble_eq_true rfl⟩ ⟨Nat.le_of_ble_eq_true rfl, Nat.le_of_ble_eq_true rfl⟩ (Nat.le_of_ble_eq_true rfl) (a_X12_byteAt (fun p10 => ?_) (fun p11 => ss1 (Or.inr (Or.inl ⟨p1, p5, p6, p9, p11⟩))) (fun p12 => ?_))
        · refine L_i2l C dX12_readsNumber_73 ?_
          refine L_ladd C dX12_readsNumber_74 ?_
          refine L_ldc2 C dX12_readsNumber_75 cn_X12_91 ?_
          refine L_lsub C dX12_readsNumber_78 ?_
          refine L_lstore_n C (i := 1) dX12_readsNumber_79 rfl (Nat.le_of_ble_eq_true rfl) ?_
          refine L_aload_n C (i := 0) dX12_readsNumber_80 rfl rfl ?_
          refine L_dup C dX12_readsNumber_81 rfl ?_
          refine L_getI C dX12_readsNumber_82 sh_132 fl_X12_80 rfl ?_
          refine L_iconst C (v := 1) dX12_readsNumber_85 rfl ?_
          refine L_iadd C dX12_readsNumber_86 ?_
          refine L_putI C dX12_readsNumber_87 sh_132 fl_X12_80 rfl rfl rfl ?_
          refine L_goto C (tgt := 27) dX12_readsNumber_90 rfl ?_
          exact kk3 (Or.inl ⟨p1, p5, p6, p9, p10⟩)
        · refine L_i2l C dX12_readsNumber_73 ?_
          refine L_ladd C dX12_readsNumber_74 ?_
          refine L_ldc2 C dX12_readsNumber_75 cn_X12_91 ?_
          refine L_lsub C dX12_readsNumber_78 ?_
          refine L_lstore_n C (i := 1) dX12_readsNumber_79 rfl (Nat.le_of_ble_eq_true rfl) ?_
          refine L_aload_n C (i := 0) dX12_readsNumber_80 rfl rfl ?_
          refine L_dup C dX12_readsNumber_81 rfl ?_
          refine L_getI C dX12_readsNumber_82 sh_132 fl_X12_80 rfl ?_
          refine L_iconst C (v := 1) dX12_readsNumber_85 rfl ?_
          refine L_iadd C dX12_readsNumber_86 ?_
          refine L_putI C dX12_readsNumber_87 sh_132 fl_X12_80 rfl rfl rfl ?_
          refine L_goto C (tgt := 27) dX12_readsNumber_90 rfl ?_
          exact kk4 (Or.inl ⟨p1, p5, p6, p9, p12⟩)
      · refine L_lload_n C (i := 1) dX12_readsNumber_56 rfl rfl ?_
        refine L_goto C (tgt := 79) dX12_readsNumber_57 rfl ?_
        refine L_lstore_n C (i := 1) dX12_readsNumber_79 rfl (Nat.le_of_ble_eq_true rfl) ?_
        refine L_aload_n C (i := 0) dX12_readsNumber_80 rfl rfl ?_
        refine L_dup C dX12_readsNumber_81 rfl ?_
        refine L_getI C dX12_readsNumber_82 sh_132 fl_X12_80 rfl ?_
        refine L_iconst C (v := 1) dX12_readsNumber_85 rfl ?_
        refine L_iadd C dX12_readsNumber_86 ?_
        refine L_putI C dX12_readsNumber_87 sh_132 fl_X12_80 rfl rfl rfl ?_
        refine L_goto C (tgt := 27) dX12_readsNumber_90 rfl ?_
        exact kk5 (Or.inl ⟨p1, p5, p6, p9⟩)
  · refine L_i2l C dX12_readsNumber_35 ?_
    refine L_ldc2 C dX12_readsNumber_36 cn_X12_91 ?_
    refine L_ldc2 C dX12_readsNumber_39 cn_X12_93 ?_
    refine L_invS3i C dX12_readsNumber_42 cal_X12_isIn stc_X12_isIn lk_X12_73 ⟨Nat.le_of_ble_eq_true rfl, Nat.le_of_ble_eq_true rfl⟩ ⟨Nat.le_of_ble_eq_true rfl, Nat.le_of_ble_eq_true rfl⟩ (Nat.le_of_ble_eq_true rfl) (a_X12_isIn (fun p13 => ?_) (fun p14 p15 => ?_))
    · refine L_if_eq C (tgt := 93) dX12_readsNumber_45 rfl (fun p16 => ?_) (fun p16 => absurd p16 (by decide))
      refine L_aload_n C (i := 0) dX12_readsNumber_93 rfl rfl ?_
      refine L_lload_n C (i := 1) dX12_readsNumber_94 rfl rfl ?_
      refine L_l2i C dX12_readsNumber_95 ?_
      refine L_putI C dX12_readsNumber_96 sh_132 fl_X12_114 rfl rfl rfl ?_
      refine L_iconst C (v := 1) dX12_readsNumber_99 rfl ?_
      exact L_irZ C dX12_readsNumber_100 rfl (by decide) (rr2 (Or.inr ⟨p3, p13⟩))
    · refine L_if_eq C (tgt := 93) dX12_readsNumber_45 rfl (fun p17 => absurd p17 (by decide)) (fun p17 => ?_)
      refine L_lload_n C (i := 1) dX12_readsNumber_48 rfl rfl ?_
      refine L_ldc2 C dX12_readsNumber_49 cn_X12_110 ?_
      refine L_lcmp C dX12_readsNumber_52 ?_
      refine L_if_le C (tgt := 60) dX12_readsNumber_53 rfl (fun p18 => ?_) (fun p18 => ?_)
      · refine L_ldc2 C dX12_readsNumber_60 cn_X12_112 ?_
        refine L_lload_n C (i := 1) dX12_readsNumber_63 rfl rfl ?_
        refine L_lmul C dX12_readsNumber_64 ?_
        refine L_aload_n C (i := 0) dX12_readsNumber_65 rfl rfl ?_
        refine L_aload_n C (i := 0) dX12_readsNumber_66 rfl rfl ?_
        refine L_getI C dX12_readsNumber_67 sh_132 fl_X12_80 rfl ?_
        refine L_invV1i C dX12_readsNumber_70 sh_132 cal_X12_byteAt lk_X12_83 ⟨Nat.le_of_ble_eq_true rfl, Nat.le_of_ble_eq_true rfl⟩ ⟨Nat.le_of_ble_eq_true rfl, Nat.le_of_ble_eq_true rfl⟩ (Nat.le_of_ble_eq_true rfl) (a_X12_byteAt (fun p19 => ?_) (fun p20 => ss1 (Or.inr (Or.inr ⟨p3, p14, p15, p18, p20⟩))) (fun p21 => ?_))
        · refine L_i2l C dX12_readsNumber_73 ?_
          refine L_ladd C dX12_readsNumber_74 ?_
          refine L_ldc2 C dX12_readsNumber_75 cn_X12_91 ?_
          refine L_lsub C dX12_readsNumber_78 ?_
          refine L_lstore_n C (i := 1) dX12_readsNumber_79 rfl (Nat.le_of_ble_eq_true rfl) ?_
          refine L_aload_n C (i := 0) dX12_readsNumber_80 rfl rfl ?_
          refine L_dup C dX12_readsNumber_81 rfl ?_
          refine L_getI C dX12_readsNumber_82 sh_132 fl_X12_80 rfl ?_
          refine L_iconst C (v := 1) dX12_readsNumber_85 rfl ?_
          refine L_iadd C dX12_readsNumber_86 ?_
          refine L_putI C dX12_readsNumber_87 sh_132 fl_X12_80 rfl rfl rfl ?_
          refine L_goto C (tgt := 27) dX12_readsNumber_90 rfl ?_
          exact kk3 (Or.inr ⟨p3, p14, p15, p18, p19⟩)
        · refine L_i2l C dX12_readsNumber_73 ?_
          refine L_ladd C dX12_readsNumber_74 ?_
          refine L_ldc2 C dX12_readsNumber_75 cn_X12_91 ?_
          refine L_lsub C dX12_readsNumber_78 ?_
          refine L_lstore_n C (i := 1) dX12_readsNumber_79 rfl (Nat.le_of_ble_eq_true rfl) ?_
          refine L_aload_n C (i := 0) dX12_readsNumber_80 rfl rfl ?_
          refine L_dup C dX12_readsNumber_81 rfl ?_
          refine L_getI C dX12_readsNumber_82 sh_132 fl_X12_80 rfl ?_
          refine L_iconst C (v := 1) dX12_readsNumber_85 rfl ?_
          refine L_iadd C dX12_readsNumber_86 ?_
          refine L_putI C dX12_readsNumber_87 sh_132 fl_X12_80 rfl rfl rfl ?_
          refine L_goto C (tgt := 27) dX12_readsNumber_90 rfl ?_
          exact kk4 (Or.inr ⟨p3, p14, p15, p18, p21⟩)
      · refine L_lload_n C (i := 1) dX12_readsNumber_56 rfl rfl ?_
        refine L_goto C (tgt := 79) dX12_readsNumber_57 rfl ?_
        refine L_lstore_n C (i := 1) dX12_readsNumber_79 rfl (Nat.le_of_ble_eq_true rfl) ?_
        refine L_aload_n C (i := 0) dX12_readsNumber_80 rfl rfl ?_
        refine L_dup C dX12_readsNumber_81 rfl ?_
        refine L_getI C dX12_readsNumber_82 sh_132 fl_X12_80 rfl ?_
        refine L_iconst C (v := 1) dX12_readsNumber_85 rfl ?_
        refine L_iadd C dX12_readsNumber_86 ?_
        refine L_putI C dX12_readsNumber_87 sh_132 fl_X12_80 rfl rfl rfl ?_
        refine L_goto C (tgt := 27) dX12_readsNumber_90 rfl ?_
        exact kk5 (Or.inr ⟨p3, p14, p15, p18⟩)
set_option maxRecDepth 4000 in
theorem k_X12_readsLevels_0 {G : mG} {E : mE} {Q : Int32 → mM → Prop} {μ : mM} (C : Cx G mX12_readsLevels E)  (cc1 : CtV G mX12_passesWord [.ref (gb G + 132)] μ (fun μ' => Wm G mX12_readsLevels E (bm G mX12_readsLevels E (pI Q)) μ' 4 [(0, .ref (gb G + 132))] [])) : Wm G mX12_readsLevels E (bm G mX12_readsLevels E (pI Q)) μ 0 [(0, .ref (gb G + 132))] [] := by
  refine L_aload_n C (i := 0) dX12_readsLevels_0 rfl rfl ?_
  refine L_invV0v C dX12_readsLevels_1 sh_132 cal_X12_passesWord lk_X12_117 ⟨Nat.le_of_ble_eq_true rfl, Nat.le_of_ble_eq_true rfl⟩ ⟨Nat.le_of_ble_eq_true rfl, Nat.le_of_ble_eq_true rfl⟩ (Nat.le_of_ble_eq_true rfl) ?_
  exact cc1
theorem e_X12_readsLevels {G : mG} {Q : Int32 → mM → Prop} {μ : mM}  (k : ∀ E, Cx G mX12_readsLevels E → Wm G mX12_readsLevels E (bm G mX12_readsLevels E (pI Q)) μ 0 [(0, .ref (gb G + 132))] []) : CtI G mX12_readsLevels [.ref (gb G + 132)] μ Q := CtI.of pn_X12 (Nat.le_of_ble_eq_true rfl) k
set_option maxRecDepth 4000 in
theorem k_X12_readsLevels_4 {G : mG} {E : mE} {Q : Int32 → mM → Prop} {μ : mM} (C : Cx G mX12_readsLevels E)  (cc1 : CtI G mX12_isNumber [.ref (gb G + 132)] μ (fun r μ' => Wm G mX12_readsLevels E (bm G mX12_readsLevels E (pI Q)) μ' 8 [(0, .ref (gb G + 132))] [.int r])) : Wm G mX12_readsLevels E (bm G mX12_readsLevels E (pI Q)) μ 4 [(0, .ref (gb G + 132))] [] := by
  refine L_aload_n C (i := 0) dX12_readsLevels_4 rfl rfl ?_
  refine L_invV0i C dX12_readsLevels_5 sh_132 cal_X12_isNumber lk_X12_99 ⟨Nat.le_of_ble_eq_true rfl, Nat.le_of_ble_eq_true rfl⟩ ⟨Nat.le_of_ble_eq_true rfl, Nat.le_of_ble_eq_true rfl⟩ (Nat.le_of_ble_eq_true rfl) ?_
  exact cc1
set_option maxRecDepth 4000 in
theorem k_X12_readsLevels_8 {G : mG} {E : mE} {Q : Int32 → mM → Prop} {μ : mM} (C : Cx G mX12_readsLevels E) {sx0 : Int32} (rr1 : sx0 = 0 → 1 < (μ 136 0) → Q 1 μ) (rr2 : sx0 = 0 → ¬ 1 < (μ 136 0) → Q 0 (ms μ 132 3 (((8 : Int32) * (μ 132 2)) + (1 : Int32)))) (cc3 : ¬ sx0 = 0 → CtI G mX12_readsNumber [.ref (gb G + 132)] μ (fun r μ' => Wm G mX12_readsLevels E (bm G mX12_readsLevels E (pI Q)) μ' 15 [(0, .ref (gb G + 132))] [.int r])) : Wm G mX12_readsLevels E (bm G mX12_readsLevels E (pI Q)) μ 8 [(0, .ref (gb G + 132))] [.int sx0] := by
  refine L_if_eq C (tgt := 94) dX12_readsLevels_8 rfl (fun p1 => ?_) (fun p1 => ?_)
  · refine L_aload_n C (i := 0) dX12_readsLevels_94 rfl rfl ?_
    refine L_getC C (c' := 136) dX12_readsLevels_95 sh_132 fl_X12_20 rfl rfl ?_
    refine L_iconst C (v := 0) dX12_readsLevels_98 rfl ?_
    refine L_iald C dX12_readsLevels_99 sh_136 (by unfold vp_in; decide) ?_
    refine L_iconst C (v := 1) dX12_readsLevels_100 rfl ?_
    refine L_icmp_gt C (tgt := 116) dX12_readsLevels_101 rfl (fun p2 => ?_) (fun p2 => ?_)
    · refine L_iconst C (v := 1) dX12_readsLevels_116 rfl ?_
      refine L_goto C (tgt := 121) dX12_readsLevels_117 rfl ?_
      exact L_irZ C dX12_readsLevels_121 rfl (by decide) (rr1 p1 p2)
    · refine L_aload_n C (i := 0) dX12_readsLevels_104 rfl rfl ?_
      refine L_iconst C (v := 1) dX12_readsLevels_105 rfl ?_
      refine L_aload_n C (i := 0) dX12_readsLevels_106 rfl rfl ?_
      refine L_getI C dX12_readsLevels_107 sh_132 fl_X12_80 rfl ?_
      refine L_invV2i C dX12_readsLevels_110 sh_132 cal_X12_fails lk_X12_103 ⟨Nat.le_of_ble_eq_true rfl, Nat.le_of_ble_eq_true rfl⟩ ⟨Nat.le_of_ble_eq_true rfl, Nat.le_of_ble_eq_true rfl⟩ (Nat.le_of_ble_eq_true rfl) (a_X12_fails (?_))
      · refine L_if_eq C (tgt := 120) dX12_readsLevels_113 rfl (fun p3 => ?_) (fun p3 => absurd p3 (by decide))
        refine L_iconst C (v := 0) dX12_readsLevels_120 rfl ?_
        exact L_irZ C dX12_readsLevels_121 rfl (by decide) (rr2 p1 p2)
  · refine L_aload_n C (i := 0) dX12_readsLevels_11 rfl rfl ?_
    refine L_invV0i C dX12_readsLevels_12 sh_132 cal_X12_readsNumber lk_X12_120 ⟨Nat.le_of_ble_eq_true rfl, Nat.le_of_ble_eq_true rfl⟩ ⟨Nat.le_of_ble_eq_true rfl, Nat.le_of_ble_eq_true rfl⟩ (Nat.le_of_ble_eq_true rfl) ?_
    exact cc3 p1
set_option maxRecDepth 4000 in
theorem k_X12_readsLevels_15 {G : mG} {E : mE} {Q : Int32 → mM → Prop} {μ : mM} (C : Cx G mX12_readsLevels E) {sx0 : Int32} (rr1 : ((lg_cmp (μ 132 5).toInt64 2) < 0 ∨ (¬ (lg_cmp (μ 132 5).toInt64 2) < 0 ∧ 0 < (lg_cmp (μ 132 5).toInt64 4))) → Q 0 (ms μ 132 3 (((8 : Int32) * (μ 132 6)) + (2 : Int32)))) (ss2 : ¬ (lg_cmp (μ 132 5).toInt64 2) < 0 → ¬ 0 < (lg_cmp (μ 132 5).toInt64 4) → ¬ (μ 136 0) = 8 → vp_in ((5 : Int32) + (μ 136 0)) 673) (kk3 : ¬ (lg_cmp (μ 132 5).toInt64 2) < 0 → ¬ 0 < (lg_cmp (μ 132 5).toInt64 4) → ¬ (μ 136 0) = 8 → Wm G mX12_readsLevels E (bm G mX12_readsLevels E (pI Q)) (ms (ms μ 136 ((5 : Int32) + (μ 136 0)).toNatClampNeg (μ 132 5)) 136 0 (((ms μ 136 ((5 : Int32) + (μ 136 0)).toNatClampNeg (μ 132 5)) 136 0) + (1 : Int32))) 4 [(0, .ref (gb G + 132))] []) (rr4 : ¬ (lg_cmp (μ 132 5).toInt64 2) < 0 → ¬ 0 < (lg_cmp (μ 132 5).toInt64 4) → (μ 136 0) = 8 → Q 0 (ms μ 132 3 (((8 : Int32) * (μ 132 6)) + (3 : Int32)))) : Wm G mX12_readsLevels E (bm G mX12_readsLevels E (pI Q)) μ 15 [(0, .ref (gb G + 132))] [.int sx0] := by
  refine L_istore_n C (i := 1) dX12_readsLevels_15 rfl (Nat.le_of_ble_eq_true rfl) ?_
  refine L_aload_n C (i := 0) dX12_readsLevels_16 rfl rfl ?_
  refine L_getI C dX12_readsLevels_17 sh_132 fl_X12_114 rfl ?_
  refine L_i2l C dX12_readsLevels_20 ?_
  refine L_ldc2 C dX12_readsLevels_21 cn_X12_123 ?_
  refine L_ldc2 C dX12_readsLevels_24 cn_X12_125 ?_
  refine L_invS3i C dX12_readsLevels_27 cal_X12_isIn stc_X12_isIn lk_X12_73 ⟨Nat.le_of_ble_eq_true rfl, Nat.le_of_ble_eq_true rfl⟩ ⟨Nat.le_of_ble_eq_true rfl, Nat.le_of_ble_eq_true rfl⟩ (Nat.le_of_ble_eq_true rfl) (a_X12_isIn (fun p1 => ?_) (fun p2 p3 => ?_))
  · refine L_if_ne C (tgt := 43) dX12_readsLevels_30 rfl (fun p4 => absurd p4 (by decide)) (fun p4 => ?_)
    refine L_aload_n C (i := 0) dX12_readsLevels_33 rfl rfl ?_
    refine L_iconst C (v := 2) dX12_readsLevels_34 rfl ?_
    refine L_aload_n C (i := 0) dX12_readsLevels_35 rfl rfl ?_
    refine L_getI C dX12_readsLevels_36 sh_132 fl_X12_107 rfl ?_
    refine L_invV2i C dX12_readsLevels_39 sh_132 cal_X12_fails lk_X12_103 ⟨Nat.le_of_ble_eq_true rfl, Nat.le_of_ble_eq_true rfl⟩ ⟨Nat.le_of_ble_eq_true rfl, Nat.le_of_ble_eq_true rfl⟩ (Nat.le_of_ble_eq_true rfl) (a_X12_fails (?_))
    · exact L_irZ C dX12_readsLevels_42 rfl (by decide) (rr1 p1)
  · refine L_if_ne C (tgt := 43) dX12_readsLevels_30 rfl (fun p5 => ?_) (fun p5 => absurd p5 (by decide))
    refine L_aload_n C (i := 0) dX12_readsLevels_43 rfl rfl ?_
    refine L_getC C (c' := 136) dX12_readsLevels_44 sh_132 fl_X12_20 rfl rfl ?_
    refine L_iconst C (v := 0) dX12_readsLevels_47 rfl ?_
    refine L_iald C dX12_readsLevels_48 sh_136 (by unfold vp_in; decide) ?_
    refine L_bipush C (v := 8) dX12_readsLevels_49 rfl ?_
    refine L_icmp_ne C (tgt := 64) dX12_readsLevels_51 rfl (fun p6 => ?_) (fun p6 => ?_)
    · refine L_aload_n C (i := 0) dX12_readsLevels_64 rfl rfl ?_
      refine L_getC C (c' := 136) dX12_readsLevels_65 sh_132 fl_X12_20 rfl rfl ?_
      refine L_iconst C (v := 5) dX12_readsLevels_68 rfl ?_
      refine L_aload_n C (i := 0) dX12_readsLevels_69 rfl rfl ?_
      refine L_getC C (c' := 136) dX12_readsLevels_70 sh_132 fl_X12_20 rfl rfl ?_
      refine L_iconst C (v := 0) dX12_readsLevels_73 rfl ?_
      refine L_iald C dX12_readsLevels_74 sh_136 (by unfold vp_in; decide) ?_
      refine L_iadd C dX12_readsLevels_75 ?_
      refine L_aload_n C (i := 0) dX12_readsLevels_76 rfl rfl ?_
      refine L_getI C dX12_readsLevels_77 sh_132 fl_X12_114 rfl ?_
      refine L_iast C dX12_readsLevels_80 sh_136 (ss2 p2 p3 p6) ?_
      refine L_aload_n C (i := 0) dX12_readsLevels_81 rfl rfl ?_
      refine L_getC C (c' := 136) dX12_readsLevels_82 sh_132 fl_X12_20 rfl rfl ?_
      refine L_iconst C (v := 0) dX12_readsLevels_85 rfl ?_
      refine L_dup2 C dX12_readsLevels_86 rfl rfl ?_
      refine L_iald C dX12_readsLevels_87 sh_136 (by unfold vp_in; decide) ?_
      refine L_iconst C (v := 1) dX12_readsLevels_88 rfl ?_
      refine L_iadd C dX12_readsLevels_89 ?_
      refine L_iast C dX12_readsLevels_90 sh_136 (by unfold vp_in; decide) ?_
      refine L_goto C (tgt := 4) dX12_readsLevels_91 rfl ?_
      refine L_sub [0] rfl ?_
      exact kk3 p2 p3 p6
    · refine L_aload_n C (i := 0) dX12_readsLevels_54 rfl rfl ?_
      refine L_iconst C (v := 3) dX12_readsLevels_55 rfl ?_
      refine L_aload_n C (i := 0) dX12_readsLevels_56 rfl rfl ?_
      refine L_getI C dX12_readsLevels_57 sh_132 fl_X12_107 rfl ?_
      refine L_invV2i C dX12_readsLevels_60 sh_132 cal_X12_fails lk_X12_103 ⟨Nat.le_of_ble_eq_true rfl, Nat.le_of_ble_eq_true rfl⟩ ⟨Nat.le_of_ble_eq_true rfl, Nat.le_of_ble_eq_true rfl⟩ (Nat.le_of_ble_eq_true rfl) (a_X12_fails (?_))
      · exact L_irZ C dX12_readsLevels_63 rfl (by decide) (rr4 p2 p3 p6)
set_option maxRecDepth 4000 in
theorem k_X12_readsStrength_0 {G : mG} {E : mE} {Q : Int32 → mM → Prop} {μ : mM} (C : Cx G mX12_readsStrength E)  (cc1 : (μ 132 9) = 0 → CtV G mX12_passesWord [.ref (gb G + 132)] (ms μ 132 9 1) (fun μ' => Wm G mX12_readsStrength E (bm G mX12_readsStrength E (pI Q)) μ' 26 [(0, .ref (gb G + 132))] [])) (rr2 : ¬ (μ 132 9) = 0 → Q 0 (ms μ 132 3 (((8 : Int32) * (μ 132 2)) + (3 : Int32)))) : Wm G mX12_readsStrength E (bm G mX12_readsStrength E (pI Q)) μ 0 [(0, .ref (gb G + 132))] [] := by
  refine L_aload_n C (i := 0) dX12_readsStrength_0 rfl rfl ?_
  refine L_getI C dX12_readsStrength_1 sh_132 fl_X12_127 rfl ?_
  refine L_if_eq C (tgt := 17) dX12_readsStrength_4 rfl (fun p1 => ?_) (fun p1 => ?_)
  · refine L_aload_n C (i := 0) dX12_readsStrength_17 rfl rfl ?_
    refine L_iconst C (v := 1) dX12_readsStrength_18 rfl ?_
    refine L_putZ C dX12_readsStrength_19 sh_132 fl_X12_127 rfl rfl rfl (by decide) ?_
    refine L_aload_n C (i := 0) dX12_readsStrength_22 rfl rfl ?_
    refine L_invV0v C dX12_readsStrength_23 sh_132 cal_X12_passesWord lk_X12_117 ⟨Nat.le_of_ble_eq_true rfl, Nat.le_of_ble_eq_true rfl⟩ ⟨Nat.le_of_ble_eq_true rfl, Nat.le_of_ble_eq_true rfl⟩ (Nat.le_of_ble_eq_true rfl) ?_
    exact cc1 p1
  · refine L_aload_n C (i := 0) dX12_readsStrength_7 rfl rfl ?_
    refine L_iconst C (v := 3) dX12_readsStrength_8 rfl ?_
    refine L_aload_n C (i := 0) dX12_readsStrength_9 rfl rfl ?_
    refine L_getI C dX12_readsStrength_10 sh_132 fl_X12_80 rfl ?_
    refine L_invV2i C dX12_readsStrength_13 sh_132 cal_X12_fails lk_X12_103 ⟨Nat.le_of_ble_eq_true rfl, Nat.le_of_ble_eq_true rfl⟩ ⟨Nat.le_of_ble_eq_true rfl, Nat.le_of_ble_eq_true rfl⟩ (Nat.le_of_ble_eq_true rfl) (a_X12_fails (?_))
    · exact L_irZ C dX12_readsStrength_16 rfl (by decide) (rr2 p1)
theorem e_X12_readsStrength {G : mG} {Q : Int32 → mM → Prop} {μ : mM}  (k : ∀ E, Cx G mX12_readsStrength E → Wm G mX12_readsStrength E (bm G mX12_readsStrength E (pI Q)) μ 0 [(0, .ref (gb G + 132))] []) : CtI G mX12_readsStrength [.ref (gb G + 132)] μ Q := CtI.of pn_X12 (Nat.le_of_ble_eq_true rfl) k
set_option maxRecDepth 4000 in
theorem k_X12_readsStrength_26 {G : mG} {E : mE} {Q : Int32 → mM → Prop} {μ : mM} (C : Cx G mX12_readsStrength E)  (cc1 : CtI G mX12_readsNumber [.ref (gb G + 132)] μ (fun r μ' => Wm G mX12_readsStrength E (bm G mX12_readsStrength E (pI Q)) μ' 30 [(0, .ref (gb G + 132))] [.int r])) : Wm G mX12_readsStrength E (bm G mX12_readsStrength E (pI Q)) μ 26 [(0, .ref (gb G + 132))] [] := by
  refine L_aload_n C (i := 0) dX12_readsStrength_26 rfl rfl ?_
  refine L_invV0i C dX12_readsStrength_27 sh_132 cal_X12_readsNumber lk_X12_120 ⟨Nat.le_of_ble_eq_true rfl, Nat.le_of_ble_eq_true rfl⟩ ⟨Nat.le_of_ble_eq_true rfl, Nat.le_of_ble_eq_true rfl⟩ (Nat.le_of_ble_eq_true rfl) ?_
  exact cc1
set_option maxRecDepth 4000 in
theorem k_X12_readsStrength_30 {G : mG} {E : mE} {Q : Int32 → mM → Prop} {μ : mM} (C : Cx G mX12_readsStrength E) {sx0 : Int32} (rr1 : ¬ sx0 = 0 → ((3 ≤ (μ 136 0) ∧ ((lg_cmp (μ 132 5).toInt64 1) < 0 ∨ (¬ (lg_cmp (μ 132 5).toInt64 1) < 0 ∧ 0 < (lg_cmp (μ 132 5).toInt64 3)))) ∨ (¬ 3 ≤ (μ 136 0) ∧ ((lg_cmp (μ 132 5).toInt64 1) < 0 ∨ (¬ (lg_cmp (μ 132 5).toInt64 1) < 0 ∧ 0 < (lg_cmp (μ 132 5).toInt64 (μ 136 0).toInt64))))) → Q 0 (ms μ 132 3 (((8 : Int32) * (μ 132 6)) + (2 : Int32)))) (rr2 : ¬ sx0 = 0 → ((3 ≤ (μ 136 0) ∧ ¬ (lg_cmp (μ 132 5).toInt64 1) < 0 ∧ ¬ 0 < (lg_cmp (μ 132 5).toInt64 3)) ∨ (¬ 3 ≤ (μ 136 0) ∧ ¬ (lg_cmp (μ 132 5).toInt64 1) < 0 ∧ ¬ 0 < (lg_cmp (μ 132 5).toInt64 (μ 136 0).toInt64))) → Q 1 (ms μ 136 1 (μ 132 5))) (rr3 : sx0 = 0 → Q 0 μ) : Wm G mX12_readsStrength E (bm G mX12_readsStrength E (pI Q)) μ 30 [(0, .ref (gb G + 132))] [.int sx0] := by
  refine L_if_ne C (tgt := 35) dX12_readsStrength_30 rfl (fun p1 => ?_) (fun p1 => ?_)
  · refine L_aload_n C (i := 0) dX12_readsStrength_35 rfl rfl ?_
    refine L_getI C dX12_readsStrength_36 sh_132 fl_X12_114 rfl ?_
    refine L_i2l C dX12_readsStrength_39 ?_
    refine L_lconst C (v := 1) dX12_readsStrength_40 rfl ?_
    refine L_aload_n C (i := 0) dX12_readsStrength_41 rfl rfl ?_
    refine L_getC C (c' := 136) dX12_readsStrength_42 sh_132 fl_X12_20 rfl rfl ?_
    refine L_iconst C (v := 0) dX12_readsStrength_45 rfl ?_
    refine L_iald C dX12_readsStrength_46 sh_136 (by unfold vp_in; decide) ?_
    refine L_iconst C (v := 3) dX12_readsStrength_47 rfl ?_
    refine L_icmp_ge C (tgt := 61) dX12_readsStrength_48 rfl (fun p2 => ?_) (fun p2 => ?_)
    · refine L_ldc2 C dX12_readsStrength_61 cn_X12_131 ?_
      refine L_invS3i C dX12_readsStrength_64 cal_X12_isIn stc_X12_isIn lk_X12_73 ⟨Nat.le_of_ble_eq_true rfl, Nat.le_of_ble_eq_true rfl⟩ ⟨Nat.le_of_ble_eq_true rfl, Nat.le_of_ble_eq_true rfl⟩ (Nat.le_of_ble_eq_true rfl) (a_X12_isIn (fun p3 => ?_) (fun p4 p5 => ?_))
      · refine L_if_ne C (tgt := 80) dX12_readsStrength_67 rfl (fun p6 => absurd p6 (by decide)) (fun p6 => ?_)
        refine L_aload_n C (i := 0) dX12_readsStrength_70 rfl rfl ?_
        refine L_iconst C (v := 2) dX12_readsStrength_71 rfl ?_
        refine L_aload_n C (i := 0) dX12_readsStrength_72 rfl rfl ?_
        refine L_getI C dX12_readsStrength_73 sh_132 fl_X12_107 rfl ?_
        refine L_invV2i C dX12_readsStrength_76 sh_132 cal_X12_fails lk_X12_103 ⟨Nat.le_of_ble_eq_true rfl, Nat.le_of_ble_eq_true rfl⟩ ⟨Nat.le_of_ble_eq_true rfl, Nat.le_of_ble_eq_true rfl⟩ (Nat.le_of_ble_eq_true rfl) (a_X12_fails (?_))
        · exact L_irZ C dX12_readsStrength_79 rfl (by decide) (rr1 p1 (Or.inl ⟨p2, p3⟩))
      · refine L_if_ne C (tgt := 80) dX12_readsStrength_67 rfl (fun p7 => ?_) (fun p7 => absurd p7 (by decide))
        refine L_aload_n C (i := 0) dX12_readsStrength_80 rfl rfl ?_
        refine L_getC C (c' := 136) dX12_readsStrength_81 sh_132 fl_X12_20 rfl rfl ?_
        refine L_iconst C (v := 1) dX12_readsStrength_84 rfl ?_
        refine L_aload_n C (i := 0) dX12_readsStrength_85 rfl rfl ?_
        refine L_getI C dX12_readsStrength_86 sh_132 fl_X12_114 rfl ?_
        refine L_iast C dX12_readsStrength_89 sh_136 (by unfold vp_in; decide) ?_
        refine L_iconst C (v := 1) dX12_readsStrength_90 rfl ?_
        exact L_irZ C dX12_readsStrength_91 rfl (by decide) (rr2 p1 (Or.inl ⟨p2, p4, p5⟩))
    · refine L_aload_n C (i := 0) dX12_readsStrength_51 rfl rfl ?_
      refine L_getC C (c' := 136) dX12_readsStrength_52 sh_132 fl_X12_20 rfl rfl ?_
      refine L_iconst C (v := 0) dX12_readsStrength_55 rfl ?_
      refine L_iald C dX12_readsStrength_56 sh_136 (by unfold vp_in; decide) ?_
      refine L_i2l C dX12_readsStrength_57 ?_
      refine L_goto C (tgt := 64) dX12_readsStrength_58 rfl ?_
      refine L_invS3i C dX12_readsStrength_64 cal_X12_isIn stc_X12_isIn lk_X12_73 ⟨Nat.le_of_ble_eq_true rfl, Nat.le_of_ble_eq_true rfl⟩ ⟨Nat.le_of_ble_eq_true rfl, Nat.le_of_ble_eq_true rfl⟩ (Nat.le_of_ble_eq_true rfl) (a_X12_isIn (fun p8 => ?_) (fun p9 p10 => ?_))
      · refine L_if_ne C (tgt := 80) dX12_readsStrength_67 rfl (fun p11 => absurd p11 (by decide)) (fun p11 => ?_)
        refine L_aload_n C (i := 0) dX12_readsStrength_70 rfl rfl ?_
        refine L_iconst C (v := 2) dX12_readsStrength_71 rfl ?_
        refine L_aload_n C (i := 0) dX12_readsStrength_72 rfl rfl ?_
        refine L_getI C dX12_readsStrength_73 sh_132 fl_X12_107 rfl ?_
        refine L_invV2i C dX12_readsStrength_76 sh_132 cal_X12_fails lk_X12_103 ⟨Nat.le_of_ble_eq_true rfl, Nat.le_of_ble_eq_true rfl⟩ ⟨Nat.le_of_ble_eq_true rfl, Nat.le_of_ble_eq_true rfl⟩ (Nat.le_of_ble_eq_true rfl) (a_X12_fails (?_))
        · exact L_irZ C dX12_readsStrength_79 rfl (by decide) (rr1 p1 (Or.inr ⟨p2, p8⟩))
      · refine L_if_ne C (tgt := 80) dX12_readsStrength_67 rfl (fun p12 => ?_) (fun p12 => absurd p12 (by decide))
        refine L_aload_n C (i := 0) dX12_readsStrength_80 rfl rfl ?_
        refine L_getC C (c' := 136) dX12_readsStrength_81 sh_132 fl_X12_20 rfl rfl ?_
        refine L_iconst C (v := 1) dX12_readsStrength_84 rfl ?_
        refine L_aload_n C (i := 0) dX12_readsStrength_85 rfl rfl ?_
        refine L_getI C dX12_readsStrength_86 sh_132 fl_X12_114 rfl ?_
        refine L_iast C dX12_readsStrength_89 sh_136 (by unfold vp_in; decide) ?_
        refine L_iconst C (v := 1) dX12_readsStrength_90 rfl ?_
        exact L_irZ C dX12_readsStrength_91 rfl (by decide) (rr2 p1 (Or.inr ⟨p2, p9, p10⟩))
  · refine L_iconst C (v := 0) dX12_readsStrength_33 rfl ?_
    exact L_irZ C dX12_readsStrength_34 rfl (by decide) (rr3 p1)
set_option maxRecDepth 4000 in
theorem k_X12_hasColumn_0 {G : mG} {E : mE} {B : mB} {μ : mM} (C : Cx G mX12_hasColumn E) {x1 : Int32} {x2 : Int32} {x3 : Int32} (kk1 : Wm G mX12_hasColumn E B μ 3 [(0, .ref (gb G + 132)), (1, .int x1), (2, .int x2), (3, .int x3), (4, .int 0)] []) : Wm G mX12_hasColumn E B μ 0 [(0, .ref (gb G + 132)), (1, .int x1), (2, .int x2), (3, .int x3)] [] := by
  refine L_iconst C (v := 0) dX12_hasColumn_0 rfl ?_
  refine L_istore C dX12_hasColumn_1 (Nat.le_of_ble_eq_true rfl) ?_
  exact kk1
theorem e_X12_hasColumn {G : mG} {Q : Int32 → mM → Prop} {μ : mM} {x1 : Int32} {x2 : Int32} {x3 : Int32} (k : ∀ E, Cx G mX12_hasColumn E → Wm G mX12_hasColumn E (bm G mX12_hasColumn E (pI Q)) μ 0 [(0, .ref (gb G + 132)), (1, .int x1), (2, .int x2), (3, .int x3)] []) : CtI G mX12_hasColumn [.ref (gb G + 132), .int x1, .int x2, .int x3] μ Q := CtI.of pn_X12 (Nat.le_of_ble_eq_true rfl) k
set_option maxRecDepth 4000 in
theorem k_X12_hasColumn_3 {G : mG} {E : mE} {Q : Int32 → mM → Prop} {μ : mM} (C : Cx G mX12_hasColumn E) {x1 : Int32} {x2 : Int32} {x3 : Int32} {x4 : Int32} (rr1 : x2 ≤ x4 → Q 0 μ) (ss2 : ¬ x2 ≤ x4 → vp_in ((x1 + (1 : Int32)) + ((2 : Int32) * x4)) 673) (kk3 : ¬ x2 ≤ x4 → ¬ (μ 136 ((x1 + (1 : Int32)) + ((2 : Int32) * x4)).toNatClampNeg) = x3 → Wm G mX12_hasColumn E (bm G mX12_hasColumn E (pI Q)) μ 3 [(0, .ref (gb G + 132)), (1, .int x1), (2, .int x2), (3, .int x3), (4, .int (x4 + (1 : Int32)))] []) (rr4 : ¬ x2 ≤ x4 → (μ 136 ((x1 + (1 : Int32)) + ((2 : Int32) * x4)).toNatClampNeg) = x3 → Q 1 μ) : Wm G mX12_hasColumn E (bm G mX12_hasColumn E (pI Q)) μ 3 [(0, .ref (gb G + 132)), (1, .int x1), (2, .int x2), (3, .int x3), (4, .int x4)] [] := by
  refine L_iload C dX12_hasColumn_3 rfl ?_
  refine L_iload_n C (i := 2) dX12_hasColumn_5 rfl rfl ?_
  refine L_icmp_ge C (tgt := 34) dX12_hasColumn_6 rfl (fun p1 => ?_) (fun p1 => ?_)
  · refine L_iconst C (v := 0) dX12_hasColumn_34 rfl ?_
    exact L_irZ C dX12_hasColumn_35 rfl (by decide) (rr1 p1)
  · refine L_aload_n C (i := 0) dX12_hasColumn_9 rfl rfl ?_
    refine L_getC C (c' := 136) dX12_hasColumn_10 sh_132 fl_X12_20 rfl rfl ?_
    refine L_iload_n C (i := 1) dX12_hasColumn_13 rfl rfl ?_
    refine L_iconst C (v := 1) dX12_hasColumn_14 rfl ?_
    refine L_iadd C dX12_hasColumn_15 ?_
    refine L_iconst C (v := 2) dX12_hasColumn_16 rfl ?_
    refine L_iload C dX12_hasColumn_17 rfl ?_
    refine L_imul C dX12_hasColumn_19 ?_
    refine L_iadd C dX12_hasColumn_20 ?_
    refine L_iald C dX12_hasColumn_21 sh_136 (ss2 p1) ?_
    refine L_iload_n C (i := 3) dX12_hasColumn_22 rfl rfl ?_
    refine L_icmp_ne C (tgt := 28) dX12_hasColumn_23 rfl (fun p2 => ?_) (fun p2 => ?_)
    · refine L_iinc C (v := 1) dX12_hasColumn_28 rfl rfl (Nat.le_of_ble_eq_true rfl) ?_
      refine L_goto C (tgt := 3) dX12_hasColumn_31 rfl ?_
      exact kk3 p1 p2
    · refine L_iconst C (v := 1) dX12_hasColumn_26 rfl ?_
      exact L_irZ C dX12_hasColumn_27 rfl (by decide) (rr4 p1 p2)
set_option maxRecDepth 4000 in
theorem k_X12_readsNever_0 {G : mG} {E : mE} {Q : Int32 → mM → Prop} {μ : mM} (C : Cx G mX12_readsNever E)  (cc1 : ¬ (μ 136 2) = 12 → CtV G mX12_passesWord [.ref (gb G + 132)] μ (fun μ' => Wm G mX12_readsNever E (bm G mX12_readsNever E (pI Q)) μ' 25 [(0, .ref (gb G + 132))] [])) (rr2 : (μ 136 2) = 12 → Q 0 (ms μ 132 3 (((8 : Int32) * (μ 132 2)) + (3 : Int32)))) : Wm G mX12_readsNever E (bm G mX12_readsNever E (pI Q)) μ 0 [(0, .ref (gb G + 132))] [] := by
  refine L_aload_n C (i := 0) dX12_readsNever_0 rfl rfl ?_
  refine L_getC C (c' := 136) dX12_readsNever_1 sh_132 fl_X12_20 rfl rfl ?_
  refine L_iconst C (v := 2) dX12_readsNever_4 rfl ?_
  refine L_iald C dX12_readsNever_5 sh_136 (by unfold vp_in; decide) ?_
  refine L_bipush C (v := 12) dX12_readsNever_6 rfl ?_
  refine L_icmp_ne C (tgt := 21) dX12_readsNever_8 rfl (fun p1 => ?_) (fun p1 => ?_)
  · refine L_aload_n C (i := 0) dX12_readsNever_21 rfl rfl ?_
    refine L_invV0v C dX12_readsNever_22 sh_132 cal_X12_passesWord lk_X12_117 ⟨Nat.le_of_ble_eq_true rfl, Nat.le_of_ble_eq_true rfl⟩ ⟨Nat.le_of_ble_eq_true rfl, Nat.le_of_ble_eq_true rfl⟩ (Nat.le_of_ble_eq_true rfl) ?_
    exact cc1 p1
  · refine L_aload_n C (i := 0) dX12_readsNever_11 rfl rfl ?_
    refine L_iconst C (v := 3) dX12_readsNever_12 rfl ?_
    refine L_aload_n C (i := 0) dX12_readsNever_13 rfl rfl ?_
    refine L_getI C dX12_readsNever_14 sh_132 fl_X12_80 rfl ?_
    refine L_invV2i C dX12_readsNever_17 sh_132 cal_X12_fails lk_X12_103 ⟨Nat.le_of_ble_eq_true rfl, Nat.le_of_ble_eq_true rfl⟩ ⟨Nat.le_of_ble_eq_true rfl, Nat.le_of_ble_eq_true rfl⟩ (Nat.le_of_ble_eq_true rfl) (a_X12_fails (?_))
    · exact L_irZ C dX12_readsNever_20 rfl (by decide) (rr2 p1)
theorem e_X12_readsNever {G : mG} {Q : Int32 → mM → Prop} {μ : mM}  (k : ∀ E, Cx G mX12_readsNever E → Wm G mX12_readsNever E (bm G mX12_readsNever E (pI Q)) μ 0 [(0, .ref (gb G + 132))] []) : CtI G mX12_readsNever [.ref (gb G + 132)] μ Q := CtI.of pn_X12 (Nat.le_of_ble_eq_true rfl) k
set_option maxRecDepth 4000 in
theorem k_X12_readsNever_25 {G : mG} {E : mE} {B : mB} {μ : mM} (C : Cx G mX12_readsNever E)  (kk1 : Wm G mX12_readsNever E B μ 42 [(0, .ref (gb G + 132)), (1, .int ((13 : Int32) + ((7 : Int32) * (μ 136 2)))), (2, .int 0), (3, .int 1)] []) : Wm G mX12_readsNever E B μ 25 [(0, .ref (gb G + 132))] [] := by
  refine L_bipush C (v := 13) dX12_readsNever_25 rfl ?_
  refine L_bipush C (v := 7) dX12_readsNever_27 rfl ?_
  refine L_aload_n C (i := 0) dX12_readsNever_29 rfl rfl ?_
  refine L_getC C (c' := 136) dX12_readsNever_30 sh_132 fl_X12_20 rfl rfl ?_
  refine L_iconst C (v := 2) dX12_readsNever_33 rfl ?_
  refine L_iald C dX12_readsNever_34 sh_136 (by unfold vp_in; decide) ?_
  refine L_imul C dX12_readsNever_35 ?_
  refine L_iadd C dX12_readsNever_36 ?_
  refine L_istore_n C (i := 1) dX12_readsNever_37 rfl (Nat.le_of_ble_eq_true rfl) ?_
  refine L_iconst C (v := 0) dX12_readsNever_38 rfl ?_
  refine L_istore_n C (i := 2) dX12_readsNever_39 rfl (Nat.le_of_ble_eq_true rfl) ?_
  refine L_iconst C (v := 1) dX12_readsNever_40 rfl ?_
  refine L_istore_n C (i := 3) dX12_readsNever_41 rfl (Nat.le_of_ble_eq_true rfl) ?_
  exact kk1
set_option maxRecDepth 4000 in
theorem k_X12_readsNever_42 {G : mG} {E : mE} {Q : Int32 → mM → Prop} {μ : mM} (C : Cx G mX12_readsNever E) {x1 : Int32} {x2 : Int32} {x3 : Int32} (ss1 : x3 = 0 → vp_in x1 673) (rr2 : x3 = 0 → Q 1 (ms (ms μ 136 x1.toNatClampNeg x2) 136 2 (((ms μ 136 x1.toNatClampNeg x2) 136 2) + (1 : Int32)))) (cc3 : ¬ x3 = 0 → CtI G mX12_readsNumber [.ref (gb G + 132)] μ (fun r μ' => Wm G mX12_readsNever E (bm G mX12_readsNever E (pI Q)) μ' 50 [(0, .ref (gb G + 132)), (1, .int x1), (2, .int x2)] [.int r])) : Wm G mX12_readsNever E (bm G mX12_readsNever E (pI Q)) μ 42 [(0, .ref (gb G + 132)), (1, .int x1), (2, .int x2), (3, .int x3)] [] := by
  refine L_iload_n C (i := 3) dX12_readsNever_42 rfl rfl ?_
  refine L_if_eq C (tgt := 249) dX12_readsNever_43 rfl (fun p1 => ?_) (fun p1 => ?_)
  · refine L_aload_n C (i := 0) dX12_readsNever_249 rfl rfl ?_
    refine L_getC C (c' := 136) dX12_readsNever_250 sh_132 fl_X12_20 rfl rfl ?_
    refine L_iload_n C (i := 1) dX12_readsNever_253 rfl rfl ?_
    refine L_iload_n C (i := 2) dX12_readsNever_254 rfl rfl ?_
    refine L_iast C dX12_readsNever_255 sh_136 (ss1 p1) ?_
    refine L_aload_n C (i := 0) dX12_readsNever_256 rfl rfl ?_
    refine L_getC C (c' := 136) dX12_readsNever_257 sh_132 fl_X12_20 rfl rfl ?_
    refine L_iconst C (v := 2) dX12_readsNever_260 rfl ?_
    refine L_dup2 C dX12_readsNever_261 rfl rfl ?_
    refine L_iald C dX12_readsNever_262 sh_136 (by unfold vp_in; decide) ?_
    refine L_iconst C (v := 1) dX12_readsNever_263 rfl ?_
    refine L_iadd C dX12_readsNever_264 ?_
    refine L_iast C dX12_readsNever_265 sh_136 (by unfold vp_in; decide) ?_
    refine L_iconst C (v := 1) dX12_readsNever_266 rfl ?_
    exact L_irZ C dX12_readsNever_267 rfl (by decide) (rr2 p1)
  · refine L_aload_n C (i := 0) dX12_readsNever_46 rfl rfl ?_
    refine L_sub [0, 1, 2] rfl ?_
    refine L_invV0i C dX12_readsNever_47 sh_132 cal_X12_readsNumber lk_X12_120 ⟨Nat.le_of_ble_eq_true rfl, Nat.le_of_ble_eq_true rfl⟩ ⟨Nat.le_of_ble_eq_true rfl, Nat.le_of_ble_eq_true rfl⟩ (Nat.le_of_ble_eq_true rfl) ?_
    exact cc3 p1
set_option maxRecDepth 4000 in
theorem k_X12_readsNever_50 {G : mG} {E : mE} {Q : Int32 → mM → Prop} {μ : mM} (C : Cx G mX12_readsNever E) {x1 : Int32} {x2 : Int32} {sx0 : Int32} (kk1 : ¬ sx0 = 0 → ((lg_cmp (μ 132 5).toInt64 0) < 0 ∨ (¬ (lg_cmp (μ 132 5).toInt64 0) < 0 ∧ 0 < (lg_cmp (μ 132 5).toInt64 ((μ 136 0) - (1 : Int32)).toInt64))) → Wm G mX12_readsNever E (bm G mX12_readsNever E (pI Q)) μ 89 [(0, .ref (gb G + 132))] []) (cc2 : ¬ sx0 = 0 → ¬ (lg_cmp (μ 132 5).toInt64 0) < 0 → ¬ 0 < (lg_cmp (μ 132 5).toInt64 ((μ 136 0) - (1 : Int32)).toInt64) → CtI G mX12_hasColumn [.ref (gb G + 132), .int x1, .int x2, .int (μ 132 5)] μ (fun r μ' => Wm G mX12_readsNever E (bm G mX12_readsNever E (pI Q)) μ' 86 [(0, .ref (gb G + 132)), (1, .int x1), (2, .int x2)] [.int r])) (rr3 : sx0 = 0 → Q 0 μ) : Wm G mX12_readsNever E (bm G mX12_readsNever E (pI Q)) μ 50 [(0, .ref (gb G + 132)), (1, .int x1), (2, .int x2)] [.int sx0] := by
  refine L_if_ne C (tgt := 55) dX12_readsNever_50 rfl (fun p1 => ?_) (fun p1 => ?_)
  · refine L_aload_n C (i := 0) dX12_readsNever_55 rfl rfl ?_
    refine L_getI C dX12_readsNever_56 sh_132 fl_X12_114 rfl ?_
    refine L_i2l C dX12_readsNever_59 ?_
    refine L_lconst C (v := 0) dX12_readsNever_60 rfl ?_
    refine L_aload_n C (i := 0) dX12_readsNever_61 rfl rfl ?_
    refine L_getC C (c' := 136) dX12_readsNever_62 sh_132 fl_X12_20 rfl rfl ?_
    refine L_iconst C (v := 0) dX12_readsNever_65 rfl ?_
    refine L_iald C dX12_readsNever_66 sh_136 (by unfold vp_in; decide) ?_
    refine L_iconst C (v := 1) dX12_readsNever_67 rfl ?_
    refine L_isub C dX12_readsNever_68 ?_
    refine L_i2l C dX12_readsNever_69 ?_
    refine L_invS3i C dX12_readsNever_70 cal_X12_isIn stc_X12_isIn lk_X12_73 ⟨Nat.le_of_ble_eq_true rfl, Nat.le_of_ble_eq_true rfl⟩ ⟨Nat.le_of_ble_eq_true rfl, Nat.le_of_ble_eq_true rfl⟩ (Nat.le_of_ble_eq_true rfl) (a_X12_isIn (fun p2 => ?_) (fun p3 p4 => ?_))
    · refine L_if_eq C (tgt := 89) dX12_readsNever_73 rfl (fun p5 => ?_) (fun p5 => absurd p5 (by decide))
      refine L_sub [0] rfl ?_
      exact kk1 p1 p2
    · refine L_if_eq C (tgt := 89) dX12_readsNever_73 rfl (fun p6 => absurd p6 (by decide)) (fun p6 => ?_)
      refine L_aload_n C (i := 0) dX12_readsNever_76 rfl rfl ?_
      refine L_iload_n C (i := 1) dX12_readsNever_77 rfl rfl ?_
      refine L_iload_n C (i := 2) dX12_readsNever_78 rfl rfl ?_
      refine L_aload_n C (i := 0) dX12_readsNever_79 rfl rfl ?_
      refine L_getI C dX12_readsNever_80 sh_132 fl_X12_114 rfl ?_
      refine L_invV3i C dX12_readsNever_83 sh_132 cal_X12_hasColumn lk_X12_133 ⟨Nat.le_of_ble_eq_true rfl, Nat.le_of_ble_eq_true rfl⟩ ⟨Nat.le_of_ble_eq_true rfl, Nat.le_of_ble_eq_true rfl⟩ (Nat.le_of_ble_eq_true rfl) ?_
      exact cc2 p1 p3 p4
  · refine L_iconst C (v := 0) dX12_readsNever_53 rfl ?_
    exact L_irZ C dX12_readsNever_54 rfl (by decide) (rr3 p1)
set_option maxRecDepth 4000 in
theorem k_X12_readsNever_86 {G : mG} {E : mE} {Q : Int32 → mM → Prop} {μ : mM} (C : Cx G mX12_readsNever E) {x1 : Int32} {x2 : Int32} {sx0 : Int32} (cc1 : sx0 = 0 → ¬ x2 = 3 → CtI G mX12_next [.ref (gb G + 132)] μ (fun r μ' => Wm G mX12_readsNever E (bm G mX12_readsNever E (pI Q)) μ' 124 [(0, .ref (gb G + 132)), (1, .int x1), (2, .int x2), (4, .int (μ 132 5))] [.int r])) (rr2 : sx0 = 0 → x2 = 3 → Q 0 (ms μ 132 3 (((8 : Int32) * (μ 132 6)) + (3 : Int32)))) (kk3 : ¬ sx0 = 0 → Wm G mX12_readsNever E (bm G mX12_readsNever E (pI Q)) μ 89 [(0, .ref (gb G + 132))] []) : Wm G mX12_readsNever E (bm G mX12_readsNever E (pI Q)) μ 86 [(0, .ref (gb G + 132)), (1, .int x1), (2, .int x2)] [.int sx0] := by
  refine L_if_eq C (tgt := 99) dX12_readsNever_86 rfl (fun p1 => ?_) (fun p1 => ?_)
  · refine L_iload_n C (i := 2) dX12_readsNever_99 rfl rfl ?_
    refine L_iconst C (v := 3) dX12_readsNever_100 rfl ?_
    refine L_icmp_ne C (tgt := 114) dX12_readsNever_101 rfl (fun p2 => ?_) (fun p2 => ?_)
    · refine L_aload_n C (i := 0) dX12_readsNever_114 rfl rfl ?_
      refine L_getI C dX12_readsNever_115 sh_132 fl_X12_114 rfl ?_
      refine L_istore C dX12_readsNever_118 (Nat.le_of_ble_eq_true rfl) ?_
      refine L_aload_n C (i := 0) dX12_readsNever_120 rfl rfl ?_
      refine L_invV0i C dX12_readsNever_121 sh_132 cal_X12_next lk_X12_87 ⟨Nat.le_of_ble_eq_true rfl, Nat.le_of_ble_eq_true rfl⟩ ⟨Nat.le_of_ble_eq_true rfl, Nat.le_of_ble_eq_true rfl⟩ (Nat.le_of_ble_eq_true rfl) ?_
      exact cc1 p1 p2
    · refine L_aload_n C (i := 0) dX12_readsNever_104 rfl rfl ?_
      refine L_iconst C (v := 3) dX12_readsNever_105 rfl ?_
      refine L_aload_n C (i := 0) dX12_readsNever_106 rfl rfl ?_
      refine L_getI C dX12_readsNever_107 sh_132 fl_X12_107 rfl ?_
      refine L_invV2i C dX12_readsNever_110 sh_132 cal_X12_fails lk_X12_103 ⟨Nat.le_of_ble_eq_true rfl, Nat.le_of_ble_eq_true rfl⟩ ⟨Nat.le_of_ble_eq_true rfl, Nat.le_of_ble_eq_true rfl⟩ (Nat.le_of_ble_eq_true rfl) (a_X12_fails (?_))
      · exact L_irZ C dX12_readsNever_113 rfl (by decide) (rr2 p1 p2)
  · refine L_sub [0] rfl ?_
    exact kk3 p1
set_option maxRecDepth 4000 in
theorem k_X12_readsNever_89 {G : mG} {E : mE} {Q : Int32 → mM → Prop} {μ : mM} (C : Cx G mX12_readsNever E)  (rr1 : Q 0 (ms μ 132 3 (((8 : Int32) * (μ 132 6)) + (2 : Int32)))) : Wm G mX12_readsNever E (bm G mX12_readsNever E (pI Q)) μ 89 [(0, .ref (gb G + 132))] [] := by
  refine L_aload_n C (i := 0) dX12_readsNever_89 rfl rfl ?_
  refine L_iconst C (v := 2) dX12_readsNever_90 rfl ?_
  refine L_aload_n C (i := 0) dX12_readsNever_91 rfl rfl ?_
  refine L_getI C dX12_readsNever_92 sh_132 fl_X12_107 rfl ?_
  refine L_invV2i C dX12_readsNever_95 sh_132 cal_X12_fails lk_X12_103 ⟨Nat.le_of_ble_eq_true rfl, Nat.le_of_ble_eq_true rfl⟩ ⟨Nat.le_of_ble_eq_true rfl, Nat.le_of_ble_eq_true rfl⟩ (Nat.le_of_ble_eq_true rfl) (a_X12_fails (?_))
  · exact L_irZ C dX12_readsNever_98 rfl (by decide) (rr1)
set_option maxRecDepth 4000 in
theorem k_X12_readsNever_124 {G : mG} {E : mE} {Q : Int32 → mM → Prop} {μ : mM} (C : Cx G mX12_readsNever E) {x1 : Int32} {x2 : Int32} {x4 : Int32} {sx0 : Int32} (cc1 : sx0 = 46 → CtI G mX12_readsNumber [.ref (gb G + 132)] (ms μ 132 2 ((μ 132 2) + (1 : Int32))) (fun r μ' => Wm G mX12_readsNever E (bm G mX12_readsNever E (pI Q)) μ' 153 [(0, .ref (gb G + 132)), (1, .int x1), (2, .int x2), (4, .int x4)] [.int r])) (rr2 : ¬ sx0 = 46 → Q 0 (ms μ 132 3 (((8 : Int32) * (μ 132 2)) + (1 : Int32)))) : Wm G mX12_readsNever E (bm G mX12_readsNever E (pI Q)) μ 124 [(0, .ref (gb G + 132)), (1, .int x1), (2, .int x2), (4, .int x4)] [.int sx0] := by
  refine L_bipush C (v := 46) dX12_readsNever_124 rfl ?_
  refine L_icmp_eq C (tgt := 139) dX12_readsNever_126 rfl (fun p1 => ?_) (fun p1 => ?_)
  · refine L_aload_n C (i := 0) dX12_readsNever_139 rfl rfl ?_
    refine L_dup C dX12_readsNever_140 rfl ?_
    refine L_getI C dX12_readsNever_141 sh_132 fl_X12_80 rfl ?_
    refine L_iconst C (v := 1) dX12_readsNever_144 rfl ?_
    refine L_iadd C dX12_readsNever_145 ?_
    refine L_putI C dX12_readsNever_146 sh_132 fl_X12_80 rfl rfl rfl ?_
    refine L_aload_n C (i := 0) dX12_readsNever_149 rfl rfl ?_
    refine L_invV0i C dX12_readsNever_150 sh_132 cal_X12_readsNumber lk_X12_120 ⟨Nat.le_of_ble_eq_true rfl, Nat.le_of_ble_eq_true rfl⟩ ⟨Nat.le_of_ble_eq_true rfl, Nat.le_of_ble_eq_true rfl⟩ (Nat.le_of_ble_eq_true rfl) ?_
    exact cc1 p1
  · refine L_aload_n C (i := 0) dX12_readsNever_129 rfl rfl ?_
    refine L_iconst C (v := 1) dX12_readsNever_130 rfl ?_
    refine L_aload_n C (i := 0) dX12_readsNever_131 rfl rfl ?_
    refine L_getI C dX12_readsNever_132 sh_132 fl_X12_80 rfl ?_
    refine L_invV2i C dX12_readsNever_135 sh_132 cal_X12_fails lk_X12_103 ⟨Nat.le_of_ble_eq_true rfl, Nat.le_of_ble_eq_true rfl⟩ ⟨Nat.le_of_ble_eq_true rfl, Nat.le_of_ble_eq_true rfl⟩ (Nat.le_of_ble_eq_true rfl) (a_X12_fails (?_))
    · exact L_irZ C dX12_readsNever_138 rfl (by decide) (rr2 p1)
set_option maxRecDepth 4000 in
theorem k_X12_readsNever_153 {G : mG} {E : mE} {Q : Int32 → mM → Prop} {μ : mM} (C : Cx G mX12_readsNever E) {x1 : Int32} {x2 : Int32} {x4 : Int32} {sx0 : Int32} (ss1 : ¬ sx0 = 0 → vp_in ((5 : Int32) + x4) 673) (ss2 : ¬ sx0 = 0 → (μ 132 5) < (μ 136 ((5 : Int32) + x4).toNatClampNeg) → vp_in ((x1 + (1 : Int32)) + ((2 : Int32) * x2)) 673) (ss3 : ¬ sx0 = 0 → (μ 132 5) < (μ 136 ((5 : Int32) + x4).toNatClampNeg) → vp_in ((x1 + (2 : Int32)) + ((2 : Int32) * x2)) 673) (cc4 : ¬ sx0 = 0 → (μ 132 5) < (μ 136 ((5 : Int32) + x4).toNatClampNeg) → CtI G mX12_next [.ref (gb G + 132)] (ms (ms μ 136 ((x1 + (1 : Int32)) + ((2 : Int32) * x2)).toNatClampNeg x4) 136 ((x1 + (2 : Int32)) + ((2 : Int32) * x2)).toNatClampNeg (μ 132 5)) (fun r μ' => Wm G mX12_readsNever E (bm G mX12_readsNever E (pI Q)) μ' 221 [(0, .ref (gb G + 132)), (1, .int x1), (2, .int (x2 + (1 : Int32)))] [.int r])) (rr5 : ¬ sx0 = 0 → ¬ (μ 132 5) < (μ 136 ((5 : Int32) + x4).toNatClampNeg) → Q 0 (ms μ 132 3 (((8 : Int32) * (μ 132 6)) + (2 : Int32)))) (rr6 : sx0 = 0 → Q 0 μ) : Wm G mX12_readsNever E (bm G mX12_readsNever E (pI Q)) μ 153 [(0, .ref (gb G + 132)), (1, .int x1), (2, .int x2), (4, .int x4)] [.int sx0] := by
  refine L_if_ne C (tgt := 158) dX12_readsNever_153 rfl (fun p1 => ?_) (fun p1 => ?_)
  · refine L_aload_n C (i := 0) dX12_readsNever_158 rfl rfl ?_
    refine L_getI C dX12_readsNever_159 sh_132 fl_X12_114 rfl ?_
    refine L_aload_n C (i := 0) dX12_readsNever_162 rfl rfl ?_
    refine L_getC C (c' := 136) dX12_readsNever_163 sh_132 fl_X12_20 rfl rfl ?_
    refine L_iconst C (v := 5) dX12_readsNever_166 rfl ?_
    refine L_iload C dX12_readsNever_167 rfl ?_
    refine L_iadd C dX12_readsNever_169 ?_
    refine L_iald C dX12_readsNever_170 sh_136 (ss1 p1) ?_
    refine L_icmp_lt C (tgt := 184) dX12_readsNever_171 rfl (fun p2 => ?_) (fun p2 => ?_)
    · refine L_aload_n C (i := 0) dX12_readsNever_184 rfl rfl ?_
      refine L_getC C (c' := 136) dX12_readsNever_185 sh_132 fl_X12_20 rfl rfl ?_
      refine L_iload_n C (i := 1) dX12_readsNever_188 rfl rfl ?_
      refine L_iconst C (v := 1) dX12_readsNever_189 rfl ?_
      refine L_iadd C dX12_readsNever_190 ?_
      refine L_iconst C (v := 2) dX12_readsNever_191 rfl ?_
      refine L_iload_n C (i := 2) dX12_readsNever_192 rfl rfl ?_
      refine L_imul C dX12_readsNever_193 ?_
      refine L_iadd C dX12_readsNever_194 ?_
      refine L_iload C dX12_readsNever_195 rfl ?_
      refine L_iast C dX12_readsNever_197 sh_136 (ss2 p1 p2) ?_
      refine L_aload_n C (i := 0) dX12_readsNever_198 rfl rfl ?_
      refine L_getC C (c' := 136) dX12_readsNever_199 sh_132 fl_X12_20 rfl rfl ?_
      refine L_iload_n C (i := 1) dX12_readsNever_202 rfl rfl ?_
      refine L_iconst C (v := 2) dX12_readsNever_203 rfl ?_
      refine L_iadd C dX12_readsNever_204 ?_
      refine L_iconst C (v := 2) dX12_readsNever_205 rfl ?_
      refine L_iload_n C (i := 2) dX12_readsNever_206 rfl rfl ?_
      refine L_imul C dX12_readsNever_207 ?_
      refine L_iadd C dX12_readsNever_208 ?_
      refine L_aload_n C (i := 0) dX12_readsNever_209 rfl rfl ?_
      refine L_getI C dX12_readsNever_210 sh_132 fl_X12_114 rfl ?_
      refine L_iast C dX12_readsNever_213 sh_136 (ss3 p1 p2) ?_
      refine L_iinc C (v := 1) dX12_readsNever_214 rfl rfl (Nat.le_of_ble_eq_true rfl) ?_
      refine L_aload_n C (i := 0) dX12_readsNever_217 rfl rfl ?_
      refine L_sub [0, 1, 2] rfl ?_
      refine L_invV0i C dX12_readsNever_218 sh_132 cal_X12_next lk_X12_87 ⟨Nat.le_of_ble_eq_true rfl, Nat.le_of_ble_eq_true rfl⟩ ⟨Nat.le_of_ble_eq_true rfl, Nat.le_of_ble_eq_true rfl⟩ (Nat.le_of_ble_eq_true rfl) ?_
      exact cc4 p1 p2
    · refine L_aload_n C (i := 0) dX12_readsNever_174 rfl rfl ?_
      refine L_iconst C (v := 2) dX12_readsNever_175 rfl ?_
      refine L_aload_n C (i := 0) dX12_readsNever_176 rfl rfl ?_
      refine L_getI C dX12_readsNever_177 sh_132 fl_X12_107 rfl ?_
      refine L_invV2i C dX12_readsNever_180 sh_132 cal_X12_fails lk_X12_103 ⟨Nat.le_of_ble_eq_true rfl, Nat.le_of_ble_eq_true rfl⟩ ⟨Nat.le_of_ble_eq_true rfl, Nat.le_of_ble_eq_true rfl⟩ (Nat.le_of_ble_eq_true rfl) (a_X12_fails (?_))
      · exact L_irZ C dX12_readsNever_183 rfl (by decide) (rr5 p1 p2)
  · refine L_iconst C (v := 0) dX12_readsNever_156 rfl ?_
    exact L_irZ C dX12_readsNever_157 rfl (by decide) (rr6 p1)
set_option maxRecDepth 4000 in
theorem k_X12_readsNever_221 {G : mG} {E : mE} {B : mB} {μ : mM} (C : Cx G mX12_readsNever E) {x1 : Int32} {x2 : Int32} {sx0 : Int32} (kk1 : ∀ v1 : Int32, ((¬ sx0 = 38 ∧ v1 = 0) ∨ (sx0 = 38 ∧ v1 = 1)) → v1 = 0 → Wm G mX12_readsNever E B μ 42 [(0, .ref (gb G + 132)), (1, .int x1), (2, .int x2), (3, .int v1)] []) (kk2 : ∀ v1 : Int32, ((¬ sx0 = 38 ∧ v1 = 0) ∨ (sx0 = 38 ∧ v1 = 1)) → ¬ v1 = 0 → Wm G mX12_readsNever E B (ms μ 132 2 ((μ 132 2) + (1 : Int32))) 42 [(0, .ref (gb G + 132)), (1, .int x1), (2, .int x2), (3, .int v1)] []) : Wm G mX12_readsNever E B μ 221 [(0, .ref (gb G + 132)), (1, .int x1), (2, .int x2)] [.int sx0] := by
  refine L_bipush C (v := 38) dX12_readsNever_221 rfl ?_
  refine phi (fun v1 : Int32 => Wm G mX12_readsNever E B μ 231 [(0, .ref (gb G + 132)), (1, .int x1), (2, .int x2)] [.int v1]) (fun v1 : Int32 => (¬ sx0 = 38 ∧ v1 = 0) ∨ (sx0 = 38 ∧ v1 = 1)) (fun H => ?_) (fun v1 hv1 => ?_)
  · refine L_icmp_ne C (tgt := 230) dX12_readsNever_223 rfl (fun p1 => ?_) (fun p1 => ?_)
    · refine L_iconst C (v := 0) dX12_readsNever_230 rfl ?_
      exact H _ (Or.inl ⟨p1, rfl⟩)
    · refine L_iconst C (v := 1) dX12_readsNever_226 rfl ?_
      refine L_goto C (tgt := 231) dX12_readsNever_227 rfl ?_
      exact H _ (Or.inr ⟨p1, rfl⟩)
  refine L_istore_n C (i := 3) dX12_readsNever_231 rfl (Nat.le_of_ble_eq_true rfl) ?_
  refine L_iload_n C (i := 3) dX12_readsNever_232 rfl rfl ?_
  refine L_if_eq C (tgt := 246) dX12_readsNever_233 rfl (fun p2 => ?_) (fun p2 => ?_)
  · refine L_goto C (tgt := 42) dX12_readsNever_246 rfl ?_
    exact kk1 v1 hv1 p2
  · refine L_aload_n C (i := 0) dX12_readsNever_236 rfl rfl ?_
    refine L_dup C dX12_readsNever_237 rfl ?_
    refine L_getI C dX12_readsNever_238 sh_132 fl_X12_80 rfl ?_
    refine L_iconst C (v := 1) dX12_readsNever_241 rfl ?_
    refine L_iadd C dX12_readsNever_242 ?_
    refine L_putI C dX12_readsNever_243 sh_132 fl_X12_80 rfl rfl rfl ?_
    refine L_goto C (tgt := 42) dX12_readsNever_246 rfl ?_
    exact kk2 v1 hv1 p2
set_option maxRecDepth 4000 in
theorem k_X12_readsAll_0 {G : mG} {E : mE} {B : mB} {μ : mM} (C : Cx G mX12_readsAll E)  (kk1 : Wm G mX12_readsAll E B (ms (ms μ 132 2 0) 132 9 0) 12 [(0, .ref (gb G + 132)), (1, .int 0)] []) : Wm G mX12_readsAll E B μ 0 [(0, .ref (gb G + 132))] [] := by
  refine L_aload_n C (i := 0) dX12_readsAll_0 rfl rfl ?_
  refine L_iconst C (v := 0) dX12_readsAll_1 rfl ?_
  refine L_putI C dX12_readsAll_2 sh_132 fl_X12_80 rfl rfl rfl ?_
  refine L_aload_n C (i := 0) dX12_readsAll_5 rfl rfl ?_
  refine L_iconst C (v := 0) dX12_readsAll_6 rfl ?_
  refine L_putZ C dX12_readsAll_7 sh_132 fl_X12_127 rfl rfl rfl (by decide) ?_
  refine L_iconst C (v := 0) dX12_readsAll_10 rfl ?_
  refine L_istore_n C (i := 1) dX12_readsAll_11 rfl (Nat.le_of_ble_eq_true rfl) ?_
  exact kk1
theorem e_X12_readsAll {G : mG} {Q : Int32 → mM → Prop} {μ : mM}  (k : ∀ E, Cx G mX12_readsAll E → Wm G mX12_readsAll E (bm G mX12_readsAll E (pI Q)) μ 0 [(0, .ref (gb G + 132))] []) : CtI G mX12_readsAll [.ref (gb G + 132)] μ Q := CtI.of pn_X12 (Nat.le_of_ble_eq_true rfl) k
set_option maxRecDepth 4000 in
theorem k_X12_readsAll_12 {G : mG} {E : mE} {Q : Int32 → mM → Prop} {μ : mM} (C : Cx G mX12_readsAll E) {x1 : Int32} (cc1 : 673 ≤ x1 → CtI G mX12_wordHere [.ref (gb G + 132)] (ms μ 136 1 2) (fun r μ' => Wm G mX12_readsAll E (bm G mX12_readsAll E (pI Q)) μ' 43 [(0, .ref (gb G + 132))] [.int r])) (ss2 : ¬ 673 ≤ x1 → vp_in x1 673) (kk3 : ¬ 673 ≤ x1 → Wm G mX12_readsAll E (bm G mX12_readsAll E (pI Q)) (ms μ 136 x1.toNatClampNeg 0) 12 [(0, .ref (gb G + 132)), (1, .int (x1 + (1 : Int32)))] []) : Wm G mX12_readsAll E (bm G mX12_readsAll E (pI Q)) μ 12 [(0, .ref (gb G + 132)), (1, .int x1)] [] := by
  refine L_iload_n C (i := 1) dX12_readsAll_12 rfl rfl ?_
  refine L_sipush C (v := 673) dX12_readsAll_13 rfl ?_
  refine L_icmp_ge C (tgt := 32) dX12_readsAll_16 rfl (fun p1 => ?_) (fun p1 => ?_)
  · refine L_aload_n C (i := 0) dX12_readsAll_32 rfl rfl ?_
    refine L_getC C (c' := 136) dX12_readsAll_33 sh_132 fl_X12_20 rfl rfl ?_
    refine L_iconst C (v := 1) dX12_readsAll_36 rfl ?_
    refine L_iconst C (v := 2) dX12_readsAll_37 rfl ?_
    refine L_iast C dX12_readsAll_38 sh_136 (by unfold vp_in; decide) ?_
    refine L_aload_n C (i := 0) dX12_readsAll_39 rfl rfl ?_
    refine L_sub [0] rfl ?_
    refine L_invV0i C dX12_readsAll_40 sh_132 cal_X12_wordHere lk_X12_137 ⟨Nat.le_of_ble_eq_true rfl, Nat.le_of_ble_eq_true rfl⟩ ⟨Nat.le_of_ble_eq_true rfl, Nat.le_of_ble_eq_true rfl⟩ (Nat.le_of_ble_eq_true rfl) ?_
    exact cc1 p1
  · refine L_aload_n C (i := 0) dX12_readsAll_19 rfl rfl ?_
    refine L_getC C (c' := 136) dX12_readsAll_20 sh_132 fl_X12_20 rfl rfl ?_
    refine L_iload_n C (i := 1) dX12_readsAll_23 rfl rfl ?_
    refine L_iconst C (v := 0) dX12_readsAll_24 rfl ?_
    refine L_iast C dX12_readsAll_25 sh_136 (ss2 p1) ?_
    refine L_iinc C (v := 1) dX12_readsAll_26 rfl rfl (Nat.le_of_ble_eq_true rfl) ?_
    refine L_goto C (tgt := 12) dX12_readsAll_29 rfl ?_
    exact kk3 p1
set_option maxRecDepth 4000 in
theorem k_X12_readsAll_43 {G : mG} {E : mE} {Q : Int32 → mM → Prop} {μ : mM} (C : Cx G mX12_readsAll E) {sx0 : Int32} (cc1 : sx0 = 0 → CtI G mX12_readsLevels [.ref (gb G + 132)] μ (fun r μ' => Wm G mX12_readsAll E (bm G mX12_readsAll E (pI Q)) μ' 60 [(0, .ref (gb G + 132))] [.int r])) (rr2 : ¬ sx0 = 0 → Q 0 (ms μ 132 3 (((8 : Int32) * (μ 132 2)) + (1 : Int32)))) : Wm G mX12_readsAll E (bm G mX12_readsAll E (pI Q)) μ 43 [(0, .ref (gb G + 132))] [.int sx0] := by
  refine L_if_eq C (tgt := 56) dX12_readsAll_43 rfl (fun p1 => ?_) (fun p1 => ?_)
  · refine L_aload_n C (i := 0) dX12_readsAll_56 rfl rfl ?_
    refine L_invV0i C dX12_readsAll_57 sh_132 cal_X12_readsLevels lk_X12_140 ⟨Nat.le_of_ble_eq_true rfl, Nat.le_of_ble_eq_true rfl⟩ ⟨Nat.le_of_ble_eq_true rfl, Nat.le_of_ble_eq_true rfl⟩ (Nat.le_of_ble_eq_true rfl) ?_
    exact cc1 p1
  · refine L_aload_n C (i := 0) dX12_readsAll_46 rfl rfl ?_
    refine L_iconst C (v := 1) dX12_readsAll_47 rfl ?_
    refine L_aload_n C (i := 0) dX12_readsAll_48 rfl rfl ?_
    refine L_getI C dX12_readsAll_49 sh_132 fl_X12_80 rfl ?_
    refine L_invV2i C dX12_readsAll_52 sh_132 cal_X12_fails lk_X12_103 ⟨Nat.le_of_ble_eq_true rfl, Nat.le_of_ble_eq_true rfl⟩ ⟨Nat.le_of_ble_eq_true rfl, Nat.le_of_ble_eq_true rfl⟩ (Nat.le_of_ble_eq_true rfl) (a_X12_fails (?_))
    · exact L_irZ C dX12_readsAll_55 rfl (by decide) (rr2 p1)
set_option maxRecDepth 4000 in
theorem k_X12_readsAll_60 {G : mG} {E : mE} {Q : Int32 → mM → Prop} {μ : mM} (C : Cx G mX12_readsAll E) {sx0 : Int32} (kk1 : ¬ sx0 = 0 → Wm G mX12_readsAll E (bm G mX12_readsAll E (pI Q)) μ 65 [(0, .ref (gb G + 132))] []) (rr2 : sx0 = 0 → Q 0 μ) : Wm G mX12_readsAll E (bm G mX12_readsAll E (pI Q)) μ 60 [(0, .ref (gb G + 132))] [.int sx0] := by
  refine L_if_ne C (tgt := 65) dX12_readsAll_60 rfl (fun p1 => ?_) (fun p1 => ?_)
  · exact kk1 p1
  · refine L_iconst C (v := 0) dX12_readsAll_63 rfl ?_
    exact L_irZ C dX12_readsAll_64 rfl (by decide) (rr2 p1)
set_option maxRecDepth 4000 in
theorem k_X12_readsAll_65 {G : mG} {E : mE} {Q : Int32 → mM → Prop} {μ : mM} (C : Cx G mX12_readsAll E)  (cc1 : CtI G mX12_next [.ref (gb G + 132)] μ (fun r μ' => Wm G mX12_readsAll E (bm G mX12_readsAll E (pI Q)) μ' 69 [(0, .ref (gb G + 132))] [.int r])) : Wm G mX12_readsAll E (bm G mX12_readsAll E (pI Q)) μ 65 [(0, .ref (gb G + 132))] [] := by
  refine L_aload_n C (i := 0) dX12_readsAll_65 rfl rfl ?_
  refine L_invV0i C dX12_readsAll_66 sh_132 cal_X12_next lk_X12_87 ⟨Nat.le_of_ble_eq_true rfl, Nat.le_of_ble_eq_true rfl⟩ ⟨Nat.le_of_ble_eq_true rfl, Nat.le_of_ble_eq_true rfl⟩ (Nat.le_of_ble_eq_true rfl) ?_
  exact cc1
set_option maxRecDepth 4000 in
theorem k_X12_readsAll_69 {G : mG} {E : mE} {Q : Int32 → mM → Prop} {μ : mM} (C : Cx G mX12_readsAll E) {sx0 : Int32} (cc1 : ¬ sx0 = 59 → CtI G mX12_next [.ref (gb G + 132)] μ (fun r μ' => Wm G mX12_readsAll E (bm G mX12_readsAll E (pI Q)) μ' 135 [(0, .ref (gb G + 132))] [.int r])) (cc2 : sx0 = 59 → CtI G mX12_wordHere [.ref (gb G + 132)] (ms μ 132 2 ((μ 132 2) + (1 : Int32))) (fun r μ' => Wm G mX12_readsAll E (bm G mX12_readsAll E (pI Q)) μ' 88 [(0, .ref (gb G + 132))] [.int r])) : Wm G mX12_readsAll E (bm G mX12_readsAll E (pI Q)) μ 69 [(0, .ref (gb G + 132))] [.int sx0] := by
  refine L_bipush C (v := 59) dX12_readsAll_69 rfl ?_
  refine L_icmp_ne C (tgt := 131) dX12_readsAll_71 rfl (fun p1 => ?_) (fun p1 => ?_)
  · refine L_aload_n C (i := 0) dX12_readsAll_131 rfl rfl ?_
    refine L_invV0i C dX12_readsAll_132 sh_132 cal_X12_next lk_X12_87 ⟨Nat.le_of_ble_eq_true rfl, Nat.le_of_ble_eq_true rfl⟩ ⟨Nat.le_of_ble_eq_true rfl, Nat.le_of_ble_eq_true rfl⟩ (Nat.le_of_ble_eq_true rfl) ?_
    exact cc1 p1
  · refine L_aload_n C (i := 0) dX12_readsAll_74 rfl rfl ?_
    refine L_dup C dX12_readsAll_75 rfl ?_
    refine L_getI C dX12_readsAll_76 sh_132 fl_X12_80 rfl ?_
    refine L_iconst C (v := 1) dX12_readsAll_79 rfl ?_
    refine L_iadd C dX12_readsAll_80 ?_
    refine L_putI C dX12_readsAll_81 sh_132 fl_X12_80 rfl rfl rfl ?_
    refine L_aload_n C (i := 0) dX12_readsAll_84 rfl rfl ?_
    refine L_invV0i C dX12_readsAll_85 sh_132 cal_X12_wordHere lk_X12_137 ⟨Nat.le_of_ble_eq_true rfl, Nat.le_of_ble_eq_true rfl⟩ ⟨Nat.le_of_ble_eq_true rfl, Nat.le_of_ble_eq_true rfl⟩ (Nat.le_of_ble_eq_true rfl) ?_
    exact cc2 p1
set_option maxRecDepth 4000 in
theorem k_X12_readsAll_88 {G : mG} {E : mE} {Q : Int32 → mM → Prop} {μ : mM} (C : Cx G mX12_readsAll E) {sx0 : Int32} (cc1 : 1 ≤ sx0 → ¬ sx0 = 1 → CtI G mX12_readsNever [.ref (gb G + 132)] μ (fun r μ' => Wm G mX12_readsAll E (bm G mX12_readsAll E (pI Q)) μ' 123 [(0, .ref (gb G + 132))] [.int r])) (cc2 : 1 ≤ sx0 → sx0 = 1 → CtI G mX12_readsStrength [.ref (gb G + 132)] μ (fun r μ' => Wm G mX12_readsAll E (bm G mX12_readsAll E (pI Q)) μ' 113 [(0, .ref (gb G + 132))] [.int r])) (rr3 : ¬ 1 ≤ sx0 → Q 0 (ms μ 132 3 (((8 : Int32) * (μ 132 2)) + (1 : Int32)))) : Wm G mX12_readsAll E (bm G mX12_readsAll E (pI Q)) μ 88 [(0, .ref (gb G + 132))] [.int sx0] := by
  refine L_istore_n C (i := 1) dX12_readsAll_88 rfl (Nat.le_of_ble_eq_true rfl) ?_
  refine L_iload_n C (i := 1) dX12_readsAll_89 rfl rfl ?_
  refine L_iconst C (v := 1) dX12_readsAll_90 rfl ?_
  refine L_icmp_ge C (tgt := 104) dX12_readsAll_91 rfl (fun p1 => ?_) (fun p1 => ?_)
  · refine L_iload_n C (i := 1) dX12_readsAll_104 rfl rfl ?_
    refine L_iconst C (v := 1) dX12_readsAll_105 rfl ?_
    refine L_icmp_ne C (tgt := 119) dX12_readsAll_106 rfl (fun p2 => ?_) (fun p2 => ?_)
    · refine L_aload_n C (i := 0) dX12_readsAll_119 rfl rfl ?_
      refine L_sub [0] rfl ?_
      refine L_invV0i C dX12_readsAll_120 sh_132 cal_X12_readsNever lk_X12_146 ⟨Nat.le_of_ble_eq_true rfl, Nat.le_of_ble_eq_true rfl⟩ ⟨Nat.le_of_ble_eq_true rfl, Nat.le_of_ble_eq_true rfl⟩ (Nat.le_of_ble_eq_true rfl) ?_
      exact cc1 p1 p2
    · refine L_aload_n C (i := 0) dX12_readsAll_109 rfl rfl ?_
      refine L_sub [0] rfl ?_
      refine L_invV0i C dX12_readsAll_110 sh_132 cal_X12_readsStrength lk_X12_143 ⟨Nat.le_of_ble_eq_true rfl, Nat.le_of_ble_eq_true rfl⟩ ⟨Nat.le_of_ble_eq_true rfl, Nat.le_of_ble_eq_true rfl⟩ (Nat.le_of_ble_eq_true rfl) ?_
      exact cc2 p1 p2
  · refine L_aload_n C (i := 0) dX12_readsAll_94 rfl rfl ?_
    refine L_iconst C (v := 1) dX12_readsAll_95 rfl ?_
    refine L_aload_n C (i := 0) dX12_readsAll_96 rfl rfl ?_
    refine L_getI C dX12_readsAll_97 sh_132 fl_X12_80 rfl ?_
    refine L_invV2i C dX12_readsAll_100 sh_132 cal_X12_fails lk_X12_103 ⟨Nat.le_of_ble_eq_true rfl, Nat.le_of_ble_eq_true rfl⟩ ⟨Nat.le_of_ble_eq_true rfl, Nat.le_of_ble_eq_true rfl⟩ (Nat.le_of_ble_eq_true rfl) (a_X12_fails (?_))
    · exact L_irZ C dX12_readsAll_103 rfl (by decide) (rr3 p1)
set_option maxRecDepth 4000 in
theorem k_X12_readsAll_113 {G : mG} {E : mE} {Q : Int32 → mM → Prop} {μ : mM} (C : Cx G mX12_readsAll E) {sx0 : Int32} (rr1 : sx0 = 0 → Q 0 μ) (kk2 : ¬ sx0 = 0 → Wm G mX12_readsAll E (bm G mX12_readsAll E (pI Q)) μ 65 [(0, .ref (gb G + 132))] []) : Wm G mX12_readsAll E (bm G mX12_readsAll E (pI Q)) μ 113 [(0, .ref (gb G + 132))] [.int sx0] := by
  refine L_if_eq C (tgt := 126) dX12_readsAll_113 rfl (fun p1 => ?_) (fun p1 => ?_)
  · refine L_iconst C (v := 0) dX12_readsAll_126 rfl ?_
    exact L_irZ C dX12_readsAll_127 rfl (by decide) (rr1 p1)
  · refine L_goto C (tgt := 128) dX12_readsAll_116 rfl ?_
    refine L_goto C (tgt := 65) dX12_readsAll_128 rfl ?_
    exact kk2 p1
set_option maxRecDepth 4000 in
theorem k_X12_readsAll_123 {G : mG} {E : mE} {Q : Int32 → mM → Prop} {μ : mM} (C : Cx G mX12_readsAll E) {sx0 : Int32} (kk1 : ¬ sx0 = 0 → Wm G mX12_readsAll E (bm G mX12_readsAll E (pI Q)) μ 65 [(0, .ref (gb G + 132))] []) (rr2 : sx0 = 0 → Q 0 μ) : Wm G mX12_readsAll E (bm G mX12_readsAll E (pI Q)) μ 123 [(0, .ref (gb G + 132))] [.int sx0] := by
  refine L_if_ne C (tgt := 128) dX12_readsAll_123 rfl (fun p1 => ?_) (fun p1 => ?_)
  · refine L_goto C (tgt := 65) dX12_readsAll_128 rfl ?_
    exact kk1 p1
  · refine L_iconst C (v := 0) dX12_readsAll_126 rfl ?_
    exact L_irZ C dX12_readsAll_127 rfl (by decide) (rr2 p1)
set_option maxRecDepth 4000 in
theorem k_X12_readsAll_135 {G : mG} {E : mE} {Q : Int32 → mM → Prop} {μ : mM} (C : Cx G mX12_readsAll E) {sx0 : Int32} (rr1 : sx0 = (-1) → Q 1 μ) (rr2 : ¬ sx0 = (-1) → Q 0 (ms μ 132 3 (((8 : Int32) * (μ 132 2)) + (1 : Int32)))) : Wm G mX12_readsAll E (bm G mX12_readsAll E (pI Q)) μ 135 [(0, .ref (gb G + 132))] [.int sx0] := by
  refine L_iconst C (v := (-1)) dX12_readsAll_135 rfl ?_
  refine L_icmp_eq C (tgt := 151) dX12_readsAll_136 rfl (fun p1 => ?_) (fun p1 => ?_)
  · refine L_iconst C (v := 1) dX12_readsAll_151 rfl ?_
    refine L_goto C (tgt := 156) dX12_readsAll_152 rfl ?_
    exact L_irZ C dX12_readsAll_156 rfl (by decide) (rr1 p1)
  · refine L_aload_n C (i := 0) dX12_readsAll_139 rfl rfl ?_
    refine L_iconst C (v := 1) dX12_readsAll_140 rfl ?_
    refine L_aload_n C (i := 0) dX12_readsAll_141 rfl rfl ?_
    refine L_getI C dX12_readsAll_142 sh_132 fl_X12_80 rfl ?_
    refine L_invV2i C dX12_readsAll_145 sh_132 cal_X12_fails lk_X12_103 ⟨Nat.le_of_ble_eq_true rfl, Nat.le_of_ble_eq_true rfl⟩ ⟨Nat.le_of_ble_eq_true rfl, Nat.le_of_ble_eq_true rfl⟩ (Nat.le_of_ble_eq_true rfl) (a_X12_fails (?_))
    · refine L_if_eq C (tgt := 155) dX12_readsAll_148 rfl (fun p2 => ?_) (fun p2 => absurd p2 (by decide))
      refine L_iconst C (v := 0) dX12_readsAll_155 rfl ?_
      exact L_irZ C dX12_readsAll_156 rfl (by decide) (rr2 p1)
set_option maxRecDepth 4000 in
theorem k_X12_copies_0 {G : mG} {E : mE} {B : mB} {μ : mM} (C : Cx G mX12_copies E) {n0 : Nat} {c0 : Nat} (h0 : sh c0 = (1, n0)) {x1 : Int32} {n2 : Nat} {c2 : Nat} (h2 : sh c2 = (1, n2)) {x3 : Int32} (kk1 : Wm G mX12_copies E B μ 3 [(0, .ref (gb G + c0)), (1, .int x1), (2, .ref (gb G + c2)), (3, .int x3), (4, .int 0)] []) : Wm G mX12_copies E B μ 0 [(0, .ref (gb G + c0)), (1, .int x1), (2, .ref (gb G + c2)), (3, .int x3)] [] := by
  refine L_iconst C (v := 0) dX12_copies_0 rfl ?_
  refine L_istore C dX12_copies_1 (Nat.le_of_ble_eq_true rfl) ?_
  exact kk1
theorem e_X12_copies {G : mG} {Q : mM → Prop} {μ : mM} {n0 : Nat} {c0 : Nat} (h0 : sh c0 = (1, n0)) {x1 : Int32} {n2 : Nat} {c2 : Nat} (h2 : sh c2 = (1, n2)) {x3 : Int32} (k : ∀ E, Cx G mX12_copies E → Wm G mX12_copies E (bm G mX12_copies E (pV Q)) μ 0 [(0, .ref (gb G + c0)), (1, .int x1), (2, .ref (gb G + c2)), (3, .int x3)] []) : CtV G mX12_copies [.ref (gb G + c0), .int x1, .ref (gb G + c2), .int x3] μ Q := CtV.of pn_X12 (Nat.le_of_ble_eq_true rfl) k
set_option maxRecDepth 4000 in
theorem k_X12_copies_3 {G : mG} {E : mE} {Q : mM → Prop} {μ : mM} (C : Cx G mX12_copies E) {n0 : Nat} {c0 : Nat} (h0 : sh c0 = (1, n0)) {x1 : Int32} {n2 : Nat} {c2 : Nat} (h2 : sh c2 = (1, n2)) {x3 : Int32} {x4 : Int32} (rr1 : 673 ≤ x4 → Q μ) (ss2 : ¬ 673 ≤ x4 → vp_in (x1 + x4) n0) (ss3 : ¬ 673 ≤ x4 → vp_in (x3 + x4) n2) (kk4 : ¬ 673 ≤ x4 → Wm G mX12_copies E (bm G mX12_copies E (pV Q)) (ms μ c2 (x3 + x4).toNatClampNeg (μ c0 (x1 + x4).toNatClampNeg)) 3 [(0, .ref (gb G + c0)), (1, .int x1), (2, .ref (gb G + c2)), (3, .int x3), (4, .int (x4 + (1 : Int32)))] []) : Wm G mX12_copies E (bm G mX12_copies E (pV Q)) μ 3 [(0, .ref (gb G + c0)), (1, .int x1), (2, .ref (gb G + c2)), (3, .int x3), (4, .int x4)] [] := by
  refine L_iload C dX12_copies_3 rfl ?_
  refine L_sipush C (v := 673) dX12_copies_5 rfl ?_
  refine L_icmp_ge C (tgt := 29) dX12_copies_8 rfl (fun p1 => ?_) (fun p1 => ?_)
  · exact L_irV C dX12_copies_29 rfl (rr1 p1)
  · refine L_aload_n C (i := 2) dX12_copies_11 rfl rfl ?_
    refine L_iload_n C (i := 3) dX12_copies_12 rfl rfl ?_
    refine L_iload C dX12_copies_13 rfl ?_
    refine L_iadd C dX12_copies_15 ?_
    refine L_aload_n C (i := 0) dX12_copies_16 rfl rfl ?_
    refine L_iload_n C (i := 1) dX12_copies_17 rfl rfl ?_
    refine L_iload C dX12_copies_18 rfl ?_
    refine L_iadd C dX12_copies_20 ?_
    refine L_iald C dX12_copies_21 h0 (ss2 p1) ?_
    refine L_iast C dX12_copies_22 h2 (ss3 p1) ?_
    refine L_iinc C (v := 1) dX12_copies_23 rfl rfl (Nat.le_of_ble_eq_true rfl) ?_
    refine L_goto C (tgt := 3) dX12_copies_26 rfl ?_
    exact kk4 p1
set_option maxRecDepth 4000 in
theorem k_X12_mixMany_0 {G : mG} {E : mE} {B : mB} {μ : mM} (C : Cx G mX12_mixMany E)  (kk1 : Wm G mX12_mixMany E B μ 4 [(0, .ref (gb G + 132)), (1, .int 0), (2, .int 0)] []) : Wm G mX12_mixMany E B μ 0 [(0, .ref (gb G + 132))] [] := by
  refine L_iconst C (v := 0) dX12_mixMany_0 rfl ?_
  refine L_istore_n C (i := 1) dX12_mixMany_1 rfl (Nat.le_of_ble_eq_true rfl) ?_
  refine L_iconst C (v := 0) dX12_mixMany_2 rfl ?_
  refine L_istore_n C (i := 2) dX12_mixMany_3 rfl (Nat.le_of_ble_eq_true rfl) ?_
  exact kk1
theorem e_X12_mixMany {G : mG} {Q : Int32 → mM → Prop} {μ : mM}  (k : ∀ E, Cx G mX12_mixMany E → Wm G mX12_mixMany E (bm G mX12_mixMany E (pI Q)) μ 0 [(0, .ref (gb G + 132))] []) : CtI G mX12_mixMany [.ref (gb G + 132)] μ Q := CtI.of pn_X12 (Nat.le_of_ble_eq_true rfl) k
set_option maxRecDepth 4000 in
theorem k_X12_mixMany_4 {G : mG} {E : mE} {Q : Int32 → mM → Prop} {μ : mM} (C : Cx G mX12_mixMany E) {x1 : Int32} {x2 : Int32} (rr1 : (μ 135 0) ≤ x2 → Q x1 μ) (ss2 : ¬ (μ 135 0) ≤ x2 → (μ 135 1) = 1 → vp_in ((5 : Int32) + x2) 673) (kk3 : ¬ (μ 135 0) ≤ x2 → ∀ v1 : Int32, ((¬ (μ 135 1) = 1 ∧ v1 = x1) ∨ ((μ 135 1) = 1 ∧ v1 = (x1 + (μ 135 ((5 : Int32) + x2).toNatClampNeg)))) → Wm G mX12_mixMany E (bm G mX12_mixMany E (pI Q)) μ 39 [(0, .ref (gb G + 132)), (1, .int v1), (2, .int x2), (3, .int (x2 + (1 : Int32)))] []) : Wm G mX12_mixMany E (bm G mX12_mixMany E (pI Q)) μ 4 [(0, .ref (gb G + 132)), (1, .int x1), (2, .int x2)] [] := by
  refine L_iload_n C (i := 2) dX12_mixMany_4 rfl rfl ?_
  refine L_aload_n C (i := 0) dX12_mixMany_5 rfl rfl ?_
  refine L_getC C (c' := 135) dX12_mixMany_6 sh_132 fl_X12_16 rfl rfl ?_
  refine L_iconst C (v := 0) dX12_mixMany_9 rfl ?_
  refine L_iald C dX12_mixMany_10 sh_135 (by unfold vp_in; decide) ?_
  refine L_icmp_ge C (tgt := 163) dX12_mixMany_11 rfl (fun p1 => ?_) (fun p1 => ?_)
  · refine L_iload_n C (i := 1) dX12_mixMany_163 rfl rfl ?_
    exact L_irI C dX12_mixMany_164 rfl (rr1 p1)
  · refine L_aload_n C (i := 0) dX12_mixMany_14 rfl rfl ?_
    refine L_getC C (c' := 135) dX12_mixMany_15 sh_132 fl_X12_16 rfl rfl ?_
    refine L_iconst C (v := 1) dX12_mixMany_18 rfl ?_
    refine L_iald C dX12_mixMany_19 sh_135 (by unfold vp_in; decide) ?_
    refine L_iconst C (v := 1) dX12_mixMany_20 rfl ?_
    refine phi (fun v1 : Int32 => Wm G mX12_mixMany E (bm G mX12_mixMany E (pI Q)) μ 35 [(0, .ref (gb G + 132)), (1, .int v1), (2, .int x2)] []) (fun v1 : Int32 => (¬ (μ 135 1) = 1 ∧ v1 = x1) ∨ ((μ 135 1) = 1 ∧ v1 = (x1 + (μ 135 ((5 : Int32) + x2).toNatClampNeg)))) (fun H => ?_) (fun v1 hv1 => ?_)
    · refine L_icmp_ne C (tgt := 35) dX12_mixMany_21 rfl (fun p2 => ?_) (fun p2 => ?_)
      · exact H _ (Or.inl ⟨p2, rfl⟩)
      · refine L_iload_n C (i := 1) dX12_mixMany_24 rfl rfl ?_
        refine L_aload_n C (i := 0) dX12_mixMany_25 rfl rfl ?_
        refine L_getC C (c' := 135) dX12_mixMany_26 sh_132 fl_X12_16 rfl rfl ?_
        refine L_iconst C (v := 5) dX12_mixMany_29 rfl ?_
        refine L_iload_n C (i := 2) dX12_mixMany_30 rfl rfl ?_
        refine L_iadd C dX12_mixMany_31 ?_
        refine L_iald C dX12_mixMany_32 sh_135 (ss2 p1 p2) ?_
        refine L_iadd C dX12_mixMany_33 ?_
        refine L_istore_n C (i := 1) dX12_mixMany_34 rfl (Nat.le_of_ble_eq_true rfl) ?_
        exact H _ (Or.inr ⟨p2, rfl⟩)
    refine L_iload_n C (i := 2) dX12_mixMany_35 rfl rfl ?_
    refine L_iconst C (v := 1) dX12_mixMany_36 rfl ?_
    refine L_iadd C dX12_mixMany_37 ?_
    refine L_istore_n C (i := 3) dX12_mixMany_38 rfl (Nat.le_of_ble_eq_true rfl) ?_
    exact kk3 p1 v1 hv1
set_option maxRecDepth 4000 in
theorem k_X12_mixMany_39 {G : mG} {E : mE} {B : mB} {μ : mM} (C : Cx G mX12_mixMany E) {x1 : Int32} {x2 : Int32} {x3 : Int32} (kk1 : ((μ 135 0) ≤ x3 ∨ (¬ (μ 135 0) ≤ x3 ∧ (μ 135 1) ≤ 1)) → Wm G mX12_mixMany E B μ 4 [(0, .ref (gb G + 132)), (1, .int x1), (2, .int (x2 + (1 : Int32)))] []) (ss2 : ¬ (μ 135 0) ≤ x3 → ¬ (μ 135 1) ≤ 1 → (μ 135 1) = 2 → vp_in ((5 : Int32) + x2) 673) (ss3 : ¬ (μ 135 0) ≤ x3 → ¬ (μ 135 1) ≤ 1 → (μ 135 1) = 2 → vp_in ((5 : Int32) + x3) 673) (kk4 : ¬ (μ 135 0) ≤ x3 → ¬ (μ 135 1) ≤ 1 → ∀ v1 : Int32, ((¬ (μ 135 1) = 2 ∧ v1 = x1) ∨ ((μ 135 1) = 2 ∧ v1 = (x1 + ((μ 135 ((5 : Int32) + x2).toNatClampNeg) * (μ 135 ((5 : Int32) + x3).toNatClampNeg))))) → Wm G mX12_mixMany E B μ 94 [(0, .ref (gb G + 132)), (1, .int v1), (2, .int x2), (3, .int x3), (4, .int (x3 + (1 : Int32)))] []) : Wm G mX12_mixMany E B μ 39 [(0, .ref (gb G + 132)), (1, .int x1), (2, .int x2), (3, .int x3)] [] := by
  refine L_iload_n C (i := 3) dX12_mixMany_39 rfl rfl ?_
  refine L_aload_n C (i := 0) dX12_mixMany_40 rfl rfl ?_
  refine L_getC C (c' := 135) dX12_mixMany_41 sh_132 fl_X12_16 rfl rfl ?_
  refine L_iconst C (v := 0) dX12_mixMany_44 rfl ?_
  refine L_iald C dX12_mixMany_45 sh_135 (by unfold vp_in; decide) ?_
  refine L_icmp_ge C (tgt := 157) dX12_mixMany_46 rfl (fun p1 => ?_) (fun p1 => ?_)
  · refine L_iinc C (v := 1) dX12_mixMany_157 rfl rfl (Nat.le_of_ble_eq_true rfl) ?_
    refine L_goto C (tgt := 4) dX12_mixMany_160 rfl ?_
    refine L_sub [0, 1, 2] rfl ?_
    exact kk1 (Or.inl p1)
  · refine L_aload_n C (i := 0) dX12_mixMany_49 rfl rfl ?_
    refine L_getC C (c' := 135) dX12_mixMany_50 sh_132 fl_X12_16 rfl rfl ?_
    refine L_iconst C (v := 1) dX12_mixMany_53 rfl ?_
    refine L_iald C dX12_mixMany_54 sh_135 (by unfold vp_in; decide) ?_
    refine L_iconst C (v := 1) dX12_mixMany_55 rfl ?_
    refine L_icmp_le C (tgt := 157) dX12_mixMany_56 rfl (fun p2 => ?_) (fun p2 => ?_)
    · refine L_iinc C (v := 1) dX12_mixMany_157 rfl rfl (Nat.le_of_ble_eq_true rfl) ?_
      refine L_goto C (tgt := 4) dX12_mixMany_160 rfl ?_
      refine L_sub [0, 1, 2] rfl ?_
      exact kk1 (Or.inr ⟨p1, p2⟩)
    · refine L_aload_n C (i := 0) dX12_mixMany_59 rfl rfl ?_
      refine L_getC C (c' := 135) dX12_mixMany_60 sh_132 fl_X12_16 rfl rfl ?_
      refine L_iconst C (v := 1) dX12_mixMany_63 rfl ?_
      refine L_iald C dX12_mixMany_64 sh_135 (by unfold vp_in; decide) ?_
      refine L_iconst C (v := 2) dX12_mixMany_65 rfl ?_
      refine phi (fun v1 : Int32 => Wm G mX12_mixMany E B μ 89 [(0, .ref (gb G + 132)), (1, .int v1), (2, .int x2), (3, .int x3)] []) (fun v1 : Int32 => (¬ (μ 135 1) = 2 ∧ v1 = x1) ∨ ((μ 135 1) = 2 ∧ v1 = (x1 + ((μ 135 ((5 : Int32) + x2).toNatClampNeg) * (μ 135 ((5 : Int32) + x3).toNatClampNeg))))) (fun H => ?_) (fun v1 hv1 => ?_)
      · refine L_icmp_ne C (tgt := 89) dX12_mixMany_66 rfl (fun p3 => ?_) (fun p3 => ?_)
        · exact H _ (Or.inl ⟨p3, rfl⟩)
        · refine L_iload_n C (i := 1) dX12_mixMany_69 rfl rfl ?_
          refine L_aload_n C (i := 0) dX12_mixMany_70 rfl rfl ?_
          refine L_getC C (c' := 135) dX12_mixMany_71 sh_132 fl_X12_16 rfl rfl ?_
          refine L_iconst C (v := 5) dX12_mixMany_74 rfl ?_
          refine L_iload_n C (i := 2) dX12_mixMany_75 rfl rfl ?_
          refine L_iadd C dX12_mixMany_76 ?_
          refine L_iald C dX12_mixMany_77 sh_135 (ss2 p1 p2 p3) ?_
          refine L_aload_n C (i := 0) dX12_mixMany_78 rfl rfl ?_
          refine L_getC C (c' := 135) dX12_mixMany_79 sh_132 fl_X12_16 rfl rfl ?_
          refine L_iconst C (v := 5) dX12_mixMany_82 rfl ?_
          refine L_iload_n C (i := 3) dX12_mixMany_83 rfl rfl ?_
          refine L_iadd C dX12_mixMany_84 ?_
          refine L_iald C dX12_mixMany_85 sh_135 (ss3 p1 p2 p3) ?_
          refine L_imul C dX12_mixMany_86 ?_
          refine L_iadd C dX12_mixMany_87 ?_
          refine L_istore_n C (i := 1) dX12_mixMany_88 rfl (Nat.le_of_ble_eq_true rfl) ?_
          exact H _ (Or.inr ⟨p3, rfl⟩)
      refine L_iload_n C (i := 3) dX12_mixMany_89 rfl rfl ?_
      refine L_iconst C (v := 1) dX12_mixMany_90 rfl ?_
      refine L_iadd C dX12_mixMany_91 ?_
      refine L_istore C dX12_mixMany_92 (Nat.le_of_ble_eq_true rfl) ?_
      exact kk4 p1 p2 v1 hv1
set_option maxRecDepth 4000 in
theorem k_X12_mixMany_94 {G : mG} {E : mE} {B : mB} {μ : mM} (C : Cx G mX12_mixMany E) {x1 : Int32} {x2 : Int32} {x3 : Int32} {x4 : Int32} (kk1 : ((μ 135 0) ≤ x4 ∨ (¬ (μ 135 0) ≤ x4 ∧ (μ 135 1) ≤ 2)) → Wm G mX12_mixMany E B μ 39 [(0, .ref (gb G + 132)), (1, .int x1), (2, .int x2), (3, .int (x3 + (1 : Int32)))] []) (ss2 : ¬ (μ 135 0) ≤ x4 → ¬ (μ 135 1) ≤ 2 → vp_in ((5 : Int32) + x2) 673) (ss3 : ¬ (μ 135 0) ≤ x4 → ¬ (μ 135 1) ≤ 2 → vp_in ((5 : Int32) + x3) 673) (ss4 : ¬ (μ 135 0) ≤ x4 → ¬ (μ 135 1) ≤ 2 → vp_in ((5 : Int32) + x4) 673) (kk5 : ¬ (μ 135 0) ≤ x4 → ¬ (μ 135 1) ≤ 2 → Wm G mX12_mixMany E B μ 94 [(0, .ref (gb G + 132)), (1, .int (x1 + (((μ 135 ((5 : Int32) + x2).toNatClampNeg) * (μ 135 ((5 : Int32) + x3).toNatClampNeg)) * (μ 135 ((5 : Int32) + x4).toNatClampNeg)))), (2, .int x2), (3, .int x3), (4, .int (x4 + (1 : Int32)))] []) : Wm G mX12_mixMany E B μ 94 [(0, .ref (gb G + 132)), (1, .int x1), (2, .int x2), (3, .int x3), (4, .int x4)] [] := by
  refine L_iload C dX12_mixMany_94 rfl ?_
  refine L_aload_n C (i := 0) dX12_mixMany_96 rfl rfl ?_
  refine L_getC C (c' := 135) dX12_mixMany_97 sh_132 fl_X12_16 rfl rfl ?_
  refine L_iconst C (v := 0) dX12_mixMany_100 rfl ?_
  refine L_iald C dX12_mixMany_101 sh_135 (by unfold vp_in; decide) ?_
  refine L_icmp_ge C (tgt := 151) dX12_mixMany_102 rfl (fun p1 => ?_) (fun p1 => ?_)
  · refine L_iinc C (v := 1) dX12_mixMany_151 rfl rfl (Nat.le_of_ble_eq_true rfl) ?_
    refine L_goto C (tgt := 39) dX12_mixMany_154 rfl ?_
    refine L_sub [0, 1, 2, 3] rfl ?_
    exact kk1 (Or.inl p1)
  · refine L_aload_n C (i := 0) dX12_mixMany_105 rfl rfl ?_
    refine L_getC C (c' := 135) dX12_mixMany_106 sh_132 fl_X12_16 rfl rfl ?_
    refine L_iconst C (v := 1) dX12_mixMany_109 rfl ?_
    refine L_iald C dX12_mixMany_110 sh_135 (by unfold vp_in; decide) ?_
    refine L_iconst C (v := 2) dX12_mixMany_111 rfl ?_
    refine L_icmp_le C (tgt := 151) dX12_mixMany_112 rfl (fun p2 => ?_) (fun p2 => ?_)
    · refine L_iinc C (v := 1) dX12_mixMany_151 rfl rfl (Nat.le_of_ble_eq_true rfl) ?_
      refine L_goto C (tgt := 39) dX12_mixMany_154 rfl ?_
      refine L_sub [0, 1, 2, 3] rfl ?_
      exact kk1 (Or.inr ⟨p1, p2⟩)
    · refine L_iload_n C (i := 1) dX12_mixMany_115 rfl rfl ?_
      refine L_aload_n C (i := 0) dX12_mixMany_116 rfl rfl ?_
      refine L_getC C (c' := 135) dX12_mixMany_117 sh_132 fl_X12_16 rfl rfl ?_
      refine L_iconst C (v := 5) dX12_mixMany_120 rfl ?_
      refine L_iload_n C (i := 2) dX12_mixMany_121 rfl rfl ?_
      refine L_iadd C dX12_mixMany_122 ?_
      refine L_iald C dX12_mixMany_123 sh_135 (ss2 p1 p2) ?_
      refine L_aload_n C (i := 0) dX12_mixMany_124 rfl rfl ?_
      refine L_getC C (c' := 135) dX12_mixMany_125 sh_132 fl_X12_16 rfl rfl ?_
      refine L_iconst C (v := 5) dX12_mixMany_128 rfl ?_
      refine L_iload_n C (i := 3) dX12_mixMany_129 rfl rfl ?_
      refine L_iadd C dX12_mixMany_130 ?_
      refine L_iald C dX12_mixMany_131 sh_135 (ss3 p1 p2) ?_
      refine L_imul C dX12_mixMany_132 ?_
      refine L_aload_n C (i := 0) dX12_mixMany_133 rfl rfl ?_
      refine L_getC C (c' := 135) dX12_mixMany_134 sh_132 fl_X12_16 rfl rfl ?_
      refine L_iconst C (v := 5) dX12_mixMany_137 rfl ?_
      refine L_iload C dX12_mixMany_138 rfl ?_
      refine L_iadd C dX12_mixMany_140 ?_
      refine L_iald C dX12_mixMany_141 sh_135 (ss4 p1 p2) ?_
      refine L_imul C dX12_mixMany_142 ?_
      refine L_iadd C dX12_mixMany_143 ?_
      refine L_istore_n C (i := 1) dX12_mixMany_144 rfl (Nat.le_of_ble_eq_true rfl) ?_
      refine L_iinc C (v := 1) dX12_mixMany_145 rfl rfl (Nat.le_of_ble_eq_true rfl) ?_
      refine L_goto C (tgt := 94) dX12_mixMany_148 rfl ?_
      exact kk5 p1 p2
set_option maxRecDepth 4000 in
theorem k_X12_beginsSet_0 {G : mG} {E : mE} {B : mB} {μ : mM} (C : Cx G mX12_beginsSet E) {x1 : Int32} (kk1 : Wm G mX12_beginsSet E B μ 2 [(0, .ref (gb G + 132)), (1, .int x1), (2, .int 0)] []) : Wm G mX12_beginsSet E B μ 0 [(0, .ref (gb G + 132)), (1, .int x1)] [] := by
  refine L_iconst C (v := 0) dX12_beginsSet_0 rfl ?_
  refine L_istore_n C (i := 2) dX12_beginsSet_1 rfl (Nat.le_of_ble_eq_true rfl) ?_
  exact kk1
theorem e_X12_beginsSet {G : mG} {Q : mM → Prop} {μ : mM} {x1 : Int32} (k : ∀ E, Cx G mX12_beginsSet E → Wm G mX12_beginsSet E (bm G mX12_beginsSet E (pV Q)) μ 0 [(0, .ref (gb G + 132)), (1, .int x1)] []) : CtV G mX12_beginsSet [.ref (gb G + 132), .int x1] μ Q := CtV.of pn_X12 (Nat.le_of_ble_eq_true rfl) k
set_option maxRecDepth 4000 in
theorem k_X12_beginsSet_2 {G : mG} {E : mE} {Q : mM → Prop} {μ : mM} (C : Cx G mX12_beginsSet E) {x1 : Int32} {x2 : Int32} (rr1 : x1 ≤ x2 → Q μ) (ss2 : ¬ x1 ≤ x2 → vp_in x2 3) (kk3 : ¬ x1 ≤ x2 → Wm G mX12_beginsSet E (bm G mX12_beginsSet E (pV Q)) (ms μ 143 x2.toNatClampNeg x2) 2 [(0, .ref (gb G + 132)), (1, .int x1), (2, .int (x2 + (1 : Int32)))] []) : Wm G mX12_beginsSet E (bm G mX12_beginsSet E (pV Q)) μ 2 [(0, .ref (gb G + 132)), (1, .int x1), (2, .int x2)] [] := by
  refine L_iload_n C (i := 2) dX12_beginsSet_2 rfl rfl ?_
  refine L_iload_n C (i := 1) dX12_beginsSet_3 rfl rfl ?_
  refine L_icmp_ge C (tgt := 20) dX12_beginsSet_4 rfl (fun p1 => ?_) (fun p1 => ?_)
  · exact L_irV C dX12_beginsSet_20 rfl (rr1 p1)
  · refine L_aload_n C (i := 0) dX12_beginsSet_7 rfl rfl ?_
    refine L_getC C (c' := 143) dX12_beginsSet_8 sh_132 fl_X12_42 rfl rfl ?_
    refine L_iload_n C (i := 2) dX12_beginsSet_11 rfl rfl ?_
    refine L_iload_n C (i := 2) dX12_beginsSet_12 rfl rfl ?_
    refine L_iast C dX12_beginsSet_13 sh_143 (ss2 p1) ?_
    refine L_iinc C (v := 1) dX12_beginsSet_14 rfl rfl (Nat.le_of_ble_eq_true rfl) ?_
    refine L_goto C (tgt := 2) dX12_beginsSet_17 rfl ?_
    exact kk3 p1
set_option maxRecDepth 4000 in
theorem k_X12_levelsOfSet_0 {G : mG} {E : mE} {B : mB} {μ : mM} (C : Cx G mX12_levelsOfSet E) {x1 : Int32} (kk1 : Wm G mX12_levelsOfSet E B μ 4 [(0, .ref (gb G + 132)), (1, .int x1), (2, .int 1), (3, .int 0)] []) : Wm G mX12_levelsOfSet E B μ 0 [(0, .ref (gb G + 132)), (1, .int x1)] [] := by
  refine L_iconst C (v := 1) dX12_levelsOfSet_0 rfl ?_
  refine L_istore_n C (i := 2) dX12_levelsOfSet_1 rfl (Nat.le_of_ble_eq_true rfl) ?_
  refine L_iconst C (v := 0) dX12_levelsOfSet_2 rfl ?_
  refine L_istore_n C (i := 3) dX12_levelsOfSet_3 rfl (Nat.le_of_ble_eq_true rfl) ?_
  exact kk1
theorem e_X12_levelsOfSet {G : mG} {Q : Int32 → mM → Prop} {μ : mM} {x1 : Int32} (k : ∀ E, Cx G mX12_levelsOfSet E → Wm G mX12_levelsOfSet E (bm G mX12_levelsOfSet E (pI Q)) μ 0 [(0, .ref (gb G + 132)), (1, .int x1)] []) : CtI G mX12_levelsOfSet [.ref (gb G + 132), .int x1] μ Q := CtI.of pn_X12 (Nat.le_of_ble_eq_true rfl) k
set_option maxRecDepth 4000 in
theorem k_X12_levelsOfSet_4 {G : mG} {E : mE} {Q : Int32 → mM → Prop} {μ : mM} (C : Cx G mX12_levelsOfSet E) {x1 : Int32} {x2 : Int32} {x3 : Int32} (rr1 : x1 ≤ x3 → Q x2 μ) (ss2 : ¬ x1 ≤ x3 → vp_in x3 3) (ss3 : ¬ x1 ≤ x3 → vp_in ((5 : Int32) + (μ 143 x3.toNatClampNeg)) 673) (kk4 : ¬ x1 ≤ x3 → Wm G mX12_levelsOfSet E (bm G mX12_levelsOfSet E (pI Q)) μ 4 [(0, .ref (gb G + 132)), (1, .int x1), (2, .int (x2 * (μ 135 ((5 : Int32) + (μ 143 x3.toNatClampNeg)).toNatClampNeg))), (3, .int (x3 + (1 : Int32)))] []) : Wm G mX12_levelsOfSet E (bm G mX12_levelsOfSet E (pI Q)) μ 4 [(0, .ref (gb G + 132)), (1, .int x1), (2, .int x2), (3, .int x3)] [] := by
  refine L_iload_n C (i := 3) dX12_levelsOfSet_4 rfl rfl ?_
  refine L_iload_n C (i := 1) dX12_levelsOfSet_5 rfl rfl ?_
  refine L_icmp_ge C (tgt := 31) dX12_levelsOfSet_6 rfl (fun p1 => ?_) (fun p1 => ?_)
  · refine L_iload_n C (i := 2) dX12_levelsOfSet_31 rfl rfl ?_
    exact L_irI C dX12_levelsOfSet_32 rfl (rr1 p1)
  · refine L_iload_n C (i := 2) dX12_levelsOfSet_9 rfl rfl ?_
    refine L_aload_n C (i := 0) dX12_levelsOfSet_10 rfl rfl ?_
    refine L_getC C (c' := 135) dX12_levelsOfSet_11 sh_132 fl_X12_16 rfl rfl ?_
    refine L_iconst C (v := 5) dX12_levelsOfSet_14 rfl ?_
    refine L_aload_n C (i := 0) dX12_levelsOfSet_15 rfl rfl ?_
    refine L_getC C (c' := 143) dX12_levelsOfSet_16 sh_132 fl_X12_42 rfl rfl ?_
    refine L_iload_n C (i := 3) dX12_levelsOfSet_19 rfl rfl ?_
    refine L_iald C dX12_levelsOfSet_20 sh_143 (ss2 p1) ?_
    refine L_iadd C dX12_levelsOfSet_21 ?_
    refine L_iald C dX12_levelsOfSet_22 sh_135 (ss3 p1) ?_
    refine L_imul C dX12_levelsOfSet_23 ?_
    refine L_istore_n C (i := 2) dX12_levelsOfSet_24 rfl (Nat.le_of_ble_eq_true rfl) ?_
    refine L_iinc C (v := 1) dX12_levelsOfSet_25 rfl rfl (Nat.le_of_ble_eq_true rfl) ?_
    refine L_goto C (tgt := 4) dX12_levelsOfSet_28 rfl ?_
    exact kk4 p1
set_option maxRecDepth 4000 in
theorem k_X12_levelOf_0 {G : mG} {E : mE} {B : mB} {μ : mM} (C : Cx G mX12_levelOf E) {x1 : Int32} {x2 : Int32} {x3 : Int32} (kk1 : Wm G mX12_levelOf E B μ 8 [(0, .ref (gb G + 132)), (2, .int x2), (4, .int x1), (5, .int (x3 - (1 : Int32)))] []) : Wm G mX12_levelOf E B μ 0 [(0, .ref (gb G + 132)), (1, .int x1), (2, .int x2), (3, .int x3)] [] := by
  refine L_iload_n C (i := 1) dX12_levelOf_0 rfl rfl ?_
  refine L_istore C dX12_levelOf_1 (Nat.le_of_ble_eq_true rfl) ?_
  refine L_iload_n C (i := 3) dX12_levelOf_3 rfl rfl ?_
  refine L_iconst C (v := 1) dX12_levelOf_4 rfl ?_
  refine L_isub C dX12_levelOf_5 ?_
  refine L_istore C dX12_levelOf_6 (Nat.le_of_ble_eq_true rfl) ?_
  refine L_sub [0, 2, 4, 5] rfl ?_
  exact kk1
theorem e_X12_levelOf {G : mG} {Q : Int32 → mM → Prop} {μ : mM} {x1 : Int32} {x2 : Int32} {x3 : Int32} (k : ∀ E, Cx G mX12_levelOf E → Wm G mX12_levelOf E (bm G mX12_levelOf E (pI Q)) μ 0 [(0, .ref (gb G + 132)), (1, .int x1), (2, .int x2), (3, .int x3)] []) : CtI G mX12_levelOf [.ref (gb G + 132), .int x1, .int x2, .int x3] μ Q := CtI.of pn_X12 (Nat.le_of_ble_eq_true rfl) k
set_option maxRecDepth 4000 in
theorem k_X12_levelOf_8 {G : mG} {E : mE} {Q : Int32 → mM → Prop} {μ : mM} (C : Cx G mX12_levelOf E) {x2 : Int32} {x4 : Int32} {x5 : Int32} (ss1 : x5 ≤ x2 → vp_in x2 3) (ss2 : x5 ≤ x2 → vp_in ((5 : Int32) + (μ 143 x2.toNatClampNeg)) 673) (dd3 : x5 ≤ x2 → ¬ (μ 135 ((5 : Int32) + (μ 143 x2.toNatClampNeg)).toNatClampNeg) = 0) (rr4 : x5 ≤ x2 → Q (x4 - x4 / (μ 135 ((5 : Int32) + (μ 143 x2.toNatClampNeg)).toNatClampNeg) * (μ 135 ((5 : Int32) + (μ 143 x2.toNatClampNeg)).toNatClampNeg)) μ) (ss5 : ¬ x5 ≤ x2 → vp_in x5 3) (ss6 : ¬ x5 ≤ x2 → vp_in ((5 : Int32) + (μ 143 x5.toNatClampNeg)) 673) (dd7 : ¬ x5 ≤ x2 → ¬ (μ 135 ((5 : Int32) + (μ 143 x5.toNatClampNeg)).toNatClampNeg) = 0) (kk8 : ¬ x5 ≤ x2 → Wm G mX12_levelOf E (bm G mX12_levelOf E (pI Q)) μ 8 [(0, .ref (gb G + 132)), (2, .int x2), (4, .int (x4 / (μ 135 ((5 : Int32) + (μ 143 x5.toNatClampNeg)).toNatClampNeg))), (5, .int (x5 + ((-1) : Int32)))] []) : Wm G mX12_levelOf E (bm G mX12_levelOf E (pI Q)) μ 8 [(0, .ref (gb G + 132)), (2, .int x2), (4, .int x4), (5, .int x5)] [] := by
  refine L_iload C dX12_levelOf_8 rfl ?_
  refine L_iload_n C (i := 2) dX12_levelOf_10 rfl rfl ?_
  refine L_icmp_le C (tgt := 39) dX12_levelOf_11 rfl (fun p1 => ?_) (fun p1 => ?_)
  · refine L_iload C dX12_levelOf_39 rfl ?_
    refine L_aload_n C (i := 0) dX12_levelOf_41 rfl rfl ?_
    refine L_getC C (c' := 135) dX12_levelOf_42 sh_132 fl_X12_16 rfl rfl ?_
    refine L_iconst C (v := 5) dX12_levelOf_45 rfl ?_
    refine L_aload_n C (i := 0) dX12_levelOf_46 rfl rfl ?_
    refine L_getC C (c' := 143) dX12_levelOf_47 sh_132 fl_X12_42 rfl rfl ?_
    refine L_iload_n C (i := 2) dX12_levelOf_50 rfl rfl ?_
    refine L_iald C dX12_levelOf_51 sh_143 (ss1 p1) ?_
    refine L_iadd C dX12_levelOf_52 ?_
    refine L_iald C dX12_levelOf_53 sh_135 (ss2 p1) ?_
    refine L_irem C dX12_levelOf_54 (dd3 p1) ?_
    exact L_irI C dX12_levelOf_55 rfl (rr4 p1)
  · refine L_iload C dX12_levelOf_14 rfl ?_
    refine L_aload_n C (i := 0) dX12_levelOf_16 rfl rfl ?_
    refine L_getC C (c' := 135) dX12_levelOf_17 sh_132 fl_X12_16 rfl rfl ?_
    refine L_iconst C (v := 5) dX12_levelOf_20 rfl ?_
    refine L_aload_n C (i := 0) dX12_levelOf_21 rfl rfl ?_
    refine L_getC C (c' := 143) dX12_levelOf_22 sh_132 fl_X12_42 rfl rfl ?_
    refine L_iload C dX12_levelOf_25 rfl ?_
    refine L_iald C dX12_levelOf_27 sh_143 (ss5 p1) ?_
    refine L_iadd C dX12_levelOf_28 ?_
    refine L_iald C dX12_levelOf_29 sh_135 (ss6 p1) ?_
    refine L_idiv C dX12_levelOf_30 (dd7 p1) ?_
    refine L_istore C dX12_levelOf_31 (Nat.le_of_ble_eq_true rfl) ?_
    refine L_iinc C (v := (-1)) dX12_levelOf_33 rfl rfl (Nat.le_of_ble_eq_true rfl) ?_
    refine L_goto C (tgt := 8) dX12_levelOf_36 rfl ?_
    exact kk8 p1
set_option maxRecDepth 4000 in
theorem k_X12_nextSet_0 {G : mG} {E : mE} {B : mB} {μ : mM} (C : Cx G mX12_nextSet E) {x1 : Int32} (kk1 : Wm G mX12_nextSet E B μ 4 [(0, .ref (gb G + 132)), (1, .int x1), (2, .int (x1 - (1 : Int32)))] []) : Wm G mX12_nextSet E B μ 0 [(0, .ref (gb G + 132)), (1, .int x1)] [] := by
  refine L_iload_n C (i := 1) dX12_nextSet_0 rfl rfl ?_
  refine L_iconst C (v := 1) dX12_nextSet_1 rfl ?_
  refine L_isub C dX12_nextSet_2 ?_
  refine L_istore_n C (i := 2) dX12_nextSet_3 rfl (Nat.le_of_ble_eq_true rfl) ?_
  exact kk1
theorem e_X12_nextSet {G : mG} {Q : Int32 → mM → Prop} {μ : mM} {x1 : Int32} (k : ∀ E, Cx G mX12_nextSet E → Wm G mX12_nextSet E (bm G mX12_nextSet E (pI Q)) μ 0 [(0, .ref (gb G + 132)), (1, .int x1)] []) : CtI G mX12_nextSet [.ref (gb G + 132), .int x1] μ Q := CtI.of pn_X12 (Nat.le_of_ble_eq_true rfl) k
set_option maxRecDepth 4000 in
theorem k_X12_nextSet_4 {G : mG} {E : mE} {B : mB} {μ : mM} (C : Cx G mX12_nextSet E) {x1 : Int32} {x2 : Int32} (kk1 : (x2 < 0 ∨ (¬ x2 < 0 ∧ ¬ (μ 143 x2.toNatClampNeg) = (((μ 135 0) - x1) + x2))) → Wm G mX12_nextSet E B μ 33 [(0, .ref (gb G + 132)), (1, .int x1), (2, .int x2)] []) (ss2 : ¬ x2 < 0 → vp_in x2 3) (kk3 : ¬ x2 < 0 → (μ 143 x2.toNatClampNeg) = (((μ 135 0) - x1) + x2) → Wm G mX12_nextSet E B μ 4 [(0, .ref (gb G + 132)), (1, .int x1), (2, .int (x2 + ((-1) : Int32)))] []) : Wm G mX12_nextSet E B μ 4 [(0, .ref (gb G + 132)), (1, .int x1), (2, .int x2)] [] := by
  refine L_iload_n C (i := 2) dX12_nextSet_4 rfl rfl ?_
  refine L_if_lt C (tgt := 33) dX12_nextSet_5 rfl (fun p1 => ?_) (fun p1 => ?_)
  · exact kk1 (Or.inl p1)
  · refine L_aload_n C (i := 0) dX12_nextSet_8 rfl rfl ?_
    refine L_getC C (c' := 143) dX12_nextSet_9 sh_132 fl_X12_42 rfl rfl ?_
    refine L_iload_n C (i := 2) dX12_nextSet_12 rfl rfl ?_
    refine L_iald C dX12_nextSet_13 sh_143 (ss2 p1) ?_
    refine L_aload_n C (i := 0) dX12_nextSet_14 rfl rfl ?_
    refine L_getC C (c' := 135) dX12_nextSet_15 sh_132 fl_X12_16 rfl rfl ?_
    refine L_iconst C (v := 0) dX12_nextSet_18 rfl ?_
    refine L_iald C dX12_nextSet_19 sh_135 (by unfold vp_in; decide) ?_
    refine L_iload_n C (i := 1) dX12_nextSet_20 rfl rfl ?_
    refine L_isub C dX12_nextSet_21 ?_
    refine L_iload_n C (i := 2) dX12_nextSet_22 rfl rfl ?_
    refine L_iadd C dX12_nextSet_23 ?_
    refine L_icmp_ne C (tgt := 33) dX12_nextSet_24 rfl (fun p2 => ?_) (fun p2 => ?_)
    · exact kk1 (Or.inr ⟨p1, p2⟩)
    · refine L_iinc C (v := (-1)) dX12_nextSet_27 rfl rfl (Nat.le_of_ble_eq_true rfl) ?_
      refine L_goto C (tgt := 4) dX12_nextSet_30 rfl ?_
      exact kk3 p1 p2
set_option maxRecDepth 4000 in
theorem k_X12_nextSet_33 {G : mG} {E : mE} {Q : Int32 → mM → Prop} {μ : mM} (C : Cx G mX12_nextSet E) {x1 : Int32} {x2 : Int32} (ss1 : 0 ≤ x2 → vp_in x2 3) (kk2 : 0 ≤ x2 → Wm G mX12_nextSet E (bm G mX12_nextSet E (pI Q)) (ms μ 143 x2.toNatClampNeg ((μ 143 x2.toNatClampNeg) + (1 : Int32))) 53 [(0, .ref (gb G + 132)), (1, .int x1), (3, .int (x2 + (1 : Int32)))] []) (rr3 : ¬ 0 ≤ x2 → Q 0 μ) : Wm G mX12_nextSet E (bm G mX12_nextSet E (pI Q)) μ 33 [(0, .ref (gb G + 132)), (1, .int x1), (2, .int x2)] [] := by
  refine L_iload_n C (i := 2) dX12_nextSet_33 rfl rfl ?_
  refine L_if_ge C (tgt := 39) dX12_nextSet_34 rfl (fun p1 => ?_) (fun p1 => ?_)
  · refine L_aload_n C (i := 0) dX12_nextSet_39 rfl rfl ?_
    refine L_getC C (c' := 143) dX12_nextSet_40 sh_132 fl_X12_42 rfl rfl ?_
    refine L_iload_n C (i := 2) dX12_nextSet_43 rfl rfl ?_
    refine L_dup2 C dX12_nextSet_44 rfl rfl ?_
    refine L_iald C dX12_nextSet_45 sh_143 (ss1 p1) ?_
    refine L_iconst C (v := 1) dX12_nextSet_46 rfl ?_
    refine L_iadd C dX12_nextSet_47 ?_
    refine L_iast C dX12_nextSet_48 sh_143 (ss1 p1) ?_
    refine L_iload_n C (i := 2) dX12_nextSet_49 rfl rfl ?_
    refine L_iconst C (v := 1) dX12_nextSet_50 rfl ?_
    refine L_iadd C dX12_nextSet_51 ?_
    refine L_istore_n C (i := 3) dX12_nextSet_52 rfl (Nat.le_of_ble_eq_true rfl) ?_
    refine L_sub [0, 1, 3] rfl ?_
    exact kk2 p1
  · refine L_iconst C (v := 0) dX12_nextSet_37 rfl ?_
    exact L_irZ C dX12_nextSet_38 rfl (by decide) (rr3 p1)
set_option maxRecDepth 4000 in
theorem k_X12_nextSet_53 {G : mG} {E : mE} {Q : Int32 → mM → Prop} {μ : mM} (C : Cx G mX12_nextSet E) {x1 : Int32} {x3 : Int32} (rr1 : x1 ≤ x3 → Q 1 μ) (ss2 : ¬ x1 ≤ x3 → vp_in (x3 - (1 : Int32)) 3) (ss3 : ¬ x1 ≤ x3 → vp_in x3 3) (kk4 : ¬ x1 ≤ x3 → Wm G mX12_nextSet E (bm G mX12_nextSet E (pI Q)) (ms μ 143 x3.toNatClampNeg ((μ 143 (x3 - (1 : Int32)).toNatClampNeg) + (1 : Int32))) 53 [(0, .ref (gb G + 132)), (1, .int x1), (3, .int (x3 + (1 : Int32)))] []) : Wm G mX12_nextSet E (bm G mX12_nextSet E (pI Q)) μ 53 [(0, .ref (gb G + 132)), (1, .int x1), (3, .int x3)] [] := by
  refine L_iload_n C (i := 3) dX12_nextSet_53 rfl rfl ?_
  refine L_iload_n C (i := 1) dX12_nextSet_54 rfl rfl ?_
  refine L_icmp_ge C (tgt := 80) dX12_nextSet_55 rfl (fun p1 => ?_) (fun p1 => ?_)
  · refine L_iconst C (v := 1) dX12_nextSet_80 rfl ?_
    exact L_irZ C dX12_nextSet_81 rfl (by decide) (rr1 p1)
  · refine L_aload_n C (i := 0) dX12_nextSet_58 rfl rfl ?_
    refine L_getC C (c' := 143) dX12_nextSet_59 sh_132 fl_X12_42 rfl rfl ?_
    refine L_iload_n C (i := 3) dX12_nextSet_62 rfl rfl ?_
    refine L_aload_n C (i := 0) dX12_nextSet_63 rfl rfl ?_
    refine L_getC C (c' := 143) dX12_nextSet_64 sh_132 fl_X12_42 rfl rfl ?_
    refine L_iload_n C (i := 3) dX12_nextSet_67 rfl rfl ?_
    refine L_iconst C (v := 1) dX12_nextSet_68 rfl ?_
    refine L_isub C dX12_nextSet_69 ?_
    refine L_iald C dX12_nextSet_70 sh_143 (ss2 p1) ?_
    refine L_iconst C (v := 1) dX12_nextSet_71 rfl ?_
    refine L_iadd C dX12_nextSet_72 ?_
    refine L_iast C dX12_nextSet_73 sh_143 (ss3 p1) ?_
    refine L_iinc C (v := 1) dX12_nextSet_74 rfl rfl (Nat.le_of_ble_eq_true rfl) ?_
    refine L_goto C (tgt := 53) dX12_nextSet_77 rfl ?_
    exact kk4 p1
set_option maxRecDepth 4000 in
theorem k_X12_nextLevel_0 {G : mG} {E : mE} {Q : Int32 → mM → Prop} {μ : mM} (C : Cx G mX12_nextLevel E) {x1 : Int32} (ss1 : vp_in x1 8) (ss2 : (μ 138 x1.toNatClampNeg) = (-1) → vp_in ((5 : Int32) + x1) 673) (rr3 : (((μ 138 x1.toNatClampNeg) = (-1) ∧ (μ 135 ((5 : Int32) + x1).toNatClampNeg) ≤ ((μ 139 x1.toNatClampNeg) + (1 : Int32))) ∨ (¬ (μ 138 x1.toNatClampNeg) = (-1) ∧ (μ 138 x1.toNatClampNeg) ≤ (μ 139 x1.toNatClampNeg))) → Q (-1) μ) (rr4 : (μ 138 x1.toNatClampNeg) = (-1) → ¬ (μ 135 ((5 : Int32) + x1).toNatClampNeg) ≤ ((μ 139 x1.toNatClampNeg) + (1 : Int32)) → Q ((μ 139 x1.toNatClampNeg) + (1 : Int32)) μ) (rr5 : ¬ (μ 138 x1.toNatClampNeg) = (-1) → ¬ (μ 138 x1.toNatClampNeg) ≤ (μ 139 x1.toNatClampNeg) → Q (μ 138 x1.toNatClampNeg) μ) : Wm G mX12_nextLevel E (bm G mX12_nextLevel E (pI Q)) μ 0 [(0, .ref (gb G + 132)), (1, .int x1)] [] := by
  refine L_aload_n C (i := 0) dX12_nextLevel_0 rfl rfl ?_
  refine L_getC C (c' := 138) dX12_nextLevel_1 sh_132 fl_X12_26 rfl rfl ?_
  refine L_iload_n C (i := 1) dX12_nextLevel_4 rfl rfl ?_
  refine L_iald C dX12_nextLevel_5 sh_138 (ss1) ?_
  refine L_iconst C (v := (-1)) dX12_nextLevel_6 rfl ?_
  refine L_icmp_eq C (tgt := 36) dX12_nextLevel_7 rfl (fun p1 => ?_) (fun p1 => ?_)
  · refine L_aload_n C (i := 0) dX12_nextLevel_36 rfl rfl ?_
    refine L_getC C (c' := 139) dX12_nextLevel_37 sh_132 fl_X12_29 rfl rfl ?_
    refine L_iload_n C (i := 1) dX12_nextLevel_40 rfl rfl ?_
    refine L_iald C dX12_nextLevel_41 sh_139 (ss1) ?_
    refine L_iconst C (v := 1) dX12_nextLevel_42 rfl ?_
    refine L_iadd C dX12_nextLevel_43 ?_
    refine L_aload_n C (i := 0) dX12_nextLevel_44 rfl rfl ?_
    refine L_getC C (c' := 135) dX12_nextLevel_45 sh_132 fl_X12_16 rfl rfl ?_
    refine L_iconst C (v := 5) dX12_nextLevel_48 rfl ?_
    refine L_iload_n C (i := 1) dX12_nextLevel_49 rfl rfl ?_
    refine L_iadd C dX12_nextLevel_50 ?_
    refine L_iald C dX12_nextLevel_51 sh_135 (ss2 p1) ?_
    refine L_icmp_ge C (tgt := 66) dX12_nextLevel_52 rfl (fun p2 => ?_) (fun p2 => ?_)
    · refine L_iconst C (v := (-1)) dX12_nextLevel_66 rfl ?_
      exact L_irI C dX12_nextLevel_67 rfl (rr3 (Or.inl ⟨p1, p2⟩))
    · refine L_aload_n C (i := 0) dX12_nextLevel_55 rfl rfl ?_
      refine L_getC C (c' := 139) dX12_nextLevel_56 sh_132 fl_X12_29 rfl rfl ?_
      refine L_iload_n C (i := 1) dX12_nextLevel_59 rfl rfl ?_
      refine L_iald C dX12_nextLevel_60 sh_139 (ss1) ?_
      refine L_iconst C (v := 1) dX12_nextLevel_61 rfl ?_
      refine L_iadd C dX12_nextLevel_62 ?_
      refine L_goto C (tgt := 67) dX12_nextLevel_63 rfl ?_
      exact L_irI C dX12_nextLevel_67 rfl (rr4 p1 p2)
  · refine L_aload_n C (i := 0) dX12_nextLevel_10 rfl rfl ?_
    refine L_getC C (c' := 139) dX12_nextLevel_11 sh_132 fl_X12_29 rfl rfl ?_
    refine L_iload_n C (i := 1) dX12_nextLevel_14 rfl rfl ?_
    refine L_iald C dX12_nextLevel_15 sh_139 (ss1) ?_
    refine L_aload_n C (i := 0) dX12_nextLevel_16 rfl rfl ?_
    refine L_getC C (c' := 138) dX12_nextLevel_17 sh_132 fl_X12_26 rfl rfl ?_
    refine L_iload_n C (i := 1) dX12_nextLevel_20 rfl rfl ?_
    refine L_iald C dX12_nextLevel_21 sh_138 (ss1) ?_
    refine L_icmp_ge C (tgt := 34) dX12_nextLevel_22 rfl (fun p3 => ?_) (fun p3 => ?_)
    · refine L_iconst C (v := (-1)) dX12_nextLevel_34 rfl ?_
      exact L_irI C dX12_nextLevel_35 rfl (rr3 (Or.inr ⟨p1, p3⟩))
    · refine L_aload_n C (i := 0) dX12_nextLevel_25 rfl rfl ?_
      refine L_getC C (c' := 138) dX12_nextLevel_26 sh_132 fl_X12_26 rfl rfl ?_
      refine L_iload_n C (i := 1) dX12_nextLevel_29 rfl rfl ?_
      refine L_iald C dX12_nextLevel_30 sh_138 (ss1) ?_
      refine L_goto C (tgt := 35) dX12_nextLevel_31 rfl ?_
      exact L_irI C dX12_nextLevel_35 rfl (rr5 p1 p3)
theorem a_X12_nextLevel {G : mG} {Q : Int32 → mM → Prop} {μ : mM} {x1 : Int32} (ss1 : vp_in x1 8) (ss2 : (μ 138 x1.toNatClampNeg) = (-1) → vp_in ((5 : Int32) + x1) 673) (rr3 : (((μ 138 x1.toNatClampNeg) = (-1) ∧ (μ 135 ((5 : Int32) + x1).toNatClampNeg) ≤ ((μ 139 x1.toNatClampNeg) + (1 : Int32))) ∨ (¬ (μ 138 x1.toNatClampNeg) = (-1) ∧ (μ 138 x1.toNatClampNeg) ≤ (μ 139 x1.toNatClampNeg))) → Q (-1) μ) (rr4 : (μ 138 x1.toNatClampNeg) = (-1) → ¬ (μ 135 ((5 : Int32) + x1).toNatClampNeg) ≤ ((μ 139 x1.toNatClampNeg) + (1 : Int32)) → Q ((μ 139 x1.toNatClampNeg) + (1 : Int32)) μ) (rr5 : ¬ (μ 138 x1.toNatClampNeg) = (-1) → ¬ (μ 138 x1.toNatClampNeg) ≤ (μ 139 x1.toNatClampNeg) → Q (μ 138 x1.toNatClampNeg) μ) : CtI G mX12_nextLevel [.ref (gb G + 132), .int x1] μ Q :=
  CtI.of pn_X12 (Nat.le_of_ble_eq_true rfl) (fun E C => k_X12_nextLevel_0 C ss1 ss2 rr3 rr4 rr5)
set_option maxRecDepth 4000 in
theorem k_X12_never_0 {G : mG} {E : mE} {Q : Int32 → mM → Prop} {μ : mM} (C : Cx G mX12_never E) {x1 : Int32} {x2 : Int32} (ss1 : vp_in (((13 : Int32) + ((7 : Int32) * x1)) + x2) 673) (rr2 : Q (μ 135 (((13 : Int32) + ((7 : Int32) * x1)) + x2).toNatClampNeg) μ) : Wm G mX12_never E (bm G mX12_never E (pI Q)) μ 0 [(0, .ref (gb G + 132)), (1, .int x1), (2, .int x2)] [] := by
  refine L_aload_n C (i := 0) dX12_never_0 rfl rfl ?_
  refine L_getC C (c' := 135) dX12_never_1 sh_132 fl_X12_16 rfl rfl ?_
  refine L_bipush C (v := 13) dX12_never_4 rfl ?_
  refine L_bipush C (v := 7) dX12_never_6 rfl ?_
  refine L_iload_n C (i := 1) dX12_never_8 rfl rfl ?_
  refine L_imul C dX12_never_9 ?_
  refine L_iadd C dX12_never_10 ?_
  refine L_iload_n C (i := 2) dX12_never_11 rfl rfl ?_
  refine L_iadd C dX12_never_12 ?_
  refine L_iald C dX12_never_13 sh_135 (ss1) ?_
  exact L_irI C dX12_never_14 rfl (rr2)
theorem a_X12_never {G : mG} {Q : Int32 → mM → Prop} {μ : mM} {x1 : Int32} {x2 : Int32} (ss1 : vp_in (((13 : Int32) + ((7 : Int32) * x1)) + x2) 673) (rr2 : Q (μ 135 (((13 : Int32) + ((7 : Int32) * x1)) + x2).toNatClampNeg) μ) : CtI G mX12_never [.ref (gb G + 132), .int x1, .int x2] μ Q :=
  CtI.of pn_X12 (Nat.le_of_ble_eq_true rfl) (fun E C => k_X12_never_0 C ss1 rr2)
set_option maxRecDepth 4000 in
theorem k_X12_breaks_0 {G : mG} {E : mE} {B : mB} {μ : mM} (C : Cx G mX12_breaks E) {x1 : Int32} (kk1 : Wm G mX12_breaks E B μ 2 [(0, .ref (gb G + 132)), (1, .int x1), (2, .int 0)] []) : Wm G mX12_breaks E B μ 0 [(0, .ref (gb G + 132)), (1, .int x1)] [] := by
  refine L_iconst C (v := 0) dX12_breaks_0 rfl ?_
  refine L_istore_n C (i := 2) dX12_breaks_1 rfl (Nat.le_of_ble_eq_true rfl) ?_
  exact kk1
theorem e_X12_breaks {G : mG} {Q : Int32 → mM → Prop} {μ : mM} {x1 : Int32} (k : ∀ E, Cx G mX12_breaks E → Wm G mX12_breaks E (bm G mX12_breaks E (pI Q)) μ 0 [(0, .ref (gb G + 132)), (1, .int x1)] []) : CtI G mX12_breaks [.ref (gb G + 132), .int x1] μ Q := CtI.of pn_X12 (Nat.le_of_ble_eq_true rfl) k
set_option maxRecDepth 4000 in
theorem k_X12_breaks_2 {G : mG} {E : mE} {Q : Int32 → mM → Prop} {μ : mM} (C : Cx G mX12_breaks E) {x1 : Int32} {x2 : Int32} (rr1 : (μ 135 2) ≤ x2 → Q 0 μ) (kk2 : ¬ (μ 135 2) ≤ x2 → Wm G mX12_breaks E (bm G mX12_breaks E (pI Q)) μ 20 [(0, .ref (gb G + 132)), (1, .int x1), (2, .int x2), (3, .int 0), (4, .int 1), (5, .int 0)] []) : Wm G mX12_breaks E (bm G mX12_breaks E (pI Q)) μ 2 [(0, .ref (gb G + 132)), (1, .int x1), (2, .int x2)] [] := by
  refine L_iload_n C (i := 2) dX12_breaks_2 rfl rfl ?_
  refine L_aload_n C (i := 0) dX12_breaks_3 rfl rfl ?_
  refine L_getC C (c' := 135) dX12_breaks_4 sh_132 fl_X12_16 rfl rfl ?_
  refine L_iconst C (v := 2) dX12_breaks_7 rfl ?_
  refine L_iald C dX12_breaks_8 sh_135 (by unfold vp_in; decide) ?_
  refine L_icmp_ge C (tgt := 120) dX12_breaks_9 rfl (fun p1 => ?_) (fun p1 => ?_)
  · refine L_iconst C (v := 0) dX12_breaks_120 rfl ?_
    exact L_irZ C dX12_breaks_121 rfl (by decide) (rr1 p1)
  · refine L_iconst C (v := 0) dX12_breaks_12 rfl ?_
    refine L_istore_n C (i := 3) dX12_breaks_13 rfl (Nat.le_of_ble_eq_true rfl) ?_
    refine L_iconst C (v := 1) dX12_breaks_14 rfl ?_
    refine L_istore C dX12_breaks_15 (Nat.le_of_ble_eq_true rfl) ?_
    refine L_iconst C (v := 0) dX12_breaks_17 rfl ?_
    refine L_istore C dX12_breaks_18 (Nat.le_of_ble_eq_true rfl) ?_
    exact kk2 p1
set_option maxRecDepth 4000 in
theorem k_X12_breaks_20 {G : mG} {E : mE} {Q : Int32 → mM → Prop} {μ : mM} (C : Cx G mX12_breaks E) {x1 : Int32} {x2 : Int32} {x3 : Int32} {x4 : Int32} {x5 : Int32} (ss1 : vp_in (((13 : Int32) + ((7 : Int32) * x2)) + (0 : Int32)) 673) (kk2 : (μ 135 (((13 : Int32) + ((7 : Int32) * x2)) + (0 : Int32)).toNatClampNeg) ≤ x5 → (x4 = 0 ∨ (¬ x4 = 0 ∧ ¬ x3 = x1)) → Wm G mX12_breaks E (bm G mX12_breaks E (pI Q)) μ 2 [(0, .ref (gb G + 132)), (1, .int x1), (2, .int (x2 + (1 : Int32)))] []) (rr3 : (μ 135 (((13 : Int32) + ((7 : Int32) * x2)) + (0 : Int32)).toNatClampNeg) ≤ x5 → ¬ x4 = 0 → x3 = x1 → Q 1 μ) (ss4 : ¬ (μ 135 (((13 : Int32) + ((7 : Int32) * x2)) + (0 : Int32)).toNatClampNeg) ≤ x5 → vp_in (((13 : Int32) + ((7 : Int32) * x2)) + ((1 : Int32) + ((2 : Int32) * x5))) 673) (ss5 : ¬ (μ 135 (((13 : Int32) + ((7 : Int32) * x2)) + (0 : Int32)).toNatClampNeg) ≤ x5 → ∀ v1 : Int32, (((μ 135 (((13 : Int32) + ((7 : Int32) * x2)) + ((1 : Int32) + ((2 : Int32) * x5))).toNatClampNeg) ≤ x3 ∧ v1 = x3) ∨ (¬ (μ 135 (((13 : Int32) + ((7 : Int32) * x2)) + ((1 : Int32) + ((2 : Int32) * x5))).toNatClampNeg) ≤ x3 ∧ v1 = (μ 135 (((13 : Int32) + ((7 : Int32) * x2)) + ((1 : Int32) + ((2 : Int32) * x5))).toNatClampNeg))) → ¬ x4 = 0 → ¬ x1 < (μ 135 (((13 : Int32) + ((7 : Int32) * x2)) + ((1 : Int32) + ((2 : Int32) * x5))).toNatClampNeg) → vp_in (μ 135 (((13 : Int32) + ((7 : Int32) * x2)) + ((1 : Int32) + ((2 : Int32) * x5))).toNatClampNeg) 8) (ss6 : ¬ (μ 135 (((13 : Int32) + ((7 : Int32) * x2)) + (0 : Int32)).toNatClampNeg) ≤ x5 → ∀ v1 : Int32, (((μ 135 (((13 : Int32) + ((7 : Int32) * x2)) + ((1 : Int32) + ((2 : Int32) * x5))).toNatClampNeg) ≤ x3 ∧ v1 = x3) ∨ (¬ (μ 135 (((13 : Int32) + ((7 : Int32) * x2)) + ((1 : Int32) + ((2 : Int32) * x5))).toNatClampNeg) ≤ x3 ∧ v1 = (μ 135 (((13 : Int32) + ((7 : Int32) * x2)) + ((1 : Int32) + ((2 : Int32) * x5))).toNatClampNeg))) → ¬ x4 = 0 → ¬ x1 < (μ 135 (((13 : Int32) + ((7 : Int32) * x2)) + ((1 : Int32) + ((2 : Int32) * x5))).toNatClampNeg) → vp_in (((13 : Int32) + ((7 : Int32) * x2)) + ((2 : Int32) + ((2 : Int32) * x5))) 673) (kk7 : ¬ (μ 135 (((13 : Int32) + ((7 : Int32) * x2)) + (0 : Int32)).toNatClampNeg) ≤ x5 → ∀ v1 : Int32, (((μ 135 (((13 : Int32) + ((7 : Int32) * x2)) + ((1 : Int32) + ((2 : Int32) * x5))).toNatClampNeg) ≤ x3 ∧ v1 = x3) ∨ (¬ (μ 135 (((13 : Int32) + ((7 : Int32) * x2)) + ((1 : Int32) + ((2 : Int32) * x5))).toNatClampNeg) ≤ x3 ∧ v1 = (μ 135 (((13 : Int32) + ((7 : Int32) * x2)) + ((1 : Int32) + ((2 : Int32) * x5))).toNatClampNeg))) → ∀ v2 : Int32, (((x4 = 0 ∨ (¬ x4 = 0 ∧ (x1 < (μ 135 (((13 : Int32) + ((7 : Int32) * x2)) + ((1 : Int32) + ((2 : Int32) * x5))).toNatClampNeg) ∨ (¬ x1 < (μ 135 (((13 : Int32) + ((7 : Int32) * x2)) + ((1 : Int32) + ((2 : Int32) * x5))).toNatClampNeg) ∧ ¬ (μ 139 (μ 135 (((13 : Int32) + ((7 : Int32) * x2)) + ((1 : Int32) + ((2 : Int32) * x5))).toNatClampNeg).toNatClampNeg) = (μ 135 (((13 : Int32) + ((7 : Int32) * x2)) + ((2 : Int32) + ((2 : Int32) * x5))).toNatClampNeg))))) ∧ v2 = 0) ∨ (¬ x4 = 0 ∧ ¬ x1 < (μ 135 (((13 : Int32) + ((7 : Int32) * x2)) + ((1 : Int32) + ((2 : Int32) * x5))).toNatClampNeg) ∧ (μ 139 (μ 135 (((13 : Int32) + ((7 : Int32) * x2)) + ((1 : Int32) + ((2 : Int32) * x5))).toNatClampNeg).toNatClampNeg) = (μ 135 (((13 : Int32) + ((7 : Int32) * x2)) + ((2 : Int32) + ((2 : Int32) * x5))).toNatClampNeg) ∧ v2 = 1)) → Wm G mX12_breaks E (bm G mX12_breaks E (pI Q)) μ 20 [(0, .ref (gb G + 132)), (1, .int x1), (2, .int x2), (3, .int v1), (4, .int v2), (5, .int (x5 + (1 : Int32)))] []) : Wm G mX12_breaks E (bm G mX12_breaks E (pI Q)) μ 20 [(0, .ref (gb G + 132)), (1, .int x1), (2, .int x2), (3, .int x3), (4, .int x4), (5, .int x5)] [] := by
  refine L_iload C dX12_breaks_20 rfl ?_
  refine L_aload_n C (i := 0) dX12_breaks_22 rfl rfl ?_
  refine L_iload_n C (i := 2) dX12_breaks_23 rfl rfl ?_
  refine L_iconst C (v := 0) dX12_breaks_24 rfl ?_
  refine L_invV2i C dX12_breaks_25 sh_132 cal_X12_never lk_X12_171 ⟨Nat.le_of_ble_eq_true rfl, Nat.le_of_ble_eq_true rfl⟩ ⟨Nat.le_of_ble_eq_true rfl, Nat.le_of_ble_eq_true rfl⟩ (Nat.le_of_ble_eq_true rfl) (a_X12_never (ss1) (?_))
  · refine L_icmp_ge C (tgt := 102) dX12_breaks_28 rfl (fun p1 => ?_) (fun p1 => ?_)
    · refine L_iload C dX12_breaks_102 rfl ?_
      refine L_if_eq C (tgt := 114) dX12_breaks_104 rfl (fun p2 => ?_) (fun p2 => ?_)
      · refine L_iinc C (v := 1) dX12_breaks_114 rfl rfl (Nat.le_of_ble_eq_true rfl) ?_
        refine L_goto C (tgt := 2) dX12_breaks_117 rfl ?_
        refine L_sub [0, 1, 2] rfl ?_
        exact kk2 p1 (Or.inl p2)
      · refine L_iload_n C (i := 3) dX12_breaks_107 rfl rfl ?_
        refine L_iload_n C (i := 1) dX12_breaks_108 rfl rfl ?_
        refine L_icmp_ne C (tgt := 114) dX12_breaks_109 rfl (fun p3 => ?_) (fun p3 => ?_)
        · refine L_iinc C (v := 1) dX12_breaks_114 rfl rfl (Nat.le_of_ble_eq_true rfl) ?_
          refine L_goto C (tgt := 2) dX12_breaks_117 rfl ?_
          refine L_sub [0, 1, 2] rfl ?_
          exact kk2 p1 (Or.inr ⟨p2, p3⟩)
        · refine L_iconst C (v := 1) dX12_breaks_112 rfl ?_
          exact L_irZ C dX12_breaks_113 rfl (by decide) (rr3 p1 p2 p3)
    · refine L_aload_n C (i := 0) dX12_breaks_31 rfl rfl ?_
      refine L_iload_n C (i := 2) dX12_breaks_32 rfl rfl ?_
      refine L_iconst C (v := 1) dX12_breaks_33 rfl ?_
      refine L_iconst C (v := 2) dX12_breaks_34 rfl ?_
      refine L_iload C dX12_breaks_35 rfl ?_
      refine L_imul C dX12_breaks_37 ?_
      refine L_iadd C dX12_breaks_38 ?_
      refine L_invV2i C dX12_breaks_39 sh_132 cal_X12_never lk_X12_171 ⟨Nat.le_of_ble_eq_true rfl, Nat.le_of_ble_eq_true rfl⟩ ⟨Nat.le_of_ble_eq_true rfl, Nat.le_of_ble_eq_true rfl⟩ (Nat.le_of_ble_eq_true rfl) (a_X12_never (ss4 p1) (?_))
      · refine L_istore C dX12_breaks_42 (Nat.le_of_ble_eq_true rfl) ?_
        refine L_iload C dX12_breaks_44 rfl ?_
        refine L_iload_n C (i := 3) dX12_breaks_46 rfl rfl ?_
        refine phi (fun v1 : Int32 => Wm G mX12_breaks E (bm G mX12_breaks E (pI Q)) μ 56 [(0, .ref (gb G + 132)), (1, .int x1), (2, .int x2), (4, .int x4), (5, .int x5), (6, .int (μ 135 (((13 : Int32) + ((7 : Int32) * x2)) + ((1 : Int32) + ((2 : Int32) * x5))).toNatClampNeg))] [.int v1]) (fun v1 : Int32 => ((μ 135 (((13 : Int32) + ((7 : Int32) * x2)) + ((1 : Int32) + ((2 : Int32) * x5))).toNatClampNeg) ≤ x3 ∧ v1 = x3) ∨ (¬ (μ 135 (((13 : Int32) + ((7 : Int32) * x2)) + ((1 : Int32) + ((2 : Int32) * x5))).toNatClampNeg) ≤ x3 ∧ v1 = (μ 135 (((13 : Int32) + ((7 : Int32) * x2)) + ((1 : Int32) + ((2 : Int32) * x5))).toNatClampNeg))) (fun H => ?_) (fun v1 hv1 => ?_)
        · refine L_icmp_le C (tgt := 55) dX12_breaks_47 rfl (fun p4 => ?_) (fun p4 => ?_)
          · refine L_iload_n C (i := 3) dX12_breaks_55 rfl rfl ?_
            refine L_sub [0, 1, 2, 4, 5, 6] rfl ?_
            exact H _ (Or.inl ⟨p4, rfl⟩)
          · refine L_iload C dX12_breaks_50 rfl ?_
            refine L_goto C (tgt := 56) dX12_breaks_52 rfl ?_
            refine L_sub [0, 1, 2, 4, 5, 6] rfl ?_
            exact H _ (Or.inr ⟨p4, rfl⟩)
        refine L_istore_n C (i := 3) dX12_breaks_56 rfl (Nat.le_of_ble_eq_true rfl) ?_
        refine L_iload C dX12_breaks_57 rfl ?_
        refine phi (fun v2 : Int32 => Wm G mX12_breaks E (bm G mX12_breaks E (pI Q)) μ 94 [(0, .ref (gb G + 132)), (1, .int x1), (2, .int x2), (3, .int v1), (5, .int x5)] [.int v2]) (fun v2 : Int32 => ((x4 = 0 ∨ (¬ x4 = 0 ∧ (x1 < (μ 135 (((13 : Int32) + ((7 : Int32) * x2)) + ((1 : Int32) + ((2 : Int32) * x5))).toNatClampNeg) ∨ (¬ x1 < (μ 135 (((13 : Int32) + ((7 : Int32) * x2)) + ((1 : Int32) + ((2 : Int32) * x5))).toNatClampNeg) ∧ ¬ (μ 139 (μ 135 (((13 : Int32) + ((7 : Int32) * x2)) + ((1 : Int32) + ((2 : Int32) * x5))).toNatClampNeg).toNatClampNeg) = (μ 135 (((13 : Int32) + ((7 : Int32) * x2)) + ((2 : Int32) + ((2 : Int32) * x5))).toNatClampNeg))))) ∧ v2 = 0) ∨ (¬ x4 = 0 ∧ ¬ x1 < (μ 135 (((13 : Int32) + ((7 : Int32) * x2)) + ((1 : Int32) + ((2 : Int32) * x5))).toNatClampNeg) ∧ (μ 139 (μ 135 (((13 : Int32) + ((7 : Int32) * x2)) + ((1 : Int32) + ((2 : Int32) * x5))).toNatClampNeg).toNatClampNeg) = (μ 135 (((13 : Int32) + ((7 : Int32) * x2)) + ((2 : Int32) + ((2 : Int32) * x5))).toNatClampNeg) ∧ v2 = 1)) (fun H => ?_) (fun v2 hv2 => ?_)
        · refine L_if_eq C (tgt := 93) dX12_breaks_59 rfl (fun p5 => ?_) (fun p5 => ?_)
          · refine L_iconst C (v := 0) dX12_breaks_93 rfl ?_
            refine L_sub [0, 1, 2, 3, 5] rfl ?_
            exact H _ (Or.inl ⟨(Or.inl p5), rfl⟩)
          · refine L_iload C dX12_breaks_62 rfl ?_
            refine L_iload_n C (i := 1) dX12_breaks_64 rfl rfl ?_
            refine L_icmp_gt C (tgt := 93) dX12_breaks_65 rfl (fun p6 => ?_) (fun p6 => ?_)
            · refine L_iconst C (v := 0) dX12_breaks_93 rfl ?_
              refine L_sub [0, 1, 2, 3, 5] rfl ?_
              exact H _ (Or.inl ⟨(Or.inr ⟨p5, (Or.inl p6)⟩), rfl⟩)
            · refine L_aload_n C (i := 0) dX12_breaks_68 rfl rfl ?_
              refine L_getC C (c' := 139) dX12_breaks_69 sh_132 fl_X12_29 rfl rfl ?_
              refine L_iload C dX12_breaks_72 rfl ?_
              refine L_iald C dX12_breaks_74 sh_139 (ss5 p1 v1 hv1 p5 p6) ?_
              refine L_aload_n C (i := 0) dX12_breaks_75 rfl rfl ?_
              refine L_iload_n C (i := 2) dX12_breaks_76 rfl rfl ?_
              refine L_iconst C (v := 2) dX12_breaks_77 rfl ?_
              refine L_iconst C (v := 2) dX12_breaks_78 rfl ?_
              refine L_iload C dX12_breaks_79 rfl ?_
              refine L_imul C dX12_breaks_81 ?_
              refine L_iadd C dX12_breaks_82 ?_
              refine L_invV2i C dX12_breaks_83 sh_132 cal_X12_never lk_X12_171 ⟨Nat.le_of_ble_eq_true rfl, Nat.le_of_ble_eq_true rfl⟩ ⟨Nat.le_of_ble_eq_true rfl, Nat.le_of_ble_eq_true rfl⟩ (Nat.le_of_ble_eq_true rfl) (a_X12_never (ss6 p1 v1 hv1 p5 p6) (?_))
              · refine L_icmp_ne C (tgt := 93) dX12_breaks_86 rfl (fun p7 => ?_) (fun p7 => ?_)
                · refine L_iconst C (v := 0) dX12_breaks_93 rfl ?_
                  refine L_sub [0, 1, 2, 3, 5] rfl ?_
                  exact H _ (Or.inl ⟨(Or.inr ⟨p5, (Or.inr ⟨p6, p7⟩)⟩), rfl⟩)
                · refine L_iconst C (v := 1) dX12_breaks_89 rfl ?_
                  refine L_goto C (tgt := 94) dX12_breaks_90 rfl ?_
                  refine L_sub [0, 1, 2, 3, 5] rfl ?_
                  exact H _ (Or.inr ⟨p5, p6, p7, rfl⟩)
        refine L_istore C dX12_breaks_94 (Nat.le_of_ble_eq_true rfl) ?_
        refine L_iinc C (v := 1) dX12_breaks_96 rfl rfl (Nat.le_of_ble_eq_true rfl) ?_
        refine L_goto C (tgt := 20) dX12_breaks_99 rfl ?_
        exact kk7 p1 v1 hv1 v2 hv2
set_option maxRecDepth 4000 in
theorem k_X12_fillings_0 {G : mG} {E : mE} {B : mB} {μ : mM} (C : Cx G mX12_fillings E) {x1 : Int32} (kk1 : Wm G mX12_fillings E B (ms μ 139 0 (-1)) 11 [(0, .ref (gb G + 132)), (1, .int x1), (2, .int 0), (3, .int 0)] []) : Wm G mX12_fillings E B μ 0 [(0, .ref (gb G + 132)), (1, .int x1)] [] := by
  refine L_iconst C (v := 0) dX12_fillings_0 rfl ?_
  refine L_istore_n C (i := 2) dX12_fillings_1 rfl (Nat.le_of_ble_eq_true rfl) ?_
  refine L_iconst C (v := 0) dX12_fillings_2 rfl ?_
  refine L_istore_n C (i := 3) dX12_fillings_3 rfl (Nat.le_of_ble_eq_true rfl) ?_
  refine L_aload_n C (i := 0) dX12_fillings_4 rfl rfl ?_
  refine L_getC C (c' := 139) dX12_fillings_5 sh_132 fl_X12_29 rfl rfl ?_
  refine L_iconst C (v := 0) dX12_fillings_8 rfl ?_
  refine L_iconst C (v := (-1)) dX12_fillings_9 rfl ?_
  refine L_iast C dX12_fillings_10 sh_139 (by unfold vp_in; decide) ?_
  exact kk1
theorem e_X12_fillings {G : mG} {Q : Int32 → mM → Prop} {μ : mM} {x1 : Int32} (k : ∀ E, Cx G mX12_fillings E → Wm G mX12_fillings E (bm G mX12_fillings E (pI Q)) μ 0 [(0, .ref (gb G + 132)), (1, .int x1)] []) : CtI G mX12_fillings [.ref (gb G + 132), .int x1] μ Q := CtI.of pn_X12 (Nat.le_of_ble_eq_true rfl) k
set_option maxRecDepth 4000 in
theorem k_X12_fillings_11 {G : mG} {E : mE} {Q : Int32 → mM → Prop} {μ : mM} (C : Cx G mX12_fillings E) {x1 : Int32} {x2 : Int32} {x3 : Int32} (rr1 : x3 < 0 → Q x2 μ) (ss2 : ¬ x3 < 0 → vp_in x3 8) (ss3 : ¬ x3 < 0 → (μ 138 x3.toNatClampNeg) = (-1) → vp_in ((5 : Int32) + x3) 673) (kk4 : ¬ x3 < 0 → ((((μ 138 x3.toNatClampNeg) = (-1) ∧ (μ 135 ((5 : Int32) + x3).toNatClampNeg) ≤ ((μ 139 x3.toNatClampNeg) + (1 : Int32))) ∨ (¬ (μ 138 x3.toNatClampNeg) = (-1) ∧ (μ 138 x3.toNatClampNeg) ≤ (μ 139 x3.toNatClampNeg))) ∨ ((μ 138 x3.toNatClampNeg) = (-1) ∧ ¬ (μ 135 ((5 : Int32) + x3).toNatClampNeg) ≤ ((μ 139 x3.toNatClampNeg) + (1 : Int32)) ∧ ¬ 0 ≤ ((μ 139 x3.toNatClampNeg) + (1 : Int32))) ∨ (¬ (μ 138 x3.toNatClampNeg) = (-1) ∧ ¬ (μ 138 x3.toNatClampNeg) ≤ (μ 139 x3.toNatClampNeg) ∧ ¬ 0 ≤ (μ 138 x3.toNatClampNeg))) → Wm G mX12_fillings E (bm G mX12_fillings E (pI Q)) μ 11 [(0, .ref (gb G + 132)), (1, .int x1), (2, .int x2), (3, .int (x3 + ((-1) : Int32)))] []) (cc5 : ¬ x3 < 0 → (μ 138 x3.toNatClampNeg) = (-1) → ¬ (μ 135 ((5 : Int32) + x3).toNatClampNeg) ≤ ((μ 139 x3.toNatClampNeg) + (1 : Int32)) → 0 ≤ ((μ 139 x3.toNatClampNeg) + (1 : Int32)) → CtI G mX12_breaks [.ref (gb G + 132), .int x3] (ms μ 139 x3.toNatClampNeg ((μ 139 x3.toNatClampNeg) + (1 : Int32))) (fun r μ' => Wm G mX12_fillings E (bm G mX12_fillings E (pI Q)) μ' 46 [(0, .ref (gb G + 132)), (1, .int x1), (2, .int x2), (3, .int x3)] [.int r])) (cc6 : ¬ x3 < 0 → ¬ (μ 138 x3.toNatClampNeg) = (-1) → ¬ (μ 138 x3.toNatClampNeg) ≤ (μ 139 x3.toNatClampNeg) → 0 ≤ (μ 138 x3.toNatClampNeg) → CtI G mX12_breaks [.ref (gb G + 132), .int x3] (ms μ 139 x3.toNatClampNeg (μ 138 x3.toNatClampNeg)) (fun r μ' => Wm G mX12_fillings E (bm G mX12_fillings E (pI Q)) μ' 46 [(0, .ref (gb G + 132)), (1, .int x1), (2, .int x2), (3, .int x3)] [.int r])) : Wm G mX12_fillings E (bm G mX12_fillings E (pI Q)) μ 11 [(0, .ref (gb G + 132)), (1, .int x1), (2, .int x2), (3, .int x3)] [] := by
  refine L_iload_n C (i := 3) dX12_fillings_11 rfl rfl ?_
  refine L_if_lt C (tgt := 86) dX12_fillings_12 rfl (fun p1 => ?_) (fun p1 => ?_)
  · refine L_iload_n C (i := 2) dX12_fillings_86 rfl rfl ?_
    exact L_irI C dX12_fillings_87 rfl (rr1 p1)
  · refine L_aload_n C (i := 0) dX12_fillings_15 rfl rfl ?_
    refine L_iload_n C (i := 3) dX12_fillings_16 rfl rfl ?_
    refine L_invV1i C dX12_fillings_17 sh_132 cal_X12_nextLevel lk_X12_175 ⟨Nat.le_of_ble_eq_true rfl, Nat.le_of_ble_eq_true rfl⟩ ⟨Nat.le_of_ble_eq_true rfl, Nat.le_of_ble_eq_true rfl⟩ (Nat.le_of_ble_eq_true rfl) (a_X12_nextLevel (ss2 p1) (fun p2 => ss3 p1 p2) (fun p3 => ?_) (fun p4 p5 => ?_) (fun p6 p7 => ?_))
    · refine L_istore C dX12_fillings_20 (Nat.le_of_ble_eq_true rfl) ?_
      refine L_iload C dX12_fillings_22 rfl ?_
      refine L_if_ge C (tgt := 33) dX12_fillings_24 rfl (fun p8 => absurd p8 (by decide)) (fun p8 => ?_)
      refine L_iinc C (v := (-1)) dX12_fillings_27 rfl rfl (Nat.le_of_ble_eq_true rfl) ?_
      refine L_goto C (tgt := 11) dX12_fillings_30 rfl ?_
      refine L_sub [0, 1, 2, 3] rfl ?_
      exact kk4 p1 (Or.inl p3)
    · refine L_istore C dX12_fillings_20 (Nat.le_of_ble_eq_true rfl) ?_
      refine L_iload C dX12_fillings_22 rfl ?_
      refine L_if_ge C (tgt := 33) dX12_fillings_24 rfl (fun p9 => ?_) (fun p9 => ?_)
      · refine L_aload_n C (i := 0) dX12_fillings_33 rfl rfl ?_
        refine L_getC C (c' := 139) dX12_fillings_34 sh_132 fl_X12_29 rfl rfl ?_
        refine L_iload_n C (i := 3) dX12_fillings_37 rfl rfl ?_
        refine L_iload C dX12_fillings_38 rfl ?_
        refine L_iast C dX12_fillings_40 sh_139 (ss2 p1) ?_
        refine L_aload_n C (i := 0) dX12_fillings_41 rfl rfl ?_
        refine L_iload_n C (i := 3) dX12_fillings_42 rfl rfl ?_
        refine L_sub [0, 1, 2, 3] rfl ?_
        refine L_invV1i C dX12_fillings_43 sh_132 cal_X12_breaks lk_X12_178 ⟨Nat.le_of_ble_eq_true rfl, Nat.le_of_ble_eq_true rfl⟩ ⟨Nat.le_of_ble_eq_true rfl, Nat.le_of_ble_eq_true rfl⟩ (Nat.le_of_ble_eq_true rfl) ?_
        exact cc5 p1 p4 p5 p9
      · refine L_iinc C (v := (-1)) dX12_fillings_27 rfl rfl (Nat.le_of_ble_eq_true rfl) ?_
        refine L_goto C (tgt := 11) dX12_fillings_30 rfl ?_
        refine L_sub [0, 1, 2, 3] rfl ?_
        exact kk4 p1 (Or.inr (Or.inl ⟨p4, p5, p9⟩))
    · refine L_istore C dX12_fillings_20 (Nat.le_of_ble_eq_true rfl) ?_
      refine L_iload C dX12_fillings_22 rfl ?_
      refine L_if_ge C (tgt := 33) dX12_fillings_24 rfl (fun p10 => ?_) (fun p10 => ?_)
      · refine L_aload_n C (i := 0) dX12_fillings_33 rfl rfl ?_
        refine L_getC C (c' := 139) dX12_fillings_34 sh_132 fl_X12_29 rfl rfl ?_
        refine L_iload_n C (i := 3) dX12_fillings_37 rfl rfl ?_
        refine L_iload C dX12_fillings_38 rfl ?_
        refine L_iast C dX12_fillings_40 sh_139 (ss2 p1) ?_
        refine L_aload_n C (i := 0) dX12_fillings_41 rfl rfl ?_
        refine L_iload_n C (i := 3) dX12_fillings_42 rfl rfl ?_
        refine L_sub [0, 1, 2, 3] rfl ?_
        refine L_invV1i C dX12_fillings_43 sh_132 cal_X12_breaks lk_X12_178 ⟨Nat.le_of_ble_eq_true rfl, Nat.le_of_ble_eq_true rfl⟩ ⟨Nat.le_of_ble_eq_true rfl, Nat.le_of_ble_eq_true rfl⟩ (Nat.le_of_ble_eq_true rfl) ?_
        exact cc6 p1 p6 p7 p10
      · refine L_iinc C (v := (-1)) dX12_fillings_27 rfl rfl (Nat.le_of_ble_eq_true rfl) ?_
        refine L_goto C (tgt := 11) dX12_fillings_30 rfl ?_
        refine L_sub [0, 1, 2, 3] rfl ?_
        exact kk4 p1 (Or.inr (Or.inr ⟨p6, p7, p10⟩))
set_option maxRecDepth 4000 in
theorem k_X12_fillings_46 {G : mG} {E : mE} {Q : Int32 → mM → Prop} {μ : mM} (C : Cx G mX12_fillings E) {x1 : Int32} {x2 : Int32} {x3 : Int32} {sx0 : Int32} (ss1 : sx0 = 0 → ¬ x3 = ((μ 135 0) - (1 : Int32)) → vp_in (x3 + (1 : Int32)) 8) (kk2 : sx0 = 0 → ¬ x3 = ((μ 135 0) - (1 : Int32)) → Wm G mX12_fillings E (bm G mX12_fillings E (pI Q)) (ms μ 139 (x3 + (1 : Int32)).toNatClampNeg (-1)) 11 [(0, .ref (gb G + 132)), (1, .int x1), (2, .int x2), (3, .int (x3 + (1 : Int32)))] []) (kk3 : sx0 = 0 → x3 = ((μ 135 0) - (1 : Int32)) → x1 = 0 → Wm G mX12_fillings E (bm G mX12_fillings E (pI Q)) μ 11 [(0, .ref (gb G + 132)), (1, .int x1), (2, .int (x2 + (1 : Int32))), (3, .int x3)] []) (rr4 : sx0 = 0 → x3 = ((μ 135 0) - (1 : Int32)) → ¬ x1 = 0 → Q (x2 + (1 : Int32)) μ) (kk5 : ¬ sx0 = 0 → Wm G mX12_fillings E (bm G mX12_fillings E (pI Q)) μ 11 [(0, .ref (gb G + 132)), (1, .int x1), (2, .int x2), (3, .int x3)] []) : Wm G mX12_fillings E (bm G mX12_fillings E (pI Q)) μ 46 [(0, .ref (gb G + 132)), (1, .int x1), (2, .int x2), (3, .int x3)] [.int sx0] := by
  refine L_if_eq C (tgt := 52) dX12_fillings_46 rfl (fun p1 => ?_) (fun p1 => ?_)
  · refine L_iload_n C (i := 3) dX12_fillings_52 rfl rfl ?_
    refine L_aload_n C (i := 0) dX12_fillings_53 rfl rfl ?_
    refine L_getC C (c' := 135) dX12_fillings_54 sh_132 fl_X12_16 rfl rfl ?_
    refine L_iconst C (v := 0) dX12_fillings_57 rfl ?_
    refine L_iald C dX12_fillings_58 sh_135 (by unfold vp_in; decide) ?_
    refine L_iconst C (v := 1) dX12_fillings_59 rfl ?_
    refine L_isub C dX12_fillings_60 ?_
    refine L_icmp_ne C (tgt := 73) dX12_fillings_61 rfl (fun p2 => ?_) (fun p2 => ?_)
    · refine L_iinc C (v := 1) dX12_fillings_73 rfl rfl (Nat.le_of_ble_eq_true rfl) ?_
      refine L_aload_n C (i := 0) dX12_fillings_76 rfl rfl ?_
      refine L_getC C (c' := 139) dX12_fillings_77 sh_132 fl_X12_29 rfl rfl ?_
      refine L_iload_n C (i := 3) dX12_fillings_80 rfl rfl ?_
      refine L_iconst C (v := (-1)) dX12_fillings_81 rfl ?_
      refine L_iast C dX12_fillings_82 sh_139 (ss1 p1 p2) ?_
      refine L_goto C (tgt := 11) dX12_fillings_83 rfl ?_
      exact kk2 p1 p2
    · refine L_iinc C (v := 1) dX12_fillings_64 rfl rfl (Nat.le_of_ble_eq_true rfl) ?_
      refine L_iload_n C (i := 1) dX12_fillings_67 rfl rfl ?_
      refine L_if_eq C (tgt := 11) dX12_fillings_68 rfl (fun p3 => ?_) (fun p3 => ?_)
      · exact kk3 p1 p2 p3
      · refine L_iload_n C (i := 2) dX12_fillings_71 rfl rfl ?_
        exact L_irI C dX12_fillings_72 rfl (rr4 p1 p2 p3)
  · refine L_goto C (tgt := 11) dX12_fillings_49 rfl ?_
    exact kk5 p1
set_option maxRecDepth 4000 in
theorem k_X12_canProbe_0 {G : mG} {E : mE} {Q : Int32 → mM → Prop} {μ : mM} (C : Cx G mX12_canProbe E)  (cc1 : CtI G mX12_fillings [.ref (gb G + 132), .int 1] μ (fun r μ' => Wm G mX12_canProbe E (bm G mX12_canProbe E (pI Q)) μ' 5 [] [.int r])) : Wm G mX12_canProbe E (bm G mX12_canProbe E (pI Q)) μ 0 [(0, .ref (gb G + 132))] [] := by
  refine L_aload_n C (i := 0) dX12_canProbe_0 rfl rfl ?_
  refine L_iconst C (v := 1) dX12_canProbe_1 rfl ?_
  refine L_sub [] rfl ?_
  refine L_invV1i C dX12_canProbe_2 sh_132 cal_X12_fillings lk_X12_182 ⟨Nat.le_of_ble_eq_true rfl, Nat.le_of_ble_eq_true rfl⟩ ⟨Nat.le_of_ble_eq_true rfl, Nat.le_of_ble_eq_true rfl⟩ (Nat.le_of_ble_eq_true rfl) ?_
  exact cc1
theorem e_X12_canProbe {G : mG} {Q : Int32 → mM → Prop} {μ : mM}  (k : ∀ E, Cx G mX12_canProbe E → Wm G mX12_canProbe E (bm G mX12_canProbe E (pI Q)) μ 0 [(0, .ref (gb G + 132))] []) : CtI G mX12_canProbe [.ref (gb G + 132)] μ Q := CtI.of pn_X12 (Nat.le_of_ble_eq_true rfl) k
set_option maxRecDepth 4000 in
theorem k_X12_canProbe_5 {G : mG} {E : mE} {Q : Int32 → mM → Prop} {μ : mM} (C : Cx G mX12_canProbe E) {sx0 : Int32} (rr1 : sx0 ≤ 0 → Q 0 μ) (rr2 : ¬ sx0 ≤ 0 → Q 1 μ) : Wm G mX12_canProbe E (bm G mX12_canProbe E (pI Q)) μ 5 [] [.int sx0] := by
  refine L_if_le C (tgt := 12) dX12_canProbe_5 rfl (fun p1 => ?_) (fun p1 => ?_)
  · refine L_iconst C (v := 0) dX12_canProbe_12 rfl ?_
    exact L_irZ C dX12_canProbe_13 rfl (by decide) (rr1 p1)
  · refine L_iconst C (v := 1) dX12_canProbe_8 rfl ?_
    refine L_goto C (tgt := 13) dX12_canProbe_9 rfl ?_
    exact L_irZ C dX12_canProbe_13 rfl (by decide) (rr2 p1)
set_option maxRecDepth 4000 in
theorem k_X12_laysMixes_0 {G : mG} {E : mE} {Q : mM → Prop} {μ : mM} (C : Cx G mX12_laysMixes E)  (cc1 : ¬ (μ 135 0) = 0 → CtV G mX12_beginsSet [.ref (gb G + 132), .int (μ 135 1)] (ms μ 132 13 0) (fun μ' => Wm G mX12_laysMixes E (bm G mX12_laysMixes E (pV Q)) μ' 27 [(0, .ref (gb G + 132)), (1, .int (μ 135 1))] [])) (rr2 : (μ 135 0) = 0 → Q (ms μ 132 13 0)) : Wm G mX12_laysMixes E (bm G mX12_laysMixes E (pV Q)) μ 0 [(0, .ref (gb G + 132))] [] := by
  refine L_aload_n C (i := 0) dX12_laysMixes_0 rfl rfl ?_
  refine L_iconst C (v := 0) dX12_laysMixes_1 rfl ?_
  refine L_putI C dX12_laysMixes_2 sh_132 fl_X12_168 rfl rfl rfl ?_
  refine L_aload_n C (i := 0) dX12_laysMixes_5 rfl rfl ?_
  refine L_getC C (c' := 135) dX12_laysMixes_6 sh_132 fl_X12_16 rfl rfl ?_
  refine L_iconst C (v := 1) dX12_laysMixes_9 rfl ?_
  refine L_iald C dX12_laysMixes_10 sh_135 (by unfold vp_in; decide) ?_
  refine L_istore_n C (i := 1) dX12_laysMixes_11 rfl (Nat.le_of_ble_eq_true rfl) ?_
  refine L_aload_n C (i := 0) dX12_laysMixes_12 rfl rfl ?_
  refine L_getC C (c' := 135) dX12_laysMixes_13 sh_132 fl_X12_16 rfl rfl ?_
  refine L_iconst C (v := 0) dX12_laysMixes_16 rfl ?_
  refine L_iald C dX12_laysMixes_17 sh_135 (by unfold vp_in; decide) ?_
  refine L_if_ne C (tgt := 22) dX12_laysMixes_18 rfl (fun p1 => ?_) (fun p1 => ?_)
  · refine L_aload_n C (i := 0) dX12_laysMixes_22 rfl rfl ?_
    refine L_iload_n C (i := 1) dX12_laysMixes_23 rfl rfl ?_
    refine L_invV1v C dX12_laysMixes_24 sh_132 cal_X12_beginsSet lk_X12_186 ⟨Nat.le_of_ble_eq_true rfl, Nat.le_of_ble_eq_true rfl⟩ ⟨Nat.le_of_ble_eq_true rfl, Nat.le_of_ble_eq_true rfl⟩ (Nat.le_of_ble_eq_true rfl) ?_
    exact cc1 p1
  · exact L_irV C dX12_laysMixes_21 rfl (rr2 p1)
theorem e_X12_laysMixes {G : mG} {Q : mM → Prop} {μ : mM}  (k : ∀ E, Cx G mX12_laysMixes E → Wm G mX12_laysMixes E (bm G mX12_laysMixes E (pV Q)) μ 0 [(0, .ref (gb G + 132))] []) : CtV G mX12_laysMixes [.ref (gb G + 132)] μ Q := CtV.of pn_X12 (Nat.le_of_ble_eq_true rfl) k
set_option maxRecDepth 4000 in
theorem k_X12_laysMixes_27 {G : mG} {E : mE} {B : mB} {μ : mM} (C : Cx G mX12_laysMixes E) {x1 : Int32} (kk1 : Wm G mX12_laysMixes E B μ 29 [(0, .ref (gb G + 132)), (1, .int x1), (2, .int 1)] []) : Wm G mX12_laysMixes E B μ 27 [(0, .ref (gb G + 132)), (1, .int x1)] [] := by
  refine L_iconst C (v := 1) dX12_laysMixes_27 rfl ?_
  refine L_istore_n C (i := 2) dX12_laysMixes_28 rfl (Nat.le_of_ble_eq_true rfl) ?_
  exact kk1
set_option maxRecDepth 4000 in
theorem k_X12_laysMixes_29 {G : mG} {E : mE} {Q : mM → Prop} {μ : mM} (C : Cx G mX12_laysMixes E) {x1 : Int32} {x2 : Int32} (kk1 : x2 = 0 → Wm G mX12_laysMixes E (bm G mX12_laysMixes E (pV Q)) μ 134 [(0, .ref (gb G + 132)), (1, .int x1), (3, .int 0)] []) (cc2 : ¬ x2 = 0 → CtI G mX12_levelsOfSet [.ref (gb G + 132), .int x1] μ (fun r μ' => Wm G mX12_laysMixes E (bm G mX12_laysMixes E (pV Q)) μ' 38 [(0, .ref (gb G + 132)), (1, .int x1)] [.int r])) : Wm G mX12_laysMixes E (bm G mX12_laysMixes E (pV Q)) μ 29 [(0, .ref (gb G + 132)), (1, .int x1), (2, .int x2)] [] := by
  refine L_iload_n C (i := 2) dX12_laysMixes_29 rfl rfl ?_
  refine L_if_eq C (tgt := 132) dX12_laysMixes_30 rfl (fun p1 => ?_) (fun p1 => ?_)
  · refine L_iconst C (v := 0) dX12_laysMixes_132 rfl ?_
    refine L_istore_n C (i := 3) dX12_laysMixes_133 rfl (Nat.le_of_ble_eq_true rfl) ?_
    refine L_sub [0, 1, 3] rfl ?_
    exact kk1 p1
  · refine L_aload_n C (i := 0) dX12_laysMixes_33 rfl rfl ?_
    refine L_iload_n C (i := 1) dX12_laysMixes_34 rfl rfl ?_
    refine L_sub [0, 1] rfl ?_
    refine L_invV1i C dX12_laysMixes_35 sh_132 cal_X12_levelsOfSet lk_X12_190 ⟨Nat.le_of_ble_eq_true rfl, Nat.le_of_ble_eq_true rfl⟩ ⟨Nat.le_of_ble_eq_true rfl, Nat.le_of_ble_eq_true rfl⟩ (Nat.le_of_ble_eq_true rfl) ?_
    exact cc2 p1
set_option maxRecDepth 4000 in
theorem k_X12_laysMixes_38 {G : mG} {E : mE} {B : mB} {μ : mM} (C : Cx G mX12_laysMixes E) {x1 : Int32} {sx0 : Int32} (kk1 : Wm G mX12_laysMixes E B μ 42 [(0, .ref (gb G + 132)), (1, .int x1), (3, .int sx0), (4, .int 0)] []) : Wm G mX12_laysMixes E B μ 38 [(0, .ref (gb G + 132)), (1, .int x1)] [.int sx0] := by
  refine L_istore_n C (i := 3) dX12_laysMixes_38 rfl (Nat.le_of_ble_eq_true rfl) ?_
  refine L_iconst C (v := 0) dX12_laysMixes_39 rfl ?_
  refine L_istore C dX12_laysMixes_40 (Nat.le_of_ble_eq_true rfl) ?_
  exact kk1
set_option maxRecDepth 4000 in
theorem k_X12_laysMixes_42 {G : mG} {E : mE} {Q : mM → Prop} {μ : mM} (C : Cx G mX12_laysMixes E) {x1 : Int32} {x3 : Int32} {x4 : Int32} (cc1 : x3 ≤ x4 → CtI G mX12_nextSet [.ref (gb G + 132), .int x1] μ (fun r μ' => Wm G mX12_laysMixes E (bm G mX12_laysMixes E (pV Q)) μ' 128 [(0, .ref (gb G + 132)), (1, .int x1)] [.int r])) (kk2 : ¬ x3 ≤ x4 → Wm G mX12_laysMixes E (bm G mX12_laysMixes E (pV Q)) μ 51 [(0, .ref (gb G + 132)), (1, .int x1), (3, .int x3), (4, .int x4), (5, .int 0)] []) : Wm G mX12_laysMixes E (bm G mX12_laysMixes E (pV Q)) μ 42 [(0, .ref (gb G + 132)), (1, .int x1), (3, .int x3), (4, .int x4)] [] := by
  refine L_iload C dX12_laysMixes_42 rfl ?_
  refine L_iload_n C (i := 3) dX12_laysMixes_44 rfl rfl ?_
  refine L_icmp_ge C (tgt := 123) dX12_laysMixes_45 rfl (fun p1 => ?_) (fun p1 => ?_)
  · refine L_aload_n C (i := 0) dX12_laysMixes_123 rfl rfl ?_
    refine L_iload_n C (i := 1) dX12_laysMixes_124 rfl rfl ?_
    refine L_sub [0, 1] rfl ?_
    refine L_invV1i C dX12_laysMixes_125 sh_132 cal_X12_nextSet lk_X12_197 ⟨Nat.le_of_ble_eq_true rfl, Nat.le_of_ble_eq_true rfl⟩ ⟨Nat.le_of_ble_eq_true rfl, Nat.le_of_ble_eq_true rfl⟩ (Nat.le_of_ble_eq_true rfl) ?_
    exact cc1 p1
  · refine L_iconst C (v := 0) dX12_laysMixes_48 rfl ?_
    refine L_istore C dX12_laysMixes_49 (Nat.le_of_ble_eq_true rfl) ?_
    exact kk2 p1
set_option maxRecDepth 4000 in
theorem k_X12_laysMixes_51 {G : mG} {E : mE} {Q : mM → Prop} {μ : mM} (C : Cx G mX12_laysMixes E) {x1 : Int32} {x3 : Int32} {x4 : Int32} {x5 : Int32} (kk1 : x1 ≤ x5 → Wm G mX12_laysMixes E (bm G mX12_laysMixes E (pV Q)) (ms μ 132 13 ((μ 132 13) + (1 : Int32))) 42 [(0, .ref (gb G + 132)), (1, .int x1), (3, .int x3), (4, .int (x4 + (1 : Int32)))] []) (ss2 : ¬ x1 ≤ x5 → vp_in x5 3) (ss3 : ¬ x1 ≤ x5 → vp_in (((3 : Int32) * (μ 132 13)) + x5) 3600) (cc4 : ¬ x1 ≤ x5 → CtI G mX12_levelOf [.ref (gb G + 132), .int x4, .int x5, .int x1] (ms μ 140 (((3 : Int32) * (μ 132 13)) + x5).toNatClampNeg (μ 143 x5.toNatClampNeg)) (fun r μ' => Wm G mX12_laysMixes E (bm G mX12_laysMixes E (pV Q)) μ' 100 [(0, .ref (gb G + 132)), (1, .int x1), (3, .int x3), (4, .int x4), (5, .int x5)] [.int r, .int (((3 : Int32) * (μ 132 13)) + x5), .ref (gb G + 141)])) : Wm G mX12_laysMixes E (bm G mX12_laysMixes E (pV Q)) μ 51 [(0, .ref (gb G + 132)), (1, .int x1), (3, .int x3), (4, .int x4), (5, .int x5)] [] := by
  refine L_iload C dX12_laysMixes_51 rfl ?_
  refine L_iload_n C (i := 1) dX12_laysMixes_53 rfl rfl ?_
  refine L_icmp_ge C (tgt := 107) dX12_laysMixes_54 rfl (fun p1 => ?_) (fun p1 => ?_)
  · refine L_aload_n C (i := 0) dX12_laysMixes_107 rfl rfl ?_
    refine L_dup C dX12_laysMixes_108 rfl ?_
    refine L_getI C dX12_laysMixes_109 sh_132 fl_X12_168 rfl ?_
    refine L_iconst C (v := 1) dX12_laysMixes_112 rfl ?_
    refine L_iadd C dX12_laysMixes_113 ?_
    refine L_putI C dX12_laysMixes_114 sh_132 fl_X12_168 rfl rfl rfl ?_
    refine L_iinc C (v := 1) dX12_laysMixes_117 rfl rfl (Nat.le_of_ble_eq_true rfl) ?_
    refine L_goto C (tgt := 42) dX12_laysMixes_120 rfl ?_
    refine L_sub [0, 1, 2, 3] rfl ?_
    exact kk1 p1
  · refine L_aload_n C (i := 0) dX12_laysMixes_57 rfl rfl ?_
    refine L_getC C (c' := 140) dX12_laysMixes_58 sh_132 fl_X12_32 rfl rfl ?_
    refine L_iconst C (v := 3) dX12_laysMixes_61 rfl ?_
    refine L_aload_n C (i := 0) dX12_laysMixes_62 rfl rfl ?_
    refine L_getI C dX12_laysMixes_63 sh_132 fl_X12_168 rfl ?_
    refine L_imul C dX12_laysMixes_66 ?_
    refine L_iload C dX12_laysMixes_67 rfl ?_
    refine L_iadd C dX12_laysMixes_69 ?_
    refine L_aload_n C (i := 0) dX12_laysMixes_70 rfl rfl ?_
    refine L_getC C (c' := 143) dX12_laysMixes_71 sh_132 fl_X12_42 rfl rfl ?_
    refine L_iload C dX12_laysMixes_74 rfl ?_
    refine L_iald C dX12_laysMixes_76 sh_143 (ss2 p1) ?_
    refine L_iast C dX12_laysMixes_77 sh_140 (ss3 p1) ?_
    refine L_aload_n C (i := 0) dX12_laysMixes_78 rfl rfl ?_
    refine L_getC C (c' := 141) dX12_laysMixes_79 sh_132 fl_X12_35 rfl rfl ?_
    refine L_iconst C (v := 3) dX12_laysMixes_82 rfl ?_
    refine L_aload_n C (i := 0) dX12_laysMixes_83 rfl rfl ?_
    refine L_getI C dX12_laysMixes_84 sh_132 fl_X12_168 rfl ?_
    refine L_imul C dX12_laysMixes_87 ?_
    refine L_iload C dX12_laysMixes_88 rfl ?_
    refine L_iadd C dX12_laysMixes_90 ?_
    refine L_aload_n C (i := 0) dX12_laysMixes_91 rfl rfl ?_
    refine L_iload C dX12_laysMixes_92 rfl ?_
    refine L_iload C dX12_laysMixes_94 rfl ?_
    refine L_iload_n C (i := 1) dX12_laysMixes_96 rfl rfl ?_
    refine L_invV3i C dX12_laysMixes_97 sh_132 cal_X12_levelOf lk_X12_193 ⟨Nat.le_of_ble_eq_true rfl, Nat.le_of_ble_eq_true rfl⟩ ⟨Nat.le_of_ble_eq_true rfl, Nat.le_of_ble_eq_true rfl⟩ (Nat.le_of_ble_eq_true rfl) ?_
    exact cc4 p1
set_option maxRecDepth 4000 in
theorem k_X12_laysMixes_100 {G : mG} {E : mE} {B : mB} {μ : mM} (C : Cx G mX12_laysMixes E) {x1 : Int32} {x3 : Int32} {x4 : Int32} {x5 : Int32} {sx1 : Int32} {sx2 : Int32} (ss1 : vp_in sx1 3600) (kk2 : Wm G mX12_laysMixes E B (ms μ 141 sx1.toNatClampNeg sx2) 51 [(0, .ref (gb G + 132)), (1, .int x1), (3, .int x3), (4, .int x4), (5, .int (x5 + (1 : Int32)))] []) : Wm G mX12_laysMixes E B μ 100 [(0, .ref (gb G + 132)), (1, .int x1), (3, .int x3), (4, .int x4), (5, .int x5)] [.int sx2, .int sx1, .ref (gb G + 141)] := by
  refine L_iast C dX12_laysMixes_100 sh_141 (ss1) ?_
  refine L_iinc C (v := 1) dX12_laysMixes_101 rfl rfl (Nat.le_of_ble_eq_true rfl) ?_
  refine L_goto C (tgt := 51) dX12_laysMixes_104 rfl ?_
  exact kk2
set_option maxRecDepth 4000 in
theorem k_X12_laysMixes_128 {G : mG} {E : mE} {B : mB} {μ : mM} (C : Cx G mX12_laysMixes E) {x1 : Int32} {sx0 : Int32} (kk1 : Wm G mX12_laysMixes E B μ 29 [(0, .ref (gb G + 132)), (1, .int x1), (2, .int sx0)] []) : Wm G mX12_laysMixes E B μ 128 [(0, .ref (gb G + 132)), (1, .int x1)] [.int sx0] := by
  refine L_istore_n C (i := 2) dX12_laysMixes_128 rfl (Nat.le_of_ble_eq_true rfl) ?_
  refine L_goto C (tgt := 29) dX12_laysMixes_129 rfl ?_
  exact kk1
set_option maxRecDepth 4000 in
theorem k_X12_laysMixes_134 {G : mG} {E : mE} {Q : mM → Prop} {μ : mM} (C : Cx G mX12_laysMixes E) {x1 : Int32} {x3 : Int32} (rr1 : (μ 132 13) ≤ x3 → Q μ) (kk2 : ¬ (μ 132 13) ≤ x3 → Wm G mX12_laysMixes E (bm G mX12_laysMixes E (pV Q)) μ 145 [(0, .ref (gb G + 132)), (1, .int x1), (3, .int x3), (4, .int 0)] []) : Wm G mX12_laysMixes E (bm G mX12_laysMixes E (pV Q)) μ 134 [(0, .ref (gb G + 132)), (1, .int x1), (3, .int x3)] [] := by
  refine L_iload_n C (i := 3) dX12_laysMixes_134 rfl rfl ?_
  refine L_aload_n C (i := 0) dX12_laysMixes_135 rfl rfl ?_
  refine L_getI C dX12_laysMixes_136 sh_132 fl_X12_168 rfl ?_
  refine L_icmp_ge C (tgt := 224) dX12_laysMixes_139 rfl (fun p1 => ?_) (fun p1 => ?_)
  · exact L_irV C dX12_laysMixes_224 rfl (rr1 p1)
  · refine L_iconst C (v := 0) dX12_laysMixes_142 rfl ?_
    refine L_istore C dX12_laysMixes_143 (Nat.le_of_ble_eq_true rfl) ?_
    exact kk2 p1
set_option maxRecDepth 4000 in
theorem k_X12_laysMixes_145 {G : mG} {E : mE} {B : mB} {μ : mM} (C : Cx G mX12_laysMixes E) {x1 : Int32} {x3 : Int32} {x4 : Int32} (kk1 : 8 ≤ x4 → Wm G mX12_laysMixes E B μ 169 [(0, .ref (gb G + 132)), (1, .int x1), (3, .int x3), (4, .int 0)] []) (ss2 : ¬ 8 ≤ x4 → vp_in x4 8) (kk3 : ¬ 8 ≤ x4 → Wm G mX12_laysMixes E B (ms μ 138 x4.toNatClampNeg (-1)) 145 [(0, .ref (gb G + 132)), (1, .int x1), (3, .int x3), (4, .int (x4 + (1 : Int32)))] []) : Wm G mX12_laysMixes E B μ 145 [(0, .ref (gb G + 132)), (1, .int x1), (3, .int x3), (4, .int x4)] [] := by
  refine L_iload C dX12_laysMixes_145 rfl ?_
  refine L_bipush C (v := 8) dX12_laysMixes_147 rfl ?_
  refine L_icmp_ge C (tgt := 166) dX12_laysMixes_149 rfl (fun p1 => ?_) (fun p1 => ?_)
  · refine L_iconst C (v := 0) dX12_laysMixes_166 rfl ?_
    refine L_istore C dX12_laysMixes_167 (Nat.le_of_ble_eq_true rfl) ?_
    exact kk1 p1
  · refine L_aload_n C (i := 0) dX12_laysMixes_152 rfl rfl ?_
    refine L_getC C (c' := 138) dX12_laysMixes_153 sh_132 fl_X12_26 rfl rfl ?_
    refine L_iload C dX12_laysMixes_156 rfl ?_
    refine L_iconst C (v := (-1)) dX12_laysMixes_158 rfl ?_
    refine L_iast C dX12_laysMixes_159 sh_138 (ss2 p1) ?_
    refine L_iinc C (v := 1) dX12_laysMixes_160 rfl rfl (Nat.le_of_ble_eq_true rfl) ?_
    refine L_goto C (tgt := 145) dX12_laysMixes_163 rfl ?_
    exact kk3 p1
set_option maxRecDepth 4000 in
theorem k_X12_laysMixes_169 {G : mG} {E : mE} {Q : mM → Prop} {μ : mM} (C : Cx G mX12_laysMixes E) {x1 : Int32} {x3 : Int32} {x4 : Int32} (cc1 : x1 ≤ x4 → CtI G mX12_canProbe [.ref (gb G + 132)] μ (fun r μ' => Wm G mX12_laysMixes E (bm G mX12_laysMixes E (pV Q)) μ' 217 [(0, .ref (gb G + 132)), (1, .int x1), (3, .int x3)] [.int r, .int x3, .ref (gb G + 142)])) (ss2 : ¬ x1 ≤ x4 → vp_in (((3 : Int32) * x3) + x4) 3600) (ss3 : ¬ x1 ≤ x4 → vp_in (μ 140 (((3 : Int32) * x3) + x4).toNatClampNeg) 8) (kk4 : ¬ x1 ≤ x4 → Wm G mX12_laysMixes E (bm G mX12_laysMixes E (pV Q)) (ms μ 138 (μ 140 (((3 : Int32) * x3) + x4).toNatClampNeg).toNatClampNeg (μ 141 (((3 : Int32) * x3) + x4).toNatClampNeg)) 169 [(0, .ref (gb G + 132)), (1, .int x1), (3, .int x3), (4, .int (x4 + (1 : Int32)))] []) : Wm G mX12_laysMixes E (bm G mX12_laysMixes E (pV Q)) μ 169 [(0, .ref (gb G + 132)), (1, .int x1), (3, .int x3), (4, .int x4)] [] := by
  refine L_iload C dX12_laysMixes_169 rfl ?_
  refine L_iload_n C (i := 1) dX12_laysMixes_171 rfl rfl ?_
  refine L_icmp_ge C (tgt := 208) dX12_laysMixes_172 rfl (fun p1 => ?_) (fun p1 => ?_)
  · refine L_aload_n C (i := 0) dX12_laysMixes_208 rfl rfl ?_
    refine L_getC C (c' := 142) dX12_laysMixes_209 sh_132 fl_X12_38 rfl rfl ?_
    refine L_iload_n C (i := 3) dX12_laysMixes_212 rfl rfl ?_
    refine L_aload_n C (i := 0) dX12_laysMixes_213 rfl rfl ?_
    refine L_sub [0, 1, 2] rfl ?_
    refine L_invV0i C dX12_laysMixes_214 sh_132 cal_X12_canProbe lk_X12_162 ⟨Nat.le_of_ble_eq_true rfl, Nat.le_of_ble_eq_true rfl⟩ ⟨Nat.le_of_ble_eq_true rfl, Nat.le_of_ble_eq_true rfl⟩ (Nat.le_of_ble_eq_true rfl) ?_
    exact cc1 p1
  · refine L_aload_n C (i := 0) dX12_laysMixes_175 rfl rfl ?_
    refine L_getC C (c' := 138) dX12_laysMixes_176 sh_132 fl_X12_26 rfl rfl ?_
    refine L_aload_n C (i := 0) dX12_laysMixes_179 rfl rfl ?_
    refine L_getC C (c' := 140) dX12_laysMixes_180 sh_132 fl_X12_32 rfl rfl ?_
    refine L_iconst C (v := 3) dX12_laysMixes_183 rfl ?_
    refine L_iload_n C (i := 3) dX12_laysMixes_184 rfl rfl ?_
    refine L_imul C dX12_laysMixes_185 ?_
    refine L_iload C dX12_laysMixes_186 rfl ?_
    refine L_iadd C dX12_laysMixes_188 ?_
    refine L_iald C dX12_laysMixes_189 sh_140 (ss2 p1) ?_
    refine L_aload_n C (i := 0) dX12_laysMixes_190 rfl rfl ?_
    refine L_getC C (c' := 141) dX12_laysMixes_191 sh_132 fl_X12_35 rfl rfl ?_
    refine L_iconst C (v := 3) dX12_laysMixes_194 rfl ?_
    refine L_iload_n C (i := 3) dX12_laysMixes_195 rfl rfl ?_
    refine L_imul C dX12_laysMixes_196 ?_
    refine L_iload C dX12_laysMixes_197 rfl ?_
    refine L_iadd C dX12_laysMixes_199 ?_
    refine L_iald C dX12_laysMixes_200 sh_141 (ss2 p1) ?_
    refine L_iast C dX12_laysMixes_201 sh_138 (ss3 p1) ?_
    refine L_iinc C (v := 1) dX12_laysMixes_202 rfl rfl (Nat.le_of_ble_eq_true rfl) ?_
    refine L_goto C (tgt := 169) dX12_laysMixes_205 rfl ?_
    exact kk4 p1
set_option maxRecDepth 4000 in
theorem k_X12_laysMixes_217 {G : mG} {E : mE} {B : mB} {μ : mM} (C : Cx G mX12_laysMixes E) {x1 : Int32} {x3 : Int32} {sx1 : Int32} {sx2 : Int32} (ss1 : vp_in sx1 1200) (kk2 : Wm G mX12_laysMixes E B (ms μ 142 sx1.toNatClampNeg (vp_nar .boolean sx2)) 134 [(0, .ref (gb G + 132)), (1, .int x1), (3, .int (x3 + (1 : Int32)))] []) : Wm G mX12_laysMixes E B μ 217 [(0, .ref (gb G + 132)), (1, .int x1), (3, .int x3)] [.int sx2, .int sx1, .ref (gb G + 142)] := by
  refine L_zast C dX12_laysMixes_217 sh_142 (ss1) ?_
  refine L_iinc C (v := 1) dX12_laysMixes_218 rfl rfl (Nat.le_of_ble_eq_true rfl) ?_
  refine L_goto C (tgt := 134) dX12_laysMixes_221 rfl ?_
  exact kk2
set_option maxRecDepth 4000 in
theorem k_X12_plan_0 {G : mG} {E : mE} {Q : Int32 → mM → Prop} {μ : mM} (C : Cx G mX12_plan E)  (cc1 : CtI G mX12_readsAll [.ref (gb G + 132)] μ (fun r μ' => Wm G mX12_plan E (bm G mX12_plan E (pI Q)) μ' 4 [(0, .ref (gb G + 132))] [.int r])) : Wm G mX12_plan E (bm G mX12_plan E (pI Q)) μ 0 [(0, .ref (gb G + 132))] [] := by
  refine L_aload_n C (i := 0) dX12_plan_0 rfl rfl ?_
  refine L_invV0i C dX12_plan_1 sh_132 cal_X12_readsAll lk_X12_149 ⟨Nat.le_of_ble_eq_true rfl, Nat.le_of_ble_eq_true rfl⟩ ⟨Nat.le_of_ble_eq_true rfl, Nat.le_of_ble_eq_true rfl⟩ (Nat.le_of_ble_eq_true rfl) ?_
  exact cc1
theorem e_X12_plan {G : mG} {Q : Int32 → mM → Prop} {μ : mM}  (k : ∀ E, Cx G mX12_plan E → Wm G mX12_plan E (bm G mX12_plan E (pI Q)) μ 0 [(0, .ref (gb G + 132))] []) : CtI G mX12_plan [.ref (gb G + 132)] μ Q := CtI.of pn_X12 (Nat.le_of_ble_eq_true rfl) k
set_option maxRecDepth 4000 in
theorem k_X12_plan_4 {G : mG} {E : mE} {Q : Int32 → mM → Prop} {μ : mM} (C : Cx G mX12_plan E) {sx0 : Int32} (cc1 : ¬ sx0 = 0 → CtV G mX12_copies [.ref (gb G + 135), .int 0, .ref (gb G + 137), .int 0] (ms (ms μ 132 1 0) 136 4 (μ 135 4)) (fun μ' => Wm G mX12_plan E (bm G mX12_plan E (pI Q)) μ' 52 [(0, .ref (gb G + 132)), (2, .int (μ 132 1))] [])) (rr2 : sx0 = 0 → Q (((-2) : Int32) - (μ 132 3)) (ms μ 132 1 0)) : Wm G mX12_plan E (bm G mX12_plan E (pI Q)) μ 4 [(0, .ref (gb G + 132))] [.int sx0] := by
  refine L_istore_n C (i := 1) dX12_plan_4 rfl (Nat.le_of_ble_eq_true rfl) ?_
  refine L_aload_n C (i := 0) dX12_plan_5 rfl rfl ?_
  refine L_getI C dX12_plan_6 sh_132 fl_X12_69 rfl ?_
  refine L_istore_n C (i := 2) dX12_plan_9 rfl (Nat.le_of_ble_eq_true rfl) ?_
  refine L_aload_n C (i := 0) dX12_plan_10 rfl rfl ?_
  refine L_iconst C (v := 0) dX12_plan_11 rfl ?_
  refine L_putI C dX12_plan_12 sh_132 fl_X12_69 rfl rfl rfl ?_
  refine L_iload_n C (i := 1) dX12_plan_15 rfl rfl ?_
  refine L_if_ne C (tgt := 27) dX12_plan_16 rfl (fun p1 => ?_) (fun p1 => ?_)
  · refine L_aload_n C (i := 0) dX12_plan_27 rfl rfl ?_
    refine L_getC C (c' := 136) dX12_plan_28 sh_132 fl_X12_20 rfl rfl ?_
    refine L_iconst C (v := 4) dX12_plan_31 rfl ?_
    refine L_aload_n C (i := 0) dX12_plan_32 rfl rfl ?_
    refine L_getC C (c' := 135) dX12_plan_33 sh_132 fl_X12_16 rfl rfl ?_
    refine L_iconst C (v := 4) dX12_plan_36 rfl ?_
    refine L_iald C dX12_plan_37 sh_135 (by unfold vp_in; decide) ?_
    refine L_iast C dX12_plan_38 sh_136 (by unfold vp_in; decide) ?_
    refine L_aload_n C (i := 0) dX12_plan_39 rfl rfl ?_
    refine L_getC C (c' := 135) dX12_plan_40 sh_132 fl_X12_16 rfl rfl ?_
    refine L_iconst C (v := 0) dX12_plan_43 rfl ?_
    refine L_aload_n C (i := 0) dX12_plan_44 rfl rfl ?_
    refine L_getC C (c' := 137) dX12_plan_45 sh_132 fl_X12_23 rfl rfl ?_
    refine L_iconst C (v := 0) dX12_plan_48 rfl ?_
    refine L_sub [0, 2] rfl ?_
    refine L_invS4v C dX12_plan_49 cal_X12_copies stc_X12_copies lk_X12_152 ⟨Nat.le_of_ble_eq_true rfl, Nat.le_of_ble_eq_true rfl⟩ ⟨Nat.le_of_ble_eq_true rfl, Nat.le_of_ble_eq_true rfl⟩ (Nat.le_of_ble_eq_true rfl) ?_
    exact cc1 p1
  · refine L_bipush C (v := (-2)) dX12_plan_19 rfl ?_
    refine L_aload_n C (i := 0) dX12_plan_21 rfl rfl ?_
    refine L_getI C dX12_plan_22 sh_132 fl_X12_77 rfl ?_
    refine L_isub C dX12_plan_25 ?_
    exact L_irI C dX12_plan_26 rfl (rr2 p1)
set_option maxRecDepth 4000 in
theorem k_X12_plan_52 {G : mG} {E : mE} {Q : Int32 → mM → Prop} {μ : mM} (C : Cx G mX12_plan E) {x2 : Int32} (cc1 : CtV G mX12_copies [.ref (gb G + 136), .int 0, .ref (gb G + 135), .int 0] μ (fun μ' => Wm G mX12_plan E (bm G mX12_plan E (pI Q)) μ' 65 [(0, .ref (gb G + 132)), (2, .int x2)] [])) : Wm G mX12_plan E (bm G mX12_plan E (pI Q)) μ 52 [(0, .ref (gb G + 132)), (2, .int x2)] [] := by
  refine L_aload_n C (i := 0) dX12_plan_52 rfl rfl ?_
  refine L_getC C (c' := 136) dX12_plan_53 sh_132 fl_X12_20 rfl rfl ?_
  refine L_iconst C (v := 0) dX12_plan_56 rfl ?_
  refine L_aload_n C (i := 0) dX12_plan_57 rfl rfl ?_
  refine L_getC C (c' := 135) dX12_plan_58 sh_132 fl_X12_16 rfl rfl ?_
  refine L_iconst C (v := 0) dX12_plan_61 rfl ?_
  refine L_invS4v C dX12_plan_62 cal_X12_copies stc_X12_copies lk_X12_152 ⟨Nat.le_of_ble_eq_true rfl, Nat.le_of_ble_eq_true rfl⟩ ⟨Nat.le_of_ble_eq_true rfl, Nat.le_of_ble_eq_true rfl⟩ (Nat.le_of_ble_eq_true rfl) ?_
  exact cc1
set_option maxRecDepth 4000 in
theorem k_X12_plan_65 {G : mG} {E : mE} {Q : Int32 → mM → Prop} {μ : mM} (C : Cx G mX12_plan E) {x2 : Int32} (cc1 : CtI G mX12_mixMany [.ref (gb G + 132)] μ (fun r μ' => Wm G mX12_plan E (bm G mX12_plan E (pI Q)) μ' 69 [(0, .ref (gb G + 132)), (2, .int x2)] [.int r])) : Wm G mX12_plan E (bm G mX12_plan E (pI Q)) μ 65 [(0, .ref (gb G + 132)), (2, .int x2)] [] := by
  refine L_aload_n C (i := 0) dX12_plan_65 rfl rfl ?_
  refine L_invV0i C dX12_plan_66 sh_132 cal_X12_mixMany lk_X12_156 ⟨Nat.le_of_ble_eq_true rfl, Nat.le_of_ble_eq_true rfl⟩ ⟨Nat.le_of_ble_eq_true rfl, Nat.le_of_ble_eq_true rfl⟩ (Nat.le_of_ble_eq_true rfl) ?_
  exact cc1
set_option maxRecDepth 4000 in
theorem k_X12_plan_69 {G : mG} {E : mE} {Q : Int32 → mM → Prop} {μ : mM} (C : Cx G mX12_plan E) {x2 : Int32} {sx0 : Int32} (kk1 : 1200 < sx0 → Wm G mX12_plan E (bm G mX12_plan E (pI Q)) μ 79 [(0, .ref (gb G + 132)), (2, .int x2)] []) (cc2 : ¬ 1200 < sx0 → CtV G mX12_laysMixes [.ref (gb G + 132)] μ (fun μ' => Wm G mX12_plan E (bm G mX12_plan E (pI Q)) μ' 79 [(0, .ref (gb G + 132)), (2, .int x2)] [])) : Wm G mX12_plan E (bm G mX12_plan E (pI Q)) μ 69 [(0, .ref (gb G + 132)), (2, .int x2)] [.int sx0] := by
  refine L_sipush C (v := 1200) dX12_plan_69 rfl ?_
  refine L_icmp_gt C (tgt := 79) dX12_plan_72 rfl (fun p1 => ?_) (fun p1 => ?_)
  · exact kk1 p1
  · refine L_aload_n C (i := 0) dX12_plan_75 rfl rfl ?_
    refine L_invV0v C dX12_plan_76 sh_132 cal_X12_laysMixes lk_X12_159 ⟨Nat.le_of_ble_eq_true rfl, Nat.le_of_ble_eq_true rfl⟩ ⟨Nat.le_of_ble_eq_true rfl, Nat.le_of_ble_eq_true rfl⟩ (Nat.le_of_ble_eq_true rfl) ?_
    exact cc2 p1
set_option maxRecDepth 4000 in
theorem k_X12_plan_79 {G : mG} {E : mE} {B : mB} {μ : mM} (C : Cx G mX12_plan E) {x2 : Int32} (kk1 : Wm G mX12_plan E B μ 81 [(0, .ref (gb G + 132)), (2, .int x2), (3, .int 0)] []) : Wm G mX12_plan E B μ 79 [(0, .ref (gb G + 132)), (2, .int x2)] [] := by
  refine L_iconst C (v := 0) dX12_plan_79 rfl ?_
  refine L_istore_n C (i := 3) dX12_plan_80 rfl (Nat.le_of_ble_eq_true rfl) ?_
  exact kk1
set_option maxRecDepth 4000 in
theorem k_X12_plan_81 {G : mG} {E : mE} {Q : Int32 → mM → Prop} {μ : mM} (C : Cx G mX12_plan E) {x2 : Int32} {x3 : Int32} (cc1 : 8 ≤ x3 → CtI G mX12_mixMany [.ref (gb G + 132)] μ (fun r μ' => Wm G mX12_plan E (bm G mX12_plan E (pI Q)) μ' 104 [(0, .ref (gb G + 132)), (2, .int x2)] [.int r])) (ss2 : ¬ 8 ≤ x3 → vp_in x3 8) (kk3 : ¬ 8 ≤ x3 → Wm G mX12_plan E (bm G mX12_plan E (pI Q)) (ms μ 138 x3.toNatClampNeg (-1)) 81 [(0, .ref (gb G + 132)), (2, .int x2), (3, .int (x3 + (1 : Int32)))] []) : Wm G mX12_plan E (bm G mX12_plan E (pI Q)) μ 81 [(0, .ref (gb G + 132)), (2, .int x2), (3, .int x3)] [] := by
  refine L_iload_n C (i := 3) dX12_plan_81 rfl rfl ?_
  refine L_bipush C (v := 8) dX12_plan_82 rfl ?_
  refine L_icmp_ge C (tgt := 100) dX12_plan_84 rfl (fun p1 => ?_) (fun p1 => ?_)
  · refine L_aload_n C (i := 0) dX12_plan_100 rfl rfl ?_
    refine L_sub [0, 1] rfl ?_
    refine L_invV0i C dX12_plan_101 sh_132 cal_X12_mixMany lk_X12_156 ⟨Nat.le_of_ble_eq_true rfl, Nat.le_of_ble_eq_true rfl⟩ ⟨Nat.le_of_ble_eq_true rfl, Nat.le_of_ble_eq_true rfl⟩ (Nat.le_of_ble_eq_true rfl) ?_
    exact cc1 p1
  · refine L_aload_n C (i := 0) dX12_plan_87 rfl rfl ?_
    refine L_getC C (c' := 138) dX12_plan_88 sh_132 fl_X12_26 rfl rfl ?_
    refine L_iload_n C (i := 3) dX12_plan_91 rfl rfl ?_
    refine L_iconst C (v := (-1)) dX12_plan_92 rfl ?_
    refine L_iast C dX12_plan_93 sh_138 (ss2 p1) ?_
    refine L_iinc C (v := 1) dX12_plan_94 rfl rfl (Nat.le_of_ble_eq_true rfl) ?_
    refine L_goto C (tgt := 81) dX12_plan_97 rfl ?_
    exact kk3 p1
set_option maxRecDepth 4000 in
theorem k_X12_plan_104 {G : mG} {E : mE} {Q : Int32 → mM → Prop} {μ : mM} (C : Cx G mX12_plan E) {x2 : Int32} {sx0 : Int32} (kk1 : 1200 < sx0 → Wm G mX12_plan E (bm G mX12_plan E (pI Q)) μ 117 [(0, .ref (gb G + 132)), (2, .int x2)] []) (cc2 : ¬ 1200 < sx0 → CtI G mX12_canProbe [.ref (gb G + 132)] μ (fun r μ' => Wm G mX12_plan E (bm G mX12_plan E (pI Q)) μ' 114 [(0, .ref (gb G + 132)), (2, .int x2)] [.int r])) : Wm G mX12_plan E (bm G mX12_plan E (pI Q)) μ 104 [(0, .ref (gb G + 132)), (2, .int x2)] [.int sx0] := by
  refine L_sipush C (v := 1200) dX12_plan_104 rfl ?_
  refine L_icmp_gt C (tgt := 117) dX12_plan_107 rfl (fun p1 => ?_) (fun p1 => ?_)
  · exact kk1 p1
  · refine L_aload_n C (i := 0) dX12_plan_110 rfl rfl ?_
    refine L_invV0i C dX12_plan_111 sh_132 cal_X12_canProbe lk_X12_162 ⟨Nat.le_of_ble_eq_true rfl, Nat.le_of_ble_eq_true rfl⟩ ⟨Nat.le_of_ble_eq_true rfl, Nat.le_of_ble_eq_true rfl⟩ (Nat.le_of_ble_eq_true rfl) ?_
    exact cc2 p1
set_option maxRecDepth 4000 in
theorem k_X12_plan_114 {G : mG} {E : mE} {Q : Int32 → mM → Prop} {μ : mM} (C : Cx G mX12_plan E) {x2 : Int32} {sx0 : Int32} (rr1 : ¬ sx0 = 0 → Q (μ 132 13) (ms μ 132 26 0)) (kk2 : sx0 = 0 → Wm G mX12_plan E (bm G mX12_plan E (pI Q)) μ 117 [(0, .ref (gb G + 132)), (2, .int x2)] []) : Wm G mX12_plan E (bm G mX12_plan E (pI Q)) μ 114 [(0, .ref (gb G + 132)), (2, .int x2)] [.int sx0] := by
  refine L_if_ne C (tgt := 144) dX12_plan_114 rfl (fun p1 => ?_) (fun p1 => ?_)
  · refine L_aload_n C (i := 0) dX12_plan_144 rfl rfl ?_
    refine L_iconst C (v := 0) dX12_plan_145 rfl ?_
    refine L_putI C dX12_plan_146 sh_132 fl_X12_165 rfl rfl rfl ?_
    refine L_aload_n C (i := 0) dX12_plan_149 rfl rfl ?_
    refine L_getI C dX12_plan_150 sh_132 fl_X12_168 rfl ?_
    exact L_irI C dX12_plan_153 rfl (rr1 p1)
  · exact kk2 p1
set_option maxRecDepth 4000 in
theorem k_X12_plan_117 {G : mG} {E : mE} {Q : Int32 → mM → Prop} {μ : mM} (C : Cx G mX12_plan E) {x2 : Int32} (cc1 : CtV G mX12_copies [.ref (gb G + 137), .int 0, .ref (gb G + 135), .int 0] μ (fun μ' => Wm G mX12_plan E (bm G mX12_plan E (pI Q)) μ' 130 [(0, .ref (gb G + 132)), (2, .int x2)] [])) : Wm G mX12_plan E (bm G mX12_plan E (pI Q)) μ 117 [(0, .ref (gb G + 132)), (2, .int x2)] [] := by
  refine L_aload_n C (i := 0) dX12_plan_117 rfl rfl ?_
  refine L_getC C (c' := 137) dX12_plan_118 sh_132 fl_X12_23 rfl rfl ?_
  refine L_iconst C (v := 0) dX12_plan_121 rfl ?_
  refine L_aload_n C (i := 0) dX12_plan_122 rfl rfl ?_
  refine L_getC C (c' := 135) dX12_plan_123 sh_132 fl_X12_16 rfl rfl ?_
  refine L_iconst C (v := 0) dX12_plan_126 rfl ?_
  refine L_invS4v C dX12_plan_127 cal_X12_copies stc_X12_copies lk_X12_152 ⟨Nat.le_of_ble_eq_true rfl, Nat.le_of_ble_eq_true rfl⟩ ⟨Nat.le_of_ble_eq_true rfl, Nat.le_of_ble_eq_true rfl⟩ (Nat.le_of_ble_eq_true rfl) ?_
  exact cc1
set_option maxRecDepth 4000 in
theorem k_X12_plan_130 {G : mG} {E : mE} {Q : Int32 → mM → Prop} {μ : mM} (C : Cx G mX12_plan E) {x2 : Int32} (cc1 : CtV G mX12_laysMixes [.ref (gb G + 132)] μ (fun μ' => Wm G mX12_plan E (bm G mX12_plan E (pI Q)) μ' 134 [(2, .int x2)] [])) : Wm G mX12_plan E (bm G mX12_plan E (pI Q)) μ 130 [(0, .ref (gb G + 132)), (2, .int x2)] [] := by
  refine L_aload_n C (i := 0) dX12_plan_130 rfl rfl ?_
  refine L_sub [1] rfl ?_
  refine L_invV0v C dX12_plan_131 sh_132 cal_X12_laysMixes lk_X12_159 ⟨Nat.le_of_ble_eq_true rfl, Nat.le_of_ble_eq_true rfl⟩ ⟨Nat.le_of_ble_eq_true rfl, Nat.le_of_ble_eq_true rfl⟩ (Nat.le_of_ble_eq_true rfl) ?_
  exact cc1
set_option maxRecDepth 4000 in
theorem k_X12_plan_134 {G : mG} {E : mE} {Q : Int32 → mM → Prop} {μ : mM} (C : Cx G mX12_plan E) {x2 : Int32} (rr1 : Q (((-2) : Int32) - (((8 : Int32) * x2) + (4 : Int32))) μ) : Wm G mX12_plan E (bm G mX12_plan E (pI Q)) μ 134 [(2, .int x2)] [] := by
  refine L_bipush C (v := (-2)) dX12_plan_134 rfl ?_
  refine L_bipush C (v := 8) dX12_plan_136 rfl ?_
  refine L_iload_n C (i := 2) dX12_plan_138 rfl rfl ?_
  refine L_imul C dX12_plan_139 ?_
  refine L_iconst C (v := 4) dX12_plan_140 rfl ?_
  refine L_iadd C dX12_plan_141 ?_
  refine L_isub C dX12_plan_142 ?_
  exact L_irI C dX12_plan_143 rfl (rr1)
set_option maxRecDepth 4000 in
theorem k_X12_cellAt_0 {G : mG} {E : mE} {Q : Int32 → mM → Prop} {μ : mM} (C : Cx G mX12_cellAt E) {x1 : Int32} {x2 : Int32} (ss1 : vp_in (((161 : Int32) + ((8 : Int32) * x1)) + x2) 673) (rr2 : Q (μ 135 (((161 : Int32) + ((8 : Int32) * x1)) + x2).toNatClampNeg) μ) : Wm G mX12_cellAt E (bm G mX12_cellAt E (pI Q)) μ 0 [(0, .ref (gb G + 132)), (1, .int x1), (2, .int x2)] [] := by
  refine L_aload_n C (i := 0) dX12_cellAt_0 rfl rfl ?_
  refine L_getC C (c' := 135) dX12_cellAt_1 sh_132 fl_X12_16 rfl rfl ?_
  refine L_sipush C (v := 161) dX12_cellAt_4 rfl ?_
  refine L_bipush C (v := 8) dX12_cellAt_7 rfl ?_
  refine L_iload_n C (i := 1) dX12_cellAt_9 rfl rfl ?_
  refine L_imul C dX12_cellAt_10 ?_
  refine L_iadd C dX12_cellAt_11 ?_
  refine L_iload_n C (i := 2) dX12_cellAt_12 rfl rfl ?_
  refine L_iadd C dX12_cellAt_13 ?_
  refine L_iald C dX12_cellAt_14 sh_135 (ss1) ?_
  exact L_irI C dX12_cellAt_15 rfl (rr2)
theorem a_X12_cellAt {G : mG} {Q : Int32 → mM → Prop} {μ : mM} {x1 : Int32} {x2 : Int32} (ss1 : vp_in (((161 : Int32) + ((8 : Int32) * x1)) + x2) 673) (rr2 : Q (μ 135 (((161 : Int32) + ((8 : Int32) * x1)) + x2).toNatClampNeg) μ) : CtI G mX12_cellAt [.ref (gb G + 132), .int x1, .int x2] μ Q :=
  CtI.of pn_X12 (Nat.le_of_ble_eq_true rfl) (fun E C => k_X12_cellAt_0 C ss1 rr2)
set_option maxRecDepth 4000 in
theorem k_X12_hasMix_0 {G : mG} {E : mE} {B : mB} {μ : mM} (C : Cx G mX12_hasMix E) {x1 : Int32} {x2 : Int32} (kk1 : Wm G mX12_hasMix E B μ 2 [(0, .ref (gb G + 132)), (1, .int x1), (2, .int x2), (3, .int 0)] []) : Wm G mX12_hasMix E B μ 0 [(0, .ref (gb G + 132)), (1, .int x1), (2, .int x2)] [] := by
  refine L_iconst C (v := 0) dX12_hasMix_0 rfl ?_
  refine L_istore_n C (i := 3) dX12_hasMix_1 rfl (Nat.le_of_ble_eq_true rfl) ?_
  exact kk1
theorem e_X12_hasMix {G : mG} {Q : Int32 → mM → Prop} {μ : mM} {x1 : Int32} {x2 : Int32} (k : ∀ E, Cx G mX12_hasMix E → Wm G mX12_hasMix E (bm G mX12_hasMix E (pI Q)) μ 0 [(0, .ref (gb G + 132)), (1, .int x1), (2, .int x2)] []) : CtI G mX12_hasMix [.ref (gb G + 132), .int x1, .int x2] μ Q := CtI.of pn_X12 (Nat.le_of_ble_eq_true rfl) k
set_option maxRecDepth 4000 in
theorem k_X12_hasMix_2 {G : mG} {E : mE} {Q : Int32 → mM → Prop} {μ : mM} (C : Cx G mX12_hasMix E) {x1 : Int32} {x2 : Int32} {x3 : Int32} (rr1 : (μ 135 1) ≤ x3 → Q 1 μ) (ss2 : ¬ (μ 135 1) ≤ x3 → vp_in (((3 : Int32) * x2) + x3) 3600) (ss3 : ¬ (μ 135 1) ≤ x3 → vp_in (((161 : Int32) + ((8 : Int32) * x1)) + (μ 140 (((3 : Int32) * x2) + x3).toNatClampNeg)) 673) (kk4 : ¬ (μ 135 1) ≤ x3 → (μ 135 (((161 : Int32) + ((8 : Int32) * x1)) + (μ 140 (((3 : Int32) * x2) + x3).toNatClampNeg)).toNatClampNeg) = (μ 141 (((3 : Int32) * x2) + x3).toNatClampNeg) → Wm G mX12_hasMix E (bm G mX12_hasMix E (pI Q)) μ 2 [(0, .ref (gb G + 132)), (1, .int x1), (2, .int x2), (3, .int (x3 + (1 : Int32)))] []) (rr5 : ¬ (μ 135 1) ≤ x3 → ¬ (μ 135 (((161 : Int32) + ((8 : Int32) * x1)) + (μ 140 (((3 : Int32) * x2) + x3).toNatClampNeg)).toNatClampNeg) = (μ 141 (((3 : Int32) * x2) + x3).toNatClampNeg) → Q 0 μ) : Wm G mX12_hasMix E (bm G mX12_hasMix E (pI Q)) μ 2 [(0, .ref (gb G + 132)), (1, .int x1), (2, .int x2), (3, .int x3)] [] := by
  refine L_iload_n C (i := 3) dX12_hasMix_2 rfl rfl ?_
  refine L_aload_n C (i := 0) dX12_hasMix_3 rfl rfl ?_
  refine L_getC C (c' := 135) dX12_hasMix_4 sh_132 fl_X12_16 rfl rfl ?_
  refine L_iconst C (v := 1) dX12_hasMix_7 rfl ?_
  refine L_iald C dX12_hasMix_8 sh_135 (by unfold vp_in; decide) ?_
  refine L_icmp_ge C (tgt := 48) dX12_hasMix_9 rfl (fun p1 => ?_) (fun p1 => ?_)
  · refine L_iconst C (v := 1) dX12_hasMix_48 rfl ?_
    exact L_irZ C dX12_hasMix_49 rfl (by decide) (rr1 p1)
  · refine L_aload_n C (i := 0) dX12_hasMix_12 rfl rfl ?_
    refine L_iload_n C (i := 1) dX12_hasMix_13 rfl rfl ?_
    refine L_aload_n C (i := 0) dX12_hasMix_14 rfl rfl ?_
    refine L_getC C (c' := 140) dX12_hasMix_15 sh_132 fl_X12_32 rfl rfl ?_
    refine L_iconst C (v := 3) dX12_hasMix_18 rfl ?_
    refine L_iload_n C (i := 2) dX12_hasMix_19 rfl rfl ?_
    refine L_imul C dX12_hasMix_20 ?_
    refine L_iload_n C (i := 3) dX12_hasMix_21 rfl rfl ?_
    refine L_iadd C dX12_hasMix_22 ?_
    refine L_iald C dX12_hasMix_23 sh_140 (ss2 p1) ?_
    refine L_invV2i C dX12_hasMix_24 sh_132 cal_X12_cellAt lk_X12_200 ⟨Nat.le_of_ble_eq_true rfl, Nat.le_of_ble_eq_true rfl⟩ ⟨Nat.le_of_ble_eq_true rfl, Nat.le_of_ble_eq_true rfl⟩ (Nat.le_of_ble_eq_true rfl) (a_X12_cellAt (ss3 p1) (?_))
    · refine L_aload_n C (i := 0) dX12_hasMix_27 rfl rfl ?_
      refine L_getC C (c' := 141) dX12_hasMix_28 sh_132 fl_X12_35 rfl rfl ?_
      refine L_iconst C (v := 3) dX12_hasMix_31 rfl ?_
      refine L_iload_n C (i := 2) dX12_hasMix_32 rfl rfl ?_
      refine L_imul C dX12_hasMix_33 ?_
      refine L_iload_n C (i := 3) dX12_hasMix_34 rfl rfl ?_
      refine L_iadd C dX12_hasMix_35 ?_
      refine L_iald C dX12_hasMix_36 sh_141 (ss2 p1) ?_
      refine L_icmp_eq C (tgt := 42) dX12_hasMix_37 rfl (fun p2 => ?_) (fun p2 => ?_)
      · refine L_iinc C (v := 1) dX12_hasMix_42 rfl rfl (Nat.le_of_ble_eq_true rfl) ?_
        refine L_goto C (tgt := 2) dX12_hasMix_45 rfl ?_
        exact kk4 p1 p2
      · refine L_iconst C (v := 0) dX12_hasMix_40 rfl ?_
        exact L_irZ C dX12_hasMix_41 rfl (by decide) (rr5 p1 p2)
set_option maxRecDepth 4000 in
theorem k_X12_rowsWith_0 {G : mG} {E : mE} {B : mB} {μ : mM} (C : Cx G mX12_rowsWith E) {x1 : Int32} {x2 : Int32} {x3 : Int32} (kk1 : Wm G mX12_rowsWith E B μ 6 [(0, .ref (gb G + 132)), (1, .int x1), (3, .int x3), (4, .int 0), (5, .int x2)] []) : Wm G mX12_rowsWith E B μ 0 [(0, .ref (gb G + 132)), (1, .int x1), (2, .int x2), (3, .int x3)] [] := by
  refine L_iconst C (v := 0) dX12_rowsWith_0 rfl ?_
  refine L_istore C dX12_rowsWith_1 (Nat.le_of_ble_eq_true rfl) ?_
  refine L_iload_n C (i := 2) dX12_rowsWith_3 rfl rfl ?_
  refine L_istore C dX12_rowsWith_4 (Nat.le_of_ble_eq_true rfl) ?_
  refine L_sub [0, 1, 3, 4, 5] rfl ?_
  exact kk1
theorem e_X12_rowsWith {G : mG} {Q : Int32 → mM → Prop} {μ : mM} {x1 : Int32} {x2 : Int32} {x3 : Int32} (k : ∀ E, Cx G mX12_rowsWith E → Wm G mX12_rowsWith E (bm G mX12_rowsWith E (pI Q)) μ 0 [(0, .ref (gb G + 132)), (1, .int x1), (2, .int x2), (3, .int x3)] []) : CtI G mX12_rowsWith [.ref (gb G + 132), .int x1, .int x2, .int x3] μ Q := CtI.of pn_X12 (Nat.le_of_ble_eq_true rfl) k
set_option maxRecDepth 4000 in
theorem k_X12_rowsWith_6 {G : mG} {E : mE} {Q : Int32 → mM → Prop} {μ : mM} (C : Cx G mX12_rowsWith E) {x1 : Int32} {x3 : Int32} {x4 : Int32} {x5 : Int32} (rr1 : x3 ≤ x5 → Q x4 μ) (cc2 : ¬ x3 ≤ x5 → CtI G mX12_hasMix [.ref (gb G + 132), .int x5, .int x1] μ (fun r μ' => Wm G mX12_rowsWith E (bm G mX12_rowsWith E (pI Q)) μ' 21 [(0, .ref (gb G + 132)), (1, .int x1), (3, .int x3), (5, .int x5)] [.int r, .int x4])) : Wm G mX12_rowsWith E (bm G mX12_rowsWith E (pI Q)) μ 6 [(0, .ref (gb G + 132)), (1, .int x1), (3, .int x3), (4, .int x4), (5, .int x5)] [] := by
  refine L_iload C dX12_rowsWith_6 rfl ?_
  refine L_iload_n C (i := 3) dX12_rowsWith_8 rfl rfl ?_
  refine L_icmp_ge C (tgt := 38) dX12_rowsWith_9 rfl (fun p1 => ?_) (fun p1 => ?_)
  · refine L_iload C dX12_rowsWith_38 rfl ?_
    exact L_irI C dX12_rowsWith_40 rfl (rr1 p1)
  · refine L_iload C dX12_rowsWith_12 rfl ?_
    refine L_aload_n C (i := 0) dX12_rowsWith_14 rfl rfl ?_
    refine L_iload C dX12_rowsWith_15 rfl ?_
    refine L_iload_n C (i := 1) dX12_rowsWith_17 rfl rfl ?_
    refine L_sub [0, 1, 2, 4] rfl ?_
    refine L_invV2i C dX12_rowsWith_18 sh_132 cal_X12_hasMix lk_X12_203 ⟨Nat.le_of_ble_eq_true rfl, Nat.le_of_ble_eq_true rfl⟩ ⟨Nat.le_of_ble_eq_true rfl, Nat.le_of_ble_eq_true rfl⟩ (Nat.le_of_ble_eq_true rfl) ?_
    exact cc2 p1
set_option maxRecDepth 4000 in
theorem k_X12_rowsWith_21 {G : mG} {E : mE} {B : mB} {μ : mM} (C : Cx G mX12_rowsWith E) {x1 : Int32} {x3 : Int32} {x5 : Int32} {sx0 : Int32} {sx1 : Int32} (kk1 : ∀ v1 : Int32, ((sx1 = 0 ∧ v1 = 0) ∨ (¬ sx1 = 0 ∧ v1 = 1)) → Wm G mX12_rowsWith E B μ 6 [(0, .ref (gb G + 132)), (1, .int x1), (3, .int x3), (4, .int (sx0 + v1)), (5, .int (x5 + (1 : Int32)))] []) : Wm G mX12_rowsWith E B μ 21 [(0, .ref (gb G + 132)), (1, .int x1), (3, .int x3), (5, .int x5)] [.int sx1, .int sx0] := by
  refine phi (fun v1 : Int32 => Wm G mX12_rowsWith E B μ 29 [(0, .ref (gb G + 132)), (1, .int x1), (3, .int x3), (5, .int x5)] [.int v1, .int sx0]) (fun v1 : Int32 => (sx1 = 0 ∧ v1 = 0) ∨ (¬ sx1 = 0 ∧ v1 = 1)) (fun H => ?_) (fun v1 hv1 => ?_)
  · refine L_if_eq C (tgt := 28) dX12_rowsWith_21 rfl (fun p1 => ?_) (fun p1 => ?_)
    · refine L_iconst C (v := 0) dX12_rowsWith_28 rfl ?_
      exact H _ (Or.inl ⟨p1, rfl⟩)
    · refine L_iconst C (v := 1) dX12_rowsWith_24 rfl ?_
      refine L_goto C (tgt := 29) dX12_rowsWith_25 rfl ?_
      exact H _ (Or.inr ⟨p1, rfl⟩)
  refine L_iadd C dX12_rowsWith_29 ?_
  refine L_istore C dX12_rowsWith_30 (Nat.le_of_ble_eq_true rfl) ?_
  refine L_iinc C (v := 1) dX12_rowsWith_32 rfl rfl (Nat.le_of_ble_eq_true rfl) ?_
  refine L_goto C (tgt := 6) dX12_rowsWith_35 rfl ?_
  exact kk1 v1 hv1
set_option maxRecDepth 4000 in
theorem k_X12_laysOpen_0 {G : mG} {E : mE} {B : mB} {μ : mM} (C : Cx G mX12_laysOpen E)  (kk1 : Wm G mX12_laysOpen E B μ 4 [(0, .ref (gb G + 132)), (1, .int 0), (2, .int 0)] []) : Wm G mX12_laysOpen E B μ 0 [(0, .ref (gb G + 132))] [] := by
  refine L_iconst C (v := 0) dX12_laysOpen_0 rfl ?_
  refine L_istore_n C (i := 1) dX12_laysOpen_1 rfl (Nat.le_of_ble_eq_true rfl) ?_
  refine L_iconst C (v := 0) dX12_laysOpen_2 rfl ?_
  refine L_istore_n C (i := 2) dX12_laysOpen_3 rfl (Nat.le_of_ble_eq_true rfl) ?_
  exact kk1
theorem e_X12_laysOpen {G : mG} {Q : Int32 → mM → Prop} {μ : mM}  (k : ∀ E, Cx G mX12_laysOpen E → Wm G mX12_laysOpen E (bm G mX12_laysOpen E (pI Q)) μ 0 [(0, .ref (gb G + 132))] []) : CtI G mX12_laysOpen [.ref (gb G + 132)] μ Q := CtI.of pn_X12 (Nat.le_of_ble_eq_true rfl) k
set_option maxRecDepth 4000 in
theorem k_X12_laysOpen_4 {G : mG} {E : mE} {Q : Int32 → mM → Prop} {μ : mM} (C : Cx G mX12_laysOpen E) {x1 : Int32} {x2 : Int32} (rr1 : (μ 132 13) ≤ x2 → Q x1 μ) (ss2 : ¬ (μ 132 13) ≤ x2 → vp_in x2 1200) (kk3 : ¬ (μ 132 13) ≤ x2 → (μ 142 x2.toNatClampNeg) = 0 → ∀ v1 : Int32, ((((ms μ 144 x2.toNatClampNeg 0) 144 x2.toNatClampNeg) = 0 ∧ v1 = 0) ∨ (¬ ((ms μ 144 x2.toNatClampNeg 0) 144 x2.toNatClampNeg) = 0 ∧ v1 = 1)) → Wm G mX12_laysOpen E (bm G mX12_laysOpen E (pI Q)) (ms μ 144 x2.toNatClampNeg 0) 4 [(0, .ref (gb G + 132)), (1, .int (x1 + v1)), (2, .int (x2 + (1 : Int32)))] []) (cc4 : ¬ (μ 132 13) ≤ x2 → ¬ (μ 142 x2.toNatClampNeg) = 0 → CtI G mX12_rowsWith [.ref (gb G + 132), .int x2, .int 0, .int (μ 135 3)] μ (fun r μ' => Wm G mX12_laysOpen E (bm G mX12_laysOpen E (pI Q)) μ' 38 [(0, .ref (gb G + 132)), (1, .int x1), (2, .int x2)] [.int r, .int x2, .ref (gb G + 144)])) : Wm G mX12_laysOpen E (bm G mX12_laysOpen E (pI Q)) μ 4 [(0, .ref (gb G + 132)), (1, .int x1), (2, .int x2)] [] := by
  refine L_iload_n C (i := 2) dX12_laysOpen_4 rfl rfl ?_
  refine L_aload_n C (i := 0) dX12_laysOpen_5 rfl rfl ?_
  refine L_getI C dX12_laysOpen_6 sh_132 fl_X12_168 rfl ?_
  refine L_icmp_ge C (tgt := 70) dX12_laysOpen_9 rfl (fun p1 => ?_) (fun p1 => ?_)
  · refine L_iload_n C (i := 1) dX12_laysOpen_70 rfl rfl ?_
    exact L_irI C dX12_laysOpen_71 rfl (rr1 p1)
  · refine L_aload_n C (i := 0) dX12_laysOpen_12 rfl rfl ?_
    refine L_getC C (c' := 144) dX12_laysOpen_13 sh_132 fl_X12_45 rfl rfl ?_
    refine L_iload_n C (i := 2) dX12_laysOpen_16 rfl rfl ?_
    refine L_aload_n C (i := 0) dX12_laysOpen_17 rfl rfl ?_
    refine L_getC C (c' := 142) dX12_laysOpen_18 sh_132 fl_X12_38 rfl rfl ?_
    refine L_iload_n C (i := 2) dX12_laysOpen_21 rfl rfl ?_
    refine L_zald C dX12_laysOpen_22 sh_142 (ss2 p1) ?_
    refine L_if_eq C (tgt := 45) dX12_laysOpen_23 rfl (fun p2 => ?_) (fun p2 => ?_)
    · refine L_iconst C (v := 0) dX12_laysOpen_45 rfl ?_
      refine L_zast C dX12_laysOpen_46 sh_144 (ss2 p1) ?_
      refine L_iload_n C (i := 1) dX12_laysOpen_47 rfl rfl ?_
      refine L_aload_n C (i := 0) dX12_laysOpen_48 rfl rfl ?_
      refine L_getC C (c' := 144) dX12_laysOpen_49 sh_132 fl_X12_45 rfl rfl ?_
      refine L_iload_n C (i := 2) dX12_laysOpen_52 rfl rfl ?_
      refine L_zald C dX12_laysOpen_53 sh_144 (ss2 p1) ?_
      refine phi (fun v1 : Int32 => Wm G mX12_laysOpen E (bm G mX12_laysOpen E (pI Q)) (ms μ 144 x2.toNatClampNeg 0) 62 [(0, .ref (gb G + 132)), (2, .int x2)] [.int v1, .int x1]) (fun v1 : Int32 => (((ms μ 144 x2.toNatClampNeg 0) 144 x2.toNatClampNeg) = 0 ∧ v1 = 0) ∨ (¬ ((ms μ 144 x2.toNatClampNeg 0) 144 x2.toNatClampNeg) = 0 ∧ v1 = 1)) (fun H => ?_) (fun v1 hv1 => ?_)
      · refine L_if_eq C (tgt := 61) dX12_laysOpen_54 rfl (fun p3 => ?_) (fun p3 => ?_)
        · refine L_iconst C (v := 0) dX12_laysOpen_61 rfl ?_
          refine L_sub [0, 2] rfl ?_
          exact H _ (Or.inl ⟨p3, rfl⟩)
        · refine L_iconst C (v := 1) dX12_laysOpen_57 rfl ?_
          refine L_goto C (tgt := 62) dX12_laysOpen_58 rfl ?_
          refine L_sub [0, 2] rfl ?_
          exact H _ (Or.inr ⟨p3, rfl⟩)
      refine L_iadd C dX12_laysOpen_62 ?_
      refine L_istore_n C (i := 1) dX12_laysOpen_63 rfl (Nat.le_of_ble_eq_true rfl) ?_
      refine L_iinc C (v := 1) dX12_laysOpen_64 rfl rfl (Nat.le_of_ble_eq_true rfl) ?_
      refine L_goto C (tgt := 4) dX12_laysOpen_67 rfl ?_
      exact kk3 p1 p2 v1 hv1
    · refine L_aload_n C (i := 0) dX12_laysOpen_26 rfl rfl ?_
      refine L_iload_n C (i := 2) dX12_laysOpen_27 rfl rfl ?_
      refine L_iconst C (v := 0) dX12_laysOpen_28 rfl ?_
      refine L_aload_n C (i := 0) dX12_laysOpen_29 rfl rfl ?_
      refine L_getC C (c' := 135) dX12_laysOpen_30 sh_132 fl_X12_16 rfl rfl ?_
      refine L_iconst C (v := 3) dX12_laysOpen_33 rfl ?_
      refine L_iald C dX12_laysOpen_34 sh_135 (by unfold vp_in; decide) ?_
      refine L_invV3i C dX12_laysOpen_35 sh_132 cal_X12_rowsWith lk_X12_206 ⟨Nat.le_of_ble_eq_true rfl, Nat.le_of_ble_eq_true rfl⟩ ⟨Nat.le_of_ble_eq_true rfl, Nat.le_of_ble_eq_true rfl⟩ (Nat.le_of_ble_eq_true rfl) ?_
      exact cc4 p1 p2
set_option maxRecDepth 4000 in
theorem k_X12_laysOpen_38 {G : mG} {E : mE} {B : mB} {μ : mM} (C : Cx G mX12_laysOpen E) {x1 : Int32} {x2 : Int32} {sx1 : Int32} {sx2 : Int32} (ss1 : ∀ v1 : Int32, ((¬ sx2 = 0 ∧ v1 = 0) ∨ (sx2 = 0 ∧ v1 = 1)) → vp_in sx1 1200) (ss2 : ∀ v1 : Int32, ((¬ sx2 = 0 ∧ v1 = 0) ∨ (sx2 = 0 ∧ v1 = 1)) → vp_in x2 1200) (kk3 : ∀ v1 : Int32, ((¬ sx2 = 0 ∧ v1 = 0) ∨ (sx2 = 0 ∧ v1 = 1)) → ∀ v2 : Int32, ((((ms μ 144 sx1.toNatClampNeg (vp_nar .boolean v1)) 144 x2.toNatClampNeg) = 0 ∧ v2 = 0) ∨ (¬ ((ms μ 144 sx1.toNatClampNeg (vp_nar .boolean v1)) 144 x2.toNatClampNeg) = 0 ∧ v2 = 1)) → Wm G mX12_laysOpen E B (ms μ 144 sx1.toNatClampNeg (vp_nar .boolean v1)) 4 [(0, .ref (gb G + 132)), (1, .int (x1 + v2)), (2, .int (x2 + (1 : Int32)))] []) : Wm G mX12_laysOpen E B μ 38 [(0, .ref (gb G + 132)), (1, .int x1), (2, .int x2)] [.int sx2, .int sx1, .ref (gb G + 144)] := by
  refine phi (fun v1 : Int32 => Wm G mX12_laysOpen E B μ 46 [(0, .ref (gb G + 132)), (1, .int x1), (2, .int x2)] [.int v1, .int sx1, .ref (gb G + 144)]) (fun v1 : Int32 => (¬ sx2 = 0 ∧ v1 = 0) ∨ (sx2 = 0 ∧ v1 = 1)) (fun H => ?_) (fun v1 hv1 => ?_)
  · refine L_if_ne C (tgt := 45) dX12_laysOpen_38 rfl (fun p1 => ?_) (fun p1 => ?_)
    · refine L_iconst C (v := 0) dX12_laysOpen_45 rfl ?_
      exact H _ (Or.inl ⟨p1, rfl⟩)
    · refine L_iconst C (v := 1) dX12_laysOpen_41 rfl ?_
      refine L_goto C (tgt := 46) dX12_laysOpen_42 rfl ?_
      exact H _ (Or.inr ⟨p1, rfl⟩)
  refine L_zast C dX12_laysOpen_46 sh_144 (ss1 v1 hv1) ?_
  refine L_iload_n C (i := 1) dX12_laysOpen_47 rfl rfl ?_
  refine L_aload_n C (i := 0) dX12_laysOpen_48 rfl rfl ?_
  refine L_getC C (c' := 144) dX12_laysOpen_49 sh_132 fl_X12_45 rfl rfl ?_
  refine L_iload_n C (i := 2) dX12_laysOpen_52 rfl rfl ?_
  refine L_zald C dX12_laysOpen_53 sh_144 (ss2 v1 hv1) ?_
  refine phi (fun v2 : Int32 => Wm G mX12_laysOpen E B (ms μ 144 sx1.toNatClampNeg (vp_nar .boolean v1)) 62 [(0, .ref (gb G + 132)), (2, .int x2)] [.int v2, .int x1]) (fun v2 : Int32 => (((ms μ 144 sx1.toNatClampNeg (vp_nar .boolean v1)) 144 x2.toNatClampNeg) = 0 ∧ v2 = 0) ∨ (¬ ((ms μ 144 sx1.toNatClampNeg (vp_nar .boolean v1)) 144 x2.toNatClampNeg) = 0 ∧ v2 = 1)) (fun H => ?_) (fun v2 hv2 => ?_)
  · refine L_if_eq C (tgt := 61) dX12_laysOpen_54 rfl (fun p2 => ?_) (fun p2 => ?_)
    · refine L_iconst C (v := 0) dX12_laysOpen_61 rfl ?_
      refine L_sub [0, 2] rfl ?_
      exact H _ (Or.inl ⟨p2, rfl⟩)
    · refine L_iconst C (v := 1) dX12_laysOpen_57 rfl ?_
      refine L_goto C (tgt := 62) dX12_laysOpen_58 rfl ?_
      refine L_sub [0, 2] rfl ?_
      exact H _ (Or.inr ⟨p2, rfl⟩)
  refine L_iadd C dX12_laysOpen_62 ?_
  refine L_istore_n C (i := 1) dX12_laysOpen_63 rfl (Nat.le_of_ble_eq_true rfl) ?_
  refine L_iinc C (v := 1) dX12_laysOpen_64 rfl rfl (Nat.le_of_ble_eq_true rfl) ?_
  refine L_goto C (tgt := 4) dX12_laysOpen_67 rfl ?_
  exact kk3 v1 hv1 v2 hv2
set_option maxRecDepth 4000 in
theorem k_X12_isPlan_0 {G : mG} {E : mE} {Q : Int32 → mM → Prop} {μ : mM} (C : Cx G mX12_isPlan E)  (rr1 : (μ 135 0) ≤ 0 → Q 0 μ) (rr2 : ¬ (μ 135 0) ≤ 0 → Q 1 μ) : Wm G mX12_isPlan E (bm G mX12_isPlan E (pI Q)) μ 0 [(0, .ref (gb G + 132))] [] := by
  refine L_aload_n C (i := 0) dX12_isPlan_0 rfl rfl ?_
  refine L_getC C (c' := 135) dX12_isPlan_1 sh_132 fl_X12_16 rfl rfl ?_
  refine L_iconst C (v := 0) dX12_isPlan_4 rfl ?_
  refine L_iald C dX12_isPlan_5 sh_135 (by unfold vp_in; decide) ?_
  refine L_if_le C (tgt := 13) dX12_isPlan_6 rfl (fun p1 => ?_) (fun p1 => ?_)
  · refine L_iconst C (v := 0) dX12_isPlan_13 rfl ?_
    exact L_irZ C dX12_isPlan_14 rfl (by decide) (rr1 p1)
  · refine L_iconst C (v := 1) dX12_isPlan_9 rfl ?_
    refine L_goto C (tgt := 14) dX12_isPlan_10 rfl ?_
    exact L_irZ C dX12_isPlan_14 rfl (by decide) (rr2 p1)
theorem a_X12_isPlan {G : mG} {Q : Int32 → mM → Prop} {μ : mM}  (rr1 : (μ 135 0) ≤ 0 → Q 0 μ) (rr2 : ¬ (μ 135 0) ≤ 0 → Q 1 μ) : CtI G mX12_isPlan [.ref (gb G + 132)] μ Q :=
  CtI.of pn_X12 (Nat.le_of_ble_eq_true rfl) (fun E C => k_X12_isPlan_0 C rr1 rr2)
set_option maxRecDepth 4000 in
theorem k_X12_isRow_0 {G : mG} {E : mE} {Q : Int32 → mM → Prop} {μ : mM} (C : Cx G mX12_isRow E) {x1 : Int32} (rr1 : (x1 < 0 ∨ (¬ x1 < 0 ∧ (μ 135 3) ≤ x1)) → Q 0 μ) (rr2 : ¬ x1 < 0 → ¬ (μ 135 3) ≤ x1 → Q 1 μ) : Wm G mX12_isRow E (bm G mX12_isRow E (pI Q)) μ 0 [(0, .ref (gb G + 132)), (1, .int x1)] [] := by
  refine L_iload_n C (i := 1) dX12_isRow_0 rfl rfl ?_
  refine L_if_lt C (tgt := 18) dX12_isRow_1 rfl (fun p1 => ?_) (fun p1 => ?_)
  · refine L_iconst C (v := 0) dX12_isRow_18 rfl ?_
    exact L_irZ C dX12_isRow_19 rfl (by decide) (rr1 (Or.inl p1))
  · refine L_iload_n C (i := 1) dX12_isRow_4 rfl rfl ?_
    refine L_aload_n C (i := 0) dX12_isRow_5 rfl rfl ?_
    refine L_getC C (c' := 135) dX12_isRow_6 sh_132 fl_X12_16 rfl rfl ?_
    refine L_iconst C (v := 3) dX12_isRow_9 rfl ?_
    refine L_iald C dX12_isRow_10 sh_135 (by unfold vp_in; decide) ?_
    refine L_icmp_ge C (tgt := 18) dX12_isRow_11 rfl (fun p2 => ?_) (fun p2 => ?_)
    · refine L_iconst C (v := 0) dX12_isRow_18 rfl ?_
      exact L_irZ C dX12_isRow_19 rfl (by decide) (rr1 (Or.inr ⟨p1, p2⟩))
    · refine L_iconst C (v := 1) dX12_isRow_14 rfl ?_
      refine L_goto C (tgt := 19) dX12_isRow_15 rfl ?_
      exact L_irZ C dX12_isRow_19 rfl (by decide) (rr2 p1 p2)
theorem a_X12_isRow {G : mG} {Q : Int32 → mM → Prop} {μ : mM} {x1 : Int32} (rr1 : (x1 < 0 ∨ (¬ x1 < 0 ∧ (μ 135 3) ≤ x1)) → Q 0 μ) (rr2 : ¬ x1 < 0 → ¬ (μ 135 3) ≤ x1 → Q 1 μ) : CtI G mX12_isRow [.ref (gb G + 132), .int x1] μ Q :=
  CtI.of pn_X12 (Nat.le_of_ble_eq_true rfl) (fun E C => k_X12_isRow_0 C rr1 rr2)
set_option maxRecDepth 4000 in
theorem k_X12_isColumn_0 {G : mG} {E : mE} {Q : Int32 → mM → Prop} {μ : mM} (C : Cx G mX12_isColumn E) {x1 : Int32} (rr1 : (x1 < 0 ∨ (¬ x1 < 0 ∧ (μ 135 0) ≤ x1)) → Q 0 μ) (rr2 : ¬ x1 < 0 → ¬ (μ 135 0) ≤ x1 → Q 1 μ) : Wm G mX12_isColumn E (bm G mX12_isColumn E (pI Q)) μ 0 [(0, .ref (gb G + 132)), (1, .int x1)] [] := by
  refine L_iload_n C (i := 1) dX12_isColumn_0 rfl rfl ?_
  refine L_if_lt C (tgt := 18) dX12_isColumn_1 rfl (fun p1 => ?_) (fun p1 => ?_)
  · refine L_iconst C (v := 0) dX12_isColumn_18 rfl ?_
    exact L_irZ C dX12_isColumn_19 rfl (by decide) (rr1 (Or.inl p1))
  · refine L_iload_n C (i := 1) dX12_isColumn_4 rfl rfl ?_
    refine L_aload_n C (i := 0) dX12_isColumn_5 rfl rfl ?_
    refine L_getC C (c' := 135) dX12_isColumn_6 sh_132 fl_X12_16 rfl rfl ?_
    refine L_iconst C (v := 0) dX12_isColumn_9 rfl ?_
    refine L_iald C dX12_isColumn_10 sh_135 (by unfold vp_in; decide) ?_
    refine L_icmp_ge C (tgt := 18) dX12_isColumn_11 rfl (fun p2 => ?_) (fun p2 => ?_)
    · refine L_iconst C (v := 0) dX12_isColumn_18 rfl ?_
      exact L_irZ C dX12_isColumn_19 rfl (by decide) (rr1 (Or.inr ⟨p1, p2⟩))
    · refine L_iconst C (v := 1) dX12_isColumn_14 rfl ?_
      refine L_goto C (tgt := 19) dX12_isColumn_15 rfl ?_
      exact L_irZ C dX12_isColumn_19 rfl (by decide) (rr2 p1 p2)
theorem a_X12_isColumn {G : mG} {Q : Int32 → mM → Prop} {μ : mM} {x1 : Int32} (rr1 : (x1 < 0 ∨ (¬ x1 < 0 ∧ (μ 135 0) ≤ x1)) → Q 0 μ) (rr2 : ¬ x1 < 0 → ¬ (μ 135 0) ≤ x1 → Q 1 μ) : CtI G mX12_isColumn [.ref (gb G + 132), .int x1] μ Q :=
  CtI.of pn_X12 (Nat.le_of_ble_eq_true rfl) (fun E C => k_X12_isColumn_0 C rr1 rr2)
set_option maxRecDepth 4000 in
theorem k_X12_levels_0 {G : mG} {E : mE} {Q : Int32 → mM → Prop} {μ : mM} (C : Cx G mX12_levels E) {x1 : Int32} (rr1 : (x1 < 0 ∨ (¬ x1 < 0 ∧ (μ 135 0) ≤ x1)) → Q (-1) μ) (ss2 : ¬ x1 < 0 → ¬ (μ 135 0) ≤ x1 → vp_in ((5 : Int32) + x1) 673) (rr3 : ¬ x1 < 0 → ¬ (μ 135 0) ≤ x1 → Q (μ 135 ((5 : Int32) + x1).toNatClampNeg) μ) : Wm G mX12_levels E (bm G mX12_levels E (pI Q)) μ 0 [(0, .ref (gb G + 132)), (1, .int x1)] [] := by
  refine L_aload_n C (i := 0) dX12_levels_0 rfl rfl ?_
  refine L_iload_n C (i := 1) dX12_levels_1 rfl rfl ?_
  refine L_invV1i C dX12_levels_2 sh_132 cal_X12_isColumn lk_X12_209 ⟨Nat.le_of_ble_eq_true rfl, Nat.le_of_ble_eq_true rfl⟩ ⟨Nat.le_of_ble_eq_true rfl, Nat.le_of_ble_eq_true rfl⟩ (Nat.le_of_ble_eq_true rfl) (a_X12_isColumn (fun p1 => ?_) (fun p2 p3 => ?_))
  · refine L_if_eq C (tgt := 19) dX12_levels_5 rfl (fun p4 => ?_) (fun p4 => absurd p4 (by decide))
    refine L_iconst C (v := (-1)) dX12_levels_19 rfl ?_
    exact L_irI C dX12_levels_20 rfl (rr1 p1)
  · refine L_if_eq C (tgt := 19) dX12_levels_5 rfl (fun p5 => absurd p5 (by decide)) (fun p5 => ?_)
    refine L_aload_n C (i := 0) dX12_levels_8 rfl rfl ?_
    refine L_getC C (c' := 135) dX12_levels_9 sh_132 fl_X12_16 rfl rfl ?_
    refine L_iconst C (v := 5) dX12_levels_12 rfl ?_
    refine L_iload_n C (i := 1) dX12_levels_13 rfl rfl ?_
    refine L_iadd C dX12_levels_14 ?_
    refine L_iald C dX12_levels_15 sh_135 (ss2 p2 p3) ?_
    refine L_goto C (tgt := 20) dX12_levels_16 rfl ?_
    exact L_irI C dX12_levels_20 rfl (rr3 p2 p3)
theorem a_X12_levels {G : mG} {Q : Int32 → mM → Prop} {μ : mM} {x1 : Int32} (rr1 : (x1 < 0 ∨ (¬ x1 < 0 ∧ (μ 135 0) ≤ x1)) → Q (-1) μ) (ss2 : ¬ x1 < 0 → ¬ (μ 135 0) ≤ x1 → vp_in ((5 : Int32) + x1) 673) (rr3 : ¬ x1 < 0 → ¬ (μ 135 0) ≤ x1 → Q (μ 135 ((5 : Int32) + x1).toNatClampNeg) μ) : CtI G mX12_levels [.ref (gb G + 132), .int x1] μ Q :=
  CtI.of pn_X12 (Nat.le_of_ble_eq_true rfl) (fun E C => k_X12_levels_0 C rr1 ss2 rr3)
set_option maxRecDepth 4000 in
theorem k_X12_firstWith_0 {G : mG} {E : mE} {B : mB} {μ : mM} (C : Cx G mX12_firstWith E) {x1 : Int32} (kk1 : Wm G mX12_firstWith E B μ 2 [(0, .ref (gb G + 132)), (1, .int x1), (2, .int 0)] []) : Wm G mX12_firstWith E B μ 0 [(0, .ref (gb G + 132)), (1, .int x1)] [] := by
  refine L_iconst C (v := 0) dX12_firstWith_0 rfl ?_
  refine L_istore_n C (i := 2) dX12_firstWith_1 rfl (Nat.le_of_ble_eq_true rfl) ?_
  exact kk1
theorem e_X12_firstWith {G : mG} {Q : Int32 → mM → Prop} {μ : mM} {x1 : Int32} (k : ∀ E, Cx G mX12_firstWith E → Wm G mX12_firstWith E (bm G mX12_firstWith E (pI Q)) μ 0 [(0, .ref (gb G + 132)), (1, .int x1)] []) : CtI G mX12_firstWith [.ref (gb G + 132), .int x1] μ Q := CtI.of pn_X12 (Nat.le_of_ble_eq_true rfl) k
set_option maxRecDepth 4000 in
theorem k_X12_firstWith_2 {G : mG} {E : mE} {Q : Int32 → mM → Prop} {μ : mM} (C : Cx G mX12_firstWith E) {x1 : Int32} {x2 : Int32} (rr1 : (μ 135 3) ≤ x2 → Q (-2) μ) (cc2 : ¬ (μ 135 3) ≤ x2 → CtI G mX12_hasMix [.ref (gb G + 132), .int x2, .int x1] μ (fun r μ' => Wm G mX12_firstWith E (bm G mX12_firstWith E (pI Q)) μ' 18 [(0, .ref (gb G + 132)), (1, .int x1), (2, .int x2)] [.int r])) : Wm G mX12_firstWith E (bm G mX12_firstWith E (pI Q)) μ 2 [(0, .ref (gb G + 132)), (1, .int x1), (2, .int x2)] [] := by
  refine L_iload_n C (i := 2) dX12_firstWith_2 rfl rfl ?_
  refine L_aload_n C (i := 0) dX12_firstWith_3 rfl rfl ?_
  refine L_getC C (c' := 135) dX12_firstWith_4 sh_132 fl_X12_16 rfl rfl ?_
  refine L_iconst C (v := 3) dX12_firstWith_7 rfl ?_
  refine L_iald C dX12_firstWith_8 sh_135 (by unfold vp_in; decide) ?_
  refine L_icmp_ge C (tgt := 29) dX12_firstWith_9 rfl (fun p1 => ?_) (fun p1 => ?_)
  · refine L_bipush C (v := (-2)) dX12_firstWith_29 rfl ?_
    exact L_irI C dX12_firstWith_31 rfl (rr1 p1)
  · refine L_aload_n C (i := 0) dX12_firstWith_12 rfl rfl ?_
    refine L_iload_n C (i := 2) dX12_firstWith_13 rfl rfl ?_
    refine L_iload_n C (i := 1) dX12_firstWith_14 rfl rfl ?_
    refine L_invV2i C dX12_firstWith_15 sh_132 cal_X12_hasMix lk_X12_203 ⟨Nat.le_of_ble_eq_true rfl, Nat.le_of_ble_eq_true rfl⟩ ⟨Nat.le_of_ble_eq_true rfl, Nat.le_of_ble_eq_true rfl⟩ (Nat.le_of_ble_eq_true rfl) ?_
    exact cc2 p1
set_option maxRecDepth 4000 in
theorem k_X12_firstWith_18 {G : mG} {E : mE} {Q : Int32 → mM → Prop} {μ : mM} (C : Cx G mX12_firstWith E) {x1 : Int32} {x2 : Int32} {sx0 : Int32} (kk1 : sx0 = 0 → Wm G mX12_firstWith E (bm G mX12_firstWith E (pI Q)) μ 2 [(0, .ref (gb G + 132)), (1, .int x1), (2, .int (x2 + (1 : Int32)))] []) (rr2 : ¬ sx0 = 0 → Q x2 μ) : Wm G mX12_firstWith E (bm G mX12_firstWith E (pI Q)) μ 18 [(0, .ref (gb G + 132)), (1, .int x1), (2, .int x2)] [.int sx0] := by
  refine L_if_eq C (tgt := 23) dX12_firstWith_18 rfl (fun p1 => ?_) (fun p1 => ?_)
  · refine L_iinc C (v := 1) dX12_firstWith_23 rfl rfl (Nat.le_of_ble_eq_true rfl) ?_
    refine L_goto C (tgt := 2) dX12_firstWith_26 rfl ?_
    exact kk1 p1
  · refine L_iload_n C (i := 2) dX12_firstWith_21 rfl rfl ?_
    exact L_irI C dX12_firstWith_22 rfl (rr2 p1)
set_option maxRecDepth 4000 in
theorem k_X12_mix_0 {G : mG} {E : mE} {Q : Int32 → mM → Prop} {μ : mM} (C : Cx G mX12_mix E) {x1 : Int32} {x2 : Int32} (rr1 : ((μ 135 0) ≤ 0 ∨ (¬ (μ 135 0) ≤ 0 ∧ (((lg_cmp x1.toInt64 0) < 0 ∨ (¬ (lg_cmp x1.toInt64 0) < 0 ∧ 0 < (lg_cmp x1.toInt64 ((μ 132 13) - (1 : Int32)).toInt64))) ∨ (¬ (lg_cmp x1.toInt64 0) < 0 ∧ ¬ 0 < (lg_cmp x1.toInt64 ((μ 132 13) - (1 : Int32)).toInt64) ∧ ((lg_cmp x2.toInt64 0) < 0 ∨ (¬ (lg_cmp x2.toInt64 0) < 0 ∧ 0 < (lg_cmp x2.toInt64 8))))))) → Q (-1) μ) (cc2 : ¬ (μ 135 0) ≤ 0 → ¬ (lg_cmp x1.toInt64 0) < 0 → ¬ 0 < (lg_cmp x1.toInt64 ((μ 132 13) - (1 : Int32)).toInt64) → ¬ (lg_cmp x2.toInt64 0) < 0 → ¬ 0 < (lg_cmp x2.toInt64 8) → 6 ≤ x2 → ¬ x2 = 6 → ¬ x2 = 7 → CtI G mX12_firstWith [.ref (gb G + 132), .int x1] μ (fun r μ' => Wm G mX12_mix E (bm G mX12_mix E (pI Q)) μ' 140 [] [.int r])) (cc3 : ¬ (μ 135 0) ≤ 0 → ¬ (lg_cmp x1.toInt64 0) < 0 → ¬ 0 < (lg_cmp x1.toInt64 ((μ 132 13) - (1 : Int32)).toInt64) → ¬ (lg_cmp x2.toInt64 0) < 0 → ¬ 0 < (lg_cmp x2.toInt64 8) → 6 ≤ x2 → ¬ x2 = 6 → x2 = 7 → CtI G mX12_rowsWith [.ref (gb G + 132), .int x1, .int 0, .int (μ 135 3)] μ (fun r μ' => Wm G mX12_mix E (bm G mX12_mix E (pI Q)) μ' 132 [] [.int r])) (ss4 : ¬ (μ 135 0) ≤ 0 → ¬ (lg_cmp x1.toInt64 0) < 0 → ¬ 0 < (lg_cmp x1.toInt64 ((μ 132 13) - (1 : Int32)).toInt64) → ¬ (lg_cmp x2.toInt64 0) < 0 → ¬ 0 < (lg_cmp x2.toInt64 8) → 6 ≤ x2 → x2 = 6 → vp_in x1 1200) (kk5 : ¬ (μ 135 0) ≤ 0 → ¬ (lg_cmp x1.toInt64 0) < 0 → ¬ 0 < (lg_cmp x1.toInt64 ((μ 132 13) - (1 : Int32)).toInt64) → ¬ (lg_cmp x2.toInt64 0) < 0 → ¬ 0 < (lg_cmp x2.toInt64 8) → 6 ≤ x2 → x2 = 6 → (μ 142 x1.toNatClampNeg) = 0 → Wm G mX12_mix E (bm G mX12_mix E (pI Q)) μ 140 [] [.int 0]) (kk6 : ¬ (μ 135 0) ≤ 0 → ¬ (lg_cmp x1.toInt64 0) < 0 → ¬ 0 < (lg_cmp x1.toInt64 ((μ 132 13) - (1 : Int32)).toInt64) → ¬ (lg_cmp x2.toInt64 0) < 0 → ¬ 0 < (lg_cmp x2.toInt64 8) → 6 ≤ x2 → x2 = 6 → ¬ (μ 142 x1.toNatClampNeg) = 0 → Wm G mX12_mix E (bm G mX12_mix E (pI Q)) μ 140 [] [.int 1]) (ss7 : ¬ (μ 135 0) ≤ 0 → ¬ (lg_cmp x1.toInt64 0) < 0 → ¬ 0 < (lg_cmp x1.toInt64 ((μ 132 13) - (1 : Int32)).toInt64) → ¬ (lg_cmp x2.toInt64 0) < 0 → ¬ 0 < (lg_cmp x2.toInt64 8) → ¬ 6 ≤ x2 → (x2 - x2 / 3 * 3) < (μ 135 1) → vp_in (((3 : Int32) * x1) + (x2 - x2 / 3 * 3)) 3600) (rr8 : ¬ (μ 135 0) ≤ 0 → ¬ (lg_cmp x1.toInt64 0) < 0 → ¬ 0 < (lg_cmp x1.toInt64 ((μ 132 13) - (1 : Int32)).toInt64) → ¬ (lg_cmp x2.toInt64 0) < 0 → ¬ 0 < (lg_cmp x2.toInt64 8) → ¬ 6 ≤ x2 → (x2 - x2 / 3 * 3) < (μ 135 1) → 3 ≤ x2 → Q (μ 141 (((3 : Int32) * x1) + (x2 - x2 / 3 * 3)).toNatClampNeg) μ) (rr9 : ¬ (μ 135 0) ≤ 0 → ¬ (lg_cmp x1.toInt64 0) < 0 → ¬ 0 < (lg_cmp x1.toInt64 ((μ 132 13) - (1 : Int32)).toInt64) → ¬ (lg_cmp x2.toInt64 0) < 0 → ¬ 0 < (lg_cmp x2.toInt64 8) → ¬ 6 ≤ x2 → (x2 - x2 / 3 * 3) < (μ 135 1) → ¬ 3 ≤ x2 → Q (μ 140 (((3 : Int32) * x1) + (x2 - x2 / 3 * 3)).toNatClampNeg) μ) (rr10 : ¬ (μ 135 0) ≤ 0 → ¬ (lg_cmp x1.toInt64 0) < 0 → ¬ 0 < (lg_cmp x1.toInt64 ((μ 132 13) - (1 : Int32)).toInt64) → ¬ (lg_cmp x2.toInt64 0) < 0 → ¬ 0 < (lg_cmp x2.toInt64 8) → ¬ 6 ≤ x2 → ¬ (x2 - x2 / 3 * 3) < (μ 135 1) → Q (-2) μ) : Wm G mX12_mix E (bm G mX12_mix E (pI Q)) μ 0 [(0, .ref (gb G + 132)), (1, .int x1), (2, .int x2)] [] := by
  refine L_aload_n C (i := 0) dX12_mix_0 rfl rfl ?_
  refine L_invV0i C dX12_mix_1 sh_132 cal_X12_isPlan lk_X12_212 ⟨Nat.le_of_ble_eq_true rfl, Nat.le_of_ble_eq_true rfl⟩ ⟨Nat.le_of_ble_eq_true rfl, Nat.le_of_ble_eq_true rfl⟩ (Nat.le_of_ble_eq_true rfl) (a_X12_isPlan (fun p1 => ?_) (fun p2 => ?_))
  · refine L_if_eq C (tgt := 35) dX12_mix_4 rfl (fun p3 => ?_) (fun p3 => absurd p3 (by decide))
    refine L_iconst C (v := (-1)) dX12_mix_35 rfl ?_
    exact L_irI C dX12_mix_36 rfl (rr1 (Or.inl p1))
  · refine L_if_eq C (tgt := 35) dX12_mix_4 rfl (fun p4 => absurd p4 (by decide)) (fun p4 => ?_)
    refine L_iload_n C (i := 1) dX12_mix_7 rfl rfl ?_
    refine L_i2l C dX12_mix_8 ?_
    refine L_lconst C (v := 0) dX12_mix_9 rfl ?_
    refine L_aload_n C (i := 0) dX12_mix_10 rfl rfl ?_
    refine L_getI C dX12_mix_11 sh_132 fl_X12_168 rfl ?_
    refine L_iconst C (v := 1) dX12_mix_14 rfl ?_
    refine L_isub C dX12_mix_15 ?_
    refine L_i2l C dX12_mix_16 ?_
    refine L_invS3i C dX12_mix_17 cal_X12_isIn stc_X12_isIn lk_X12_73 ⟨Nat.le_of_ble_eq_true rfl, Nat.le_of_ble_eq_true rfl⟩ ⟨Nat.le_of_ble_eq_true rfl, Nat.le_of_ble_eq_true rfl⟩ (Nat.le_of_ble_eq_true rfl) (a_X12_isIn (fun p5 => ?_) (fun p6 p7 => ?_))
    · refine L_if_eq C (tgt := 35) dX12_mix_20 rfl (fun p8 => ?_) (fun p8 => absurd p8 (by decide))
      refine L_iconst C (v := (-1)) dX12_mix_35 rfl ?_
      exact L_irI C dX12_mix_36 rfl (rr1 (Or.inr ⟨p2, (Or.inl p5)⟩))
    · refine L_if_eq C (tgt := 35) dX12_mix_20 rfl (fun p9 => absurd p9 (by decide)) (fun p9 => ?_)
      refine L_iload_n C (i := 2) dX12_mix_23 rfl rfl ?_
      refine L_i2l C dX12_mix_24 ?_
      refine L_lconst C (v := 0) dX12_mix_25 rfl ?_
      refine L_ldc2 C dX12_mix_26 cn_X12_215 ?_
      refine L_invS3i C dX12_mix_29 cal_X12_isIn stc_X12_isIn lk_X12_73 ⟨Nat.le_of_ble_eq_true rfl, Nat.le_of_ble_eq_true rfl⟩ ⟨Nat.le_of_ble_eq_true rfl, Nat.le_of_ble_eq_true rfl⟩ (Nat.le_of_ble_eq_true rfl) (a_X12_isIn (fun p10 => ?_) (fun p11 p12 => ?_))
      · refine L_if_ne C (tgt := 37) dX12_mix_32 rfl (fun p13 => absurd p13 (by decide)) (fun p13 => ?_)
        refine L_iconst C (v := (-1)) dX12_mix_35 rfl ?_
        exact L_irI C dX12_mix_36 rfl (rr1 (Or.inr ⟨p2, (Or.inr ⟨p6, p7, p10⟩)⟩))
      · refine L_if_ne C (tgt := 37) dX12_mix_32 rfl (fun p14 => ?_) (fun p14 => absurd p14 (by decide))
        refine L_iload_n C (i := 2) dX12_mix_37 rfl rfl ?_
        refine L_bipush C (v := 6) dX12_mix_38 rfl ?_
        refine L_icmp_ge C (tgt := 91) dX12_mix_40 rfl (fun p15 => ?_) (fun p15 => ?_)
        · refine L_iload_n C (i := 2) dX12_mix_91 rfl rfl ?_
          refine L_bipush C (v := 6) dX12_mix_92 rfl ?_
          refine L_icmp_ne C (tgt := 114) dX12_mix_94 rfl (fun p16 => ?_) (fun p16 => ?_)
          · refine L_iload_n C (i := 2) dX12_mix_114 rfl rfl ?_
            refine L_bipush C (v := 7) dX12_mix_115 rfl ?_
            refine L_icmp_ne C (tgt := 135) dX12_mix_117 rfl (fun p17 => ?_) (fun p17 => ?_)
            · refine L_aload_n C (i := 0) dX12_mix_135 rfl rfl ?_
              refine L_iload_n C (i := 1) dX12_mix_136 rfl rfl ?_
              refine L_sub [] rfl ?_
              refine L_invV1i C dX12_mix_137 sh_132 cal_X12_firstWith lk_X12_217 ⟨Nat.le_of_ble_eq_true rfl, Nat.le_of_ble_eq_true rfl⟩ ⟨Nat.le_of_ble_eq_true rfl, Nat.le_of_ble_eq_true rfl⟩ (Nat.le_of_ble_eq_true rfl) ?_
              exact cc2 p2 p6 p7 p11 p12 p15 p16 p17
            · refine L_aload_n C (i := 0) dX12_mix_120 rfl rfl ?_
              refine L_iload_n C (i := 1) dX12_mix_121 rfl rfl ?_
              refine L_iconst C (v := 0) dX12_mix_122 rfl ?_
              refine L_aload_n C (i := 0) dX12_mix_123 rfl rfl ?_
              refine L_getC C (c' := 135) dX12_mix_124 sh_132 fl_X12_16 rfl rfl ?_
              refine L_iconst C (v := 3) dX12_mix_127 rfl ?_
              refine L_iald C dX12_mix_128 sh_135 (by unfold vp_in; decide) ?_
              refine L_sub [] rfl ?_
              refine L_invV3i C dX12_mix_129 sh_132 cal_X12_rowsWith lk_X12_206 ⟨Nat.le_of_ble_eq_true rfl, Nat.le_of_ble_eq_true rfl⟩ ⟨Nat.le_of_ble_eq_true rfl, Nat.le_of_ble_eq_true rfl⟩ (Nat.le_of_ble_eq_true rfl) ?_
              exact cc3 p2 p6 p7 p11 p12 p15 p16 p17
          · refine L_aload_n C (i := 0) dX12_mix_97 rfl rfl ?_
            refine L_getC C (c' := 142) dX12_mix_98 sh_132 fl_X12_38 rfl rfl ?_
            refine L_iload_n C (i := 1) dX12_mix_101 rfl rfl ?_
            refine L_zald C dX12_mix_102 sh_142 (ss4 p2 p6 p7 p11 p12 p15 p16) ?_
            refine L_if_eq C (tgt := 110) dX12_mix_103 rfl (fun p18 => ?_) (fun p18 => ?_)
            · refine L_iconst C (v := 0) dX12_mix_110 rfl ?_
              refine L_goto C (tgt := 140) dX12_mix_111 rfl ?_
              refine L_sub [] rfl ?_
              exact kk5 p2 p6 p7 p11 p12 p15 p16 p18
            · refine L_iconst C (v := 1) dX12_mix_106 rfl ?_
              refine L_goto C (tgt := 140) dX12_mix_107 rfl ?_
              refine L_sub [] rfl ?_
              exact kk6 p2 p6 p7 p11 p12 p15 p16 p18
        · refine L_iload_n C (i := 2) dX12_mix_43 rfl rfl ?_
          refine L_iconst C (v := 3) dX12_mix_44 rfl ?_
          refine L_irem C dX12_mix_45 (by decide) ?_
          refine L_istore_n C (i := 3) dX12_mix_46 rfl (Nat.le_of_ble_eq_true rfl) ?_
          refine L_iload_n C (i := 3) dX12_mix_47 rfl rfl ?_
          refine L_aload_n C (i := 0) dX12_mix_48 rfl rfl ?_
          refine L_getC C (c' := 135) dX12_mix_49 sh_132 fl_X12_16 rfl rfl ?_
          refine L_iconst C (v := 1) dX12_mix_52 rfl ?_
          refine L_iald C dX12_mix_53 sh_135 (by unfold vp_in; decide) ?_
          refine L_icmp_lt C (tgt := 62) dX12_mix_54 rfl (fun p19 => ?_) (fun p19 => ?_)
          · refine L_iload_n C (i := 2) dX12_mix_62 rfl rfl ?_
            refine L_iconst C (v := 3) dX12_mix_63 rfl ?_
            refine L_icmp_ge C (tgt := 80) dX12_mix_64 rfl (fun p20 => ?_) (fun p20 => ?_)
            · refine L_aload_n C (i := 0) dX12_mix_80 rfl rfl ?_
              refine L_getC C (c' := 141) dX12_mix_81 sh_132 fl_X12_35 rfl rfl ?_
              refine L_iconst C (v := 3) dX12_mix_84 rfl ?_
              refine L_iload_n C (i := 1) dX12_mix_85 rfl rfl ?_
              refine L_imul C dX12_mix_86 ?_
              refine L_iload_n C (i := 3) dX12_mix_87 rfl rfl ?_
              refine L_iadd C dX12_mix_88 ?_
              refine L_iald C dX12_mix_89 sh_141 (ss7 p2 p6 p7 p11 p12 p15 p19) ?_
              exact L_irI C dX12_mix_90 rfl (rr8 p2 p6 p7 p11 p12 p15 p19 p20)
            · refine L_aload_n C (i := 0) dX12_mix_67 rfl rfl ?_
              refine L_getC C (c' := 140) dX12_mix_68 sh_132 fl_X12_32 rfl rfl ?_
              refine L_iconst C (v := 3) dX12_mix_71 rfl ?_
              refine L_iload_n C (i := 1) dX12_mix_72 rfl rfl ?_
              refine L_imul C dX12_mix_73 ?_
              refine L_iload_n C (i := 3) dX12_mix_74 rfl rfl ?_
              refine L_iadd C dX12_mix_75 ?_
              refine L_iald C dX12_mix_76 sh_140 (ss7 p2 p6 p7 p11 p12 p15 p19) ?_
              refine L_goto C (tgt := 90) dX12_mix_77 rfl ?_
              exact L_irI C dX12_mix_90 rfl (rr9 p2 p6 p7 p11 p12 p15 p19 p20)
          · refine L_bipush C (v := (-2)) dX12_mix_57 rfl ?_
            refine L_goto C (tgt := 90) dX12_mix_59 rfl ?_
            exact L_irI C dX12_mix_90 rfl (rr10 p2 p6 p7 p11 p12 p15 p19)
theorem e_X12_mix {G : mG} {Q : Int32 → mM → Prop} {μ : mM} {x1 : Int32} {x2 : Int32} (k : ∀ E, Cx G mX12_mix E → Wm G mX12_mix E (bm G mX12_mix E (pI Q)) μ 0 [(0, .ref (gb G + 132)), (1, .int x1), (2, .int x2)] []) : CtI G mX12_mix [.ref (gb G + 132), .int x1, .int x2] μ Q := CtI.of pn_X12 (Nat.le_of_ble_eq_true rfl) k
set_option maxRecDepth 4000 in
theorem k_X12_mix_132 {G : mG} {E : mE} {B : mB} {μ : mM} (C : Cx G mX12_mix E) {sx0 : Int32} (kk1 : Wm G mX12_mix E B μ 140 [] [.int sx0]) : Wm G mX12_mix E B μ 132 [] [.int sx0] := by
  refine L_goto C (tgt := 140) dX12_mix_132 rfl ?_
  exact kk1
set_option maxRecDepth 4000 in
theorem k_X12_mix_140 {G : mG} {E : mE} {Q : Int32 → mM → Prop} {μ : mM} (C : Cx G mX12_mix E) {sx0 : Int32} (rr1 : Q sx0 μ) : Wm G mX12_mix E (bm G mX12_mix E (pI Q)) μ 140 [] [.int sx0] := by
  exact L_irI C dX12_mix_140 rfl (rr1)
set_option maxRecDepth 4000 in
theorem k_X12_reads_0 {G : mG} {E : mE} {B : mB} {μ : mM} (C : Cx G mX12_reads E) {x1 : Int32} (kk1 : Wm G mX12_reads E B μ 11 [(0, .ref (gb G + 132)), (2, .int x1), (3, .int ((μ 135 0) - (1 : Int32)))] []) : Wm G mX12_reads E B μ 0 [(0, .ref (gb G + 132)), (1, .int x1)] [] := by
  refine L_iload_n C (i := 1) dX12_reads_0 rfl rfl ?_
  refine L_istore_n C (i := 2) dX12_reads_1 rfl (Nat.le_of_ble_eq_true rfl) ?_
  refine L_aload_n C (i := 0) dX12_reads_2 rfl rfl ?_
  refine L_getC C (c' := 135) dX12_reads_3 sh_132 fl_X12_16 rfl rfl ?_
  refine L_iconst C (v := 0) dX12_reads_6 rfl ?_
  refine L_iald C dX12_reads_7 sh_135 (by unfold vp_in; decide) ?_
  refine L_iconst C (v := 1) dX12_reads_8 rfl ?_
  refine L_isub C dX12_reads_9 ?_
  refine L_istore_n C (i := 3) dX12_reads_10 rfl (Nat.le_of_ble_eq_true rfl) ?_
  refine L_sub [0, 2, 3] rfl ?_
  exact kk1
theorem e_X12_reads {G : mG} {Q : Int32 → mM → Prop} {μ : mM} {x1 : Int32} (k : ∀ E, Cx G mX12_reads E → Wm G mX12_reads E (bm G mX12_reads E (pI Q)) μ 0 [(0, .ref (gb G + 132)), (1, .int x1)] []) : CtI G mX12_reads [.ref (gb G + 132), .int x1] μ Q := CtI.of pn_X12 (Nat.le_of_ble_eq_true rfl) k
set_option maxRecDepth 4000 in
theorem k_X12_reads_11 {G : mG} {E : mE} {Q : Int32 → mM → Prop} {μ : mM} (C : Cx G mX12_reads E) {x2 : Int32} {x3 : Int32} (rr1 : x3 < 0 → ¬ x2 = 0 → Q 0 μ) (rr2 : x3 < 0 → x2 = 0 → Q 1 μ) (ss3 : ¬ x3 < 0 → ∀ v1 : Int32, ((¬ (x2 - x2 / 10 * 10) = 9 ∧ v1 = (x2 - x2 / 10 * 10)) ∨ ((x2 - x2 / 10 * 10) = 9 ∧ v1 = (-1))) → vp_in x3 8) (kk4 : ¬ x3 < 0 → ∀ v1 : Int32, ((¬ (x2 - x2 / 10 * 10) = 9 ∧ v1 = (x2 - x2 / 10 * 10)) ∨ ((x2 - x2 / 10 * 10) = 9 ∧ v1 = (-1))) → ((x2 - x2 / 10 * 10) = 9 ∨ (¬ (x2 - x2 / 10 * 10) = 9 ∧ (x2 - x2 / 10 * 10) < (μ 135 ((5 : Int32) + x3).toNatClampNeg))) → Wm G mX12_reads E (bm G mX12_reads E (pI Q)) (ms μ 145 x3.toNatClampNeg v1) 11 [(0, .ref (gb G + 132)), (2, .int (x2 / 10)), (3, .int (x3 + ((-1) : Int32)))] []) (ss5 : ¬ x3 < 0 → ∀ v1 : Int32, ((¬ (x2 - x2 / 10 * 10) = 9 ∧ v1 = (x2 - x2 / 10 * 10)) ∨ ((x2 - x2 / 10 * 10) = 9 ∧ v1 = (-1))) → ¬ (x2 - x2 / 10 * 10) = 9 → vp_in ((5 : Int32) + x3) 673) (rr6 : ¬ x3 < 0 → ∀ v1 : Int32, ((¬ (x2 - x2 / 10 * 10) = 9 ∧ v1 = (x2 - x2 / 10 * 10)) ∨ ((x2 - x2 / 10 * 10) = 9 ∧ v1 = (-1))) → ¬ (x2 - x2 / 10 * 10) = 9 → ¬ (x2 - x2 / 10 * 10) < (μ 135 ((5 : Int32) + x3).toNatClampNeg) → Q 0 (ms μ 145 x3.toNatClampNeg v1)) : Wm G mX12_reads E (bm G mX12_reads E (pI Q)) μ 11 [(0, .ref (gb G + 132)), (2, .int x2), (3, .int x3)] [] := by
  refine L_iload_n C (i := 3) dX12_reads_11 rfl rfl ?_
  refine L_if_lt C (tgt := 73) dX12_reads_12 rfl (fun p1 => ?_) (fun p1 => ?_)
  · refine L_iload_n C (i := 2) dX12_reads_73 rfl rfl ?_
    refine L_if_ne C (tgt := 81) dX12_reads_74 rfl (fun p2 => ?_) (fun p2 => ?_)
    · refine L_iconst C (v := 0) dX12_reads_81 rfl ?_
      exact L_irZ C dX12_reads_82 rfl (by decide) (rr1 p1 p2)
    · refine L_iconst C (v := 1) dX12_reads_77 rfl ?_
      refine L_goto C (tgt := 82) dX12_reads_78 rfl ?_
      exact L_irZ C dX12_reads_82 rfl (by decide) (rr2 p1 p2)
  · refine L_iload_n C (i := 2) dX12_reads_15 rfl rfl ?_
    refine L_bipush C (v := 10) dX12_reads_16 rfl ?_
    refine L_irem C dX12_reads_18 (by decide) ?_
    refine L_istore C dX12_reads_19 (Nat.le_of_ble_eq_true rfl) ?_
    refine L_iload_n C (i := 2) dX12_reads_21 rfl rfl ?_
    refine L_bipush C (v := 10) dX12_reads_22 rfl ?_
    refine L_idiv C dX12_reads_24 (by decide) ?_
    refine L_istore_n C (i := 2) dX12_reads_25 rfl (Nat.le_of_ble_eq_true rfl) ?_
    refine L_aload_n C (i := 0) dX12_reads_26 rfl rfl ?_
    refine L_getC C (c' := 145) dX12_reads_27 sh_132 fl_X12_48 rfl rfl ?_
    refine L_iload_n C (i := 3) dX12_reads_30 rfl rfl ?_
    refine L_iload C dX12_reads_31 rfl ?_
    refine L_bipush C (v := 9) dX12_reads_33 rfl ?_
    refine phi (fun v1 : Int32 => Wm G mX12_reads E (bm G mX12_reads E (pI Q)) μ 44 [(0, .ref (gb G + 132)), (2, .int (x2 / 10)), (3, .int x3), (4, .int (x2 - x2 / 10 * 10))] [.int v1, .int x3, .ref (gb G + 145)]) (fun v1 : Int32 => (¬ (x2 - x2 / 10 * 10) = 9 ∧ v1 = (x2 - x2 / 10 * 10)) ∨ ((x2 - x2 / 10 * 10) = 9 ∧ v1 = (-1))) (fun H => ?_) (fun v1 hv1 => ?_)
    · refine L_icmp_ne C (tgt := 42) dX12_reads_35 rfl (fun p3 => ?_) (fun p3 => ?_)
      · refine L_iload C dX12_reads_42 rfl ?_
        exact H _ (Or.inl ⟨p3, rfl⟩)
      · refine L_iconst C (v := (-1)) dX12_reads_38 rfl ?_
        refine L_goto C (tgt := 44) dX12_reads_39 rfl ?_
        exact H _ (Or.inr ⟨p3, rfl⟩)
    refine L_iast C dX12_reads_44 sh_145 (ss3 p1 v1 hv1) ?_
    refine L_iload C dX12_reads_45 rfl ?_
    refine L_bipush C (v := 9) dX12_reads_47 rfl ?_
    refine L_icmp_eq C (tgt := 67) dX12_reads_49 rfl (fun p4 => ?_) (fun p4 => ?_)
    · refine L_iinc C (v := (-1)) dX12_reads_67 rfl rfl (Nat.le_of_ble_eq_true rfl) ?_
      refine L_goto C (tgt := 11) dX12_reads_70 rfl ?_
      refine L_sub [0, 1, 2] rfl ?_
      exact kk4 p1 v1 hv1 (Or.inl p4)
    · refine L_iload C dX12_reads_52 rfl ?_
      refine L_aload_n C (i := 0) dX12_reads_54 rfl rfl ?_
      refine L_getC C (c' := 135) dX12_reads_55 sh_132 fl_X12_16 rfl rfl ?_
      refine L_iconst C (v := 5) dX12_reads_58 rfl ?_
      refine L_iload_n C (i := 3) dX12_reads_59 rfl rfl ?_
      refine L_iadd C dX12_reads_60 ?_
      refine L_iald C dX12_reads_61 sh_135 (ss5 p1 v1 hv1 p4) ?_
      refine L_icmp_lt C (tgt := 67) dX12_reads_62 rfl (fun p5 => ?_) (fun p5 => ?_)
      · refine L_iinc C (v := (-1)) dX12_reads_67 rfl rfl (Nat.le_of_ble_eq_true rfl) ?_
        refine L_goto C (tgt := 11) dX12_reads_70 rfl ?_
        refine L_sub [0, 1, 2] rfl ?_
        exact kk4 p1 v1 hv1 (Or.inr ⟨p4, p5⟩)
      · refine L_iconst C (v := 0) dX12_reads_65 rfl ?_
        exact L_irZ C dX12_reads_66 rfl (by decide) (rr6 p1 v1 hv1 p4 p5)
set_option maxRecDepth 4000 in
theorem k_X12_isGiven_0 {G : mG} {E : mE} {Q : Int32 → mM → Prop} {μ : mM} (C : Cx G mX12_isGiven E) {x1 : Int32} (rr1 : ((μ 135 0) ≤ 0 ∨ (¬ (μ 135 0) ≤ 0 ∧ x1 < 0)) → Q 0 μ) (cc2 : ¬ (μ 135 0) ≤ 0 → ¬ x1 < 0 → CtI G mX12_reads [.ref (gb G + 132), .int x1] μ (fun r μ' => Wm G mX12_isGiven E (bm G mX12_isGiven E (pI Q)) μ' 16 [] [.int r])) : Wm G mX12_isGiven E (bm G mX12_isGiven E (pI Q)) μ 0 [(0, .ref (gb G + 132)), (1, .int x1)] [] := by
  refine L_aload_n C (i := 0) dX12_isGiven_0 rfl rfl ?_
  refine L_invV0i C dX12_isGiven_1 sh_132 cal_X12_isPlan lk_X12_212 ⟨Nat.le_of_ble_eq_true rfl, Nat.le_of_ble_eq_true rfl⟩ ⟨Nat.le_of_ble_eq_true rfl, Nat.le_of_ble_eq_true rfl⟩ (Nat.le_of_ble_eq_true rfl) (a_X12_isPlan (fun p1 => ?_) (fun p2 => ?_))
  · refine L_if_eq C (tgt := 23) dX12_isGiven_4 rfl (fun p3 => ?_) (fun p3 => absurd p3 (by decide))
    refine L_iconst C (v := 0) dX12_isGiven_23 rfl ?_
    exact L_irZ C dX12_isGiven_24 rfl (by decide) (rr1 (Or.inl p1))
  · refine L_if_eq C (tgt := 23) dX12_isGiven_4 rfl (fun p4 => absurd p4 (by decide)) (fun p4 => ?_)
    refine L_iload_n C (i := 1) dX12_isGiven_7 rfl rfl ?_
    refine L_if_lt C (tgt := 23) dX12_isGiven_8 rfl (fun p5 => ?_) (fun p5 => ?_)
    · refine L_iconst C (v := 0) dX12_isGiven_23 rfl ?_
      exact L_irZ C dX12_isGiven_24 rfl (by decide) (rr1 (Or.inr ⟨p2, p5⟩))
    · refine L_aload_n C (i := 0) dX12_isGiven_11 rfl rfl ?_
      refine L_iload_n C (i := 1) dX12_isGiven_12 rfl rfl ?_
      refine L_sub [] rfl ?_
      refine L_invV1i C dX12_isGiven_13 sh_132 cal_X12_reads lk_X12_220 ⟨Nat.le_of_ble_eq_true rfl, Nat.le_of_ble_eq_true rfl⟩ ⟨Nat.le_of_ble_eq_true rfl, Nat.le_of_ble_eq_true rfl⟩ (Nat.le_of_ble_eq_true rfl) ?_
      exact cc2 p2 p5
theorem e_X12_isGiven {G : mG} {Q : Int32 → mM → Prop} {μ : mM} {x1 : Int32} (k : ∀ E, Cx G mX12_isGiven E → Wm G mX12_isGiven E (bm G mX12_isGiven E (pI Q)) μ 0 [(0, .ref (gb G + 132)), (1, .int x1)] []) : CtI G mX12_isGiven [.ref (gb G + 132), .int x1] μ Q := CtI.of pn_X12 (Nat.le_of_ble_eq_true rfl) k
set_option maxRecDepth 4000 in
theorem k_X12_isGiven_16 {G : mG} {E : mE} {Q : Int32 → mM → Prop} {μ : mM} (C : Cx G mX12_isGiven E) {sx0 : Int32} (rr1 : sx0 = 0 → Q 0 μ) (rr2 : ¬ sx0 = 0 → Q 1 μ) : Wm G mX12_isGiven E (bm G mX12_isGiven E (pI Q)) μ 16 [] [.int sx0] := by
  refine L_if_eq C (tgt := 23) dX12_isGiven_16 rfl (fun p1 => ?_) (fun p1 => ?_)
  · refine L_iconst C (v := 0) dX12_isGiven_23 rfl ?_
    exact L_irZ C dX12_isGiven_24 rfl (by decide) (rr1 p1)
  · refine L_iconst C (v := 1) dX12_isGiven_19 rfl ?_
    refine L_goto C (tgt := 24) dX12_isGiven_20 rfl ?_
    exact L_irZ C dX12_isGiven_24 rfl (by decide) (rr2 p1)
set_option maxRecDepth 4000 in
theorem k_X12_probes_0 {G : mG} {E : mE} {B : mB} {μ : mM} (C : Cx G mX12_probes E) {n1 : Nat} {c1 : Nat} (h1 : sh c1 = (1, n1)) (kk1 : Wm G mX12_probes E B μ 2 [(0, .ref (gb G + 132)), (1, .ref (gb G + c1)), (2, .int 0)] []) : Wm G mX12_probes E B μ 0 [(0, .ref (gb G + 132)), (1, .ref (gb G + c1))] [] := by
  refine L_iconst C (v := 0) dX12_probes_0 rfl ?_
  refine L_istore_n C (i := 2) dX12_probes_1 rfl (Nat.le_of_ble_eq_true rfl) ?_
  exact kk1
theorem e_X12_probes {G : mG} {Q : mM → Prop} {μ : mM} {n1 : Nat} {c1 : Nat} (h1 : sh c1 = (1, n1)) (k : ∀ E, Cx G mX12_probes E → Wm G mX12_probes E (bm G mX12_probes E (pV Q)) μ 0 [(0, .ref (gb G + 132)), (1, .ref (gb G + c1))] []) : CtV G mX12_probes [.ref (gb G + 132), .ref (gb G + c1)] μ Q := CtV.of pn_X12 (Nat.le_of_ble_eq_true rfl) k
set_option maxRecDepth 4000 in
theorem k_X12_probes_2 {G : mG} {E : mE} {Q : mM → Prop} {μ : mM} (C : Cx G mX12_probes E) {n1 : Nat} {c1 : Nat} (h1 : sh c1 = (1, n1)) {x2 : Int32} (rr1 : (μ 135 0) ≤ x2 → Q μ) (ss2 : ¬ (μ 135 0) ≤ x2 → vp_in x2 n1) (ss3 : ¬ (μ 135 0) ≤ x2 → vp_in x2 8) (kk4 : ¬ (μ 135 0) ≤ x2 → Wm G mX12_probes E (bm G mX12_probes E (pV Q)) (ms μ 138 x2.toNatClampNeg (μ c1 x2.toNatClampNeg)) 2 [(0, .ref (gb G + 132)), (1, .ref (gb G + c1)), (2, .int (x2 + (1 : Int32)))] []) : Wm G mX12_probes E (bm G mX12_probes E (pV Q)) μ 2 [(0, .ref (gb G + 132)), (1, .ref (gb G + c1)), (2, .int x2)] [] := by
  refine L_iload_n C (i := 2) dX12_probes_2 rfl rfl ?_
  refine L_aload_n C (i := 0) dX12_probes_3 rfl rfl ?_
  refine L_getC C (c' := 135) dX12_probes_4 sh_132 fl_X12_16 rfl rfl ?_
  refine L_iconst C (v := 0) dX12_probes_7 rfl ?_
  refine L_iald C dX12_probes_8 sh_135 (by unfold vp_in; decide) ?_
  refine L_icmp_ge C (tgt := 27) dX12_probes_9 rfl (fun p1 => ?_) (fun p1 => ?_)
  · exact L_irV C dX12_probes_27 rfl (rr1 p1)
  · refine L_aload_n C (i := 0) dX12_probes_12 rfl rfl ?_
    refine L_getC C (c' := 138) dX12_probes_13 sh_132 fl_X12_26 rfl rfl ?_
    refine L_iload_n C (i := 2) dX12_probes_16 rfl rfl ?_
    refine L_aload_n C (i := 1) dX12_probes_17 rfl rfl ?_
    refine L_iload_n C (i := 2) dX12_probes_18 rfl rfl ?_
    refine L_iald C dX12_probes_19 h1 (ss2 p1) ?_
    refine L_iast C dX12_probes_20 sh_138 (ss3 p1) ?_
    refine L_iinc C (v := 1) dX12_probes_21 rfl rfl (Nat.le_of_ble_eq_true rfl) ?_
    refine L_goto C (tgt := 2) dX12_probes_24 rfl ?_
    exact kk4 p1
set_option maxRecDepth 4000 in
theorem k_X12_comes_0 {G : mG} {E : mE} {B : mB} {μ : mM} (C : Cx G mX12_comes E) {n1 : Nat} {c1 : Nat} (h1 : sh c1 = (1, n1)) (kk1 : Wm G mX12_comes E B μ 9 [(0, .ref (gb G + 132)), (1, .ref (gb G + c1)), (2, .int (μ 135 3)), (3, .int 0)] []) : Wm G mX12_comes E B μ 0 [(0, .ref (gb G + 132)), (1, .ref (gb G + c1))] [] := by
  refine L_aload_n C (i := 0) dX12_comes_0 rfl rfl ?_
  refine L_getC C (c' := 135) dX12_comes_1 sh_132 fl_X12_16 rfl rfl ?_
  refine L_iconst C (v := 3) dX12_comes_4 rfl ?_
  refine L_iald C dX12_comes_5 sh_135 (by unfold vp_in; decide) ?_
  refine L_istore_n C (i := 2) dX12_comes_6 rfl (Nat.le_of_ble_eq_true rfl) ?_
  refine L_iconst C (v := 0) dX12_comes_7 rfl ?_
  refine L_istore_n C (i := 3) dX12_comes_8 rfl (Nat.le_of_ble_eq_true rfl) ?_
  exact kk1
theorem e_X12_comes {G : mG} {Q : mM → Prop} {μ : mM} {n1 : Nat} {c1 : Nat} (h1 : sh c1 = (1, n1)) (k : ∀ E, Cx G mX12_comes E → Wm G mX12_comes E (bm G mX12_comes E (pV Q)) μ 0 [(0, .ref (gb G + 132)), (1, .ref (gb G + c1))] []) : CtV G mX12_comes [.ref (gb G + 132), .ref (gb G + c1)] μ Q := CtV.of pn_X12 (Nat.le_of_ble_eq_true rfl) k
set_option maxRecDepth 4000 in
theorem k_X12_comes_9 {G : mG} {E : mE} {Q : mM → Prop} {μ : mM} (C : Cx G mX12_comes E) {n1 : Nat} {c1 : Nat} (h1 : sh c1 = (1, n1)) {x2 : Int32} {x3 : Int32} (ss1 : 8 ≤ x3 → vp_in ((97 : Int32) + x2) 673) (rr2 : 8 ≤ x3 → Q (ms (ms μ 135 ((97 : Int32) + x2).toNatClampNeg 0) 135 3 (((ms μ 135 ((97 : Int32) + x2).toNatClampNeg 0) 135 3) + (1 : Int32)))) (ss3 : ¬ 8 ≤ x3 → ¬ (μ 135 0) ≤ x3 → vp_in x3 n1) (ss4 : ¬ 8 ≤ x3 → ∀ v1 : Int32, (((μ 135 0) ≤ x3 ∧ v1 = (-1)) ∨ (¬ (μ 135 0) ≤ x3 ∧ v1 = (μ c1 x3.toNatClampNeg))) → vp_in (((161 : Int32) + ((8 : Int32) * x2)) + x3) 673) (kk5 : ¬ 8 ≤ x3 → ∀ v1 : Int32, (((μ 135 0) ≤ x3 ∧ v1 = (-1)) ∨ (¬ (μ 135 0) ≤ x3 ∧ v1 = (μ c1 x3.toNatClampNeg))) → Wm G mX12_comes E (bm G mX12_comes E (pV Q)) (ms μ 135 (((161 : Int32) + ((8 : Int32) * x2)) + x3).toNatClampNeg v1) 9 [(0, .ref (gb G + 132)), (1, .ref (gb G + c1)), (2, .int x2), (3, .int (x3 + (1 : Int32)))] []) : Wm G mX12_comes E (bm G mX12_comes E (pV Q)) μ 9 [(0, .ref (gb G + 132)), (1, .ref (gb G + c1)), (2, .int x2), (3, .int x3)] [] := by
  refine L_iload_n C (i := 3) dX12_comes_9 rfl rfl ?_
  refine L_bipush C (v := 8) dX12_comes_10 rfl ?_
  refine L_icmp_ge C (tgt := 53) dX12_comes_12 rfl (fun p1 => ?_) (fun p1 => ?_)
  · refine L_aload_n C (i := 0) dX12_comes_53 rfl rfl ?_
    refine L_getC C (c' := 135) dX12_comes_54 sh_132 fl_X12_16 rfl rfl ?_
    refine L_bipush C (v := 97) dX12_comes_57 rfl ?_
    refine L_iload_n C (i := 2) dX12_comes_59 rfl rfl ?_
    refine L_iadd C dX12_comes_60 ?_
    refine L_iconst C (v := 0) dX12_comes_61 rfl ?_
    refine L_iast C dX12_comes_62 sh_135 (ss1 p1) ?_
    refine L_aload_n C (i := 0) dX12_comes_63 rfl rfl ?_
    refine L_getC C (c' := 135) dX12_comes_64 sh_132 fl_X12_16 rfl rfl ?_
    refine L_iconst C (v := 3) dX12_comes_67 rfl ?_
    refine L_dup2 C dX12_comes_68 rfl rfl ?_
    refine L_iald C dX12_comes_69 sh_135 (by unfold vp_in; decide) ?_
    refine L_iconst C (v := 1) dX12_comes_70 rfl ?_
    refine L_iadd C dX12_comes_71 ?_
    refine L_iast C dX12_comes_72 sh_135 (by unfold vp_in; decide) ?_
    exact L_irV C dX12_comes_73 rfl (rr2 p1)
  · refine L_aload_n C (i := 0) dX12_comes_15 rfl rfl ?_
    refine L_getC C (c' := 135) dX12_comes_16 sh_132 fl_X12_16 rfl rfl ?_
    refine L_sipush C (v := 161) dX12_comes_19 rfl ?_
    refine L_bipush C (v := 8) dX12_comes_22 rfl ?_
    refine L_iload_n C (i := 2) dX12_comes_24 rfl rfl ?_
    refine L_imul C dX12_comes_25 ?_
    refine L_iadd C dX12_comes_26 ?_
    refine L_iload_n C (i := 3) dX12_comes_27 rfl rfl ?_
    refine L_iadd C dX12_comes_28 ?_
    refine L_iload_n C (i := 3) dX12_comes_29 rfl rfl ?_
    refine L_aload_n C (i := 0) dX12_comes_30 rfl rfl ?_
    refine L_getC C (c' := 135) dX12_comes_31 sh_132 fl_X12_16 rfl rfl ?_
    refine L_iconst C (v := 0) dX12_comes_34 rfl ?_
    refine L_iald C dX12_comes_35 sh_135 (by unfold vp_in; decide) ?_
    refine phi (fun v1 : Int32 => Wm G mX12_comes E (bm G mX12_comes E (pV Q)) μ 46 [(0, .ref (gb G + 132)), (1, .ref (gb G + c1)), (2, .int x2), (3, .int x3)] [.int v1, .int (((161 : Int32) + ((8 : Int32) * x2)) + x3), .ref (gb G + 135)]) (fun v1 : Int32 => ((μ 135 0) ≤ x3 ∧ v1 = (-1)) ∨ (¬ (μ 135 0) ≤ x3 ∧ v1 = (μ c1 x3.toNatClampNeg))) (fun H => ?_) (fun v1 hv1 => ?_)
    · refine L_icmp_ge C (tgt := 45) dX12_comes_36 rfl (fun p2 => ?_) (fun p2 => ?_)
      · refine L_iconst C (v := (-1)) dX12_comes_45 rfl ?_
        exact H _ (Or.inl ⟨p2, rfl⟩)
      · refine L_aload_n C (i := 1) dX12_comes_39 rfl rfl ?_
        refine L_iload_n C (i := 3) dX12_comes_40 rfl rfl ?_
        refine L_iald C dX12_comes_41 h1 (ss3 p1 p2) ?_
        refine L_goto C (tgt := 46) dX12_comes_42 rfl ?_
        exact H _ (Or.inr ⟨p2, rfl⟩)
    refine L_iast C dX12_comes_46 sh_135 (ss4 p1 v1 hv1) ?_
    refine L_iinc C (v := 1) dX12_comes_47 rfl rfl (Nat.le_of_ble_eq_true rfl) ?_
    refine L_goto C (tgt := 9) dX12_comes_50 rfl ?_
    exact kk5 p1 v1 hv1
set_option maxRecDepth 4000 in
theorem k_X12_keepsAct_0 {G : mG} {E : mE} {B : mB} {μ : mM} (C : Cx G mX12_keepsAct E)  (kk1 : ¬ (μ 132 26) = 8 → Wm G mX12_keepsAct E B μ 52 [(0, .ref (gb G + 132))] []) (kk2 : (μ 132 26) = 8 → Wm G mX12_keepsAct E B μ 13 [(0, .ref (gb G + 132)), (1, .int 673)] []) : Wm G mX12_keepsAct E B μ 0 [(0, .ref (gb G + 132))] [] := by
  refine L_aload_n C (i := 0) dX12_keepsAct_0 rfl rfl ?_
  refine L_getI C dX12_keepsAct_1 sh_132 fl_X12_165 rfl ?_
  refine L_bipush C (v := 8) dX12_keepsAct_4 rfl ?_
  refine L_icmp_ne C (tgt := 52) dX12_keepsAct_6 rfl (fun p1 => ?_) (fun p1 => ?_)
  · exact kk1 p1
  · refine L_sipush C (v := 673) dX12_keepsAct_9 rfl ?_
    refine L_istore_n C (i := 1) dX12_keepsAct_12 rfl (Nat.le_of_ble_eq_true rfl) ?_
    exact kk2 p1
theorem e_X12_keepsAct {G : mG} {Q : mM → Prop} {μ : mM}  (k : ∀ E, Cx G mX12_keepsAct E → Wm G mX12_keepsAct E (bm G mX12_keepsAct E (pV Q)) μ 0 [(0, .ref (gb G + 132))] []) : CtV G mX12_keepsAct [.ref (gb G + 132)] μ Q := CtV.of pn_X12 (Nat.le_of_ble_eq_true rfl) k
set_option maxRecDepth 4000 in
theorem k_X12_keepsAct_13 {G : mG} {E : mE} {B : mB} {μ : mM} (C : Cx G mX12_keepsAct E) {x1 : Int32} (kk1 : 5384 ≤ x1 → Wm G mX12_keepsAct E B (ms μ 132 26 ((μ 132 26) - (1 : Int32))) 52 [(0, .ref (gb G + 132))] []) (ss2 : ¬ 5384 ≤ x1 → vp_in x1 5384) (ss3 : ¬ 5384 ≤ x1 → vp_in (x1 - (673 : Int32)) 5384) (kk4 : ¬ 5384 ≤ x1 → Wm G mX12_keepsAct E B (ms μ 149 (x1 - (673 : Int32)).toNatClampNeg (μ 149 x1.toNatClampNeg)) 13 [(0, .ref (gb G + 132)), (1, .int (x1 + (1 : Int32)))] []) : Wm G mX12_keepsAct E B μ 13 [(0, .ref (gb G + 132)), (1, .int x1)] [] := by
  refine L_iload_n C (i := 1) dX12_keepsAct_13 rfl rfl ?_
  refine L_sipush C (v := 5384) dX12_keepsAct_14 rfl ?_
  refine L_icmp_ge C (tgt := 42) dX12_keepsAct_17 rfl (fun p1 => ?_) (fun p1 => ?_)
  · refine L_aload_n C (i := 0) dX12_keepsAct_42 rfl rfl ?_
    refine L_dup C dX12_keepsAct_43 rfl ?_
    refine L_getI C dX12_keepsAct_44 sh_132 fl_X12_165 rfl ?_
    refine L_iconst C (v := 1) dX12_keepsAct_47 rfl ?_
    refine L_isub C dX12_keepsAct_48 ?_
    refine L_putI C dX12_keepsAct_49 sh_132 fl_X12_165 rfl rfl rfl ?_
    refine L_sub [0] rfl ?_
    exact kk1 p1
  · refine L_aload_n C (i := 0) dX12_keepsAct_20 rfl rfl ?_
    refine L_getC C (c' := 149) dX12_keepsAct_21 sh_132 fl_X12_60 rfl rfl ?_
    refine L_iload_n C (i := 1) dX12_keepsAct_24 rfl rfl ?_
    refine L_sipush C (v := 673) dX12_keepsAct_25 rfl ?_
    refine L_isub C dX12_keepsAct_28 ?_
    refine L_aload_n C (i := 0) dX12_keepsAct_29 rfl rfl ?_
    refine L_getC C (c' := 149) dX12_keepsAct_30 sh_132 fl_X12_60 rfl rfl ?_
    refine L_iload_n C (i := 1) dX12_keepsAct_33 rfl rfl ?_
    refine L_iald C dX12_keepsAct_34 sh_149 (ss2 p1) ?_
    refine L_iast C dX12_keepsAct_35 sh_149 (ss3 p1) ?_
    refine L_iinc C (v := 1) dX12_keepsAct_36 rfl rfl (Nat.le_of_ble_eq_true rfl) ?_
    refine L_goto C (tgt := 13) dX12_keepsAct_39 rfl ?_
    exact kk4 p1
set_option maxRecDepth 4000 in
theorem k_X12_keepsAct_52 {G : mG} {E : mE} {Q : mM → Prop} {μ : mM} (C : Cx G mX12_keepsAct E)  (cc1 : CtV G mX12_copies [.ref (gb G + 135), .int 0, .ref (gb G + 149), .int ((673 : Int32) * (μ 132 26))] μ (fun μ' => Wm G mX12_keepsAct E (bm G mX12_keepsAct E (pV Q)) μ' 72 [(0, .ref (gb G + 132))] [])) : Wm G mX12_keepsAct E (bm G mX12_keepsAct E (pV Q)) μ 52 [(0, .ref (gb G + 132))] [] := by
  refine L_aload_n C (i := 0) dX12_keepsAct_52 rfl rfl ?_
  refine L_getC C (c' := 135) dX12_keepsAct_53 sh_132 fl_X12_16 rfl rfl ?_
  refine L_iconst C (v := 0) dX12_keepsAct_56 rfl ?_
  refine L_aload_n C (i := 0) dX12_keepsAct_57 rfl rfl ?_
  refine L_getC C (c' := 149) dX12_keepsAct_58 sh_132 fl_X12_60 rfl rfl ?_
  refine L_sipush C (v := 673) dX12_keepsAct_61 rfl ?_
  refine L_aload_n C (i := 0) dX12_keepsAct_64 rfl rfl ?_
  refine L_getI C dX12_keepsAct_65 sh_132 fl_X12_165 rfl ?_
  refine L_imul C dX12_keepsAct_68 ?_
  refine L_invS4v C dX12_keepsAct_69 cal_X12_copies stc_X12_copies lk_X12_152 ⟨Nat.le_of_ble_eq_true rfl, Nat.le_of_ble_eq_true rfl⟩ ⟨Nat.le_of_ble_eq_true rfl, Nat.le_of_ble_eq_true rfl⟩ (Nat.le_of_ble_eq_true rfl) ?_
  exact cc1
set_option maxRecDepth 4000 in
theorem k_X12_keepsAct_72 {G : mG} {E : mE} {Q : mM → Prop} {μ : mM} (C : Cx G mX12_keepsAct E)  (rr1 : Q (ms μ 132 26 ((μ 132 26) + (1 : Int32)))) : Wm G mX12_keepsAct E (bm G mX12_keepsAct E (pV Q)) μ 72 [(0, .ref (gb G + 132))] [] := by
  refine L_aload_n C (i := 0) dX12_keepsAct_72 rfl rfl ?_
  refine L_dup C dX12_keepsAct_73 rfl ?_
  refine L_getI C dX12_keepsAct_74 sh_132 fl_X12_165 rfl ?_
  refine L_iconst C (v := 1) dX12_keepsAct_77 rfl ?_
  refine L_iadd C dX12_keepsAct_78 ?_
  refine L_putI C dX12_keepsAct_79 sh_132 fl_X12_165 rfl rfl rfl ?_
  exact L_irV C dX12_keepsAct_82 rfl (rr1)
set_option maxRecDepth 4000 in
theorem k_X12_add_0 {G : mG} {E : mE} {Q : Int32 → mM → Prop} {μ : mM} (C : Cx G mX12_add E) {x1 : Int32} (cc1 : CtI G mX12_isGiven [.ref (gb G + 132), .int x1] μ (fun r μ' => Wm G mX12_add E (bm G mX12_add E (pI Q)) μ' 5 [(0, .ref (gb G + 132))] [.int r])) : Wm G mX12_add E (bm G mX12_add E (pI Q)) μ 0 [(0, .ref (gb G + 132)), (1, .int x1)] [] := by
  refine L_aload_n C (i := 0) dX12_add_0 rfl rfl ?_
  refine L_iload_n C (i := 1) dX12_add_1 rfl rfl ?_
  refine L_sub [0] rfl ?_
  refine L_invV1i C dX12_add_2 sh_132 cal_X12_isGiven lk_X12_223 ⟨Nat.le_of_ble_eq_true rfl, Nat.le_of_ble_eq_true rfl⟩ ⟨Nat.le_of_ble_eq_true rfl, Nat.le_of_ble_eq_true rfl⟩ (Nat.le_of_ble_eq_true rfl) ?_
  exact cc1
theorem e_X12_add {G : mG} {Q : Int32 → mM → Prop} {μ : mM} {x1 : Int32} (k : ∀ E, Cx G mX12_add E → Wm G mX12_add E (bm G mX12_add E (pI Q)) μ 0 [(0, .ref (gb G + 132)), (1, .int x1)] []) : CtI G mX12_add [.ref (gb G + 132), .int x1] μ Q := CtI.of pn_X12 (Nat.le_of_ble_eq_true rfl) k
set_option maxRecDepth 4000 in
theorem k_X12_add_5 {G : mG} {E : mE} {Q : Int32 → mM → Prop} {μ : mM} (C : Cx G mX12_add E) {sx0 : Int32} (rr1 : (sx0 = 0 ∨ (¬ sx0 = 0 ∧ (μ 135 3) = 64)) → Q (-1) μ) (cc2 : ¬ sx0 = 0 → ¬ (μ 135 3) = 64 → CtV G mX12_probes [.ref (gb G + 132), .ref (gb G + 145)] μ (fun μ' => Wm G mX12_add E (bm G mX12_add E (pI Q)) μ' 29 [(0, .ref (gb G + 132))] [])) : Wm G mX12_add E (bm G mX12_add E (pI Q)) μ 5 [(0, .ref (gb G + 132))] [.int sx0] := by
  refine L_if_eq C (tgt := 19) dX12_add_5 rfl (fun p1 => ?_) (fun p1 => ?_)
  · refine L_iconst C (v := (-1)) dX12_add_19 rfl ?_
    exact L_irI C dX12_add_20 rfl (rr1 (Or.inl p1))
  · refine L_aload_n C (i := 0) dX12_add_8 rfl rfl ?_
    refine L_getC C (c' := 135) dX12_add_9 sh_132 fl_X12_16 rfl rfl ?_
    refine L_iconst C (v := 3) dX12_add_12 rfl ?_
    refine L_iald C dX12_add_13 sh_135 (by unfold vp_in; decide) ?_
    refine L_bipush C (v := 64) dX12_add_14 rfl ?_
    refine L_icmp_ne C (tgt := 21) dX12_add_16 rfl (fun p2 => ?_) (fun p2 => ?_)
    · refine L_aload_n C (i := 0) dX12_add_21 rfl rfl ?_
      refine L_aload_n C (i := 0) dX12_add_22 rfl rfl ?_
      refine L_getC C (c' := 145) dX12_add_23 sh_132 fl_X12_48 rfl rfl ?_
      refine L_invV1v C dX12_add_26 sh_132 cal_X12_probes lk_X12_226 ⟨Nat.le_of_ble_eq_true rfl, Nat.le_of_ble_eq_true rfl⟩ ⟨Nat.le_of_ble_eq_true rfl, Nat.le_of_ble_eq_true rfl⟩ (Nat.le_of_ble_eq_true rfl) ?_
      exact cc2 p1 p2
    · refine L_iconst C (v := (-1)) dX12_add_19 rfl ?_
      exact L_irI C dX12_add_20 rfl (rr1 (Or.inr ⟨p1, p2⟩))
set_option maxRecDepth 4000 in
theorem k_X12_add_29 {G : mG} {E : mE} {Q : Int32 → mM → Prop} {μ : mM} (C : Cx G mX12_add E)  (cc1 : CtI G mX12_canProbe [.ref (gb G + 132)] μ (fun r μ' => Wm G mX12_add E (bm G mX12_add E (pI Q)) μ' 33 [(0, .ref (gb G + 132))] [.int r])) : Wm G mX12_add E (bm G mX12_add E (pI Q)) μ 29 [(0, .ref (gb G + 132))] [] := by
  refine L_aload_n C (i := 0) dX12_add_29 rfl rfl ?_
  refine L_invV0i C dX12_add_30 sh_132 cal_X12_canProbe lk_X12_162 ⟨Nat.le_of_ble_eq_true rfl, Nat.le_of_ble_eq_true rfl⟩ ⟨Nat.le_of_ble_eq_true rfl, Nat.le_of_ble_eq_true rfl⟩ (Nat.le_of_ble_eq_true rfl) ?_
  exact cc1
set_option maxRecDepth 4000 in
theorem k_X12_add_33 {G : mG} {E : mE} {Q : Int32 → mM → Prop} {μ : mM} (C : Cx G mX12_add E) {sx0 : Int32} (cc1 : ¬ sx0 = 0 → CtV G mX12_keepsAct [.ref (gb G + 132)] μ (fun μ' => Wm G mX12_add E (bm G mX12_add E (pI Q)) μ' 43 [(0, .ref (gb G + 132))] [])) (rr2 : sx0 = 0 → Q (-2) μ) : Wm G mX12_add E (bm G mX12_add E (pI Q)) μ 33 [(0, .ref (gb G + 132))] [.int sx0] := by
  refine L_if_ne C (tgt := 39) dX12_add_33 rfl (fun p1 => ?_) (fun p1 => ?_)
  · refine L_aload_n C (i := 0) dX12_add_39 rfl rfl ?_
    refine L_invV0v C dX12_add_40 sh_132 cal_X12_keepsAct lk_X12_230 ⟨Nat.le_of_ble_eq_true rfl, Nat.le_of_ble_eq_true rfl⟩ ⟨Nat.le_of_ble_eq_true rfl, Nat.le_of_ble_eq_true rfl⟩ (Nat.le_of_ble_eq_true rfl) ?_
    exact cc1 p1
  · refine L_bipush C (v := (-2)) dX12_add_36 rfl ?_
    exact L_irI C dX12_add_38 rfl (rr2 p1)
set_option maxRecDepth 4000 in
theorem k_X12_add_43 {G : mG} {E : mE} {Q : Int32 → mM → Prop} {μ : mM} (C : Cx G mX12_add E)  (cc1 : CtV G mX12_comes [.ref (gb G + 132), .ref (gb G + 145)] μ (fun μ' => Wm G mX12_add E (bm G mX12_add E (pI Q)) μ' 51 [(0, .ref (gb G + 132))] [])) : Wm G mX12_add E (bm G mX12_add E (pI Q)) μ 43 [(0, .ref (gb G + 132))] [] := by
  refine L_aload_n C (i := 0) dX12_add_43 rfl rfl ?_
  refine L_aload_n C (i := 0) dX12_add_44 rfl rfl ?_
  refine L_getC C (c' := 145) dX12_add_45 sh_132 fl_X12_48 rfl rfl ?_
  refine L_invV1v C dX12_add_48 sh_132 cal_X12_comes lk_X12_233 ⟨Nat.le_of_ble_eq_true rfl, Nat.le_of_ble_eq_true rfl⟩ ⟨Nat.le_of_ble_eq_true rfl, Nat.le_of_ble_eq_true rfl⟩ (Nat.le_of_ble_eq_true rfl) ?_
  exact cc1
set_option maxRecDepth 4000 in
theorem k_X12_add_51 {G : mG} {E : mE} {Q : Int32 → mM → Prop} {μ : mM} (C : Cx G mX12_add E)  (rr1 : Q (μ 135 3) μ) : Wm G mX12_add E (bm G mX12_add E (pI Q)) μ 51 [(0, .ref (gb G + 132))] [] := by
  refine L_aload_n C (i := 0) dX12_add_51 rfl rfl ?_
  refine L_getC C (c' := 135) dX12_add_52 sh_132 fl_X12_16 rfl rfl ?_
  refine L_iconst C (v := 3) dX12_add_55 rfl ?_
  refine L_iald C dX12_add_56 sh_135 (by unfold vp_in; decide) ?_
  exact L_irI C dX12_add_57 rfl (rr1)
set_option maxRecDepth 4000 in
theorem k_X12_probesRow_0 {G : mG} {E : mE} {B : mB} {μ : mM} (C : Cx G mX12_probesRow E) {x1 : Int32} (kk1 : Wm G mX12_probesRow E B μ 2 [(0, .ref (gb G + 132)), (1, .int x1), (2, .int 0)] []) : Wm G mX12_probesRow E B μ 0 [(0, .ref (gb G + 132)), (1, .int x1)] [] := by
  refine L_iconst C (v := 0) dX12_probesRow_0 rfl ?_
  refine L_istore_n C (i := 2) dX12_probesRow_1 rfl (Nat.le_of_ble_eq_true rfl) ?_
  exact kk1
theorem e_X12_probesRow {G : mG} {Q : mM → Prop} {μ : mM} {x1 : Int32} (k : ∀ E, Cx G mX12_probesRow E → Wm G mX12_probesRow E (bm G mX12_probesRow E (pV Q)) μ 0 [(0, .ref (gb G + 132)), (1, .int x1)] []) : CtV G mX12_probesRow [.ref (gb G + 132), .int x1] μ Q := CtV.of pn_X12 (Nat.le_of_ble_eq_true rfl) k
set_option maxRecDepth 4000 in
theorem k_X12_probesRow_2 {G : mG} {E : mE} {Q : mM → Prop} {μ : mM} (C : Cx G mX12_probesRow E) {x1 : Int32} {x2 : Int32} (rr1 : (μ 135 0) ≤ x2 → Q μ) (ss2 : ¬ (μ 135 0) ≤ x2 → vp_in (((161 : Int32) + ((8 : Int32) * x1)) + x2) 673) (ss3 : ¬ (μ 135 0) ≤ x2 → vp_in x2 8) (kk4 : ¬ (μ 135 0) ≤ x2 → Wm G mX12_probesRow E (bm G mX12_probesRow E (pV Q)) (ms μ 138 x2.toNatClampNeg (μ 135 (((161 : Int32) + ((8 : Int32) * x1)) + x2).toNatClampNeg)) 2 [(0, .ref (gb G + 132)), (1, .int x1), (2, .int (x2 + (1 : Int32)))] []) : Wm G mX12_probesRow E (bm G mX12_probesRow E (pV Q)) μ 2 [(0, .ref (gb G + 132)), (1, .int x1), (2, .int x2)] [] := by
  refine L_iload_n C (i := 2) dX12_probesRow_2 rfl rfl ?_
  refine L_aload_n C (i := 0) dX12_probesRow_3 rfl rfl ?_
  refine L_getC C (c' := 135) dX12_probesRow_4 sh_132 fl_X12_16 rfl rfl ?_
  refine L_iconst C (v := 0) dX12_probesRow_7 rfl ?_
  refine L_iald C dX12_probesRow_8 sh_135 (by unfold vp_in; decide) ?_
  refine L_icmp_ge C (tgt := 30) dX12_probesRow_9 rfl (fun p1 => ?_) (fun p1 => ?_)
  · exact L_irV C dX12_probesRow_30 rfl (rr1 p1)
  · refine L_aload_n C (i := 0) dX12_probesRow_12 rfl rfl ?_
    refine L_getC C (c' := 138) dX12_probesRow_13 sh_132 fl_X12_26 rfl rfl ?_
    refine L_iload_n C (i := 2) dX12_probesRow_16 rfl rfl ?_
    refine L_aload_n C (i := 0) dX12_probesRow_17 rfl rfl ?_
    refine L_iload_n C (i := 1) dX12_probesRow_18 rfl rfl ?_
    refine L_iload_n C (i := 2) dX12_probesRow_19 rfl rfl ?_
    refine L_invV2i C dX12_probesRow_20 sh_132 cal_X12_cellAt lk_X12_200 ⟨Nat.le_of_ble_eq_true rfl, Nat.le_of_ble_eq_true rfl⟩ ⟨Nat.le_of_ble_eq_true rfl, Nat.le_of_ble_eq_true rfl⟩ (Nat.le_of_ble_eq_true rfl) (a_X12_cellAt (ss2 p1) (?_))
    · refine L_iast C dX12_probesRow_23 sh_138 (ss3 p1) ?_
      refine L_iinc C (v := 1) dX12_probesRow_24 rfl rfl (Nat.le_of_ble_eq_true rfl) ?_
      refine L_goto C (tgt := 2) dX12_probesRow_27 rfl ?_
      exact kk4 p1
set_option maxRecDepth 4000 in
theorem k_X12_tell_0 {G : mG} {E : mE} {Q : Int32 → mM → Prop} {μ : mM} (C : Cx G mX12_tell E) {x1 : Int32} {x2 : Int32} {x3 : Int32} (rr1 : ((x1 < 0 ∨ (¬ x1 < 0 ∧ (μ 135 3) ≤ x1)) ∨ (¬ x1 < 0 ∧ ¬ (μ 135 3) ≤ x1 ∧ ((x2 < 0 ∨ (¬ x2 < 0 ∧ (μ 135 0) ≤ x2)) ∨ (¬ x2 < 0 ∧ ¬ (μ 135 0) ≤ x2 ∧ ((lg_cmp x3.toInt64 (-1)) < 0 ∨ (¬ (lg_cmp x3.toInt64 (-1)) < 0 ∧ 0 < (lg_cmp x3.toInt64 ((μ 135 ((5 : Int32) + x2).toNatClampNeg) - (1 : Int32)).toInt64))))))) → Q (-4) μ) (ss2 : ¬ x1 < 0 → ¬ (μ 135 3) ≤ x1 → ¬ x2 < 0 → ¬ (μ 135 0) ≤ x2 → vp_in ((5 : Int32) + x2) 673) (ss3 : ¬ x1 < 0 → ¬ (μ 135 3) ≤ x1 → ¬ x2 < 0 → ¬ (μ 135 0) ≤ x2 → ¬ (lg_cmp x3.toInt64 (-1)) < 0 → ¬ 0 < (lg_cmp x3.toInt64 ((μ 135 ((5 : Int32) + x2).toNatClampNeg) - (1 : Int32)).toInt64) → vp_in (((161 : Int32) + ((8 : Int32) * x1)) + x2) 673) (cc4 : ¬ x1 < 0 → ¬ (μ 135 3) ≤ x1 → ¬ x2 < 0 → ¬ (μ 135 0) ≤ x2 → ¬ (lg_cmp x3.toInt64 (-1)) < 0 → ¬ 0 < (lg_cmp x3.toInt64 ((μ 135 ((5 : Int32) + x2).toNatClampNeg) - (1 : Int32)).toInt64) → ¬ (μ 135 (((161 : Int32) + ((8 : Int32) * x1)) + x2).toNatClampNeg) = x3 → CtV G mX12_probesRow [.ref (gb G + 132), .int x1] μ (fun μ' => Wm G mX12_tell E (bm G mX12_tell E (pI Q)) μ' 63 [(0, .ref (gb G + 132)), (1, .int x1), (2, .int x2), (3, .int x3), (4, .int (μ 135 (((161 : Int32) + ((8 : Int32) * x1)) + x2).toNatClampNeg))] [])) (rr5 : ¬ x1 < 0 → ¬ (μ 135 3) ≤ x1 → ¬ x2 < 0 → ¬ (μ 135 0) ≤ x2 → ¬ (lg_cmp x3.toInt64 (-1)) < 0 → ¬ 0 < (lg_cmp x3.toInt64 ((μ 135 ((5 : Int32) + x2).toNatClampNeg) - (1 : Int32)).toInt64) → (μ 135 (((161 : Int32) + ((8 : Int32) * x1)) + x2).toNatClampNeg) = x3 → Q (-3) μ) : Wm G mX12_tell E (bm G mX12_tell E (pI Q)) μ 0 [(0, .ref (gb G + 132)), (1, .int x1), (2, .int x2), (3, .int x3)] [] := by
  refine L_aload_n C (i := 0) dX12_tell_0 rfl rfl ?_
  refine L_iload_n C (i := 1) dX12_tell_1 rfl rfl ?_
  refine L_invV1i C dX12_tell_2 sh_132 cal_X12_isRow lk_X12_236 ⟨Nat.le_of_ble_eq_true rfl, Nat.le_of_ble_eq_true rfl⟩ ⟨Nat.le_of_ble_eq_true rfl, Nat.le_of_ble_eq_true rfl⟩ (Nat.le_of_ble_eq_true rfl) (a_X12_isRow (fun p1 => ?_) (fun p2 p3 => ?_))
  · refine L_if_eq C (tgt := 38) dX12_tell_5 rfl (fun p4 => ?_) (fun p4 => absurd p4 (by decide))
    refine L_bipush C (v := (-4)) dX12_tell_38 rfl ?_
    exact L_irI C dX12_tell_40 rfl (rr1 (Or.inl p1))
  · refine L_if_eq C (tgt := 38) dX12_tell_5 rfl (fun p5 => absurd p5 (by decide)) (fun p5 => ?_)
    refine L_aload_n C (i := 0) dX12_tell_8 rfl rfl ?_
    refine L_iload_n C (i := 2) dX12_tell_9 rfl rfl ?_
    refine L_invV1i C dX12_tell_10 sh_132 cal_X12_isColumn lk_X12_209 ⟨Nat.le_of_ble_eq_true rfl, Nat.le_of_ble_eq_true rfl⟩ ⟨Nat.le_of_ble_eq_true rfl, Nat.le_of_ble_eq_true rfl⟩ (Nat.le_of_ble_eq_true rfl) (a_X12_isColumn (fun p6 => ?_) (fun p7 p8 => ?_))
    · refine L_if_eq C (tgt := 38) dX12_tell_13 rfl (fun p9 => ?_) (fun p9 => absurd p9 (by decide))
      refine L_bipush C (v := (-4)) dX12_tell_38 rfl ?_
      exact L_irI C dX12_tell_40 rfl (rr1 (Or.inr ⟨p2, p3, (Or.inl p6)⟩))
    · refine L_if_eq C (tgt := 38) dX12_tell_13 rfl (fun p10 => absurd p10 (by decide)) (fun p10 => ?_)
      refine L_iload_n C (i := 3) dX12_tell_16 rfl rfl ?_
      refine L_i2l C dX12_tell_17 ?_
      refine L_ldc2 C dX12_tell_18 cn_X12_239 ?_
      refine L_aload_n C (i := 0) dX12_tell_21 rfl rfl ?_
      refine L_getC C (c' := 135) dX12_tell_22 sh_132 fl_X12_16 rfl rfl ?_
      refine L_iconst C (v := 5) dX12_tell_25 rfl ?_
      refine L_iload_n C (i := 2) dX12_tell_26 rfl rfl ?_
      refine L_iadd C dX12_tell_27 ?_
      refine L_iald C dX12_tell_28 sh_135 (ss2 p2 p3 p7 p8) ?_
      refine L_iconst C (v := 1) dX12_tell_29 rfl ?_
      refine L_isub C dX12_tell_30 ?_
      refine L_i2l C dX12_tell_31 ?_
      refine L_invS3i C dX12_tell_32 cal_X12_isIn stc_X12_isIn lk_X12_73 ⟨Nat.le_of_ble_eq_true rfl, Nat.le_of_ble_eq_true rfl⟩ ⟨Nat.le_of_ble_eq_true rfl, Nat.le_of_ble_eq_true rfl⟩ (Nat.le_of_ble_eq_true rfl) (a_X12_isIn (fun p11 => ?_) (fun p12 p13 => ?_))
      · refine L_if_ne C (tgt := 41) dX12_tell_35 rfl (fun p14 => absurd p14 (by decide)) (fun p14 => ?_)
        refine L_bipush C (v := (-4)) dX12_tell_38 rfl ?_
        exact L_irI C dX12_tell_40 rfl (rr1 (Or.inr ⟨p2, p3, (Or.inr ⟨p7, p8, p11⟩)⟩))
      · refine L_if_ne C (tgt := 41) dX12_tell_35 rfl (fun p15 => ?_) (fun p15 => absurd p15 (by decide))
        refine L_aload_n C (i := 0) dX12_tell_41 rfl rfl ?_
        refine L_iload_n C (i := 1) dX12_tell_42 rfl rfl ?_
        refine L_iload_n C (i := 2) dX12_tell_43 rfl rfl ?_
        refine L_invV2i C dX12_tell_44 sh_132 cal_X12_cellAt lk_X12_200 ⟨Nat.le_of_ble_eq_true rfl, Nat.le_of_ble_eq_true rfl⟩ ⟨Nat.le_of_ble_eq_true rfl, Nat.le_of_ble_eq_true rfl⟩ (Nat.le_of_ble_eq_true rfl) (a_X12_cellAt (ss3 p2 p3 p7 p8 p12 p13) (?_))
        · refine L_istore C dX12_tell_47 (Nat.le_of_ble_eq_true rfl) ?_
          refine L_iload C dX12_tell_49 rfl ?_
          refine L_iload_n C (i := 3) dX12_tell_51 rfl rfl ?_
          refine L_icmp_ne C (tgt := 58) dX12_tell_52 rfl (fun p16 => ?_) (fun p16 => ?_)
          · refine L_aload_n C (i := 0) dX12_tell_58 rfl rfl ?_
            refine L_iload_n C (i := 1) dX12_tell_59 rfl rfl ?_
            refine L_invV1v C dX12_tell_60 sh_132 cal_X12_probesRow lk_X12_241 ⟨Nat.le_of_ble_eq_true rfl, Nat.le_of_ble_eq_true rfl⟩ ⟨Nat.le_of_ble_eq_true rfl, Nat.le_of_ble_eq_true rfl⟩ (Nat.le_of_ble_eq_true rfl) ?_
            exact cc4 p2 p3 p7 p8 p12 p13 p16
          · refine L_bipush C (v := (-3)) dX12_tell_55 rfl ?_
            exact L_irI C dX12_tell_57 rfl (rr5 p2 p3 p7 p8 p12 p13 p16)
theorem e_X12_tell {G : mG} {Q : Int32 → mM → Prop} {μ : mM} {x1 : Int32} {x2 : Int32} {x3 : Int32} (k : ∀ E, Cx G mX12_tell E → Wm G mX12_tell E (bm G mX12_tell E (pI Q)) μ 0 [(0, .ref (gb G + 132)), (1, .int x1), (2, .int x2), (3, .int x3)] []) : CtI G mX12_tell [.ref (gb G + 132), .int x1, .int x2, .int x3] μ Q := CtI.of pn_X12 (Nat.le_of_ble_eq_true rfl) k
set_option maxRecDepth 4000 in
theorem k_X12_tell_63 {G : mG} {E : mE} {Q : Int32 → mM → Prop} {μ : mM} (C : Cx G mX12_tell E) {x1 : Int32} {x2 : Int32} {x3 : Int32} {x4 : Int32} (ss1 : vp_in x2 8) (cc2 : CtI G mX12_canProbe [.ref (gb G + 132)] (ms μ 138 x2.toNatClampNeg x3) (fun r μ' => Wm G mX12_tell E (bm G mX12_tell E (pI Q)) μ' 74 [(0, .ref (gb G + 132)), (1, .int x1), (2, .int x2), (3, .int x3), (4, .int x4)] [.int r])) : Wm G mX12_tell E (bm G mX12_tell E (pI Q)) μ 63 [(0, .ref (gb G + 132)), (1, .int x1), (2, .int x2), (3, .int x3), (4, .int x4)] [] := by
  refine L_aload_n C (i := 0) dX12_tell_63 rfl rfl ?_
  refine L_getC C (c' := 138) dX12_tell_64 sh_132 fl_X12_26 rfl rfl ?_
  refine L_iload_n C (i := 2) dX12_tell_67 rfl rfl ?_
  refine L_iload_n C (i := 3) dX12_tell_68 rfl rfl ?_
  refine L_iast C dX12_tell_69 sh_138 (ss1) ?_
  refine L_aload_n C (i := 0) dX12_tell_70 rfl rfl ?_
  refine L_invV0i C dX12_tell_71 sh_132 cal_X12_canProbe lk_X12_162 ⟨Nat.le_of_ble_eq_true rfl, Nat.le_of_ble_eq_true rfl⟩ ⟨Nat.le_of_ble_eq_true rfl, Nat.le_of_ble_eq_true rfl⟩ (Nat.le_of_ble_eq_true rfl) ?_
  exact cc2
set_option maxRecDepth 4000 in
theorem k_X12_tell_74 {G : mG} {E : mE} {Q : Int32 → mM → Prop} {μ : mM} (C : Cx G mX12_tell E) {x1 : Int32} {x2 : Int32} {x3 : Int32} {x4 : Int32} {sx0 : Int32} (cc1 : ¬ sx0 = 0 → CtV G mX12_keepsAct [.ref (gb G + 132)] μ (fun μ' => Wm G mX12_tell E (bm G mX12_tell E (pI Q)) μ' 84 [(0, .ref (gb G + 132)), (1, .int x1), (2, .int x2), (3, .int x3), (4, .int x4)] [])) (rr2 : sx0 = 0 → Q (-2) μ) : Wm G mX12_tell E (bm G mX12_tell E (pI Q)) μ 74 [(0, .ref (gb G + 132)), (1, .int x1), (2, .int x2), (3, .int x3), (4, .int x4)] [.int sx0] := by
  refine L_if_ne C (tgt := 80) dX12_tell_74 rfl (fun p1 => ?_) (fun p1 => ?_)
  · refine L_aload_n C (i := 0) dX12_tell_80 rfl rfl ?_
    refine L_invV0v C dX12_tell_81 sh_132 cal_X12_keepsAct lk_X12_230 ⟨Nat.le_of_ble_eq_true rfl, Nat.le_of_ble_eq_true rfl⟩ ⟨Nat.le_of_ble_eq_true rfl, Nat.le_of_ble_eq_true rfl⟩ (Nat.le_of_ble_eq_true rfl) ?_
    exact cc1 p1
  · refine L_bipush C (v := (-2)) dX12_tell_77 rfl ?_
    exact L_irI C dX12_tell_79 rfl (rr2 p1)
set_option maxRecDepth 4000 in
theorem k_X12_tell_84 {G : mG} {E : mE} {Q : Int32 → mM → Prop} {μ : mM} (C : Cx G mX12_tell E) {x1 : Int32} {x2 : Int32} {x3 : Int32} {x4 : Int32} (ss1 : vp_in (((161 : Int32) + ((8 : Int32) * x1)) + x2) 673) (rr2 : Q x4 (ms μ 135 (((161 : Int32) + ((8 : Int32) * x1)) + x2).toNatClampNeg x3)) : Wm G mX12_tell E (bm G mX12_tell E (pI Q)) μ 84 [(0, .ref (gb G + 132)), (1, .int x1), (2, .int x2), (3, .int x3), (4, .int x4)] [] := by
  refine L_aload_n C (i := 0) dX12_tell_84 rfl rfl ?_
  refine L_getC C (c' := 135) dX12_tell_85 sh_132 fl_X12_16 rfl rfl ?_
  refine L_sipush C (v := 161) dX12_tell_88 rfl ?_
  refine L_bipush C (v := 8) dX12_tell_91 rfl ?_
  refine L_iload_n C (i := 1) dX12_tell_93 rfl rfl ?_
  refine L_imul C dX12_tell_94 ?_
  refine L_iadd C dX12_tell_95 ?_
  refine L_iload_n C (i := 2) dX12_tell_96 rfl rfl ?_
  refine L_iadd C dX12_tell_97 ?_
  refine L_iload_n C (i := 3) dX12_tell_98 rfl rfl ?_
  refine L_iast C dX12_tell_99 sh_135 (ss1) ?_
  refine L_iload C dX12_tell_100 rfl ?_
  exact L_irI C dX12_tell_102 rfl (rr2)
set_option maxRecDepth 4000 in
theorem k_X12_cell_0 {G : mG} {E : mE} {Q : Int32 → mM → Prop} {μ : mM} (C : Cx G mX12_cell E) {x1 : Int32} {x2 : Int32} (rr1 : ((x1 < 0 ∨ (¬ x1 < 0 ∧ (μ 135 3) ≤ x1)) ∨ (¬ x1 < 0 ∧ ¬ (μ 135 3) ≤ x1 ∧ (x2 < 0 ∨ (¬ x2 < 0 ∧ (μ 135 0) ≤ x2)))) → Q (-2) μ) (ss2 : ¬ x1 < 0 → ¬ (μ 135 3) ≤ x1 → ¬ x2 < 0 → ¬ (μ 135 0) ≤ x2 → vp_in (((161 : Int32) + ((8 : Int32) * x1)) + x2) 673) (rr3 : ¬ x1 < 0 → ¬ (μ 135 3) ≤ x1 → ¬ x2 < 0 → ¬ (μ 135 0) ≤ x2 → Q (μ 135 (((161 : Int32) + ((8 : Int32) * x1)) + x2).toNatClampNeg) μ) : Wm G mX12_cell E (bm G mX12_cell E (pI Q)) μ 0 [(0, .ref (gb G + 132)), (1, .int x1), (2, .int x2)] [] := by
  refine L_aload_n C (i := 0) dX12_cell_0 rfl rfl ?_
  refine L_iload_n C (i := 1) dX12_cell_1 rfl rfl ?_
  refine L_invV1i C dX12_cell_2 sh_132 cal_X12_isRow lk_X12_236 ⟨Nat.le_of_ble_eq_true rfl, Nat.le_of_ble_eq_true rfl⟩ ⟨Nat.le_of_ble_eq_true rfl, Nat.le_of_ble_eq_true rfl⟩ (Nat.le_of_ble_eq_true rfl) (a_X12_isRow (fun p1 => ?_) (fun p2 p3 => ?_))
  · refine L_if_eq C (tgt := 25) dX12_cell_5 rfl (fun p4 => ?_) (fun p4 => absurd p4 (by decide))
    refine L_bipush C (v := (-2)) dX12_cell_25 rfl ?_
    exact L_irI C dX12_cell_27 rfl (rr1 (Or.inl p1))
  · refine L_if_eq C (tgt := 25) dX12_cell_5 rfl (fun p5 => absurd p5 (by decide)) (fun p5 => ?_)
    refine L_aload_n C (i := 0) dX12_cell_8 rfl rfl ?_
    refine L_iload_n C (i := 2) dX12_cell_9 rfl rfl ?_
    refine L_invV1i C dX12_cell_10 sh_132 cal_X12_isColumn lk_X12_209 ⟨Nat.le_of_ble_eq_true rfl, Nat.le_of_ble_eq_true rfl⟩ ⟨Nat.le_of_ble_eq_true rfl, Nat.le_of_ble_eq_true rfl⟩ (Nat.le_of_ble_eq_true rfl) (a_X12_isColumn (fun p6 => ?_) (fun p7 p8 => ?_))
    · refine L_if_eq C (tgt := 25) dX12_cell_13 rfl (fun p9 => ?_) (fun p9 => absurd p9 (by decide))
      refine L_bipush C (v := (-2)) dX12_cell_25 rfl ?_
      exact L_irI C dX12_cell_27 rfl (rr1 (Or.inr ⟨p2, p3, p6⟩))
    · refine L_if_eq C (tgt := 25) dX12_cell_13 rfl (fun p10 => absurd p10 (by decide)) (fun p10 => ?_)
      refine L_aload_n C (i := 0) dX12_cell_16 rfl rfl ?_
      refine L_iload_n C (i := 1) dX12_cell_17 rfl rfl ?_
      refine L_iload_n C (i := 2) dX12_cell_18 rfl rfl ?_
      refine L_invV2i C dX12_cell_19 sh_132 cal_X12_cellAt lk_X12_200 ⟨Nat.le_of_ble_eq_true rfl, Nat.le_of_ble_eq_true rfl⟩ ⟨Nat.le_of_ble_eq_true rfl, Nat.le_of_ble_eq_true rfl⟩ (Nat.le_of_ble_eq_true rfl) (a_X12_cellAt (ss2 p2 p3 p7 p8) (?_))
      · refine L_goto C (tgt := 27) dX12_cell_22 rfl ?_
        exact L_irI C dX12_cell_27 rfl (rr3 p2 p3 p7 p8)
theorem a_X12_cell {G : mG} {Q : Int32 → mM → Prop} {μ : mM} {x1 : Int32} {x2 : Int32} (rr1 : ((x1 < 0 ∨ (¬ x1 < 0 ∧ (μ 135 3) ≤ x1)) ∨ (¬ x1 < 0 ∧ ¬ (μ 135 3) ≤ x1 ∧ (x2 < 0 ∨ (¬ x2 < 0 ∧ (μ 135 0) ≤ x2)))) → Q (-2) μ) (ss2 : ¬ x1 < 0 → ¬ (μ 135 3) ≤ x1 → ¬ x2 < 0 → ¬ (μ 135 0) ≤ x2 → vp_in (((161 : Int32) + ((8 : Int32) * x1)) + x2) 673) (rr3 : ¬ x1 < 0 → ¬ (μ 135 3) ≤ x1 → ¬ x2 < 0 → ¬ (μ 135 0) ≤ x2 → Q (μ 135 (((161 : Int32) + ((8 : Int32) * x1)) + x2).toNatClampNeg) μ) : CtI G mX12_cell [.ref (gb G + 132), .int x1, .int x2] μ Q :=
  CtI.of pn_X12 (Nat.le_of_ble_eq_true rfl) (fun E C => k_X12_cell_0 C rr1 ss2 rr3)
set_option maxRecDepth 4000 in
theorem k_X12_copiesRow_0 {G : mG} {E : mE} {B : mB} {μ : mM} (C : Cx G mX12_copiesRow E) {x1 : Int32} {x2 : Int32} (kk1 : Wm G mX12_copiesRow E B μ 2 [(0, .ref (gb G + 132)), (1, .int x1), (2, .int x2), (3, .int 0)] []) : Wm G mX12_copiesRow E B μ 0 [(0, .ref (gb G + 132)), (1, .int x1), (2, .int x2)] [] := by
  refine L_iconst C (v := 0) dX12_copiesRow_0 rfl ?_
  refine L_istore_n C (i := 3) dX12_copiesRow_1 rfl (Nat.le_of_ble_eq_true rfl) ?_
  exact kk1
theorem e_X12_copiesRow {G : mG} {Q : mM → Prop} {μ : mM} {x1 : Int32} {x2 : Int32} (k : ∀ E, Cx G mX12_copiesRow E → Wm G mX12_copiesRow E (bm G mX12_copiesRow E (pV Q)) μ 0 [(0, .ref (gb G + 132)), (1, .int x1), (2, .int x2)] []) : CtV G mX12_copiesRow [.ref (gb G + 132), .int x1, .int x2] μ Q := CtV.of pn_X12 (Nat.le_of_ble_eq_true rfl) k
set_option maxRecDepth 4000 in
theorem k_X12_copiesRow_2 {G : mG} {E : mE} {Q : mM → Prop} {μ : mM} (C : Cx G mX12_copiesRow E) {x1 : Int32} {x2 : Int32} {x3 : Int32} (ss1 : 8 ≤ x3 → vp_in ((97 : Int32) + x1) 673) (ss2 : 8 ≤ x3 → vp_in ((97 : Int32) + x2) 673) (rr3 : 8 ≤ x3 → Q (ms μ 135 ((97 : Int32) + x2).toNatClampNeg (μ 135 ((97 : Int32) + x1).toNatClampNeg))) (ss4 : ¬ 8 ≤ x3 → vp_in (((161 : Int32) + ((8 : Int32) * x1)) + x3) 673) (ss5 : ¬ 8 ≤ x3 → vp_in (((161 : Int32) + ((8 : Int32) * x2)) + x3) 673) (kk6 : ¬ 8 ≤ x3 → Wm G mX12_copiesRow E (bm G mX12_copiesRow E (pV Q)) (ms μ 135 (((161 : Int32) + ((8 : Int32) * x2)) + x3).toNatClampNeg (μ 135 (((161 : Int32) + ((8 : Int32) * x1)) + x3).toNatClampNeg)) 2 [(0, .ref (gb G + 132)), (1, .int x1), (2, .int x2), (3, .int (x3 + (1 : Int32)))] []) : Wm G mX12_copiesRow E (bm G mX12_copiesRow E (pV Q)) μ 2 [(0, .ref (gb G + 132)), (1, .int x1), (2, .int x2), (3, .int x3)] [] := by
  refine L_iload_n C (i := 3) dX12_copiesRow_2 rfl rfl ?_
  refine L_bipush C (v := 8) dX12_copiesRow_3 rfl ?_
  refine L_icmp_ge C (tgt := 44) dX12_copiesRow_5 rfl (fun p1 => ?_) (fun p1 => ?_)
  · refine L_aload_n C (i := 0) dX12_copiesRow_44 rfl rfl ?_
    refine L_getC C (c' := 135) dX12_copiesRow_45 sh_132 fl_X12_16 rfl rfl ?_
    refine L_bipush C (v := 97) dX12_copiesRow_48 rfl ?_
    refine L_iload_n C (i := 2) dX12_copiesRow_50 rfl rfl ?_
    refine L_iadd C dX12_copiesRow_51 ?_
    refine L_aload_n C (i := 0) dX12_copiesRow_52 rfl rfl ?_
    refine L_getC C (c' := 135) dX12_copiesRow_53 sh_132 fl_X12_16 rfl rfl ?_
    refine L_bipush C (v := 97) dX12_copiesRow_56 rfl ?_
    refine L_iload_n C (i := 1) dX12_copiesRow_58 rfl rfl ?_
    refine L_iadd C dX12_copiesRow_59 ?_
    refine L_iald C dX12_copiesRow_60 sh_135 (ss1 p1) ?_
    refine L_iast C dX12_copiesRow_61 sh_135 (ss2 p1) ?_
    exact L_irV C dX12_copiesRow_62 rfl (rr3 p1)
  · refine L_aload_n C (i := 0) dX12_copiesRow_8 rfl rfl ?_
    refine L_getC C (c' := 135) dX12_copiesRow_9 sh_132 fl_X12_16 rfl rfl ?_
    refine L_sipush C (v := 161) dX12_copiesRow_12 rfl ?_
    refine L_bipush C (v := 8) dX12_copiesRow_15 rfl ?_
    refine L_iload_n C (i := 2) dX12_copiesRow_17 rfl rfl ?_
    refine L_imul C dX12_copiesRow_18 ?_
    refine L_iadd C dX12_copiesRow_19 ?_
    refine L_iload_n C (i := 3) dX12_copiesRow_20 rfl rfl ?_
    refine L_iadd C dX12_copiesRow_21 ?_
    refine L_aload_n C (i := 0) dX12_copiesRow_22 rfl rfl ?_
    refine L_getC C (c' := 135) dX12_copiesRow_23 sh_132 fl_X12_16 rfl rfl ?_
    refine L_sipush C (v := 161) dX12_copiesRow_26 rfl ?_
    refine L_bipush C (v := 8) dX12_copiesRow_29 rfl ?_
    refine L_iload_n C (i := 1) dX12_copiesRow_31 rfl rfl ?_
    refine L_imul C dX12_copiesRow_32 ?_
    refine L_iadd C dX12_copiesRow_33 ?_
    refine L_iload_n C (i := 3) dX12_copiesRow_34 rfl rfl ?_
    refine L_iadd C dX12_copiesRow_35 ?_
    refine L_iald C dX12_copiesRow_36 sh_135 (ss4 p1) ?_
    refine L_iast C dX12_copiesRow_37 sh_135 (ss5 p1) ?_
    refine L_iinc C (v := 1) dX12_copiesRow_38 rfl rfl (Nat.le_of_ble_eq_true rfl) ?_
    refine L_goto C (tgt := 2) dX12_copiesRow_41 rfl ?_
    exact kk6 p1
